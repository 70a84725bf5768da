/-- what stands at every point of method M's run -/
def Ok (γ : Gam) (p : Program) (l : Launch) (R : Room) (s : State) (m : MethodId) (args : Array Value) (meth : Method) (c : Code) (M : Nat) (S0 : St) (d : Nat) : Prop :=
  p.tables.exec = Jvm.exec ∧ c.code = mC M ∧ (∀ w ∈ tG, w.before args s = true) ∧ s.vm.findClass (cnm.getD (mOwn M) "") = some m.cls ∧ va_K (gD γ) cls10 (tyL γ) s ∧ Zs γ S0 s s.heap ∧ g0 γ ≤ s.heap.size ∧ c.maxLocals = (mI M).2.2.1 ∧ meth.sig.returnType = (mI M).2.2.2.1 ∧ meth.locks = false ∧ (mInit M = true → meth.name = "<init>") ∧
  c.exceptionTable.toList.map (fun h => (h.startPc, h.endPc, h.handlerPc, h.catchType)) = (mI M).2.2.2.2 ∧ hOk M ∧ R = rmM (d + 1) S0 ∧ l.stackTraces = false
theorem Zs_eq {γ : Gam} {S S0 : St} {U : State} {H : Heap} (h : Zs γ S0 U H) (h1 : se S = se S0) (h2 : sm S = sm S0) : Zs γ S U H := by
  unfold Zs at h ⊢
  rw [h1, h2]
  exact h
section IV
variable {γ : Gam} {p : Program} {l : Launch} {e : Env} {R : Room} {s : State} {m : MethodId} {args : Array Value} {below : List Frame} {meth : Method} {c : Code} {Qm : State → Prop} {M d : Nat} {S0 : St} {pc : Nat} {lv : List (Option V_)} {st : List V_} {S : St} {k : Nat → List (Option V_) → List V_ → St → Prop}
theorem pre_go (hO : Ok γ p l R s m args meth c M S0 d) {H : Heap} {locs : List Loc} (hP : Wp γ S H) (hS : va_S (gA γ) s.heap H locs) (q1 : se S = se S0) (q2 : sm S = sm S0) (q3 : sk S0 ≤ sk S) (q4 : sn S0 ≤ sn S) (r1 : sk S ≤ mxC) (r2 : sn S ≤ mxS) {T : State} (hT : T.heap = H) (as : List V_) :
    ∀ vm₁, s.WarmedH vm₁ → PreZ R γ as S ⟨T.setVm vm₁, locs, sk S - sk S0, sn S - sn S0⟩ (as.map vv).toArray := by
  obtain ⟨o1, o2, o3, o4, o5, o6, o7, o8, o9, o10, o11, o12, o13, o14, o15⟩ := hO
  intro vm₁ hW
  subst o14
  refine ⟨?_, ?_, rfl, ?_, va_K.moved (U := T.setVm vm₁) hW.alike o5, Zs_eq (Zs_warm (U := T.setVm vm₁) (H1 := (T.setVm vm₁).heap) hW (fun a h1 h2 => ?_) o6) q1 q2, ?_⟩
  · show sk S - sk S0 + (mxC - sk S) ≤ mxC - sk S0
    omega
  · show sn S - sn S0 + (mxS - sn S) ≤ mxS - sn S0
    omega
  · show Wp γ S T.heap
    rw [hT]
    exact hP
  · show T.heap[a]? = _
    rw [hT]
    exact hS.2.1 a h1 h2
  · refine ⟨?_, r1, r2⟩
    show g0 γ ≤ T.heap.size
    rw [hT]
    exact Nat.le_trans o7 hS.1
theorem len_of {M' n : Nat} (h : (parseMethodDescriptor (mI M').1.desc).map (fun d => d.parameters.length) = some n) {as : List V_} (hn : as.length = n) : ∀ sig, parseMethodDescriptor (mI M').1.desc = some sig → (as.map vv).length = sig.parameters.length := by
  intro sig hs
  rw [hs] at h
  rw [List.length_map, hn]
  exact (Option.some.inj h).symm
theorem aft_ret {r : Option V_} {S' : St} (h : aft M pc k lv st (.inl r) S') : k (pc + 3) lv (r.toList ++ st) S' := by cases r <;> exact h
set_option maxHeartbeats 1000000 in
theorem st_static (hO : Ok γ p l R s m args meth c M S0 d) (hk : ∀ pc lv st S, k pc lv st S → J γ p l e R s m args below meth c Qm M S0 pc lv st S) {ix M' : Nat} (hd : decode (mC M) pc = .ok (.invokestatic ix, 3)) (hix : ix < 1000) (hq : cres.lookup (1000 * mOwn M + ix) = some (0, M')) (as : List V_) (hn : as.length = mPar M') (hw : wds st ≤ 8) 
    (hM : Tri l γ d M' as S (aft M pc k lv st)) : J γ p l e R s m args below meth c Qm M S0 pc lv (as.reverse ++ st) S := by
  intro H locs ls hl hP hS q1 q2 q3 q45 T hT X
  obtain ⟨q4, r1, r2⟩ := q45
  have hpre := pre_go hO hP hS q1 q2 q3 q4 r1 r2 hT as
  obtain ⟨o1, o2, o3, o4, o5, o6, o7, o8, o9, o10, o11, o12, o13, o14, o15⟩ := hO
  obtain ⟨⟨m1, m2, m3, m4, m5⟩, l1, l2⟩ := cres_ok _ (lookup_mem hq) (by show 0 ≤ 3; omega)
  dsimp only at m1 m2 m3 m4 m5 l1 l2
  rw [show (1000 * mOwn M + ix) / 1000 = mOwn M by omega, show (1000 * mOwn M + ix) % 1000 = ix by omega] at l1
  have hB : vx_Back l R p e below s args (mI M').1 3 8 (PreZ R γ as S) (PostZ γ S (aft M pc k lv st)) (PostXZ γ S (aft M pc k lv st)) := vz_back hM (by rw [o14]; exact Nat.le_refl _) (by rw [o14]; show _ ≤ 38 * (d + 1); omega) o3 m1 m2
  have hst : (F0 m pc ls ((as.reverse ++ st).map vv)).stack = (as.map vv).reverse ++ st.map vv := by
    show (as.reverse ++ st).map vv = _
    rw [List.map_append, List.map_reverse]
  have hwd : 2 * (F0 m pc ls ((as.reverse ++ st).map vv)).monitorRoom + ((st.map vv).map fun v => v.category).sum ≤ 8 := by
    rw [wds_vv]
    show 2 * 0 + wds st ≤ 8
    omega
  have res : (∃ (v : Option Value) (vm₁ : Vm) (B : Pt), s.WarmedH vm₁ ∧ Stand p l e R s m args below meth c B.U B.locs B.cells B.slots ∧ PostZ γ S (aft M pc k lv st) ⟨T.setVm vm₁, locs, sk S - sk S0, sn S - sn S0⟩ (as.map vv).toArray v B ∧
      ∀ target, Steps p.tables e below (B.U.setTop { (F0 m pc ls ((as.reverse ++ st).map vv)) with pc := (F0 m pc ls ((as.reverse ++ st).map vv)).pc + 3, stack := v.toList ++ st.map vv }) target → Steps p.tables e below (T.setTop (F0 m pc ls ((as.reverse ++ st).map vv))) target) ∨
    (∃ (q : Addr) (vm₁ : Vm) (B : Pt), s.WarmedH vm₁ ∧ Stand p l e R s m args below meth c B.U B.locs B.cells B.slots ∧ PostXZ γ S (aft M pc k lv st) ⟨T.setVm vm₁, locs, sk S - sk S0, sn S - sn S0⟩ (as.map vv).toArray q B ∧
      Steps p.tables e below (T.setTop (F0 m pc ls ((as.reverse ++ st).map vv))) ((B.U.setTop { (F0 m pc ls ((as.reverse ++ st).map vv)) with stack := st.map vv }).pushFrame (.throwing q))) := by
    have hcw := o3 _ m1
    unfold cwd at hcw
    split at hcw
    · exact vx_callS X o1 o4 (o3 _ l1) (o3 _ l2) (o3 _ m2) hcw m3 hB rfl (hl.1.trans o8.symm) (len_of m4 hn) hst hwd (by rw [o2]; exact hd) hpre
    · exact vx_callSX X o1 o4 (o3 _ l1) (o3 _ l2) (o3 _ m2) hcw m3 hB rfl (hl.1.trans o8.symm) (len_of m4 hn) hst hwd (by rw [o2]; exact hd) hpre
  rcases res with ⟨v, vm₁, B, hW₁, X', ⟨r, S', L, rfl, hQ, hZE, e1, hL, e2, e3⟩, go⟩ | ⟨q, vm₁, B, hW₁, X', ⟨E, S', L, ce, hQ, hZE, hce, hcv, hcl, e1, hL, e2, e3⟩, go⟩
  · rw [show (T.setVm vm₁).heap = H from hT] at hZE
    obtain ⟨t, a, b⟩ := ret_go hk hl hS q1 q2 q3 q4 (aft_ret hQ) hZE hL e1 e2 e3 X'
    exact ⟨t, go t a, b⟩
  · rw [show (T.setVm vm₁).heap = H from hT] at hZE
    obtain ⟨t, hh, hkk⟩ := hQ
    obtain ⟨t2, a, b⟩ := thr_go o3 o4 o6 o12 o13 hk hl hS q1 q2 q3 q4 hh (hkk q) hZE hce hcv (vx_cls hW₁ hcl) hL e1 e2 e3 X' (st.map vv)
    exact ⟨t2, go.trans a, b⟩
set_option maxHeartbeats 1000000 in
theorem st_virtual (hO : Ok γ p l R s m args meth c M S0 d) (hk : ∀ pc lv st S, k pc lv st S → J γ p l e R s m args below meth c Qm M S0 pc lv st S) {ix M' a : Nat} (hd : decode (mC M) pc = .ok (.invokevirtual ix, 3)) (hix : ix < 1000) (hq : cres.lookup (1000 * mOwn M + ix) = some (1, M')) (as : List V_) (hn : as.length = mPar M') (hka : sK S a = mOwn M' + 1) (hw : wds st ≤ 8) 
    (hM : Tri l γ d M' (vR (some a) :: as) S (aft M pc k lv st)) : J γ p l e R s m args below meth c Qm M S0 pc lv (as.reverse ++ vR (some a) :: st) S := by
  intro H locs ls hl hP hS q1 q2 q3 q45 T hT X
  obtain ⟨q4, r1, r2⟩ := q45
  have hpre := pre_go hO hP hS q1 q2 q3 q4 r1 r2 hT (vR (some a) :: as)
  obtain ⟨o1, o2, o3, o4, o5, o6, o7, o8, o9, o10, o11, o12, o13, o14, o15⟩ := hO
  obtain ⟨⟨m1, m2, m3, m4, m5⟩, l1, l2, l3, l4, l5⟩ := cres_ok _ (lookup_mem hq) (by show 1 ≤ 3; omega)
  dsimp only at m1 m2 m3 m4 m5 l1 l2 l3 l4 l5
  rw [show (1000 * mOwn M + ix) / 1000 = mOwn M by omega, show (1000 * mOwn M + ix) % 1000 = ix by omega] at l1
  have hB : vx_Back l R p e below s args (mI M').1 3 8 (PreZ R γ (vR (some a) :: as) S) (PostZ γ S (aft M pc k lv st)) (PostXZ γ S (aft M pc k lv st)) := vz_back hM (by rw [o14]; exact Nat.le_refl _) (by rw [o14]; show _ ≤ 38 * (d + 1); omega) o3 m1 m2
  have hst : (F0 m pc ls ((as.reverse ++ vR (some a) :: st).map vv)).stack = (as.map vv).reverse ++ .ref a :: st.map vv := by
    show (as.reverse ++ vR (some a) :: st).map vv = _
    rw [List.map_append, List.map_reverse]
    rfl
  have hwd : 2 * (F0 m pc ls ((as.reverse ++ vR (some a) :: st).map vv)).monitorRoom + ((st.map vv).map fun v => v.category).sum ≤ 8 := by
    rw [wds_vv]
    show 2 * 0 + wds st ≤ 8
    omega
  obtain ⟨⟨C, T1, N⟩, hc, hC⟩ : ∃ r : vw_C, cls10[mOwn M']? = some r ∧ r.1 = (mI M').1.cls := by
    cases hz : cls10[mOwn M']? with
    | none => rw [hz] at l4; cases l4
    | some r => rw [hz] at l4; exact ⟨r, rfl, Option.some.inj l4⟩
  dsimp only at hC
  subst hC
  obtain ⟨cell, hc1, hc2, hc3⟩ := Wp_recv o5 hP hc hka
  have hcw := o3 _ m1
  unfold cwd at hcw
  rw [if_pos l5] at hcw
  rcases vx_callV X o1 o4 (o3 _ l1) (o3 _ l2) (o3 _ l3) hcw m3 hB (b := a) (by rw [hT]; exact hc1) hc2 hc3 (g := F0 m pc ls ((as.reverse ++ vR (some a) :: st).map vv)) rfl (hl.1.trans o8.symm) (len_of m4 hn) hst hwd (by rw [o2]; exact hd) hpre with ⟨v, vm₁, B, hW₁, X', ⟨r, S', L, rfl, hQ, hZE, e1, hL, e2, e3⟩, go⟩ | ⟨q, vm₁, B, hW₁, X', ⟨E, S', L, ce, hQ, hZE, hce, hcv, hcl, e1, hL, e2, e3⟩, go⟩
  · rw [show (T.setVm vm₁).heap = H from hT] at hZE
    obtain ⟨t, a, b⟩ := ret_go hk hl hS q1 q2 q3 q4 (aft_ret hQ) hZE hL e1 e2 e3 X'
    exact ⟨t, go t a, b⟩
  · rw [show (T.setVm vm₁).heap = H from hT] at hZE
    obtain ⟨t, hh, hkk⟩ := hQ
    obtain ⟨t2, a, b⟩ := thr_go o3 o4 o6 o12 o13 hk hl hS q1 q2 q3 q4 hh (hkk q) hZE hce hcv (vx_cls hW₁ hcl) hL e1 e2 e3 X' (st.map vv)
    exact ⟨t2, go.trans a, b⟩
theorem back0 {D M' : Nat} {as : List V_} (hM : Tri l γ D M' as S (aft0 pc k lv st)) (hframes : D + 1 ≤ R.frames) (hlocals : 8 + ((mI M').2.2.1 + 11) + 38 * D ≤ R.locals) (hts : ∀ w ∈ tG, w.before args s = true) (hcode : cwd M' ∈ tG) (hinit : Cond.initialized (mI M').1.cls ∈ tG) :
    Back l R p e below s args (mI M').1 3 8 (PreZ R γ as S) (PostZ γ S (aft0 pc k lv st)) := by
  intro m meth c A g ig mk a X hg hsize hdg hW hn hp
  rcases vz_back hM hframes hlocals hts hcode hinit m meth c A g ig mk a X hg hsize hdg hW hn hp with h | ⟨q, B, -, ⟨E, S', L, ce, hQ, -⟩, -⟩
  · exact h
  · exact hQ.elim
set_option maxHeartbeats 1000000 in
theorem st_init (hO : Ok γ p l R s m args meth c M S0 d) (hk : ∀ pc lv st S, k pc lv st S → J γ p l e R s m args below meth c Qm M S0 pc lv st S) {ix M' a kd : Nat} (hd : decode (mC M) pc = .ok (.invokespecial ix, 3)) (hix : ix < 1000) (hq : cres.lookup (1000 * mOwn M + ix) = some (kd, M')) (hkd : kd = 2 ∨ kd = 3) (as : List V_) (hn : as.length = mPar M') (hw : wds st ≤ 8) 
    (hM : Tri l γ d M' (vR (some a) :: as) S (aft0 pc k lv st)) : J γ p l e R s m args below meth c Qm M S0 pc lv (as.reverse ++ vR (some a) :: st) S := by
  intro H locs ls hl hP hS q1 q2 q3 q45 T hT X
  obtain ⟨q4, r1, r2⟩ := q45
  have hpre := pre_go hO hP hS q1 q2 q3 q4 r1 r2 hT (vR (some a) :: as)
  obtain ⟨o1, o2, o3, o4, o5, o6, o7, o8, o9, o10, o11, o12, o13, o14, o15⟩ := hO
  obtain ⟨⟨m1, m2, m3, m4, m5⟩, hl0⟩ := cres_ok _ (lookup_mem hq) (by show kd ≤ 3; omega)
  dsimp only at m1 m2 m3 m4 m5
  have hB := back0 (R := R) (p := p) (e := e) (below := below) (s := s) (args := args) hM (by rw [o14]; exact Nat.le_refl _) (by rw [o14]; show _ ≤ 38 * (d + 1); omega) o3 m1 m2
  have hst : (F0 m pc ls ((as.reverse ++ vR (some a) :: st).map vv)).stack = (as.map vv).reverse ++ .ref a :: st.map vv := by
    show (as.reverse ++ vR (some a) :: st).map vv = _
    rw [List.map_append, List.map_reverse]
    rfl
  have hwd : 2 * (F0 m pc ls ((as.reverse ++ vR (some a) :: st).map vv)).monitorRoom + ((st.map vv).map fun v => v.category).sum ≤ 8 := by
    rw [wds_vv]
    show 2 * 0 + wds st ≤ 8
    omega
  have res : ∃ (v : Option Value) (vm₁ : Vm) (B : Pt), s.WarmedH vm₁ ∧ Stand p l e R s m args below meth c B.U B.locs B.cells B.slots ∧ PostZ γ S (aft0 pc k lv st) ⟨T.setVm vm₁, locs, sk S - sk S0, sn S - sn S0⟩ ((vR (some a) :: as).map vv).toArray v B ∧
      ∀ target, Steps p.tables e below (B.U.setTop { (F0 m pc ls ((as.reverse ++ vR (some a) :: st).map vv)) with pc := (F0 m pc ls ((as.reverse ++ vR (some a) :: st).map vv)).pc + 3, stack := v.toList ++ st.map vv }) target → Steps p.tables e below (T.setTop (F0 m pc ls ((as.reverse ++ vR (some a) :: st).map vv))) target := by
    rcases hkd with rfl | rfl
    · obtain ⟨l1, l2, l3, l4, l5⟩ := hl0
      dsimp only at l1 l2 l3 l4 l5
      rw [show (1000 * mOwn M + ix) / 1000 = mOwn M by omega, show (1000 * mOwn M + ix) % 1000 = ix by omega] at l1
      have hcw := o3 _ m1
      unfold cwd at hcw
      rw [if_pos l5, l4] at hcw
      exact callI X o1 o4 l3 (o3 _ l1) (o3 _ l2) hcw m3 hB rfl (hl.1.trans o8.symm) (len_of m4 hn) hst hwd (by rw [o2]; exact hd) hpre
    · obtain ⟨⟨l1, l6, l7⟩, l2, l3, l4, l5⟩ := hl0
      dsimp only at l1 l2 l3 l4 l5 l6 l7
      rw [show (1000 * mOwn M + ix) / 1000 = mOwn M by omega] at l1
      rw [show (1000 * mOwn M + ix) % 1000 = ix by omega] at l6
      have hcw := o3 _ m1
      unfold cwd at hcw
      rw [if_pos l5, l4] at hcw
      have hnw := o6.2.2.2.2.2.2.2.2.2.1
      rw [l1] at o4
      rw [l6] at hd
      rw [← l7] at hnw
      exact va_callIN X o1 o4 l3 (va_Nw.use rfl hnw) (o3 _ l2) hcw m3 hB rfl (hl.1.trans o8.symm) (len_of m4 hn) hst hwd (by rw [o2]; exact hd) hpre
  obtain ⟨v, vm₁, B, hW₁, X', ⟨r, S', L, rfl, hQ, hZE, e1, hL, e2, e3⟩, go⟩ := res
  rw [show (T.setVm vm₁).heap = H from hT] at hZE
  have hkk : k (pc + 3) lv (r.toList ++ st) S' := by
    cases r with
    | none => exact hQ
    | some x => exact hQ.elim
  obtain ⟨t, a, b⟩ := ret_go hk hl hS q1 q2 q3 q4 hkk hZE hL e1 e2 e3 X'
  exact ⟨t, go t a, b⟩
end IV
