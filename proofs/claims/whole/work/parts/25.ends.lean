/-! ENDS: a method returns or throws. -/
/-- what a method's run owes at its end -/
def Zend (γ : Gam) (below : List Frame) (args : Array Value) (s : State) (S0 : St) (Q : Rs → St → Prop) : State → Prop := fun t => ∃ o, t.status = .running ∧ Ended t below o ∧ Zo γ S0 Q args s o t
section EN
variable {γ : Gam} {p : Program} {l : Launch} {e : Env} {R : Room} {s : State} {m : MethodId} {args : Array Value} {below : List Frame} {meth : Method} {c : Code} {Q : Rs → St → Prop} {M d : Nat} {S0 : St} {pc : Nat} {lv : List (Option V_)} {st : List V_} {S : St}
theorem W_mono {H : Heap} {locs : List Loc} {cells slots : Nat} {Q1 Q2 : State → Prop} {g : JFrame} (h : W p l e R s m args below meth c H locs cells slots Q1 g) (hq : ∀ t, Q1 t → Q2 t) : W p l e R s m args below meth c H locs cells slots Q2 g := by
  intro T hT X
  obtain ⟨t, a, b⟩ := h T hT X
  exact ⟨t, a, hq t b⟩
theorem ZE_end {H : Heap} {locs : List Loc} (hP : Wp γ S H) (hS : va_S (gA γ) s.heap H locs) (q1 : se S = se S0) (q2 : sm S = sm S0) (q3 : sk S0 ≤ sk S) (q4 : sn S0 ≤ sn S ∧ sk S ≤ mxC ∧ sn S ≤ mxS) {t : State} (ht : t.heap = H) : ZE γ S0 S s.heap t.heap := by
  rw [ht]
  exact ⟨hP, hS.1, hS.2.1, q3, q4.1, q1, q2, q4.2.1, q4.2.2⟩
theorem end_ret {H : Heap} {locs : List Loc} {r : Option V_} {ls : Array Slot} {stk : List Value} (hP : Wp γ S H) (hS : va_S (gA γ) s.heap H locs) (q1 : se S = se S0) (q2 : sm S = sm S0) (q3 : sk S0 ≤ sk S) (q4 : sn S0 ≤ sn S ∧ sk S ≤ mxC ∧ sn S ≤ mxS) (hQ : Q (.inl r) S)
    (h : W p l e R s m args below meth c H locs (sk S - sk S0) (sn S - sn S0) (MQ below (fun _ _ o t => o = .returned (r.map vv) ∧ t.heap = H) args s (sk S - sk S0) (sn S - sn S0) (gA γ)) (F0 m pc ls stk)) :
    W p l e R s m args below meth c H locs (sk S - sk S0) (sn S - sn S0) (Zend γ below args s S0 Q) (F0 m pc ls stk) := by
  refine W_mono h (fun t ht => ?_)
  obtain ⟨o, h1, h2, ⟨rfl, hh⟩, L, hF, hL⟩ := ht
  exact ⟨_, h1, h2, S, L, ZE_end hP hS q1 q2 q3 q4 hh, hL, Or.inl ⟨r, rfl, hQ, hF⟩⟩
theorem st_ireturn (hO : Ok γ p l R s m args meth c M S0 d) {x : Int32} (hd : decode (mC M) pc = .ok (.ireturn, 1)) (hr : (mI M).2.2.2.1 = some .int ∨ ((mI M).2.2.2.1 = some .boolean ∧ (x = 0 ∨ x = 1))) (hQ : Q (.inl (some (vI x))) S) : J γ p l e R s m args below meth c (Zend γ below args s S0 Q) M S0 pc lv [vI x] S := by
  intro H locs ls hl hP hS q1 q2 q3 q4
  obtain ⟨o1, o2, o3, o4, o5, o6, o7, o8, o9, o10, o11, o12, o13, o14, o15⟩ := hO
  refine end_ret (r := some (vI x)) hP hS q1 q2 q3 q4 hQ ?_
  rcases hr with h | ⟨h, hx⟩
  · exact W.iret o1 o2 (by rw [o9]; exact h) (fun t ht _ => ⟨rfl, ht⟩) hS.2.2 hd (hlocks := o10)
  · exact W.zret (ty := .boolean) o1 o2 (by rw [o9]; exact h) (by rcases hx with rfl | rfl <;> decide) (fun t ht _ => ⟨rfl, ht⟩) hS.2.2 hd (hlocks := o10)
theorem st_areturn (hO : Ok γ p l R s m args meth c M S0 d) {x : Option Nat} (hd : decode (mC M) pc = .ok (.areturn, 1)) (hr : (∃ n, (mI M).2.2.2.1 = some (.object n)) ∨ ∃ t, (mI M).2.2.2.1 = some (.array t)) (hQ : Q (.inl (some (vR x))) S) : J γ p l e R s m args below meth c (Zend γ below args s S0 Q) M S0 pc lv [vR x] S := by
  intro H locs ls hl hP hS q1 q2 q3 q4
  obtain ⟨o1, o2, o3, o4, o5, o6, o7, o8, o9, o10, o11, o12, o13, o14, o15⟩ := hO
  refine end_ret (r := some (vR x)) hP hS q1 q2 q3 q4 hQ ?_
  have hv : va_rf x = .null ∨ ∃ a, va_rf x = .ref a := by
    cases x with
    | none => exact Or.inl rfl
    | some a => exact Or.inr ⟨a, rfl⟩
  rcases hr with ⟨n, h⟩ | ⟨t, h⟩
  · exact W.aret (rt := .object n) o1 o2 (by rw [o9]; exact h) (Or.inl ⟨n, rfl⟩) hv (fun t ht _ => ⟨rfl, ht⟩) hS.2.2 hd (hlocks := o10)
  · exact W.aret (rt := .array t) o1 o2 (by rw [o9]; exact h) (Or.inr ⟨t, rfl⟩) hv (fun t ht _ => ⟨rfl, ht⟩) hS.2.2 hd (hlocks := o10)
theorem st_return (hO : Ok γ p l R s m args meth c M S0 d) (hd : decode (mC M) pc = .ok (.return_, 1)) (hr : (mI M).2.2.2.1 = none) (hQ : Q (.inl none) S) : J γ p l e R s m args below meth c (Zend γ below args s S0 Q) M S0 pc lv [] S := by
  intro H locs ls hl hP hS q1 q2 q3 q4
  obtain ⟨o1, o2, o3, o4, o5, o6, o7, o8, o9, o10, o11, o12, o13, o14, o15⟩ := hO
  refine end_ret (r := none) hP hS q1 q2 q3 q4 hQ ?_
  exact W.vret o1 o2 (by rw [o9]; exact hr) (fun t ht _ => ⟨rfl, ht⟩) hS.2.2 hd (hlocks := o10)
end EN
def xic (x : Nat) : Nat := [57, 78, 159].getD x 0
def xix (x : Nat) : Nat := [7, 7, 13].getD x 0
def xby (x : Nat) : ByteArray := ⟨#[0x2a, 0x2b, 0xb7, 0x00, [0x07, 0x07, 0x0d].getD x 0, 0xb1]⟩
abbrev xY : String := "java/lang/RuntimeException"
abbrev xr : List String := ["java/lang/Exception"]
def txS (x : Nat) : List Cond := (txA RX7 (xic x) (exn.getD x "") xY xr (xix x) (xby x)).filter vx_no
/-- the words of a throw that don't last by themselves -/
def xB : List Cond := declT.map Cond.declares ++ castT.map (fun q => Cond.castable q.1 q.2)
set_option maxRecDepth 100000 in
theorem xw0 : ∀ w ∈ (txS 0).filter goodWord, w ∈ lw_tbl := by decide +kernel
set_option maxRecDepth 100000 in
theorem xw1 : ∀ w ∈ (txS 1).filter goodWord, w ∈ lw_tbl := by decide +kernel
set_option maxRecDepth 100000 in
theorem xw2 : ∀ w ∈ (txS 2).filter goodWord, w ∈ lw_tbl := by decide +kernel
theorem xw : ∀ x, x < 3 → ∀ w ∈ (txS x).filter goodWord, w ∈ lw_tbl := fun x hx => by
  match x, hx with
  | 0, _ => exact xw0
  | 1, _ => exact xw1
  | 2, _ => exact xw2
set_option maxRecDepth 100000 in
theorem xn0 : ∀ x, x < 3 → ∀ w ∈ (txS x).filter (fun w => !goodWord w), w ∈ xB := by decide +kernel
set_option maxRecDepth 100000 in
theorem xo0 : ∀ x, x < 3 → ∀ w ∈ txS x, vx_ot w = true := by decide +kernel
theorem xfit : ∀ x, x < 3 → Bundle.fit (exn.getD x "") = true := by decide +kernel
theorem xfitY : Bundle.fit xY = true := by decide +kernel
theorem xfitn : ∀ n ∈ xr, Bundle.fit n = true := by decide +kernel
theorem xb : ∀ x, x < 3 → decode (xby x) 0 = .ok (.aload_n 0, 1) ∧ decode (xby x) 1 = .ok (.aload_n 1, 1) ∧ decode (xby x) 2 = .ok (.invokespecial (xix x), 3) ∧ decode (xby x) 5 = .ok (.return_, 1) := by decide +kernel
set_option maxRecDepth 100000 in
theorem x6 : ∀ x, x < 3 → Cond.instantiable (exn.getD x "") 6 ∈ txA RX7 (xic x) (exn.getD x "") xY xr (xix x) (xby x) := by decide +kernel
section TS
variable {γ : Gam} {p : Program} {l : Launch} {e : Env} {R : Room} {s : State} {m : MethodId} {args : Array Value} {below : List Frame} {meth : Method} {c : Code} {Q : Rs → St → Prop} {M d : Nat} {S0 : St} {pc : Nat} {lv : List (Option V_)} {st : List V_} {S : St}
theorem Wp_bump {H H1 : Heap} {a b : Nat} (hP : Wp γ S H) (hk : ∀ q : Nat, q < H.size → H1[q]? = H[q]?) : Wp γ (bump S a b) H1 := by
  intro q hq
  obtain ⟨w1, w2, w3⟩ := hP q hq
  exact ⟨w1, w2, w3.kept (hk q w3.lt)⟩
set_option maxHeartbeats 2000000 in
theorem st_throw (hO : Ok γ p l R s m args meth c M S0 d) {x ik is sa : Nat} {text : String} (hx3 : x < 3) (hM8 : mOwn M = 8) (hnoh : (mI M).2.2.2.2 = []) (hk : Cond.classLink RX7 ik (exn.getD x "") ∈ tG) (hini : Cond.initialized (exn.getD x "") ∈ tG) (hstr : vk_R RX7 is text sa s)
    (d0 : decode (mC M) pc = .ok (.new ik, 3)) (d3 : decode (mC M) (pc + 3) = .ok (.dup, 1)) (d4 : decode (mC M) (pc + 4) = .ok (.ldc is, 2)) (d6 : decode (mC M) (pc + 6) = .ok (.invokespecial (xic x), 3)) (d9 : decode (mC M) (pc + 9) = .ok (.athrow, 1))
    (hd5 : 5 ≤ d) (hw : wds st ≤ 8) (hr : room S 6) (hQ : Q (.inr (exn.getD x "")) (bump S 1 6)) : J γ p l e R s m args below meth c (Zend γ below args s S0 Q) M S0 pc lv st S := by
  intro H locs ls hl hP hS q1 q2 q3 q45
  obtain ⟨q4, -, -⟩ := q45
  obtain ⟨o1, o2, o3, o4, o5, o6, o7, o8, o9, o10, o11, o12, o13, o14, o15⟩ := hO
  obtain ⟨r1, r2⟩ := hr
  rw [hM8] at o4
  have hown : s.vm.findClass RX7 = some m.cls := o4
  subst o14
  intro T hT X
  have htr : e.platform.stackTraces = false := (show e.platform.stackTraces = l.stackTraces by rw [X.admits.platform]).trans o15
  have hat : ∀ w ∈ txS x, w.before args s = true := vx_hat (fun w hw => o3 w (tG_of (xw x hx3 w hw) (List.mem_filter.mp hw).2)) (xn0 x hx3) (fun w hw => by
    rcases List.mem_append.mp hw with h | h
    · obtain ⟨y, hy, rfl⟩ := List.mem_map.mp h
      exact va_Nw.use rfl (o6.2.2.2.2.2.2.2.2.1 y hy)
    · obtain ⟨y, hy, rfl⟩ := List.mem_map.mp h
      exact va_Nw.use rfl (o6.2.2.2.2.2.2.2.1 y hy))
  have Y := vx_rebase X (R' := { frames := d + 1, locals := 38 * (d + 1), cells := 1, slots := 6 }) (Nat.le_refl _) (Nat.le_refl _) (show sk S - sk S0 + 1 ≤ mxC - sk S0 by omega) (show sn S - sn S0 + 6 ≤ mxS - sn S0 by omega)
  obtain ⟨s', hA⟩ : ∃ z, z = (T.setVm s.vm).setFrames (.invoking m args :: below) := ⟨_, rfl⟩
  rw [← hA] at Y
  have hvm : s'.vm = s.vm := by rw [hA]; rfl
  have hhp : s'.heap = H := by rw [hA]; exact hT
  have hW0 : s.WarmedH s'.vm := by rw [hvm]; exact State.WarmedH.refl s
  have hat' : ∀ w ∈ txS x, w.before args s' = true := fun w hw => vx_ot_at hW0 hvm.symm (xo0 x hx3 w hw) (hat w hw)
  have hk' : (Cond.classLink RX7 ik (exn.getD x "")).before args s' = true := tG_word o3 hW0 hk
  have hini' : (Cond.initialized (exn.getD x "")).before args s' = true := tG_word o3 hW0 hini
  have hU' : vx_Zq Bundle.tN "UNASSIGNED_STACK" Bundle.steD (gA γ) s' s'.heap := by rw [hhp]; exact vx_Zq.moved hW0.alike (o6.2.2.2.1.kept hS.2.1)
  have hN' : vx_Zq Bundle.tN "SUPPRESSED_SENTINEL" Bundle.listD (gA γ) s' s'.heap := by rw [hhp]; exact vx_Zq.moved hW0.alike (o6.2.2.2.2.1.kept hS.2.1)
  have h : ∀ w ∈ txA RX7 (xic x) (exn.getD x "") xY xr (xix x) (xby x), w.before args s' = true := vx_own hat' (vx_isRefq hU'.1) (vx_isRefq hN'.1) hU'.2.word hN'.2.word
  have hown' : s'.vm.findClass RX7 = some m.cls := by rw [hvm]; exact hown
  have hins : (Cond.instantiable (exn.getD x "") 6).before args s' = true := h _ (x6 x hx3)
  obtain ⟨vm₁, cX, kX, hfX, hkX, -, -, X₁, st1⟩ := Y.newCold o1 (own := RX7) (C := exn.getD x "") (index := ik) (n := 6) hown' hk' hins hini'
    (g := F0 m pc ls (st.map vv)) rfl (by rw [o2]; exact d0) (Nat.le_refl _) (Nat.le_refl _)
  generalize hT1 : (T.setVm vm₁).pushCell { cls := cX, slots := kX.instanceTypes.map defaultValue, vm := .none } = T1 at X₁ st1
  have hcat : (Value.ref T.heap.size).category = 1 := rfl
  have hcellA : T1.heap[T.heap.size]? = some (freshCell cX kX) := by rw [← hT1]; exact State.heap_pushCell_size _ _
  have d3' : decode c.code (pc + 3) = .ok (.dup, 1) := by rw [o2]; exact d3
  have d4' : decode c.code (pc + 4) = .ok (.ldc is, 2) := by rw [o2]; exact d4
  have hstr' : vk_R RX7 is text sa s' := vk_R.warm hW0 hstr
  obtain ⟨b0, b1, b2, b5⟩ := xb x hx3
  have hnot : ∀ z ∈ c.exceptionTable.toList, covers z (pc + 9) = false := by
    intro z hz
    rw [hnoh] at o12
    rw [List.map_eq_nil_iff.mp o12] at hz
    cases hz
  obtain ⟨U, hsteps, hrun, hend, hW, hsame, ce, hce, hcv, hcl9⟩ := tx_ctor X₁ o1 htr (own := RX7) (cls := exn.getD x "") (Y0 := xY) (names := xr) (ic := xic x) (ix := xix x) (bytes := xby x) hown' (xfit x hx3) xfitY xfitn b0 b1 b2 b5 h (fun x hx => nomatch hx) hfX hkX hcellA (by rw [hhp, hT]; exact Nat.le_refl _) (msg := .ref sa) rfl
    (g := { method := m, pc := pc + 6, locals := ls, stack := .ref sa :: .ref T.heap.size :: .ref T.heap.size :: st.map vv, locked := none }) rfl (hl.1.trans o8.symm) rfl rfl (rest := st.map vv) rfl
    (by rw [o2]; exact d6) (by rw [o2]; exact d9) hnot (show 1 + 4 < d + 1 by omega) (by
      simp only [List.map_cons, List.sum_cons, hcat]
      rw [wds_vv]
      show 2 * 0 + (1 + wds st) + (13 * (1 + 2) + 42) ≤ 38 * (d + 1)
      omega) o10
  obtain ⟨f1, f2⟩ := vx_frame hsame
  rw [hhp] at f1 f2
  have hWs : s.WarmedH U.vm := State.WarmedH.trans hW0 hW
  have hcl : s.vm.findClass (exn.getD x "") = some ce.cls := by
    rw [hvm] at hcl9
    exact hcl9
  have hall : s.sameButNew ({ U with vm := s.vm } : State) locs (sk (bump S 1 6) - sk S0) (sn (bump S 1 6) - sn S0) := by
    subst hA
    obtain ⟨e1, e2⟩ := hsame
    rw [State.setFrames_setFrames] at e1
    have h2 : (T.setVm s.vm).sameButNew ({ U with vm := s.vm } : State) [] (0 + 1) (0 + 6) := ⟨e1, e2⟩
    have h3 := X.same.trans h2
    rw [List.append_nil] at h3
    exact h3.mono (by show sk S - sk S0 + (0 + 1) ≤ sk S + 1 - sk S0; omega) (by show sn S - sn S0 + (0 + 6) ≤ sn S + 6 - sn S0; omega)
  have hkeep : ∀ q : Nat, q < H.size → U.heap[q]? = H[q]? := fun q hq => f2 q hq (fun z hz => nomatch hz)
  refine ⟨U, ?_, .threw T.heap.size, hrun, hend, bump S 1 6, locs, ⟨Wp_bump hP hkeep, Nat.le_trans hS.1 f1, fun q h1 h2 => ?_, ?_, ?_, q1, q2, ?_, ?_⟩, hS.2.2, Or.inr ⟨T.heap.size, exn.getD x "", ce, rfl, hQ, hce, hcv, hcl, hWs, hall⟩⟩
  · refine st1 _ ?_
    show Steps p.tables e below (T1.setTop { method := m, pc := pc + 3, locals := ls, stack := .ref T.heap.size :: st.map vv, locked := none }) _
    jvm_step X₁.here [X₁.here.top, o1, d3', Value.category]
    exact X₁.ldcString o1 (own := RX7) (text := text) (index := is) (a := sa) hown' hstr'.1 hstr'.2
      (g := { method := m, pc := pc + 4, locals := ls, stack := .ref T.heap.size :: .ref T.heap.size :: st.map vv, locked := none }) rfl d4' _ hsteps
  · rw [hkeep q (Nat.lt_of_lt_of_le h1 hS.1)]
    exact hS.2.1 q h1 h2
  · show sk S0 ≤ sk S + 1
    omega
  · show sn S0 ≤ sn S + 6
    omega
  · exact r1
  · exact r2
end TS
def tchk (q : Nat × Nat × Nat × Nat × Nat) : Prop := q.2.1 < 3 ∧ mOwn (q.1 / 2000) = 8 ∧ (mI (q.1 / 2000)).2.2.2.2 = [] ∧ cdT (q.1 / 2000) (q.1 % 2000) = some (.new q.2.2.1, 3) ∧ cdT (q.1 / 2000) (q.1 % 2000 + 3) = some (.dup, 1) ∧ cdT (q.1 / 2000) (q.1 % 2000 + 4) = some (.ldc q.2.2.2.1, 2) ∧ cdT (q.1 / 2000) (q.1 % 2000 + 6) = some (.invokespecial (xic q.2.1), 3) ∧ cdT (q.1 / 2000) (q.1 % 2000 + 9) = some (.athrow, 1) ∧
  Cond.classLink RX7 q.2.2.1 (exn.getD q.2.1 "") ∈ lw_tbl ∧ Cond.initialized (exn.getD q.2.1 "") ∈ lw_tbl ∧ q.2.2.2.1 ∈ strT.map (fun r => r.1)
set_option maxRecDepth 100000 in
theorem tk_0 : tchk (92010, 2, 155, 200, 159) := by unfold tchk; decide +kernel
set_option maxRecDepth 100000 in
theorem tk_1 : tchk (92024, 0, 53, 226, 57) := by unfold tchk; decide +kernel
set_option maxRecDepth 100000 in
theorem tk_2 : tchk (100044, 0, 53, 92, 57) := by unfold tchk; decide +kernel
set_option maxRecDepth 100000 in
theorem tk_3 : tchk (100086, 1, 74, 94, 78) := by unfold tchk; decide +kernel
set_option maxRecDepth 100000 in
theorem tk_4 : tchk (106010, 0, 53, 188, 57) := by unfold tchk; decide +kernel
set_option maxRecDepth 100000 in
theorem tk_5 : tchk (106027, 1, 74, 168, 78) := by unfold tchk; decide +kernel
set_option maxRecDepth 100000 in
theorem tk_6 : tchk (118010, 2, 155, 200, 159) := by unfold tchk; decide +kernel
set_option maxRecDepth 100000 in
theorem tk_7 : tchk (118108, 0, 53, 224, 57) := by unfold tchk; decide +kernel
set_option maxRecDepth 100000 in
theorem tk_8 : tchk (132007, 1, 74, 99, 78) := by unfold tchk; decide +kernel
set_option maxRecDepth 100000 in
theorem tk_9 : tchk (134038, 0, 53, 108, 57) := by unfold tchk; decide +kernel
set_option maxRecDepth 100000 in
theorem tk_10 : tchk (134075, 1, 74, 116, 78) := by unfold tchk; decide +kernel
set_option maxRecDepth 100000 in
theorem tk_11 : tchk (136023, 0, 53, 82, 57) := by unfold tchk; decide +kernel
set_option maxRecDepth 100000 in
theorem tk_12 : tchk (136057, 1, 74, 87, 78) := by unfold tchk; decide +kernel
set_option maxRecDepth 100000 in
theorem tk_13 : tchk (142013, 0, 53, 179, 57) := by unfold tchk; decide +kernel
set_option maxRecDepth 100000 in
theorem tk_14 : tchk (142030, 1, 74, 168, 78) := by unfold tchk; decide +kernel
set_option maxRecDepth 100000 in
theorem tk_15 : tchk (144025, 2, 155, 236, 159) := by unfold tchk; decide +kernel
set_option maxRecDepth 100000 in
theorem tk_16 : tchk (144044, 0, 53, 238, 57) := by unfold tchk; decide +kernel
set_option maxRecDepth 100000 in
theorem tk_17 : tchk (146010, 0, 53, 149, 57) := by unfold tchk; decide +kernel
set_option maxRecDepth 100000 in
theorem tk_18 : tchk (146030, 2, 155, 157, 159) := by unfold tchk; decide +kernel
set_option maxRecDepth 100000 in
theorem tk_19 : tchk (148011, 0, 53, 166, 57) := by unfold tchk; decide +kernel
set_option maxRecDepth 100000 in
theorem tk_20 : tchk (148028, 1, 74, 168, 78) := by unfold tchk; decide +kernel
set_option maxRecDepth 100000 in
theorem tk_21 : tchk (150027, 0, 53, 247, 57) := by unfold tchk; decide +kernel
set_option maxRecDepth 100000 in
theorem tk_22 : tchk (150044, 1, 74, 168, 78) := by unfold tchk; decide +kernel
set_option maxRecDepth 100000 in
theorem tk_23 : tchk (154024, 0, 53, 55, 57) := by unfold tchk; decide +kernel
set_option maxRecDepth 100000 in
theorem tk_24 : tchk (154047, 0, 53, 64, 57) := by unfold tchk; decide +kernel
set_option maxRecDepth 100000 in
theorem tk_25 : tchk (154077, 1, 74, 76, 78) := by unfold tchk; decide +kernel
theorem tres_ok : ∀ q ∈ tres, tchk q := List.forall_mem_cons.mpr ⟨tk_0, List.forall_mem_cons.mpr ⟨tk_1, List.forall_mem_cons.mpr ⟨tk_2, List.forall_mem_cons.mpr ⟨tk_3, List.forall_mem_cons.mpr ⟨tk_4, List.forall_mem_cons.mpr ⟨tk_5, List.forall_mem_cons.mpr ⟨tk_6, List.forall_mem_cons.mpr ⟨tk_7, List.forall_mem_cons.mpr ⟨tk_8, List.forall_mem_cons.mpr ⟨tk_9, List.forall_mem_cons.mpr ⟨tk_10, List.forall_mem_cons.mpr ⟨tk_11, List.forall_mem_cons.mpr ⟨tk_12, List.forall_mem_cons.mpr ⟨tk_13, List.forall_mem_cons.mpr ⟨tk_14, List.forall_mem_cons.mpr ⟨tk_15, List.forall_mem_cons.mpr ⟨tk_16, List.forall_mem_cons.mpr ⟨tk_17, List.forall_mem_cons.mpr ⟨tk_18, List.forall_mem_cons.mpr ⟨tk_19, List.forall_mem_cons.mpr ⟨tk_20, List.forall_mem_cons.mpr ⟨tk_21, List.forall_mem_cons.mpr ⟨tk_22, List.forall_mem_cons.mpr ⟨tk_23, List.forall_mem_cons.mpr ⟨tk_24, List.forall_mem_cons.mpr ⟨tk_25, fun _ h => absurd h List.not_mem_nil⟩⟩⟩⟩⟩⟩⟩⟩⟩⟩⟩⟩⟩⟩⟩⟩⟩⟩⟩⟩⟩⟩⟩⟩⟩⟩
