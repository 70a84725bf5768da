def hOk (M : Nat) : Prop := ∀ h ∈ (mI M).2.2.2.2, h.2.2.2 ≠ 0 ∧ ∃ x, xres.lookup (1000 * mOwn M + h.2.2.2) = some x ∧ Cond.classLink (cnm.getD (mOwn M) "") h.2.2.2 (exn.getD x "") ∈ tG ∧ exn.getD x "" ∈ exn
theorem exn_cast : ∀ E ∈ exn, (E, E) ∈ castT := by decide
theorem exn_nc : ∀ E ∈ exn, ∀ F ∈ exn, E ≠ F → (E, F) ∈ ncT := by decide
section CR
variable {γ : Gam} {p : Program} {l : Launch} {e : Env} {R : Room} {s : State} {m : MethodId} {args : Array Value} {below : List Frame} {meth : Method} {c : Code} {Qm : State → Prop} {M : Nat} {S0 : St} {pc : Nat} {lv : List (Option V_)} {st : List V_} {S : St} {k : Nat → List (Option V_) → List V_ → St → Prop}
theorem va_S_call {H H' : Heap} {locs L : List Loc} {S' : St} (hS : va_S (gA γ) s.heap H locs) (hZ : ZE γ S S' H H') (hL : ∀ q ∈ L, gA γ q.base) : va_S (gA γ) s.heap H' (locs ++ L) := by
  obtain ⟨-, z1, z2, -⟩ := hZ
  refine ⟨Nat.le_trans hS.1 z1, fun q h1 h2 => ?_, fun q hq => ?_⟩
  · rw [z2 q (Nat.lt_of_lt_of_le h1 hS.1) h2]
    exact hS.2.1 q h1 h2
  · rcases List.mem_append.mp hq with h | h
    · exact hS.2.2 q h
    · exact hL q h
/-- behind a call that came back -/
theorem ret_go (hk : ∀ pc lv st S, k pc lv st S → J γ p l e R s m args below meth c Qm M S0 pc lv st S) {H : Heap} {locs : List Loc} {ls : Array Slot} (hl : lvh ls (mI M).2.2.1 lv) (hS : va_S (gA γ) s.heap H locs) (q1 : se S = se S0) (q2 : sm S = sm S0) (q3 : sk S0 ≤ sk S) (q4 : sn S0 ≤ sn S)
    {r : Option V_} {S' : St} {L : List Loc} {B : Pt} (hkk : k (pc + 3) lv (r.toList ++ st) S') (hZ : ZE γ S S' H B.U.heap) (hL : ∀ q ∈ L, gA γ q.base) (e1 : B.locs = locs ++ L) (e2 : B.cells = sk S - sk S0 + (sk S' - sk S)) (e3 : B.slots = sn S - sn S0 + (sn S' - sn S)) (X : Stand p l e R s m args below meth c B.U B.locs B.cells B.slots) :
    ∃ t, Steps p.tables e below (B.U.setTop (F0 m (pc + 3) ls ((r.map vv).toList ++ st.map vv))) t ∧ Qm t := by
  have hS' := va_S_call hS hZ hL
  obtain ⟨z0, z1, z2, z3, z4, z5, z6, z7, z8⟩ := hZ
  have h := hk _ _ _ _ hkk B.U.heap B.locs ls hl z0 (by rw [e1]; exact hS') (z5.trans q1) (z6.trans q2) (by omega) ⟨by omega, z7, z8⟩
  have c1 : sk S' - sk S0 = B.cells := by omega
  have c2 : sn S' - sn S0 = B.slots := by omega
  rw [c1, c2] at h
  obtain ⟨t, a, b⟩ := h B.U rfl X
  refine ⟨t, ?_, b⟩
  have : (r.toList ++ st).map vv = (r.map vv).toList ++ st.map vv := by cases r <;> rfl
  rw [this] at a
  exact a
/-- behind a call that threw: the handler -/
theorem thr_go (hts : ∀ w ∈ tG, w.before args s = true) (hown : s.vm.findClass (cnm.getD (mOwn M) "") = some m.cls) (hZs : Zs γ S0 s s.heap) (htab : c.exceptionTable.toList.map (fun h => (h.startPc, h.endPc, h.handlerPc, h.catchType)) = (mI M).2.2.2.2) (hho : hOk M) (hk : ∀ pc lv st S, k pc lv st S → J γ p l e R s m args below meth c Qm M S0 pc lv st S) {H : Heap} {locs : List Loc} {ls : Array Slot} (hl : lvh ls (mI M).2.2.1 lv) (hS : va_S (gA γ) s.heap H locs) (q1 : se S = se S0) (q2 : sm S = sm S0) (q3 : sk S0 ≤ sk S) (q4 : sn S0 ≤ sn S)
    {E : String} {t : Nat} {q : Addr} {ce : Cell} {S' : St} {L : List Loc} {B : Pt} (hh : hdl M pc E = some t) (hkk : k t lv [vR (some q)] S') (hZ : ZE γ S S' H B.U.heap) (hce : B.U.heap[q]? = some ce) (hcv : ce.vm = .none) (hcl : s.vm.findClass E = some ce.cls) (hL : ∀ q ∈ L, gA γ q.base) (e1 : B.locs = locs ++ L) (e2 : B.cells = sk S - sk S0 + (sk S' - sk S)) (e3 : B.slots = sn S - sn S0 + (sn S' - sn S)) (X : Stand p l e R s m args below meth c B.U B.locs B.cells B.slots) (rest : List Value) :
    ∃ t, Steps p.tables e below ((B.U.setTop (F0 m pc ls rest)).pushFrame (.throwing q)) t ∧ Qm t := by
  have hS' := va_S_call hS hZ hL
  obtain ⟨z0, z1, z2, z3, z4, z5, z6, z7, z8⟩ := hZ
  have h := hk _ _ _ _ hkk B.U.heap B.locs ls hl z0 (by rw [e1]; exact hS') (z5.trans q1) (z6.trans q2) (by omega) ⟨by omega, z7, z8⟩
  have c1 : sk S' - sk S0 = B.cells := by omega
  have c2 : sn S' - sn S0 = B.slots := by omega
  rw [c1, c2] at h
  unfold hdl at hh
  obtain ⟨pre, x, suf, hsp, hx, hpre⟩ := List.findSome?_eq_some_iff.mp hh
  rw [hsp] at htab
  obtain ⟨pe, r1, hs1, hp1, hr1⟩ := List.map_eq_append_iff.mp htab
  obtain ⟨xe, se', hs2, hx2, hr2⟩ := List.map_eq_cons_iff.mp hr1
  split at hx
  · rename_i hcnd
    obtain ⟨d1, d2, d3⟩ := hcnd
    obtain ⟨n1, x1, n2, n3, n4⟩ := hho x (by rw [hsp]; simp)
    rw [n2] at d3
    have hE : exn.getD x1 "" = E := Option.some.inj d3
    rw [hE] at n3 n4
    subst hx2
    dsimp only at d1 d2 n1 n3 hx
    have ht : xe.handlerPc = t := Option.some.inj hx
    subst ht
    refine cx_catch (own := cnm.getD (mOwn M) "") (name := E) hown pe xe se' (by rw [hs1, hs2]) (fun z hz => ?_) (by simp [covers, d1, d2]) n1 (hts _ n3) (va_Nw.use rfl (hZs.2.2.2.2.2.2.2.1 (E, E) (exn_cast E n4))) hce hcv hcl h B.U rfl X
    have hzm : (z.startPc, z.endPc, z.handlerPc, z.catchType) ∈ pre := by rw [← hp1]; exact List.mem_map.mpr ⟨z, hz, rfl⟩
    have hno := hpre _ hzm
    dsimp only at hno
    split at hno
    · cases hno
    · rename_i hnc
      obtain ⟨m1, x2, m2, m3, m4⟩ := hho _ (by rw [hsp]; exact List.mem_append_left _ hzm)
      dsimp only at m1 m2 m3
      by_cases hcov : z.startPc ≤ pc ∧ pc < z.endPc
      · refine Or.inr ⟨m1, _, hts _ m3, hZs.2.2.2.2.2.2.1 (E, exn.getD x2 "") (exn_nc E n4 _ m4 (fun he => hnc ⟨hcov.1, hcov.2, ?_⟩))⟩
        rw [m2, he]
        rfl
      · refine Or.inl ?_
        simp only [covers, Bool.and_eq_false_iff, decide_eq_false_iff_not]
        by_cases h1 : z.startPc ≤ pc
        · exact Or.inr (fun h2 => hcov ⟨h1, h2⟩)
        · exact Or.inl h1
  · cases hx
end CR
