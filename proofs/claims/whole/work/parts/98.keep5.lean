/-! WHAT THE CALLS KEEP: codes, what holds, nothing sticks before the sealing. -/
def cR (κ : Mu) (r : Rz) : Prop := (r.1 = 0 ∨ r.1 = 1 ∨ r.1 = 2) ∧ (¬ r.1 = 0 → r.2.1 = κ)
def U5 (κ : Mu) : Prop := κ 1 0 = 0 → ∀ i, κ 5 i = 0
section KP5
variable {κ : Mu} {n : Nat}
theorem cR_0 {κ' : Mu} {a : Int} : cR κ (0, κ', a) := ⟨Or.inl rfl, fun h => absurd rfl h⟩
theorem cR_1 {a : Int} : cR κ (1, κ, a) := ⟨Or.inr (Or.inl rfl), fun _ => rfl⟩
theorem cR_2 {a : Int} : cR κ (2, κ, a) := ⟨Or.inr (Or.inr rfl), fun _ => rfl⟩
theorem c_tub (z x a t : Int) : cR κ (tubS κ z x a t) := by
  unfold tubS
  split
  · exact cR_1
  · split
    · exact cR_2
    · exact cR_0
theorem c_sta (s z x : Int) : cR κ (staS κ s z x) := by
  unfold staS
  split
  · exact cR_1
  · split
    · exact cR_2
    · exact cR_0
theorem c_bay (b za na zb nb : Int) : cR κ (bayS κ b za na zb nb) := by
  unfold bayS
  split
  · exact cR_1
  · split
    · exact cR_2
    · exact cR_0
theorem c_sel : cR κ (selS κ) := by
  unfold selS
  split
  · exact cR_1
  · split
    · exact cR_0
    · split
      · exact cR_0
      · split
        · exact cR_0
        · exact cR_0
theorem c_snd (x y p : Int) : cR κ (sndS κ n x y p) := by
  unfold sndS
  split
  · exact cR_1
  · split
    · exact cR_2
    · exact cR_0
theorem c_tak (s : Int) : cR κ (takS κ n s) := by
  unfold takS
  split
  · exact cR_1
  · split
    · exact cR_0
    · exact cR_2
theorem c_tik (p : Int) : cR κ (tikS κ n p) := by
  unfold tikS
  split
  · exact cR_1
  · split
    · exact cR_2
    · exact cR_0
theorem c_stk (z x o : Int) : cR κ (stkS κ z x o) := by
  unfold stkS
  split
  · exact cR_1
  · split
    · exact cR_2
    · exact cR_0
theorem c_clo (z o : Int) : cR κ (cloS κ n z o) := by
  unfold cloS
  split
  · exact cR_1
  · split
    · exact cR_2
    · split
      · exact cR_0
      · exact cR_0
theorem c_job (j w : Int) : cR κ (jobS κ n j w) ∧ (jobS κ n j w).2.1 = κ := by
  unfold jobS
  split
  · exact ⟨cR_1, rfl⟩
  · split
    · exact ⟨cR_2, rfl⟩
    · exact ⟨cR_0, rfl⟩
theorem c_ahd (j i : Int) : cR κ (ahdS κ n j i) ∧ (ahdS κ n j i).2.1 = κ ∧ (¬ (ahdS κ n j i).1 = 0 → (ahdS κ n j i).2.2 = 0) := by
  unfold ahdS
  split
  · exact ⟨cR_1, rfl, fun _ => rfl⟩
  · split
    · exact ⟨cR_2, rfl, fun _ => rfl⟩
    · exact ⟨cR_0, rfl, fun h => absurd rfl h⟩
theorem c_stc (j p : Int) : cR κ (stcS κ n j p) ∧ (stcS κ n j p).2.1 = κ := by
  unfold stcS
  split
  · exact ⟨cR_1, rfl⟩
  · split
    · exact ⟨cR_2, rfl⟩
    · exact ⟨cR_0, rfl⟩
theorem c_tim (x y : Int) : cR κ (timS κ x y) ∧ (timS κ x y).2.1 = κ := by
  unfold timS
  split
  · exact ⟨cR_1, rfl⟩
  · split
    · exact ⟨cR_2, rfl⟩
    · exact ⟨cR_0, rfl⟩
theorem iv_tub (hI : Inv κ n) (z x a t : Int) : Inv (tubS κ z x a t).2.1 n := by
  unfold tubS
  split
  · exact hI
  · next hg =>
    split
    · exact hI
    · next h => exact Inv_tub hI (Classical.not_not.mp hg) (Classical.byContradiction fun q => h (Or.inl q)) (fun q => h (Or.inr q))
theorem iv_sta (hI : Inv κ n) (s z x : Int) : Inv (staS κ s z x).2.1 n := by
  unfold staS
  split
  · exact hI
  · next hg =>
    split
    · exact hI
    · next h => exact Inv_sta hI (Classical.not_not.mp hg) (Classical.byContradiction fun q => h (Or.inl q)) (Classical.byContradiction fun q => h (Or.inr (Or.inl q))) (Classical.byContradiction fun q => h (Or.inr (Or.inr q)))
theorem iv_bay (hI : Inv κ n) (b za na zb nb : Int) : Inv (bayS κ b za na zb nb).2.1 n := by
  unfold bayS
  split
  · exact hI
  · next hg =>
    split
    · exact hI
    · next h => exact Inv_bay hI (Classical.not_not.mp hg) (Classical.byContradiction fun q => h (Or.inl q)) (Classical.byContradiction fun q => h (Or.inr (Or.inl q))) (Classical.byContradiction fun q => h (Or.inr (Or.inr (Or.inl q)))) (Classical.byContradiction fun q => h (Or.inr (Or.inr (Or.inr q))))
theorem iv_sel (hI : Inv κ n) : Inv (selS κ).2.1 n := by
  unfold selS
  split
  · exact hI
  · split
    · exact hI
    · split
      · exact hI
      · split
        · exact hI
        · next h => exact Inv_sl hI (fun s t hs ht h1 h2 h3 q => h ⟨s, t, hs, ht, h1, h2, h3, q⟩)
theorem iv_snd (hI : Inv κ n) (x y p : Int) : Inv (sndS κ n x y p).2.1 (if (sndS κ n x y p).1 = 0 then n + 1 else n) := by
  unfold sndS
  split
  · exact hI
  · next hg =>
    split
    · exact hI
    · next h =>
      have hg := Classical.not_not.mp hg
      obtain ⟨g1, g2, g3, g4⟩ := hg
      have h1 : κ 1 0 = 1 := hI.2.2.2.1.1.elim (fun q => absurd (Or.inl q) h) id
      have n40 : n < 40 := by
        have := hI.2.2.1.2
        have : ¬ n = 40 := fun q => h (Or.inr (Or.inr q))
        omega
      have x0 := g1.1
      have x1 := g1.2.1
      have y0 := g2.1
      have y1 := g2.2.1
      show Inv (snS κ n x y p (wyS κ (κ 7 x.toNat) (κ 7 y.toNat))) (if (0 : Int) = 0 then n + 1 else n)
      rw [if_pos rfl]
      refine Inv_sn hI n40 h1 ⟨x0, by omega, g1.2.2⟩ ⟨y0, by omega, g2.2.2⟩ ?_
      have hne := st_ne hI.2.1 (s := x.toNat) (t := y.toNat) (by omega) (by omega) (by omega) g1.2.2 g2.2.2
      unfold wyS
      split
      · exact fW_w hne (hI.2.2.2.2.2.2.2 h1 x.toNat y.toNat (by omega) (by omega) (by omega) g1.2.2 g2.2.2)
      · next q => exact fW_w hne q
theorem iv_tak (hI : Inv κ n) (s : Int) : Inv (takS κ n s).2.1 n := by
  unfold takS
  split
  · exact hI
  · split
    · next h =>
      have hb := Classical.epsilon_spec h
      exact Inv_tak hI hb.1.1 hb.1.2.1
    · exact hI
theorem iv_tik (hI : Inv κ n) (p : Int) : Inv (tikS κ n p).2.1 n := by
  unfold tikS
  split
  · exact hI
  · split
    · exact hI
    · exact Inv_tks hI _
theorem iv_stk (hI : Inv κ n) (z x : Int) {o : Int} (ho : o = 0 ∨ o = 1) : Inv (stkS κ z x o).2.1 n := by
  unfold stkS
  split
  · exact hI
  · split
    · exact hI
    · exact Inv_fl hI (Or.inl rfl) ho
theorem iv_clo (hI : Inv κ n) (z : Int) {o : Int} (ho : o = 0 ∨ o = 1) : Inv (cloS κ n z o).2.1 n := by
  unfold cloS
  split
  · exact hI
  · split
    · exact hI
    · split
      · exact hI
      · exact Inv_plns (Inv_fl hI (Or.inr rfl) ho) n (Nat.le_refl _)
theorem u5_cg {κ' : Mu} (h : U5 κ) (h1 : κ' 1 0 = κ 1 0) (h5 : ∀ i, κ' 5 i = κ 5 i) : U5 κ' := fun q i => by rw [h5]; exact h (by rw [← h1]; exact q) i
theorem u5_s {κ' : Mu} (h : ¬ κ' 1 0 = 0) : U5 κ' := fun q => absurd q h
theorem u5_tub (h : U5 κ) (z x a t : Int) : U5 (tubS κ z x a t).2.1 := by
  unfold tubS
  split
  · exact h
  · split
    · exact h
    · exact u5_cg h rfl (fun i => rfl)
theorem u5_sta (h : U5 κ) (s z x : Int) : U5 (staS κ s z x).2.1 := by
  unfold staS
  split
  · exact h
  · split
    · exact h
    · exact u5_cg h rfl (fun i => rfl)
theorem u5_bay (h : U5 κ) (b za na zb nb : Int) : U5 (bayS κ b za na zb nb).2.1 := by
  unfold bayS
  split
  · exact h
  · split
    · exact h
    · exact u5_cg h rfl (fun i => rfl)
theorem u5_sel (h : U5 κ) : U5 (selS κ).2.1 := by
  unfold selS
  split
  · exact h
  · split
    · exact h
    · split
      · exact h
      · split
        · exact h
        · exact u5_s (by show ¬ mup κ 1 0 1 1 0 = 0; rw [mup_eq]; omega)
theorem u5_snd (h : U5 κ) (x y p : Int) : U5 (sndS κ n x y p).2.1 := by
  unfold sndS
  split
  · exact h
  · split
    · exact h
    · next q =>
      refine u5_s (fun q2 => q (Or.inl ?_))
      have e : snS κ n x y p (wyS κ (κ 7 x.toNat) (κ 7 y.toNat)) 1 0 = κ 1 0 := by
        unfold snS gW
        rw [mup_f rfl, mup_f rfl, mup_f rfl, mup_f rfl, mup_f rfl, mup_f rfl, mup_f rfl, mup_f rfl, mup_f rfl, mup_f rfl, mup_f rfl, mup_f rfl, mup_f rfl]
      rw [← e]
      exact q2
theorem u5_tak (h : U5 κ) (s : Int) : U5 (takS κ n s).2.1 := by
  unfold takS
  split
  · exact h
  · split
    · exact u5_cg h rfl (fun i => rfl)
    · exact h
theorem cT_1 (j : Nat) : cT κ j 1 0 = κ 1 0 := by
  unfold cT
  split
  · rfl
  · rfl
theorem mvS_1 (j : Nat) : mvS κ j 1 0 = κ 1 0 := by
  unfold mvS
  split
  · split
    · rfl
    · split
      · rw [cT_1]
        rfl
      · rfl
  · rfl
theorem mZs_1 : ∀ i, mZs κ n i 1 0 = κ 1 0 := by
  intro i
  induction i with
  | zero => rfl
  | succ i ih =>
    show mZ (mZs κ n i) n i 1 0 = _
    unfold mZ
    split
    · rw [mvS_1, ih]
    · exact ih
theorem bZs_1 : ∀ i, bZs κ n i 1 0 = κ 1 0 := by
  intro i
  induction i with
  | zero => rfl
  | succ i ih =>
    show bZ (bZs κ n i) n i 1 0 = _
    unfold bZ
    split
    · exact ih
    · exact ih
theorem tks_1 : ∀ i, tks κ n i 1 0 = κ 1 0 := by
  intro i
  induction i with
  | zero => rfl
  | succ i ih =>
    show tk (tks κ n i) n 1 0 = κ 1 0
    rw [tk_eq, mup_f rfl, bZs_1, mZs_1, mup_f rfl, ih]
theorem u5_tik (h : U5 κ) (p : Int) : U5 (tikS κ n p).2.1 := by
  unfold tikS
  split
  · exact h
  · split
    · exact h
    · next q => exact u5_s (fun y => q (by rw [← tks_1 (κ := κ) (n := n) p.toNat]; exact y))
theorem u5_stk (h : U5 κ) (z x o : Int) : U5 (stkS κ z x o).2.1 := by
  unfold stkS
  split
  · exact h
  · split
    · exact h
    · next q => exact u5_s (fun y => q (by have y : mup κ 5 (10 * z + x).toNat o 1 0 = 0 := y; rw [mup_f rfl] at y; exact y))
theorem plns_1 : ∀ i, plns κ i 1 0 = κ 1 0 := by
  intro i
  induction i with
  | zero => rfl
  | succ i ih =>
    show pln (plns κ i) i 1 0 = κ 1 0
    unfold pln
    split
    · unfold gW
      rw [mup_f rfl, mup_f rfl, mup_f rfl]
      exact ih
    · exact ih
theorem u5_clo (h : U5 κ) (z o : Int) : U5 (cloS κ n z o).2.1 := by
  unfold cloS
  split
  · exact h
  · split
    · exact h
    · split
      · exact h
      · next q _ => exact u5_s (fun y => q (by have y : plns (mup κ 6 z.toNat o) n 1 0 = 0 := y; rw [plns_1, mup_f rfl] at y; exact y))
end KP5
