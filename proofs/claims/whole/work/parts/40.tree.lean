/-! THE TREES: nodes are numbers 10 * zone + node; field 40 of κ is no field of the reference, it keeps a node's depth. -/
def anc (κ : Mu) (x : Int) : Nat → Int
  | 0 => x
  | i + 1 => κ 2 (anc κ x i).toNat
def nod (κ : Mu) (x : Int) : Prop := 0 ≤ x ∧ x < 50 ∧ ¬ κ 2 x.toNat = -1
abbrev dpt (κ : Mu) (x : Int) : Nat := (κ 40 x.toNat).toNat
def Tr (κ : Mu) : Prop := ∀ x, nod κ x → 0 ≤ κ 40 x.toNat ∧ κ 40 x.toNat ≤ 9 ∧ 0 ≤ κ 3 x.toNat ∧ κ 3 x.toNat ≤ 9 ∧
  ((κ 2 x.toNat = 99 ∧ x % 10 = 0 ∧ κ 40 x.toNat = 0) ∨ (¬ κ 2 x.toNat = 99 ∧ 1 ≤ κ 3 x.toNat ∧ nod κ (κ 2 x.toNat) ∧ κ 2 x.toNat / 10 = x / 10 ∧ κ 40 x.toNat = κ 40 (κ 2 x.toNat).toNat + 1))
section TRE
variable {κ : Mu} {x a b : Int}
theorem anc_dep (hT : Tr κ) (hx : nod κ x) : ∀ i, i ≤ dpt κ x → nod κ (anc κ x i) ∧ dpt κ (anc κ x i) = dpt κ x - i ∧ anc κ x i / 10 = x / 10 := by
  intro i
  induction i with
  | zero => intro _; exact ⟨hx, rfl, rfl⟩
  | succ i ih =>
    intro hi
    obtain ⟨h1, h2, h3⟩ := ih (by omega)
    obtain ⟨g1, g2, g3, g4, g⟩ := hT _ h1
    rcases g with ⟨g5, g6, g7⟩ | ⟨g5, g6, g7, g8, g9⟩
    · unfold dpt at h2 hi
      omega
    · refine ⟨g7, ?_, by rw [← h3]; exact g8⟩
      show dpt κ (κ 2 (anc κ x i).toNat) = _
      have := (hT _ g7).1
      unfold dpt at h2 hi ⊢
      omega
theorem anc_root (hT : Tr κ) (hx : nod κ x) : anc κ x (dpt κ x) = 10 * (x / 10) ∧ κ 2 (anc κ x (dpt κ x)).toNat = 99 := by
  obtain ⟨h1, h2, h3⟩ := anc_dep hT hx (dpt κ x) (Nat.le_refl _)
  obtain ⟨g1, g2, g3, g4, g⟩ := hT _ h1
  rcases g with ⟨g5, g6, g7⟩ | ⟨g5, g6, g7, g8, g9⟩
  · exact ⟨by omega, g5⟩
  · have g10 := (hT _ g7).1
    have e : (κ 40 (anc κ x (dpt κ x)).toNat).toNat = 0 := by
      rw [Nat.sub_self] at h2
      exact h2
    omega
/-- where two paths upward meet -/
def Pth (κ : Mu) (a b : Int) (u w : Nat) : Prop := u ≤ dpt κ a ∧ w ≤ dpt κ b ∧ anc κ a u = anc κ b w ∧ ∀ i t, i ≤ dpt κ a → t ≤ dpt κ b → anc κ a i = anc κ b t → u ≤ i ∧ w ≤ t
theorem anc_inj (hT : Tr κ) (hx : nod κ x) {i j : Nat} (hi : i ≤ dpt κ x) (hj : j ≤ dpt κ x) (h : anc κ x i = anc κ x j) : i = j := by
  have h1 := (anc_dep hT hx i hi).2.1
  have h2 := (anc_dep hT hx j hj).2.1
  rw [h] at h1
  omega
theorem Pth_ex (hT : Tr κ) (ha : nod κ a) (hb : nod κ b) (hz : a / 10 = b / 10) : ∃ u w, Pth κ a b u w := by
  have key : ∀ n, n ≤ dpt κ a → (∀ i, i < n → ∀ t, t ≤ dpt κ b → ¬ anc κ a i = anc κ b t) → ∃ u w, Pth κ a b u w := by
    refine dnw _ (dpt κ a) (fun h => ?_) (fun n hn ih h => ?_)
    · refine ⟨dpt κ a, dpt κ b, Nat.le_refl _, Nat.le_refl _, ?_, fun i t hi ht he => ?_⟩
      · rw [(anc_root hT ha).1, (anc_root hT hb).1, hz]
      · have : dpt κ a ≤ i := Nat.le_of_not_lt (fun z => h i z t ht he)
        refine ⟨this, ?_⟩
        have e : i = dpt κ a := by omega
        have h1 := (anc_dep hT ha i hi).2.1
        have h2 := (anc_dep hT hb t ht).2.1
        rw [he] at h1
        omega
    · by_cases hc : ∃ t, t ≤ dpt κ b ∧ anc κ a n = anc κ b t
      · obtain ⟨t, ht, he⟩ := hc
        refine ⟨n, t, by omega, ht, he, fun i s hi hs hq => ?_⟩
        have h3 : n ≤ i := Nat.le_of_not_lt (fun z => h i z s hs hq)
        refine ⟨h3, ?_⟩
        have h1 := (anc_dep hT ha i hi).2.1
        have h2 := (anc_dep hT hb s hs).2.1
        have h4 := (anc_dep hT ha n (by omega)).2.1
        have h5 := (anc_dep hT hb t ht).2.1
        rw [hq] at h1
        rw [he] at h4
        omega
      · refine ih (fun i hi t ht he => ?_)
        by_cases e : i = n
        · exact hc ⟨t, ht, by rw [← e]; exact he⟩
        · exact h i (by omega) t ht he
  exact key 0 (Nat.zero_le _) (fun i hi => absurd hi (Nat.not_lt_zero _))
theorem Pth_un {u w u' w' : Nat} (h : Pth κ a b u w) (h' : Pth κ a b u' w') : u = u' ∧ w = w' := by
  have h1 := h.2.2.2 u' w' h'.1 h'.2.1 h'.2.2.1
  have h2 := h'.2.2.2 u w h.1 h.2.1 h.2.2.1
  omega
/-- the climb's choice -/
theorem Pth_step (hT : Tr κ) (ha : nod κ a) (hb : nod κ b) {u w i t : Nat} (h : Pth κ a b u w) (hi : i ≤ u) (ht : t ≤ w) (hne : ¬ anc κ a i = anc κ b t) : (κ 40 (anc κ b t).toNat ≤ κ 40 (anc κ a i).toNat → i < u) ∧ (κ 40 (anc κ a i).toNat < κ 40 (anc κ b t).toNat → t < w) := by
  have h1 := anc_dep hT ha i (Nat.le_trans hi h.1)
  have h2 := anc_dep hT hb t (Nat.le_trans ht h.2.1)
  have h3 := anc_dep hT ha u h.1
  have h4 := anc_dep hT hb w h.2.1
  have e := h.2.2.1
  have a1 := h.1
  have a2 := h.2.1
  rw [e] at h3
  have g1 := (hT _ h1.1).1
  have g2 := (hT _ h2.1).1
  have g3 := (hT _ h3.1).1
  obtain ⟨h11, h12, h13⟩ := h1
  obtain ⟨h21, h22, h23⟩ := h2
  obtain ⟨h31, h32, h33⟩ := h3
  obtain ⟨h41, h42, h43⟩ := h4
  unfold dpt at *
  constructor
  · intro hd
    refine Nat.lt_of_not_le (fun hz => ?_)
    have e1 : i = u := by omega
    have e2 : t = w := by
      rw [e1, e] at hd
      have : κ 40 (anc κ a i).toNat = κ 40 (anc κ b w).toNat := by rw [e1, e]
      omega
    exact hne (by rw [e1, e2]; exact e)
  · intro hd
    refine Nat.lt_of_not_le (fun hz => ?_)
    have e1 : t = w := by omega
    rw [e1] at hd
    omega
theorem Pth_eq (hT : Tr κ) {u w i t : Nat} (h : Pth κ a b u w) (hi : i ≤ u) (ht : t ≤ w) (he : anc κ a i = anc κ b t) : i = u ∧ t = w := by
  have := h.2.2.2 i t (Nat.le_trans hi h.1) (Nat.le_trans ht h.2.1) he
  omega
/-- the path, and when its nodes are come to -/
def pth (κ : Mu) (a b : Int) (u w i : Nat) : Int := if i ≤ u then anc κ a i else anc κ b (u + w - i)
def tub (κ : Mu) (a b : Int) (u w i : Nat) : Int := if i < u then κ 3 (anc κ a i).toNat else κ 3 (pth κ a b u w (i + 1)).toNat
def wen (κ : Mu) (a b : Int) (u w : Nat) : Nat → Int
  | 0 => 0
  | i + 1 => wen κ a b u w i + tub κ a b u w i + (if 0 < i then 2 else 0)
def sma (κ : Mu) (a : Int) : Nat → Int
  | 0 => 0
  | i + 1 => sma κ a i + κ 3 (anc κ a i).toNat
theorem wen_up {u w : Nat} : ∀ i, i ≤ u → 0 < i → wen κ a b u w i = sma κ a i + 2 * ((i : Int) - 1) := by
  intro i
  induction i with
  | zero => intro _ h; omega
  | succ i ih =>
    intro hi _
    unfold wen sma tub
    rw [if_pos (by omega)]
    by_cases h0 : 0 < i
    · rw [ih (by omega) h0, if_pos h0]
      omega
    · have e : i = 0 := by omega
      subst e
      simp [wen, sma]
theorem wen_dn {u w : Nat} : ∀ s, s ≤ w → 0 < u + s → wen κ a b u w (u + s) = sma κ a u + (sma κ b w - sma κ b (w - s)) + 2 * (((u + s : Nat) : Int) - 1) := by
  intro s
  induction s with
  | zero =>
    intro _ h
    rw [Nat.add_zero, wen_up u (Nat.le_refl _) (by omega)]
    simp
  | succ s ih =>
    intro hs _
    have e1 : w - s = (w - (s + 1)) + 1 := by omega
    have e2 : sma κ b (w - s) = sma κ b (w - (s + 1)) + κ 3 (anc κ b (w - (s + 1))).toNat := by rw [e1]; rfl
    have e3 : pth κ a b u w (u + s + 1) = anc κ b (w - (s + 1)) := by
      unfold pth
      rw [if_neg (by omega)]
      exact congrArg _ (by omega)
    show wen κ a b u w (u + s) + tub κ a b u w (u + s) + (if 0 < u + s then 2 else 0) = _
    unfold tub
    rw [if_neg (by omega), e3]
    by_cases h0 : 0 < u + s
    · rw [ih (by omega) h0, if_pos h0]
      omega
    · have e4 : u = 0 := by omega
      have e5 : s = 0 := by omega
      subst e4
      subst e5
      rw [if_neg (by omega)]
      simp only [Nat.sub_zero] at e2
      simp only [Nat.zero_add, Nat.add_zero] at *
      simp only [wen, sma]
      omega
theorem wen_end {u w : Nat} (h : 0 < u + w) : wen κ a b u w (u + w) = sma κ a u + sma κ b w + 2 * (((u + w : Nat) : Int) - 1) := by
  rw [wen_dn w (Nat.le_refl _) h, Nat.sub_self]
  simp [sma]
theorem sma_bd (hT : Tr κ) (hx : nod κ x) : ∀ i, i ≤ dpt κ x + 1 → 0 ≤ sma κ x i ∧ sma κ x i ≤ 9 * i := by
  intro i
  induction i with
  | zero => intro _; exact ⟨by simp [sma], by simp [sma]⟩
  | succ i ih =>
    intro hi
    have h1 := ih (by omega)
    obtain ⟨g1, g2, g3, g4, g⟩ := hT _ (anc_dep hT hx i (by omega)).1
    unfold sma
    omega
end TRE
