/-! WHAT HOLDS OF THE NUMBERS between calls. -/
/-- a node is less deep than its zone has nodes -/
def Dc (κ : Mu) : Prop := ∀ x, nod κ x → κ 40 x.toNat < (cnt (fun i => nod κ (10 * (x / 10) + i)) 10 : Int)
def Plc (κ : Mu) : Prop := (∀ s : Nat, s < 12 → ¬ κ 7 s = -1 → nod κ (κ 7 s) ∧ κ 4 (κ 7 s).toNat = 1 + s) ∧
  (∀ b : Nat, b < 6 → ¬ κ 8 b = -1 → nod κ (κ 8 b) ∧ nod κ (κ 9 b) ∧ ¬ κ 8 b / 10 = κ 9 b / 10 ∧ κ 4 (κ 8 b).toNat = 50 + b ∧ κ 4 (κ 9 b).toNat = 50 + b) ∧
  (∀ x : Nat, x < 50 → ¬ κ 4 x = 0 → (∃ s : Nat, s < 12 ∧ κ 7 s = x) ∨ ∃ b : Nat, b < 6 ∧ ¬ κ 8 b = -1 ∧ (κ 8 b = x ∨ κ 9 b = x)) ∧ Dc κ
theorem Plc_b {κ : Mu} (h : Plc κ) : Bays κ := fun b hb h8 => ⟨(h.2.1 b hb h8).1, (h.2.1 b hb h8).2.1, (h.2.1 b hb h8).2.2.1⟩
/-- a way from x to g over z zones by the bays f and s -/
def Wok (κ : Mu) (x g z f s : Int) : Prop := ¬ x = g ∧ ((z = 1 ∧ x / 10 = g / 10) ∨
  (0 ≤ f ∧ f < 6 ∧ ¬ eI κ f.toNat (x / 10) = -1 ∧ ¬ eI κ f.toNat (x / 10) = x ∧
    ((z = 2 ∧ oE κ f.toNat (eI κ f.toNat (x / 10)) / 10 = g / 10) ∨
     (z = 3 ∧ 0 ≤ s ∧ s < 6 ∧ ¬ s = f ∧ ¬ eI κ s.toNat (oE κ f.toNat (eI κ f.toNat (x / 10)) / 10) = -1 ∧ oE κ s.toNat (eI κ s.toNat (oE κ f.toNat (eI κ f.toNat (x / 10)) / 10)) / 10 = g / 10))))
def Dn (κ : Mu) (j : Nat) : Prop := κ 13 j = 3 ∨ κ 13 j = 5
/-- a job that moves or sticks, on its path -/
def Prg (κ : Mu) (j : Nat) : Prop := ∃ u w i, Pth κ (κ 18 j) (gOf κ j) u w ∧ 1 ≤ i ∧ i ≤ u + w ∧ (κ 13 j = 1 → wen κ (κ 18 j) (gOf κ j) u w (i - 1) ≤ κ 23 j ∧ κ 23 j < wen κ (κ 18 j) (gOf κ j) u w i) ∧ (κ 13 j = 4 → κ 23 j = wen κ (κ 18 j) (gOf κ j) u w i)
def JI (κ : Mu) (j : Nat) : Prop := (0 ≤ κ 16 j ∧ κ 16 j < 12 ∧ ¬ κ 7 (κ 16 j).toNat = -1) ∧ (0 ≤ κ 17 j ∧ κ 17 j < 12 ∧ ¬ κ 7 (κ 17 j).toNat = -1) ∧ nod κ (κ 18 j) ∧ (0 ≤ κ 13 j ∧ κ 13 j ≤ 5) ∧
  (Dn κ j → κ 19 j = 0) ∧ (¬ Dn κ j → Wok κ (κ 18 j) (κ 7 (κ 16 j).toNat) (κ 19 j) (κ 20 j) (κ 21 j)) ∧ (uw κ j → Prg κ j) ∧ (κ 13 j = 2 → 0 ≤ κ 22 j ∧ κ 22 j < 6 ∧ ¬ κ 8 (κ 22 j).toNat = -1)
def Inv (κ : Mu) (n : Nat) : Prop := Tr κ ∧ Plc κ ∧ (κ 10 0 = n ∧ n ≤ 40) ∧ ((κ 1 0 = 0 ∨ κ 1 0 = 1) ∧ (∀ z, κ 6 z = 0 ∨ κ 6 z = 1) ∧ ∀ x, κ 5 x = 0 ∨ κ 5 x = 1) ∧ (∀ j, j < n → JI κ j) ∧ (∀ i j, i < n → j < n → uw κ i → uw κ j → κ 18 i / 10 = κ 18 j / 10 → i = j) ∧ (0 < n → κ 1 0 = 1) ∧
  (κ 1 0 = 1 → ∀ s t : Nat, s < 12 → t < 12 → ¬ s = t → ¬ κ 7 s = -1 → ¬ κ 7 t = -1 → ¬ (fW κ (κ 7 s) (κ 7 t) 0).1 = -1)
section IV
variable {κ : Mu} {n j : Nat}
theorem gOf_ok (hP : Plc κ) (h : JI κ j) (hd : ¬ Dn κ j) : nod κ (gOf κ j) ∧ gOf κ j / 10 = κ 18 j / 10 ∧ ¬ gOf κ j = κ 18 j ∧ (¬ κ 19 j = 1 → 0 ≤ κ 20 j ∧ κ 20 j < 6 ∧ ¬ κ 8 (κ 20 j).toNat = -1) ∧ 1 ≤ κ 19 j ∧ κ 19 j ≤ 3 := by
  obtain ⟨⟨a1, a2, a3⟩, _, a4, _, _, a5, _⟩ := h
  have b1 := (hP.1 (κ 16 j).toNat (by omega) a3).1
  unfold gOf
  rcases a5 hd with ⟨c3, ⟨c1, c2⟩ | ⟨c1, c2, c3, c4, c5⟩⟩
  · rw [if_pos c1]
    exact ⟨b1, c2.symm, fun z => c3 z.symm, fun z => absurd c1 z, by omega, by omega⟩
  · have hz : ¬ κ 19 j = 1 ∧ κ 19 j ≤ 3 ∧ 1 ≤ κ 19 j := by
      rcases c5 with c5 | c5
      · have := c5.1
        omega
      · have := c5.1
        omega
    rw [if_neg hz.1]
    have e := eI_sp (Plc_b hP) (b := (κ 20 j).toNat) (by omega) c3
    exact ⟨e.2.1, e.2.2.1, c4, fun _ => ⟨c1, c2, e.1⟩, hz.2.2, hz.2.1⟩
theorem tub_pos {a b : Int} {u w : Nat} (hT : Tr κ) (ha : nod κ a) (hb : nod κ b) (hP : Pth κ a b u w) {s : Nat} (hs : s < u + w) : 1 ≤ tub κ a b u w s := by
  have key : ∀ x, nod κ x → ∀ i, i < dpt κ x → 1 ≤ κ 3 (anc κ x i).toNat := by
    intro x hx i hi
    have h1 := anc_dep hT hx i (by omega)
    obtain ⟨g1, g2, g3, g4, g⟩ := hT _ h1.1
    rcases g with ⟨g5, g6, g7⟩ | ⟨g5, g6, g7, g8, g9⟩
    · have := h1.2.1
      unfold dpt at this hi
      omega
    · exact g6
  have a1 := hP.1
  have a2 := hP.2.1
  unfold tub
  split
  · next h => exact key a ha s (by omega)
  · next h =>
    rw [pth_dn (s := s + 1) hP (by omega)]
    exact key b hb _ (by omega)
theorem wen_lt {a b : Int} {u w : Nat} (hT : Tr κ) (ha : nod κ a) (hb : nod κ b) (hP : Pth κ a b u w) {i : Nat} : ∀ s, i < s → s ≤ u + w → wen κ a b u w i < wen κ a b u w s := by
  intro s
  induction s with
  | zero => intro h; omega
  | succ s ih =>
    intro hi hs
    have h1 := tub_pos hT ha hb hP (s := s) (by omega)
    have h2 : wen κ a b u w (s + 1) = wen κ a b u w s + tub κ a b u w s + (if 0 < s then 2 else 0) := rfl
    rw [h2]
    by_cases e : i = s
    · rw [e]
      split <;> omega
    · have h3 := ih (by omega) (by omega)
      split <;> omega
theorem wen_inj {a b : Int} {u w : Nat} (hT : Tr κ) (ha : nod κ a) (hb : nod κ b) (hP : Pth κ a b u w) {i s : Nat} (hi : i ≤ u + w) (hs : s ≤ u + w) (h : wen κ a b u w i = wen κ a b u w s) : i = s := by
  rcases Nat.lt_trichotomy i s with z | z | z
  · have := wen_lt hT ha hb hP s z hs
    omega
  · exact z
  · have := wen_lt hT ha hb hP i z hi
    omega
theorem Prg_bd (hT : Tr κ) (hP : Plc κ) (h : JI κ j) (hu : uw κ j) : 0 ≤ κ 23 j ∧ κ 23 j ≤ 1000 := by
  have hd : ¬ Dn κ j := by
    unfold Dn uw at *
    omega
  have hg := gOf_ok hP h hd
  obtain ⟨u, w, i, hp, h1, h2, h3, h4⟩ := h.2.2.2.2.2.2.1 hu
  have b1 := wen_bd hT h.2.2.1 hg.1 hp i h2
  have b2 := wen_bd hT h.2.2.1 hg.1 hp (i - 1) (by omega)
  have c1 := (hT _ h.2.2.1).2.1
  have c2 := hp.1
  have c3 := (hT _ hg.1).2.1
  have c4 := hp.2.1
  unfold dpt at c2 c4
  rcases hu with z | z
  · have := h3 z
    omega
  · have := h4 z
    omega
end IV
/-- the path's two lengths -/
noncomputable def pU (κ : Mu) (a b : Int) : Nat × Nat := Classical.epsilon (fun p : Nat × Nat => Pth κ a b p.1 p.2)
theorem pU_eq {κ : Mu} {a b : Int} {u w : Nat} (h : Pth κ a b u w) : pU κ a b = (u, w) := by
  have hx : ∃ p : Nat × Nat, Pth κ a b p.1 p.2 := ⟨(u, w), h⟩
  have h1 := Classical.epsilon_spec hx
  have e := Pth_un h1 h
  exact Prod.ext e.1 e.2
/-- a job's arrival -/
def cT (κ : Mu) (j : Nat) : Mu := if κ 19 j = 1 then mup (mup (mup (mup κ 23 j 0) 13 j 3) 19 j 0) 24 j (κ 11 0)
  else mup (mup (mup (mup (mup (mup (mup κ 23 j 0) 13 j 2) 22 j (κ 20 j)) 18 j (oE κ (κ 20 j).toNat (gOf κ j))) 19 j (κ 19 j - 1)) 20 j (κ 21 j)) 21 j (-1)
def gn (κ : Mu) (j : Nat) : Int := κ 23 j + (if κ 13 j = 4 then 0 else 1)
def ixP (κ : Mu) (j : Nat) (u w i : Nat) : Prop := 1 ≤ i ∧ i ≤ u + w ∧ wen κ (κ 18 j) (gOf κ j) u w i = gn κ j
/-- a job's move of one tick, on a path of lengths u and w -/
noncomputable def mvS (κ : Mu) (j : Nat) : Mu := by
  classical
  exact
    let u := (pU κ (κ 18 j) (gOf κ j)).1
    let w := (pU κ (κ 18 j) (gOf κ j)).2
    if ∃ i, ixP κ j u w i then
      (if ¬ κ 5 (pth κ (κ 18 j) (gOf κ j) u w (Classical.epsilon (ixP κ j u w))).toNat = 0 then mup (mup κ 23 j (gn κ j)) 13 j 4
       else if Classical.epsilon (ixP κ j u w) = u + w then cT (mup (mup κ 23 j (gn κ j)) 13 j 1) j else mup (mup κ 23 j (gn κ j)) 13 j 1)
    else mup (mup κ 23 j (gn κ j)) 13 j 1
theorem mvS_no {κ : Mu} {j u w : Nat} (h : Pth κ (κ 18 j) (gOf κ j) u w) (hn : ∀ i, ¬ ixP κ j u w i) : mvS κ j = mup (mup κ 23 j (gn κ j)) 13 j 1 := by
  unfold mvS
  rw [pU_eq h]
  exact if_neg (fun z => by obtain ⟨i, hi⟩ := z; exact hn i hi)
theorem mvS_at {κ : Mu} {j u w i : Nat} (hT : Tr κ) (hx : nod κ (κ 18 j)) (hg : nod κ (gOf κ j)) (h : Pth κ (κ 18 j) (gOf κ j) u w) (hi : ixP κ j u w i) : mvS κ j = if ¬ κ 5 (pth κ (κ 18 j) (gOf κ j) u w i).toNat = 0 then mup (mup κ 23 j (gn κ j)) 13 j 4 else if i = u + w then cT (mup (mup κ 23 j (gn κ j)) 13 j 1) j else mup (mup κ 23 j (gn κ j)) 13 j 1 := by
  have hx2 : ∃ i, ixP κ j u w i := ⟨i, hi⟩
  have h1 := Classical.epsilon_spec hx2
  have e : Classical.epsilon (ixP κ j u w) = i := wen_inj hT hx hg h h1.2.1 hi.2.1 (by rw [h1.2.2, hi.2.2])
  unfold mvS
  rw [pU_eq h]
  dsimp only
  rw [if_pos hx2, e]
