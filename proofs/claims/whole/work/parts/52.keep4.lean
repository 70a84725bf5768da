/-! WHAT HOLDS is kept as the plan grows. -/
section K4
variable {κ : Mu} {n : Nat}
theorem isNd_nod {z x : Int} (h : isNd κ z x) : nod κ (10 * z + x) ∧ (10 * z + x) / 10 = z ∧ (10 * z + x) % 10 = x := by
  obtain ⟨h1, h2, h3, h4, h5⟩ := h
  exact ⟨⟨by omega, by omega, h5⟩, by omega, by omega⟩
theorem Inv_tub {z x a t : Int} (hI : Inv κ n) (hg : gTub κ z x a t) (h1 : κ 1 0 = 0) (hx : ¬ isNd κ z x) : Inv (mup (mup (mup κ 2 (10 * z + x).toNat (10 * z + a)) 3 (10 * z + x).toNat t) 40 (10 * z + x).toNat (κ 40 (10 * z + a).toNat + 1)) n := by
  have hn0 := Inv_n0 hI h1
  subst hn0
  obtain ⟨a1, a2, a3, a4, a5, a6, a7, a8⟩ := hI
  obtain ⟨g1, g2, g3, g4⟩ := hg
  obtain ⟨na, za, _⟩ := isNd_nod g4
  have nx : κ 2 (10 * z + x).toNat = -1 := Classical.byContradiction (fun y => hx ⟨g1.1, g1.2, by omega, g2.2, y⟩)
  have hne : ¬ 10 * z + a = 10 * z + x := fun y => na.2.2 (by rw [y]; exact nx)
  have f2 : mup (mup (mup κ 2 (10 * z + x).toNat (10 * z + a)) 3 (10 * z + x).toNat t) 40 (10 * z + x).toNat (κ 40 (10 * z + a).toNat + 1) 2 (10 * z + x).toNat = 10 * z + a := by rw [mup_f rfl, mup_f rfl, mup_eq]
  have f3 : mup (mup (mup κ 2 (10 * z + x).toNat (10 * z + a)) 3 (10 * z + x).toNat t) 40 (10 * z + x).toNat (κ 40 (10 * z + a).toNat + 1) 3 (10 * z + x).toNat = t := by rw [mup_f rfl, mup_eq]
  have f40 : mup (mup (mup κ 2 (10 * z + x).toNat (10 * z + a)) 3 (10 * z + x).toNat t) 40 (10 * z + x).toNat (κ 40 (10 * z + a).toNat + 1) 40 (10 * z + x).toNat = κ 40 (10 * z + a).toNat + 1 := mup_eq _ _ _ _
  have e : ∀ g i, ¬ i = (10 * z + x).toNat ∨ ¬ (g = 2 ∨ g = 3 ∨ g = 40) → mup (mup (mup κ 2 (10 * z + x).toNat (10 * z + a)) 3 (10 * z + x).toNat t) 40 (10 * z + x).toNat (κ 40 (10 * z + a).toNat + 1) g i = κ g i := by
    intro g i h
    rw [mup_ne (by omega), mup_ne (by omega), mup_ne (by omega)]
  generalize mup (mup (mup κ 2 (10 * z + x).toNat (10 * z + a)) 3 (10 * z + x).toNat t) 40 (10 * z + x).toNat (κ 40 (10 * z + a).toNat + 1) = κ' at *
  have en : ∀ y, nod κ' y ↔ (nod κ y ∨ y = 10 * z + x) := by
    intro y
    by_cases hy : y = 10 * z + x
    · refine ⟨fun _ => Or.inr hy, fun _ => ?_⟩
      rw [hy]
      exact ⟨by omega, by omega, by rw [f2]; have := na.1; omega⟩
    · unfold nod
      by_cases hr : 0 ≤ y ∧ y < 50
      · rw [e 2 y.toNat (by omega)]
        exact ⟨fun q => Or.inl q, fun q => q.elim id (fun q => absurd q hy)⟩
      · exact ⟨fun q => absurd ⟨q.1, q.2.1⟩ hr, fun q => q.elim (fun q => absurd ⟨q.1, q.2.1⟩ hr) (fun q => absurd q hy)⟩
  have ne : ∀ y, nod κ y → ¬ y.toNat = (10 * z + x).toNat := by
    intro y hy q
    have := hy.1
    have e9 : y = 10 * z + x := by omega
    exact hy.2.2 (by rw [e9]; exact nx)
  have hc0 : (cnt (fun i => nod κ (10 * ((10 * z + x) / 10) + i)) 10 : Int) < 10 := by
    have := cnt_lt (P := fun i : Nat => nod κ (10 * ((10 * z + x) / 10) + i)) (N := 10) (i := x.toNat) (by omega) (fun y => y.2.2 (by rw [show 10 * ((10 * z + x) / 10) + ((x.toNat : Nat) : Int) = 10 * z + x from by omega]; exact nx))
    omega
  have hc1 : cnt (fun i => nod κ' (10 * ((10 * z + x) / 10) + i)) 10 = cnt (fun i => nod κ (10 * ((10 * z + x) / 10) + i)) 10 + 1 := by
    refine cnt_up (i := x.toNat) 10 (by omega) (fun j hj hne => ?_) (fun y => y.2.2 ?_) ?_
    · rw [en]
      exact ⟨fun q => Or.inl q, fun q => q.elim id (fun q => by omega)⟩
    · rw [show 10 * ((10 * z + x) / 10) + ((x.toNat : Nat) : Int) = 10 * z + x from by omega]; exact nx
    · rw [en]
      exact Or.inr (by omega)
  have hza : (10 * z + a) / 10 = (10 * z + x) / 10 := by omega
  have hda := a2.2.2.2 (10 * z + a) na
  rw [hza] at hda
  have hta := a1 (10 * z + a) na
  refine Inv_un ?_ ?_ (by rw [e 10 0 (by omega)]; exact a3.1) (by rw [e 1 0 (by omega)]; exact h1) (fun y => by rw [e 6 y (by omega)]; exact a4.2.1 y) (fun y => by rw [e 5 y (by omega)]; exact a4.2.2 y)
  · intro y hy
    rcases (en y).mp hy with q | q
    · have := a1 y q
      have hq := ne y q
      rw [e 2 y.toNat (by omega), e 3 y.toNat (by omega), e 40 y.toNat (by omega)]
      obtain ⟨b1, b2, b3, b4, b5⟩ := this
      refine ⟨b1, b2, b3, b4, ?_⟩
      rcases b5 with b5 | ⟨b5, b6, b7, b8, b9⟩
      · exact Or.inl b5
      · refine Or.inr ⟨b5, b6, (en _).mpr (Or.inl b7), b8, ?_⟩
        rw [e 40 (κ 2 y.toNat).toNat (Or.inl (ne _ b7))]
        exact b9
    · subst q
      rw [f2, f3, f40]
      refine ⟨by omega, by omega, by omega, by omega, Or.inr ⟨by omega, by omega, (en _).mpr (Or.inl na), hza, ?_⟩⟩
      rw [e 40 (10 * z + a).toNat (Or.inl (ne _ na))]
  · obtain ⟨p1, p2, p3, p4⟩ := a2
    refine ⟨fun s hs h7 => ?_, fun b hb h8 => ?_, fun y hy h4 => ?_, fun y hy => ?_⟩
    · rw [e 7 s (by omega)] at h7 ⊢
      have := p1 s hs h7
      rw [e 4 _ (by omega)]
      exact ⟨(en _).mpr (Or.inl this.1), this.2⟩
    · rw [e 8 b (by omega)] at h8 ⊢
      rw [e 9 b (by omega), e 4 _ (by omega), e 4 _ (by omega)]
      have := p2 b hb h8
      exact ⟨(en _).mpr (Or.inl this.1), (en _).mpr (Or.inl this.2.1), this.2.2⟩
    · rw [e 4 y (by omega)] at h4
      rcases p3 y hy h4 with ⟨s, hs, q⟩ | ⟨b, hb, q⟩
      · exact Or.inl ⟨s, hs, by rw [e 7 s (by omega)]; exact q⟩
      · exact Or.inr ⟨b, hb, by rw [e 8 b (by omega), e 9 b (by omega)]; exact q⟩
    · by_cases hz : y / 10 = (10 * z + x) / 10
      · rw [hz, hc1]
        rcases (en y).mp hy with q | q
        · have := p4 y q
          rw [hz] at this
          rw [e 40 y.toNat (Or.inl (ne y q))]
          omega
        · subst q
          rw [f40]
          omega
      · rcases (en y).mp hy with q | q
        · have := p4 y q
          rw [e 40 y.toNat (Or.inl (ne y q))]
          rw [cnt_cg (R := fun i => nod κ (10 * (y / 10) + i)) 10 (fun j hj => by
            rw [en]
            exact ⟨fun q => q.elim id (fun q => by omega), fun q => Or.inl q⟩)]
          exact this
        · subst q
          exact absurd rfl hz
theorem PE_ne {κ κ' : Mu} (h : ∀ g i, g = 2 ∨ g = 3 ∨ g = 40 → κ' g i = κ g i) : TE κ κ' := ⟨funext fun i => h 2 i (by omega), funext fun i => h 3 i (by omega), funext fun i => h 40 i (by omega)⟩
theorem Inv_sta {s z x : Int} (hI : Inv κ n) (hg : gSta κ s z x) (h1 : κ 1 0 = 0) (h7 : κ 7 s.toNat = -1) (h4 : κ 4 (10 * z + x).toNat = 0) : Inv (mup (mup κ 7 s.toNat (10 * z + x)) 4 (10 * z + x).toNat (1 + s)) n := by
  have hn0 := Inv_n0 hI h1
  subst hn0
  obtain ⟨a1, a2, a3, a4, a5, a6, a7, a8⟩ := hI
  obtain ⟨g1, g4⟩ := hg
  obtain ⟨na, za, _⟩ := isNd_nod g4
  have f7 : mup (mup κ 7 s.toNat (10 * z + x)) 4 (10 * z + x).toNat (1 + s) 7 s.toNat = 10 * z + x := by rw [mup_f rfl, mup_eq]
  have f4 : mup (mup κ 7 s.toNat (10 * z + x)) 4 (10 * z + x).toNat (1 + s) 4 (10 * z + x).toNat = 1 + s := mup_eq _ _ _ _
  have e : ∀ g i, ¬ (g = 7 ∧ i = s.toNat) → ¬ (g = 4 ∧ i = (10 * z + x).toNat) → mup (mup κ 7 s.toNat (10 * z + x)) 4 (10 * z + x).toNat (1 + s) g i = κ g i := by
    intro g i h h'
    rw [mup_ne (by omega), mup_ne (by omega)]
  generalize mup (mup κ 7 s.toNat (10 * z + x)) 4 (10 * z + x).toNat (1 + s) = κ' at *
  have hT : TE κ κ' := PE_ne (fun g i h => e g i (by omega) (by omega))
  obtain ⟨p1, p2, p3, p4⟩ := a2
  have ne4 : ∀ y : Int, 0 ≤ y → ¬ κ 4 y.toNat = 0 → ¬ y.toNat = (10 * z + x).toNat := by
    intro y hy h q
    rw [q] at h
    exact h h4
  refine Inv_un (Tr_cg hT a1) ?_ (by rw [e 10 0 (by omega) (by omega)]; exact a3.1) (by rw [e 1 0 (by omega) (by omega)]; exact h1) (fun y => by rw [e 6 y (by omega) (by omega)]; exact a4.2.1 y) (fun y => by rw [e 5 y (by omega) (by omega)]; exact a4.2.2 y)
  refine ⟨fun t ht h => ?_, fun b hb h8 => ?_, fun y hy h => ?_, fun y hy => ?_⟩
  · rw [nod_cg hT]
    by_cases q : t = s.toNat
    · rw [q, f7, f4]
      exact ⟨na, by omega⟩
    · rw [e 7 t (by omega) (by omega)] at h ⊢
      have := p1 t ht h
      rw [e 4 _ (by omega) (fun y => ne4 (κ 7 t) this.1.1 (by rw [this.2]; omega) y.2)]
      exact this
  · rw [e 8 b (by omega) (by omega)] at h8 ⊢
    rw [e 9 b (by omega) (by omega), nod_cg hT, nod_cg hT]
    have := p2 b hb h8
    rw [e 4 _ (by omega) (fun y => ne4 (κ 8 b) this.1.1 (by rw [this.2.2.2.1]; omega) y.2), e 4 _ (by omega) (fun y => ne4 (κ 9 b) this.2.1.1 (by rw [this.2.2.2.2]; omega) y.2)]
    exact this
  · by_cases q : y = (10 * z + x).toNat
    · exact Or.inl ⟨s.toNat, by omega, by rw [f7, q]; have := na.1; omega⟩
    · rw [e 4 y (by omega) (fun w => q w.2)] at h
      rcases p3 y hy h with ⟨t, ht, w⟩ | ⟨b, hb, w⟩
      · refine Or.inl ⟨t, ht, ?_⟩
        by_cases r : t = s.toNat
        · rw [r, h7] at w
          omega
        · rw [e 7 t (by omega) (by omega)]
          exact w
      · exact Or.inr ⟨b, hb, by rw [e 8 b (by omega) (by omega), e 9 b (by omega) (by omega)]; exact w⟩
  · rw [hT.2.2]
    simp only [nod_cg hT] at hy ⊢
    exact p4 y hy
theorem Inv_bay {b za na zb nb : Int} (hI : Inv κ n) (hg : gBay κ b za na zb nb) (h1 : κ 1 0 = 0) (h8 : κ 8 b.toNat = -1) (h4 : κ 4 (10 * za + na).toNat = 0) (h4' : κ 4 (10 * zb + nb).toNat = 0) : Inv (mup (mup (mup (mup κ 8 b.toNat (10 * za + na)) 9 b.toNat (10 * zb + nb)) 4 (10 * za + na).toNat (50 + b)) 4 (10 * zb + nb).toNat (50 + b)) n := by
  have hn0 := Inv_n0 hI h1
  subst hn0
  obtain ⟨a1, a2, a3, a4, a5, a6, a7, a8⟩ := hI
  obtain ⟨g1, g2, g3, g4⟩ := hg
  obtain ⟨da, ea, _⟩ := isNd_nod g2
  obtain ⟨db, eb, _⟩ := isNd_nod g3
  have hab : ¬ (10 * za + na).toNat = (10 * zb + nb).toNat := by
    have := da.1
    have := db.1
    omega
  have f8 : mup (mup (mup (mup κ 8 b.toNat (10 * za + na)) 9 b.toNat (10 * zb + nb)) 4 (10 * za + na).toNat (50 + b)) 4 (10 * zb + nb).toNat (50 + b) 8 b.toNat = 10 * za + na := by rw [mup_f rfl, mup_f rfl, mup_f rfl, mup_eq]
  have f9 : mup (mup (mup (mup κ 8 b.toNat (10 * za + na)) 9 b.toNat (10 * zb + nb)) 4 (10 * za + na).toNat (50 + b)) 4 (10 * zb + nb).toNat (50 + b) 9 b.toNat = 10 * zb + nb := by rw [mup_f rfl, mup_f rfl, mup_eq]
  have f4 : mup (mup (mup (mup κ 8 b.toNat (10 * za + na)) 9 b.toNat (10 * zb + nb)) 4 (10 * za + na).toNat (50 + b)) 4 (10 * zb + nb).toNat (50 + b) 4 (10 * za + na).toNat = 50 + b := by rw [mup_ne (fun q => hab q.2), mup_eq]
  have f4' : mup (mup (mup (mup κ 8 b.toNat (10 * za + na)) 9 b.toNat (10 * zb + nb)) 4 (10 * za + na).toNat (50 + b)) 4 (10 * zb + nb).toNat (50 + b) 4 (10 * zb + nb).toNat = 50 + b := mup_eq _ _ _ _
  have e : ∀ g i, ¬ ((g = 8 ∨ g = 9) ∧ i = b.toNat) → ¬ (g = 4 ∧ (i = (10 * za + na).toNat ∨ i = (10 * zb + nb).toNat)) → mup (mup (mup (mup κ 8 b.toNat (10 * za + na)) 9 b.toNat (10 * zb + nb)) 4 (10 * za + na).toNat (50 + b)) 4 (10 * zb + nb).toNat (50 + b) g i = κ g i := by
    intro g i h h'
    rw [mup_ne (by omega), mup_ne (by omega), mup_ne (by omega), mup_ne (by omega)]
  generalize mup (mup (mup (mup κ 8 b.toNat (10 * za + na)) 9 b.toNat (10 * zb + nb)) 4 (10 * za + na).toNat (50 + b)) 4 (10 * zb + nb).toNat (50 + b) = κ' at *
  have hT : TE κ κ' := PE_ne (fun g i h => e g i (by omega) (by omega))
  obtain ⟨p1, p2, p3, p4⟩ := a2
  have ne4 : ∀ y : Int, 0 ≤ y → ¬ κ 4 y.toNat = 0 → ¬ (y.toNat = (10 * za + na).toNat ∨ y.toNat = (10 * zb + nb).toNat) := by
    intro y hy h q
    rcases q with q | q
    · rw [q] at h
      exact h h4
    · rw [q] at h
      exact h h4'
  refine Inv_un (Tr_cg hT a1) ?_ (by rw [e 10 0 (by omega) (by omega)]; exact a3.1) (by rw [e 1 0 (by omega) (by omega)]; exact h1) (fun y => by rw [e 6 y (by omega) (by omega)]; exact a4.2.1 y) (fun y => by rw [e 5 y (by omega) (by omega)]; exact a4.2.2 y)
  refine ⟨fun t ht h => ?_, fun c hc h => ?_, fun y hy h => ?_, fun y hy => ?_⟩
  · rw [nod_cg hT]
    rw [e 7 t (by omega) (by omega)] at h ⊢
    have := p1 t ht h
    rw [e 4 _ (by omega) (fun y => ne4 (κ 7 t) this.1.1 (by rw [this.2]; omega) y.2)]
    exact this
  · rw [nod_cg hT, nod_cg hT]
    by_cases q : c = b.toNat
    · rw [q, f8, f9, f4, f4']
      exact ⟨da, db, by omega, by omega, by omega⟩
    · rw [e 8 c (by omega) (by omega)] at h ⊢
      rw [e 9 c (by omega) (by omega)]
      have := p2 c hc h
      rw [e 4 _ (by omega) (fun y => ne4 (κ 8 c) this.1.1 (by rw [this.2.2.2.1]; omega) y.2), e 4 _ (by omega) (fun y => ne4 (κ 9 c) this.2.1.1 (by rw [this.2.2.2.2]; omega) y.2)]
      exact this
  · by_cases q : y = (10 * za + na).toNat
    · refine Or.inr ⟨b.toNat, by omega, by rw [f8]; have := da.1; omega, Or.inl ?_⟩
      rw [f8, q]
      have := da.1
      omega
    · by_cases q' : y = (10 * zb + nb).toNat
      · refine Or.inr ⟨b.toNat, by omega, by rw [f8]; have := da.1; omega, Or.inr ?_⟩
        rw [f9, q']
        have := db.1
        omega
      · rw [e 4 y (by omega) (fun w => w.2.elim q q')] at h
        rcases p3 y hy h with ⟨t, ht, w⟩ | ⟨c, hc, w⟩
        · exact Or.inl ⟨t, ht, by rw [e 7 t (by omega) (by omega)]; exact w⟩
        · refine Or.inr ⟨c, hc, ?_⟩
          by_cases r : c = b.toNat
          · rw [r] at w
            exact absurd h8 w.1
          · rw [e 8 c (by omega) (by omega), e 9 c (by omega) (by omega)]
            exact w
  · rw [hT.2.2]
    simp only [nod_cg hT] at hy ⊢
    exact p4 y hy
end K4
