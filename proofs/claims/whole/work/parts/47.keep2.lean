/-! WHAT HOLDS is kept by moves and beginnings. -/
section K2
variable {κ κ' : Mu} {n j : Nat}
theorem JI_cT (hP : Plc κ) (h : JI κ j) (hu : ¬ Dn κ j) : JI (cT κ j) j ∧ JE κ (cT κ j) j ∧ ¬ uw (cT κ j) j := by
  have hg := gOf_ok hP h hu
  unfold cT
  by_cases hc : κ 19 j = 1
  · rw [if_pos hc]
    have hE : JE κ (mup (mup (mup (mup κ 23 j 0) 13 j 3) 19 j 0) 24 j (κ 11 0)) j := JE_up (JE_up (JE_up (JE_up (JE_rf κ j) (by omega)) (by omega)) (by omega)) (by omega)
    generalize hk : mup (mup (mup (mup κ 23 j 0) 13 j 3) 19 j 0) 24 j (κ 11 0) = κ' at *
    have e13 : κ' 13 j = 3 := by rw [← hk, mup_f rfl, mup_f rfl, mup_eq]
    have e19 : κ' 19 j = 0 := by rw [← hk, mup_f rfl, mup_eq]
    have e18 : κ' 18 j = κ 18 j := by rw [← hk, mup_f rfl, mup_f rfl, mup_f rfl, mup_f rfl]
    have hp := JE_pe hE
    have nu : ¬ uw κ' j := by
      unfold uw
      rw [e13]
      omega
    refine ⟨⟨?_, ?_, ?_, ?_, fun _ => e19, fun z => absurd (Or.inl e13) z, fun z => absurd z nu, fun z => ?_⟩, hE, nu⟩
    · rw [hE 16 j (by omega), hp.2.2.1]; exact h.1
    · rw [hE 17 j (by omega), hp.2.2.1]; exact h.2.1
    · rw [nod_cg hp.1, e18]; exact h.2.2.1
    · rw [e13]; omega
    · rw [e13] at z; omega
  · rw [if_neg hc]
    have hE : JE κ (mup (mup (mup (mup (mup (mup (mup κ 23 j 0) 13 j 2) 22 j (κ 20 j)) 18 j (oE κ (κ 20 j).toNat (gOf κ j))) 19 j (κ 19 j - 1)) 20 j (κ 21 j)) 21 j (-1)) j := JE_up (JE_up (JE_up (JE_up (JE_up (JE_up (JE_up (JE_rf κ j) (by omega)) (by omega)) (by omega)) (by omega)) (by omega)) (by omega)) (by omega)
    generalize hk : mup (mup (mup (mup (mup (mup (mup κ 23 j 0) 13 j 2) 22 j (κ 20 j)) 18 j (oE κ (κ 20 j).toNat (gOf κ j))) 19 j (κ 19 j - 1)) 20 j (κ 21 j)) 21 j (-1) = κ' at *
    have e13 : κ' 13 j = 2 := by rw [← hk, mup_f rfl, mup_f rfl, mup_f rfl, mup_f rfl, mup_f rfl, mup_eq]
    have e22 : κ' 22 j = κ 20 j := by rw [← hk, mup_f rfl, mup_f rfl, mup_f rfl, mup_f rfl, mup_eq]
    have e18 : κ' 18 j = oE κ (κ 20 j).toNat (gOf κ j) := by rw [← hk, mup_f rfl, mup_f rfl, mup_f rfl, mup_eq]
    have e19 : κ' 19 j = κ 19 j - 1 := by rw [← hk, mup_f rfl, mup_f rfl, mup_eq]
    have e20 : κ' 20 j = κ 21 j := by rw [← hk, mup_f rfl, mup_eq]
    have e21 : κ' 21 j = -1 := by rw [← hk, mup_eq]
    have hp := JE_pe hE
    have nu : ¬ uw κ' j := by
      unfold uw
      rw [e13]
      omega
    have hb := hg.2.2.2.1 hc
    have e5 := gOf_or hc
    have hsp := eI_sp (Plc_b hP) (b := (κ 20 j).toNat) (z := κ 18 j / 10) (by omega) (by rw [← e5]; have := hg.1.1; omega)
    refine ⟨⟨?_, ?_, ?_, ?_, fun z => ?_, fun z => ?_, fun z => absurd z nu, fun z => ?_⟩, hE, nu⟩
    · rw [hE 16 j (by omega), hp.2.2.1]; exact h.1
    · rw [hE 17 j (by omega), hp.2.2.1]; exact h.2.1
    · rw [nod_cg hp.1, e18, e5]; exact hsp.2.2.2.1
    · rw [e13]; omega
    · unfold Dn at z
      rw [e13] at z
      omega
    · rw [e18, e19, e20, e21, hE 16 j (by omega), hp.2.2.1, Wok_cg hp, e5]
      exact Wok_nx hP (by have := h.1; omega) h.1.2.2 (h.2.2.2.2.2.1 hu) hc
    · rw [e22, hp.2.2.2.1]
      exact hb
theorem JI_go (hP : Plc κ) (h : JI κ j) (hu : ¬ Dn κ j) (hE : JE κ κ' j) (hf : ∀ f, 18 ≤ f → f ≤ 21 → κ' f j = κ f j) (hs : κ' 13 j = 1 ∨ κ' 13 j = 4) (hp : Prg κ' j) : JI κ' j := by
  have hpe := JE_pe hE
  have nd : ¬ Dn κ' j := by
    unfold Dn
    omega
  refine ⟨?_, ?_, ?_, by omega, fun z => absurd z nd, fun _ => ?_, fun _ => hp, fun z => by omega⟩
  · rw [hE 16 j (by omega), hpe.2.2.1]; exact h.1
  · rw [hE 17 j (by omega), hpe.2.2.1]; exact h.2.1
  · rw [nod_cg hpe.1, hf 18 (by omega) (by omega)]; exact h.2.2.1
  · rw [hf 18 (by omega) (by omega), hf 19 (by omega) (by omega), hf 20 (by omega) (by omega), hf 21 (by omega) (by omega), hE 16 j (by omega), hpe.2.2.1, Wok_cg hpe]
    exact h.2.2.2.2.2.1 hu
theorem Prg_of {u w i : Nat} (hE : JE κ κ' j) (hf : ∀ f, 18 ≤ f → f ≤ 21 → κ' f j = κ f j) (hP : Pth κ (κ 18 j) (gOf κ j) u w) (h1 : 1 ≤ i) (h2 : i ≤ u + w) (h3 : κ' 13 j = 1 → wen κ (κ 18 j) (gOf κ j) u w (i - 1) ≤ κ' 23 j ∧ κ' 23 j < wen κ (κ 18 j) (gOf κ j) u w i) (h4 : κ' 13 j = 4 → κ' 23 j = wen κ (κ 18 j) (gOf κ j) u w i) : Prg κ' j := by
  have hpe := JE_pe hE
  have e := gOf_cg hpe (j := j) (hf 19 (by omega) (by omega)) (hE 16 j (by omega)) (hf 20 (by omega) (by omega)) (hf 18 (by omega) (by omega))
  unfold Prg
  rw [e, hf 18 (by omega) (by omega)]
  simp only [Pth_cg hpe.1, wen_cg hpe.1]
  exact ⟨u, w, i, hP, h1, h2, h3, h4⟩
theorem Inv_mv (hI : Inv κ n) (hj : j < n) (hu : uw κ j) : Inv (mvS κ j) n := by
  obtain ⟨hT, hPl, _, _, a5, a6, _, _⟩ := id hI
  have hJ := a5 j hj
  have hd : ¬ Dn κ j := by
    unfold Dn uw at *
    omega
  have hg := gOf_ok hPl hJ hd
  have nx := hJ.2.2.1
  obtain ⟨u, w, i0, hP, i1, i2, i3, i4⟩ := hJ.2.2.2.2.2.2.1 hu
  have gen : ∀ v κ', (v = 1 ∨ v = 4) → κ' = mup (mup κ 23 j (gn κ j)) 13 j v → (∃ i, 1 ≤ i ∧ i ≤ u + w ∧ (v = 1 → wen κ (κ 18 j) (gOf κ j) u w (i - 1) ≤ gn κ j ∧ gn κ j < wen κ (κ 18 j) (gOf κ j) u w i) ∧ (v = 4 → gn κ j = wen κ (κ 18 j) (gOf κ j) u w i)) → JI κ' j ∧ JE κ κ' j ∧ κ' 18 j = κ 18 j := by
    intro v κ' hv hk hi
    obtain ⟨i, j1, j2, j3, j4⟩ := hi
    have hE : JE κ κ' j := by rw [hk]; exact JE_up (JE_up (JE_rf κ j) (by omega)) (by omega)
    have e13 : κ' 13 j = v := by rw [hk, mup_eq]
    have e23 : κ' 23 j = gn κ j := by rw [hk, mup_f rfl, mup_eq]
    have hf : ∀ f, 18 ≤ f → f ≤ 21 → κ' f j = κ f j := by
      intro f f1 f2
      rw [hk, mup_ne (by omega), mup_ne (by omega)]
    refine ⟨JI_go hPl hJ hd hE hf (by rw [e13]; exact hv) (Prg_of hE hf hP j1 j2 ?_ ?_), hE, hf 18 (by omega) (by omega)⟩
    · rw [e13, e23]; exact j3
    · rw [e13, e23]; exact j4
  have fin : ∀ v κ', (v = 1 ∨ v = 4) → κ' = mup (mup κ 23 j (gn κ j)) 13 j v → (∃ i, 1 ≤ i ∧ i ≤ u + w ∧ (v = 1 → wen κ (κ 18 j) (gOf κ j) u w (i - 1) ≤ gn κ j ∧ gn κ j < wen κ (κ 18 j) (gOf κ j) u w i) ∧ (v = 4 → gn κ j = wen κ (κ 18 j) (gOf κ j) u w i)) → Inv κ' n := by
    intro v κ' hv hk hi
    obtain ⟨b1, b2, b3⟩ := gen v κ' hv hk hi
    refine Inv_job hI b2 hj b1 (fun _ i hi hne ui he => hne (a6 i j hi hj ui hu ?_))
    rw [he, b3]
  by_cases hx : ∃ i, ixP κ j u w i
  · obtain ⟨i, hi⟩ := hx
    rw [mvS_at hT nx hg.1 hP hi]
    obtain ⟨h1, h2, h3⟩ := hi
    by_cases c5 : κ 5 (pth κ (κ 18 j) (gOf κ j) u w i).toNat = 0
    · rw [if_neg (fun z => z c5)]
      by_cases c6 : i = u + w
      · rw [if_pos c6]
        have hE1 : JE κ (mup (mup κ 23 j (gn κ j)) 13 j 1) j := JE_up (JE_up (JE_rf κ j) (by omega)) (by omega)
        have hpe := JE_pe hE1
        generalize hk : mup (mup κ 23 j (gn κ j)) 13 j 1 = κ1 at *
        have hf : ∀ f, 14 ≤ f → f ≤ 22 → κ1 f j = κ f j := by
          intro f f1 f2
          rw [← hk, mup_ne (by omega), mup_ne (by omega)]
        have nd1 : ¬ Dn κ1 j := by
          unfold Dn
          rw [← hk, mup_eq]
          omega
        have ha : ∃ i, 1 ≤ i ∧ i ≤ u + w ∧ wen κ (κ 18 j) (gOf κ j) u w (i - 1) ≤ wen κ (κ 18 j) (gOf κ j) u w i - 1 ∧ wen κ (κ 18 j) (gOf κ j) u w i - 1 < wen κ (κ 18 j) (gOf κ j) u w i := ⟨i, h1, h2, by have := wen_lt hT nx hg.1 hP (i := i - 1) i (by omega) h2; omega, by omega⟩
        have hJ2 : JI (mup κ1 23 j (wen κ (κ 18 j) (gOf κ j) u w i - 1)) j := by
          have hE2 : JE κ (mup κ1 23 j (wen κ (κ 18 j) (gOf κ j) u w i - 1)) j := JE_up hE1 (by omega)
          have hf2 : ∀ f, 18 ≤ f → f ≤ 21 → mup κ1 23 j (wen κ (κ 18 j) (gOf κ j) u w i - 1) f j = κ f j := by
            intro f f1 f2
            rw [mup_ne (by omega)]
            exact hf f (by omega) (by omega)
          have e13 : mup κ1 23 j (wen κ (κ 18 j) (gOf κ j) u w i - 1) 13 j = 1 := by rw [mup_f rfl, ← hk, mup_eq]
          refine JI_go hPl hJ hd hE2 hf2 (Or.inl e13) (Prg_of hE2 hf2 hP h1 h2 ?_ ?_)
          · intro _
            rw [mup_eq]
            have := wen_lt hT nx hg.1 hP (i := i - 1) i (by omega) h2
            omega
          · intro z
            rw [e13] at z
            omega
        have nd2 : ¬ Dn (mup κ1 23 j (wen κ (κ 18 j) (gOf κ j) u w i - 1)) j := by
          unfold Dn at *
          rw [mup_f rfl]
          exact nd1
        have hc := JI_cT (Plc_cg (PE_up hpe (by omega) (by omega)) hPl) hJ2 nd2
        have e : cT (mup κ1 23 j (wen κ (κ 18 j) (gOf κ j) u w i - 1)) j = cT κ1 j := by
          have q : ∀ a b, mup (mup κ1 23 j a) 23 j b = mup κ1 23 j b := by
            intro a b
            funext g y
            unfold mup
            split <;> rfl
          have pq : PE κ1 (mup κ1 23 j (wen κ (κ 18 j) (gOf κ j) u w i - 1)) := PE_up (PE_rf κ1) (by omega) (by omega)
          unfold cT
          rw [oE_cg pq, gOf_cg pq (κ := κ1) rfl rfl rfl rfl]
          simp only [q]
          rfl
        rw [e] at hc
        have hE3 : JE κ (cT κ1 j) j := by
          intro f x hfx
          have := hc.2.1 f x hfx
          rw [this, mup_ne (by omega)]
          exact hE1 f x hfx
        exact Inv_job hI hE3 hj hc.1 (fun z => absurd z hc.2.2)
      · rw [if_neg c6]
        refine fin 1 _ (Or.inl rfl) rfl ⟨i + 1, by omega, by omega, fun _ => ⟨?_, ?_⟩, fun z => by omega⟩
        · rw [← h3]
          exact Int.le_refl _
        · rw [← h3]
          exact wen_lt hT nx hg.1 hP _ (by omega) (by omega)
    · rw [if_pos c5]
      exact fin 4 _ (Or.inr rfl) rfl ⟨i, h1, h2, fun z => by omega, fun _ => h3.symm⟩
  · rw [mvS_no hP (fun i hi => hx ⟨i, hi⟩)]
    have hm : κ 13 j = 1 := by
      rcases hu with z | z
      · exact z
      · exfalso
        refine hx ⟨i0, i1, i2, ?_⟩
        unfold gn
        rw [if_pos z, ← i4 z]
        omega
    have h3 := i3 hm
    have e : gn κ j = κ 23 j + 1 := by
      unfold gn
      rw [if_neg (by omega)]
    refine fin 1 _ (Or.inl rfl) rfl ⟨i0, i1, i2, fun _ => ⟨by omega, ?_⟩, fun z => by omega⟩
    have : ¬ wen κ (κ 18 j) (gOf κ j) u w i0 = gn κ j := fun z => hx ⟨i0, i1, i2, z⟩
    omega
/-- a job begins its path -/
def bgS (κ : Mu) (j : Nat) : Mu := mup (mup (mup κ 13 j 1) 22 j (-1)) 23 j 0
theorem Inv_bg (hI : Inv κ n) (hj : j < n) (hs : κ 13 j = 0 ∨ κ 13 j = 2) (hz : ∀ i, i < n → uw κ i → ¬ κ 18 i / 10 = κ 18 j / 10) : Inv (bgS κ j) n := by
  obtain ⟨hT, hPl, _, _, a5, a6, _, _⟩ := id hI
  have hJ := a5 j hj
  have hd : ¬ Dn κ j := by
    unfold Dn
    omega
  have hg := gOf_ok hPl hJ hd
  have nx := hJ.2.2.1
  have hE : JE κ (bgS κ j) j := JE_up (JE_up (JE_up (JE_rf κ j) (by omega)) (by omega)) (by omega)
  have hf : ∀ f, 18 ≤ f → f ≤ 21 → bgS κ j f j = κ f j := by
    intro f f1 f2
    unfold bgS
    rw [mup_ne (by omega), mup_ne (by omega), mup_ne (by omega)]
  have e13 : bgS κ j 13 j = 1 := by
    unfold bgS
    rw [mup_f rfl, mup_f rfl, mup_eq]
  have e23 : bgS κ j 23 j = 0 := mup_eq _ _ _ _
  obtain ⟨u, w, hP⟩ := Pth_ex hT nx hg.1 hg.2.1.symm
  have hN : 1 ≤ u + w := by
    refine Nat.lt_of_not_le (fun z => hg.2.2.1 ?_)
    have e := hP.2.2.1
    have e1 : u = 0 := by omega
    have e2 : w = 0 := by omega
    rw [e1, e2] at e
    exact e.symm
  refine Inv_job hI hE hj (JI_go hPl hJ hd hE hf (Or.inl e13) (Prg_of hE hf hP (Nat.le_refl 1) hN (fun _ => ?_) (fun z => ?_))) (fun _ i hi hne ui he => hz i hi ui ?_)
  · rw [e23]
    refine ⟨Int.le_refl _, ?_⟩
    exact wen_lt hT nx hg.1 hP (i := 0) 1 (by omega) hN
  · rw [e13] at z
    omega
  · rw [he, hf 18 (by omega) (by omega)]
end K2
