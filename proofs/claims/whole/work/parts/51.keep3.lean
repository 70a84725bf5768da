/-! WHAT HOLDS is kept by the other calls. -/
section K3
variable {κ κ' : Mu} {n j : Nat}
/-- a job is given a way -/
def gW (κ : Mu) (j : Nat) (v : Wy) : Mu := mup (mup (mup κ 19 j (zn v)) 20 j v.2.1) 21 j v.2.2
theorem Inv_gW {v : Wy} (hI : Inv κ n) (hj : j < n) (hs : κ 13 j = 0 ∨ κ 13 j = 2) (hw : Wok κ (κ 18 j) (κ 7 (κ 16 j).toNat) (zn v) v.2.1 v.2.2) : Inv (gW κ j v) n := by
  obtain ⟨hT, hPl, _, _, a5, a6, _, _⟩ := id hI
  have h := a5 j hj
  have hE : JE κ (gW κ j v) j := JE_up (JE_up (JE_up (JE_rf κ j) (by omega)) (by omega)) (by omega)
  have hp := JE_pe hE
  have e13 : gW κ j v 13 j = κ 13 j := rfl
  have e18 : gW κ j v 18 j = κ 18 j := rfl
  have e22 : gW κ j v 22 j = κ 22 j := rfl
  have e19 : gW κ j v 19 j = zn v := by unfold gW; rw [mup_f rfl, mup_f rfl, mup_eq]
  have e20 : gW κ j v 20 j = v.2.1 := by unfold gW; rw [mup_f rfl, mup_eq]
  have e21 : gW κ j v 21 j = v.2.2 := by unfold gW; rw [mup_eq]
  have nu : ¬ uw (gW κ j v) j := by
    unfold uw
    rw [e13]
    omega
  refine Inv_job hI hE hj ⟨?_, ?_, ?_, ?_, fun z => ?_, fun _ => ?_, fun z => absurd z nu, ?_⟩ (fun z => absurd z nu)
  · rw [hE 16 j (by omega), hp.2.2.1]; exact h.1
  · rw [hE 17 j (by omega), hp.2.2.1]; exact h.2.1
  · rw [nod_cg hp.1, e18]; exact h.2.2.1
  · rw [e13]; exact h.2.2.2.1
  · unfold Dn at z
    rw [e13] at z
    omega
  · rw [e18, e19, e20, e21, hE 16 j (by omega), hp.2.2.1, Wok_cg hp]
    exact hw
  · rw [e13, e22, hp.2.2.2.1]
    exact h.2.2.2.2.2.2.2
/-- a field that no job's numbers stand in -/
theorem Inv_fl {f i : Nat} {v : Int} (hI : Inv κ n) (hf : f = 5 ∨ f = 6) (hv : v = 0 ∨ v = 1) : Inv (mup κ f i v) n := by
  have e : ∀ g x, ¬ g = f → mup κ f i v g x = κ g x := fun g x h => mup_ne (fun z => h z.1)
  have e' : ∀ g, ¬ g = f → mup κ f i v g = κ g := fun g h => funext (fun x => e g x h)
  have hp : PE κ (mup κ f i v) := ⟨⟨e' 2 (by omega), e' 3 (by omega), e' 40 (by omega)⟩, e' 4 (by omega), e' 7 (by omega), e' 8 (by omega), e' 9 (by omega)⟩
  obtain ⟨a1, a2, a3, a4, a5, a6, a7, a8⟩ := hI
  refine ⟨Tr_cg hp.1 a1, Plc_cg hp a2, by rw [e 10 0 (by omega)]; exact a3, ⟨by rw [e 1 0 (by omega)]; exact a4.1, fun z => ?_, fun z => ?_⟩, fun i hi => JI_cg hp (fun g _ _ => e g i (by omega)) (a5 i hi), fun i j hi hj ui uj he => ?_, by rw [e 1 0 (by omega)]; exact a7, fun z => ?_⟩
  · by_cases h : 6 = f ∧ z = i
    · unfold mup
      rw [if_pos h]
      exact hv
    · rw [mup_ne h]
      exact a4.2.1 z
  · by_cases h : 5 = f ∧ z = i
    · unfold mup
      rw [if_pos h]
      exact hv
    · rw [mup_ne h]
      exact a4.2.2 z
  · rw [uw_cg (e 13 i (by omega))] at ui
    rw [uw_cg (e 13 j (by omega))] at uj
    rw [e 18 i (by omega), e 18 j (by omega)] at he
    exact a6 i j hi hj ui uj he
  · rw [e 1 0 (by omega)] at z
    have := a8 z
    simp only [fW_cg0 hp, hp.2.2.1]
    exact this
theorem Inv_sl (hI : Inv κ n) (hj : ∀ s t : Nat, s < 12 → t < 12 → ¬ s = t → ¬ κ 7 s = -1 → ¬ κ 7 t = -1 → ¬ (fW κ (κ 7 s) (κ 7 t) 0).1 = -1) : Inv (mup κ 1 0 1) n := by
  have e : ∀ g x, ¬ g = 1 → mup κ 1 0 1 g x = κ g x := fun g x h => mup_ne (fun z => h z.1)
  have e' : ∀ g, ¬ g = 1 → mup κ 1 0 1 g = κ g := fun g h => funext (fun x => e g x h)
  have hp : PE κ (mup κ 1 0 1) := ⟨⟨e' 2 (by omega), e' 3 (by omega), e' 40 (by omega)⟩, e' 4 (by omega), e' 7 (by omega), e' 8 (by omega), e' 9 (by omega)⟩
  obtain ⟨a1, a2, a3, a4, a5, a6, a7, a8⟩ := hI
  refine ⟨Tr_cg hp.1 a1, Plc_cg hp a2, by rw [e 10 0 (by omega)]; exact a3, ⟨Or.inr (mup_eq _ _ _ _), fun z => by rw [e 6 z (by omega)]; exact a4.2.1 z, fun z => by rw [e 5 z (by omega)]; exact a4.2.2 z⟩, fun i hi => JI_cg hp (fun g _ _ => e g i (by omega)) (a5 i hi), fun i j hi hj ui uj he => ?_, fun _ => mup_eq _ _ _ _, fun z => ?_⟩
  · rw [uw_cg (e 13 i (by omega))] at ui
    rw [uw_cg (e 13 j (by omega))] at uj
    rw [e 18 i (by omega), e 18 j (by omega)] at he
    exact a6 i j hi hj ui uj he
  · simp only [fW_cg0 hp, hp.2.2.1]
    exact hj
theorem Inv_tak (hI : Inv κ n) (hj : j < n) (hs : κ 13 j = 3) : Inv (mup κ 13 j 5) n := by
  obtain ⟨hT, hPl, _, _, a5, a6, _, _⟩ := id hI
  have h := a5 j hj
  have hE : JE κ (mup κ 13 j 5) j := JE_up (JE_rf κ j) (by omega)
  have hp := JE_pe hE
  have e13 : mup κ 13 j 5 13 j = 5 := mup_eq _ _ _ _
  have nu : ¬ uw (mup κ 13 j 5) j := by
    unfold uw
    rw [e13]
    omega
  refine Inv_job hI hE hj ⟨?_, ?_, ?_, ?_, fun z => ?_, fun z => absurd (Or.inr e13) z, fun z => absurd z nu, fun z => ?_⟩ (fun z => absurd z nu)
  · rw [hE 16 j (by omega), hp.2.2.1]; exact h.1
  · rw [hE 17 j (by omega), hp.2.2.1]; exact h.2.1
  · rw [nod_cg hp.1]; exact h.2.2.1
  · rw [e13]; omega
  · rw [mup_f rfl]
    exact h.2.2.2.2.1 (Or.inl hs)
  · rw [e13] at z
    omega
/-- a job is sent -/
def snS (κ : Mu) (n : Nat) (x y p : Int) (v : Wy) : Mu := mup (gW (mup (mup (mup (mup (mup (mup (mup (mup (mup κ 13 n 0) 14 n p) 15 n (κ 11 0)) 16 n y) 17 n x) 18 n (κ 7 x.toNat)) 22 n (-1)) 23 n 0) 24 n (-1)) n v) 10 0 (n + 1)
theorem Inv_sn {x y p : Int} {v : Wy} (hI : Inv κ n) (h40 : n < 40) (h1 : κ 1 0 = 1) (hx : 0 ≤ x ∧ x < 12 ∧ ¬ κ 7 x.toNat = -1) (hy : 0 ≤ y ∧ y < 12 ∧ ¬ κ 7 y.toNat = -1) (hw : Wok κ (κ 7 x.toNat) (κ 7 y.toNat) (zn v) v.2.1 v.2.2) : Inv (snS κ n x y p v) (n + 1) := by
  obtain ⟨a1, a2, a3, a4, a5, a6, a7, a8⟩ := hI
  have e : ∀ g i, ¬ i = n → ¬ g = 10 → snS κ n x y p v g i = κ g i := by
    intro g i hi hg
    unfold snS gW
    rw [mup_ne (by omega), mup_ne (by omega), mup_ne (by omega), mup_ne (by omega), mup_ne (by omega), mup_ne (by omega), mup_ne (by omega), mup_ne (by omega), mup_ne (by omega), mup_ne (by omega), mup_ne (by omega), mup_ne (by omega), mup_ne (by omega)]
  have e' : ∀ g, g < 10 ∨ 24 < g → snS κ n x y p v g = κ g := by
    intro g hg
    funext i
    unfold snS gW
    rw [mup_ne (by omega), mup_ne (by omega), mup_ne (by omega), mup_ne (by omega), mup_ne (by omega), mup_ne (by omega), mup_ne (by omega), mup_ne (by omega), mup_ne (by omega), mup_ne (by omega), mup_ne (by omega), mup_ne (by omega), mup_ne (by omega)]
  have f10 : snS κ n x y p v 10 0 = n + 1 := mup_eq _ _ _ _
  have f13 : snS κ n x y p v 13 n = 0 := by unfold snS gW; rw [mup_f rfl, mup_f rfl, mup_f rfl, mup_f rfl, mup_f rfl, mup_f rfl, mup_f rfl, mup_f rfl, mup_f rfl, mup_f rfl, mup_f rfl, mup_f rfl, mup_eq]
  have f16 : snS κ n x y p v 16 n = y := by unfold snS gW; rw [mup_f rfl, mup_f rfl, mup_f rfl, mup_f rfl, mup_f rfl, mup_f rfl, mup_f rfl, mup_f rfl, mup_f rfl, mup_eq]
  have f17 : snS κ n x y p v 17 n = x := by unfold snS gW; rw [mup_f rfl, mup_f rfl, mup_f rfl, mup_f rfl, mup_f rfl, mup_f rfl, mup_f rfl, mup_f rfl, mup_eq]
  have f18 : snS κ n x y p v 18 n = κ 7 x.toNat := by unfold snS gW; rw [mup_f rfl, mup_f rfl, mup_f rfl, mup_f rfl, mup_f rfl, mup_f rfl, mup_f rfl, mup_eq]
  have f19 : snS κ n x y p v 19 n = zn v := by unfold snS gW; rw [mup_f rfl, mup_f rfl, mup_f rfl, mup_eq]
  have f20 : snS κ n x y p v 20 n = v.2.1 := by unfold snS gW; rw [mup_f rfl, mup_f rfl, mup_eq]
  have f21 : snS κ n x y p v 21 n = v.2.2 := by unfold snS gW; rw [mup_f rfl, mup_eq]
  generalize snS κ n x y p v = κ' at *
  have hp : PE κ κ' := ⟨⟨e' 2 (by omega), e' 3 (by omega), e' 40 (by omega)⟩, e' 4 (by omega), e' 7 (by omega), e' 8 (by omega), e' 9 (by omega)⟩
  have nu : ¬ uw κ' n := by
    unfold uw
    omega
  have nd : ¬ Dn κ' n := by
    unfold Dn
    omega
  refine ⟨Tr_cg hp.1 a1, Plc_cg hp a2, ⟨by rw [f10]; omega, by omega⟩, ⟨by rw [e' 1 (by omega)]; exact a4.1, fun z => by rw [e' 6 (by omega)]; exact a4.2.1 z, fun z => by rw [e' 5 (by omega)]; exact a4.2.2 z⟩, fun i hi => ?_, fun i j hi hj ui uj he => ?_, fun _ => by rw [e' 1 (by omega)]; exact h1, fun z => ?_⟩
  · by_cases hin : i = n
    · subst hin
      refine ⟨?_, ?_, ?_, by omega, fun z => absurd z nd, fun _ => ?_, fun z => absurd z nu, fun z => by omega⟩
      · rw [f16, hp.2.2.1]; exact hy
      · rw [f17, hp.2.2.1]; exact hx
      · rw [f18, nod_cg hp.1]; exact (a2.1 x.toNat (by omega) hx.2.2).1
      · rw [f16, f18, f19, f20, f21, hp.2.2.1, Wok_cg hp]; exact hw
    · exact JI_cg hp (fun g _ _ => e g i hin (by omega)) (a5 i (by omega))
  · by_cases h1 : i = n
    · rw [h1] at ui; exact absurd ui nu
    · by_cases h2 : j = n
      · rw [h2] at uj; exact absurd uj nu
      · rw [uw_cg (e 13 i h1 (by omega))] at ui
        rw [uw_cg (e 13 j h2 (by omega))] at uj
        rw [e 18 i h1 (by omega), e 18 j h2 (by omega)] at he
        exact a6 i j (by omega) (by omega) ui uj he
  · have := a8 h1
    simp only [fW_cg0 hp, hp.2.2.1]
    exact this
theorem cnt_lt {P : Nat → Prop} {N i : Nat} (hi : i < N) (h : ¬ P i) : cnt P N < N := by
  have := cnt_up (P := P) (R := fun j => P j ∨ j = i) N hi (fun j _ hj => ⟨fun z => Or.inl z, fun z => z.elim id (fun y => absurd y hj)⟩) h (Or.inr rfl)
  have := cnt_le (fun j => P j ∨ j = i) N
  omega
theorem Inv_n0 (hI : Inv κ n) (h1 : κ 1 0 = 0) : n = 0 := by
  have := hI.2.2.2.2.2.2.1
  refine Nat.eq_zero_of_not_pos (fun z => ?_)
  have := this z
  omega
/-- before the sealing -/
theorem Inv_un {κ : Mu} (hT : Tr κ) (hP : Plc κ) (h10 : κ 10 0 = 0) (h1 : κ 1 0 = 0) (h6 : ∀ z, κ 6 z = 0 ∨ κ 6 z = 1) (h5 : ∀ x, κ 5 x = 0 ∨ κ 5 x = 1) : Inv κ 0 := ⟨hT, hP, ⟨h10, by omega⟩, ⟨Or.inl h1, h6, h5⟩, fun j hj => by omega, fun i j hi => by omega, fun z => by omega, fun z => by omega⟩
end K3
