/-! A JOB COMES TO ITS PLACE, both sides. -/
section AR2
variable {κ κ' ν ν' : Mu} {L : Lv} {n j z : Nat} {ls : Nat → List Nat}
theorem no_ca (hI : Inv κ n) (hc : caP κ n z j) (hE : JE κ κ' j) (nu : ¬ uw κ' j) (i : Nat) : ¬ caP κ' n z i := by
  intro hi
  by_cases e : i = j
  · rw [e] at hi
    exact nu hi.2.1
  · have h2 : caP κ n z i := by
      refine ⟨hi.1, ?_, ?_⟩
      · have := hi.2.1
        rw [uw_cg (hE 13 i (by omega))] at this
        exact this
      · have := hi.2.2
        rw [hE 18 i (by omega)] at this
        exact this
    exact e (caP_un hI h2 hc)
/-- at the goal -/
theorem Rl_ar1 (hI : Inv κ n) (hR : Rl κ n ν L ls) (hc : caP κ n z j) (h19 : κ 19 j = 1) (hν : ∀ f i, ¬ (80 ≤ f ∧ f ≤ 92 ∧ i = j) → ¬ (f = 204 ∧ i = z) → ¬ (f = 283 ∧ i = z) → ν' f i = ν f i) (hs : ∀ f, 80 ≤ f → f ≤ 90 → ¬ f = 85 → ¬ f = 86 → ν' f j = ν f j) (h85 : ν' 85 j = 3) (h86 : ν' 86 j = κ 16 j) (h91 : ν' 91 j = -1) (h92 : ν' 92 j = κ 11 0) (h283 : ν' 283 z = -1) : Rl (cT (mup (mup κ 23 j (gn κ j)) 13 j 1) j) n ν' L ls := by
  obtain ⟨r1, r2, r3, r4, r5⟩ := hR
  have ek : cT (mup (mup κ 23 j (gn κ j)) 13 j 1) j = mup (mup (mup (mup (mup (mup κ 23 j (gn κ j)) 13 j 1) 23 j 0) 13 j 3) 19 j 0) 24 j (κ 11 0) := if_pos (show mup (mup κ 23 j (gn κ j)) 13 j 1 19 j = 1 from h19)
  have hE : JE κ (cT (mup (mup κ 23 j (gn κ j)) 13 j 1) j) j := by
    rw [ek]
    exact JE_up (JE_up (JE_up (JE_up (JE_up (JE_up (JE_rf κ j) (by omega)) (by omega)) (by omega)) (by omega)) (by omega)) (by omega)
  have e13 : cT (mup (mup κ 23 j (gn κ j)) 13 j 1) j 13 j = 3 := by rw [ek, mup_f rfl, mup_f rfl, mup_eq]
  have e19 : cT (mup (mup κ 23 j (gn κ j)) 13 j 1) j 19 j = 0 := by rw [ek, mup_f rfl, mup_eq]
  have e24 : cT (mup (mup κ 23 j (gn κ j)) 13 j 1) j 24 j = κ 11 0 := by rw [ek, mup_eq]
  have ef : ∀ f, 14 ≤ f → f ≤ 22 → ¬ f = 19 → cT (mup (mup κ 23 j (gn κ j)) 13 j 1) j f j = κ f j := by
    intro f f1 f2 f3
    rw [ek, mup_ne (by omega), mup_ne (by omega), mup_ne (by omega), mup_ne (by omega), mup_ne (by omega), mup_ne (by omega)]
  generalize cT (mup (mup κ 23 j (gn κ j)) 13 j 1) j = κ' at *
  have hu := hc.2.1
  have nu : ¬ uw κ' j := by
    unfold uw
    omega
  have hD : Dn κ' j := Or.inl e13
  have hm : κ 13 j = 1 ∨ κ 13 j = 4 := hu
  obtain ⟨a1, a2, a3, a4, a5, a6, a7, a8, a9, a10, a11, a12, a13, a14, a15, a16⟩ := r2.1 j hc.1
  refine ⟨RS_cg hE (fun f i a b c d e g h => hν f i (by omega) (by omega) (by omega)) ?_ r1, RD_mk (z := z) hE hc.1 (fun f i a b c d e g h => hν f i (by omega) (by omega) (by omega)) r2 ?_ ?_ ?_ (fun _ => hc.2.2) (fun q => absurd q nu) ⟨fun _ => h283, fun i hi => absurd hi (no_ca hI hc hE nu i)⟩, LQ_cg hE (ef 18 (by omega) (by omega) (by omega)) (by rw [e13]; omega) r3, Sl_cg hE (fun q => by omega) r4, LX_fr (JE_pe hE) (hE 1 0 (by omega)) (fun x hx => by rw [hν 200 x (by omega) (by omega) (by omega)]; exact (r5.2.2.1 x hx).2.2) (hν 241 0 (by omega) (by omega) (by omega)) (hν 242 0 (by omega) (by omega) (by omega)) r5⟩
  · rw [hν 327 0 (by omega) (by omega) (by omega), hE 12 0 (by omega)]
    exact r1.2.2.2.2.2.2.2.2.2.2.2.2.2
  · unfold JR
    rw [hs 80 (by omega) (by omega) (by omega) (by omega), hs 81 (by omega) (by omega) (by omega) (by omega), hs 82 (by omega) (by omega) (by omega) (by omega), hs 83 (by omega) (by omega) (by omega) (by omega), hs 84 (by omega) (by omega) (by omega) (by omega), hs 89 (by omega) (by omega) (by omega) (by omega), hs 90 (by omega) (by omega) (by omega) (by omega), h85, h86, h91, h92, e13, e19, e24, jAn_d hD, ef 14 (by omega) (by omega) (by omega), ef 15 (by omega) (by omega) (by omega), ef 16 (by omega) (by omega) (by omega), ef 17 (by omega) (by omega) (by omega)]
    rw [if_neg (by omega)] at a12
    rw [if_neg (by omega)] at a13
    exact ⟨a1, a2, a3, a4, a5, a6, rfl, rfl, fun q => absurd hD q, fun q => by omega, fun q => by omega, by rw [if_neg (by omega)]; exact a12, by rw [if_neg (by omega)]; exact a13, fun q => absurd q nu, fun _ => rfl, rfl⟩
  · intro s hs' h7
    have h := r2.2.1 s hs' h7
    rw [hν 162 s (by omega) (by omega) (by omega), hν 163 s (by omega) (by omega) (by omega), slT_eq hE (by rw [e13]; omega), cntS_eq hE (fun s _ => by unfold ocS; rw [e13, ef 16 (by omega) (by omega) (by omega)]; exact ⟨fun q => ⟨Or.inr ⟨hu, h19⟩, q.2⟩, fun q => ⟨Or.inl rfl, q.2⟩⟩) hs']
    exact h
  · intro b hb h8
    rw [hν 43 b (by omega) (by omega) (by omega), cntY_eq hE (fun b _ => by unfold ocY; rw [e13]; exact ⟨fun q => q.elim (fun y => by omega) (fun y => absurd y.1 nu), fun q => q.elim (fun y => by omega) (fun y => by have := y.2.1; omega)⟩) hb]
    exact r2.2.2.1 b hb h8
/-- in a bay -/
theorem Rl_ar2 {t : Nat} (hI : Inv κ n) (hR : Rl κ n ν L ls) (hc : caP κ n z j) (h19 : ¬ κ 19 j = 1) (ht : oE κ (κ 20 j).toNat (gOf κ j) = t) (ht5 : t < 50) (hν : ∀ f i, ¬ (80 ≤ f ∧ f ≤ 92 ∧ i = j) → ¬ (f = 204 ∧ i = z) → ¬ (f = 283 ∧ i = z) → ν' f i = ν f i) (hs : ∀ f, 80 ≤ f → f ≤ 92 → (f < 85 ∨ f = 92) → ν' f j = ν f j) (h85 : ν' 85 j = 2) (h86 : ν' 86 j = κ 20 j) (h87 : ν' 87 j = t) (h88 : ν' 88 j = κ 20 j) (h89 : ν' 89 j = ν 90 j) (h90 : ν' 90 j = -1) (h91 : ν' 91 j = -1) (h283 : ν' 283 z = -1) : Rl (cT (mup (mup κ 23 j (gn κ j)) 13 j 1) j) n ν' L (fup ls (t / 10) (ls (t / 10) ++ [j])) ∧ (ls (t / 10)).length < n := by
  obtain ⟨r1, r2, r3, r4, r5⟩ := hR
  have eg : gOf (mup (mup κ 23 j (gn κ j)) 13 j 1) j = gOf κ j := gOf_cg (PE_up (PE_up (PE_rf κ) (by omega) (by omega)) (by omega) (by omega)) rfl rfl rfl rfl
  have eo : oE (mup (mup κ 23 j (gn κ j)) 13 j 1) (κ 20 j).toNat (gOf (mup (mup κ 23 j (gn κ j)) 13 j 1) j) = t := by
    rw [oE_cg (PE_up (PE_up (PE_rf κ) (by omega) (by omega)) (by omega) (by omega)), eg, ht]
  have ek : cT (mup (mup κ 23 j (gn κ j)) 13 j 1) j = mup (mup (mup (mup (mup (mup (mup (mup (mup κ 23 j (gn κ j)) 13 j 1) 23 j 0) 13 j 2) 22 j (κ 20 j)) 18 j t) 19 j (κ 19 j - 1)) 20 j (κ 21 j)) 21 j (-1) := by
    rw [← eo]
    exact if_neg (show ¬ mup (mup κ 23 j (gn κ j)) 13 j 1 19 j = 1 from h19)
  have hE : JE κ (cT (mup (mup κ 23 j (gn κ j)) 13 j 1) j) j := by
    rw [ek]
    exact JE_up (JE_up (JE_up (JE_up (JE_up (JE_up (JE_up (JE_up (JE_up (JE_rf κ j) (by omega)) (by omega)) (by omega)) (by omega)) (by omega)) (by omega)) (by omega)) (by omega)) (by omega)
  have e13 : cT (mup (mup κ 23 j (gn κ j)) 13 j 1) j 13 j = 2 := by rw [ek, mup_f rfl, mup_f rfl, mup_f rfl, mup_f rfl, mup_f rfl, mup_eq]
  have e22 : cT (mup (mup κ 23 j (gn κ j)) 13 j 1) j 22 j = κ 20 j := by rw [ek, mup_f rfl, mup_f rfl, mup_f rfl, mup_f rfl, mup_eq]
  have e18 : cT (mup (mup κ 23 j (gn κ j)) 13 j 1) j 18 j = t := by rw [ek, mup_f rfl, mup_f rfl, mup_f rfl, mup_eq]
  have e19 : cT (mup (mup κ 23 j (gn κ j)) 13 j 1) j 19 j = κ 19 j - 1 := by rw [ek, mup_f rfl, mup_f rfl, mup_eq]
  have e20 : cT (mup (mup κ 23 j (gn κ j)) 13 j 1) j 20 j = κ 21 j := by rw [ek, mup_f rfl, mup_eq]
  have e21 : cT (mup (mup κ 23 j (gn κ j)) 13 j 1) j 21 j = -1 := by rw [ek, mup_eq]
  have ef : ∀ f, (14 ≤ f ∧ f ≤ 17) ∨ f = 24 → cT (mup (mup κ 23 j (gn κ j)) 13 j 1) j f j = κ f j := by
    intro f f1
    rw [ek, mup_ne (by omega), mup_ne (by omega), mup_ne (by omega), mup_ne (by omega), mup_ne (by omega), mup_ne (by omega), mup_ne (by omega), mup_ne (by omega), mup_ne (by omega)]
  generalize cT (mup (mup κ 23 j (gn κ j)) 13 j 1) j = κ' at *
  have hu := hc.2.1
  have nu : ¬ uw κ' j := by
    unfold uw
    omega
  have hm : κ 13 j = 1 ∨ κ 13 j = 4 := hu
  have nD : ¬ Dn κ j := by
    unfold Dn
    omega
  have hJI := hI.2.2.2.2.1 j hc.1
  obtain ⟨_, _, _, _, g19a, g19b⟩ := gOf_ok hI.2.1 hJI nD
  obtain ⟨a1, a2, a3, a4, a5, a6, a7, a8, a9, a10, a11, a12, a13, a14, a15, a16⟩ := r2.1 j hc.1
  have hnl : ∀ y, y < 5 → ¬ j ∈ ls y := fun y hy q => by
    have := ((r3.2 y hy).2 j).mp q
    omega
  have hlen : (ls (t / 10)).length < n := by
    have h1 := nod_len n (j :: ls (t / 10)) (List.nodup_cons.mpr ⟨hnl _ (by omega), (r3.2 _ (by omega)).1⟩) (fun x hx => by
      rcases List.mem_cons.mp hx with q | q
      · rw [q]; exact hc.1
      · exact (((r3.2 _ (by omega)).2 x).mp q).1)
    rw [List.length_cons] at h1
    omega
  refine ⟨⟨RS_cg hE (fun f i a b c d e g h => hν f i (by omega) (by omega) (by omega)) ?_ r1, RD_mk (z := z) hE hc.1 (fun f i a b c d e g h => hν f i (by omega) (by omega) (by omega)) r2 ?_ ?_ ?_ (fun _ => hc.2.2) (fun q => absurd q nu) ⟨fun _ => h283, fun i hi => absurd hi (no_ca hI hc hE nu i)⟩, ⟨?_, fun y hy => ?_⟩, Sl_cg hE (fun q => by omega) r4, LX_fr (JE_pe hE) (hE 1 0 (by omega)) (fun x hx => by rw [hν 200 x (by omega) (by omega) (by omega)]; exact (r5.2.2.1 x hx).2.2) (hν 241 0 (by omega) (by omega) (by omega)) (hν 242 0 (by omega) (by omega) (by omega)) r5⟩, hlen⟩
  · rw [hν 327 0 (by omega) (by omega) (by omega), hE 12 0 (by omega)]
    exact r1.2.2.2.2.2.2.2.2.2.2.2.2.2
  · unfold JR
    rw [hs 80 (by omega) (by omega) (by omega), hs 81 (by omega) (by omega) (by omega), hs 82 (by omega) (by omega) (by omega), hs 83 (by omega) (by omega) (by omega), hs 84 (by omega) (by omega) (by omega), hs 92 (by omega) (by omega) (by omega), h85, h86, h87, h88, h89, h90, h91, e13, e18, e19, e20, e21, e22, jAn_2 e13, e22, ef 14 (by omega), ef 15 (by omega), ef 16 (by omega), ef 17 (by omega), ef 24 (by omega), a13]
    refine ⟨a1, a2, a3, a4, a5, a6, rfl, rfl, fun _ => rfl, fun q => by omega, fun _ => rfl, ?_, ?_, fun q => absurd q nu, fun _ => rfl, a16⟩
    · by_cases q : 2 < κ 19 j
      · rw [if_pos q, if_pos (by omega)]
      · rw [if_neg q, if_neg (by omega)]
    · rw [if_neg (by omega)]
  · intro s hs' h7
    have h := r2.2.1 s hs' h7
    rw [hν 162 s (by omega) (by omega) (by omega), hν 163 s (by omega) (by omega) (by omega), slT_eq hE (by rw [e13]; omega), cntS_eq hE (fun s _ => by unfold ocS; rw [e13]; exact ⟨fun q => (q.1.elim (fun y => by omega) (fun y => absurd y.1 nu)), fun q => (q.1.elim (fun y => by omega) (fun y => absurd y.2 h19))⟩) hs']
    exact h
  · intro b hb h8
    rw [hν 43 b (by omega) (by omega) (by omega), cntY_eq hE (fun b _ => by unfold ocY; rw [e13, e22]; exact ⟨fun q => q.elim (fun y => Or.inr ⟨hu, by omega, y.2⟩) (fun y => absurd y.1 nu), fun q => q.elim (fun y => by omega) (fun y => Or.inl ⟨rfl, y.2.2⟩)⟩) hb]
    exact r2.2.2.1 b hb h8
  · rw [fup_ne (by omega)]
    exact r3.1
  · have o : ∀ i, ¬ i = j → ((i < n ∧ (κ' 13 i = 0 ∨ κ' 13 i = 2) ∧ κ' 18 i / 10 = (y : Int)) ↔ i ∈ ls y) := by
      intro i hi
      rw [hE 13 i (by omega), hE 18 i (by omega)]
      exact ((r3.2 y hy).2 i).symm
    by_cases e : y = t / 10
    · rw [e, fup_eq, ← e]
      refine ⟨List.nodup_append.mpr ⟨(r3.2 y hy).1, List.nodup_cons.mpr ⟨List.not_mem_nil, List.nodup_nil⟩, fun a ha b hb => ?_⟩, fun i => ?_⟩
      · rw [List.mem_singleton.mp hb]
        intro q
        rw [q] at ha
        exact hnl y hy ha
      · by_cases hi : i = j
        · rw [hi]
          refine ⟨fun _ => ⟨hc.1, Or.inr e13, by rw [e18]; omega⟩, fun _ => List.mem_append.mpr (Or.inr (List.mem_singleton.mpr rfl))⟩
        · rw [o i hi]
          exact ⟨fun q => (List.mem_append.mp q).elim id (fun w => absurd (List.mem_singleton.mp w) hi), fun q => List.mem_append.mpr (Or.inl q)⟩
    · rw [fup_ne e]
      refine ⟨(r3.2 y hy).1, fun i => ?_⟩
      by_cases hi : i = j
      · rw [hi]
        refine ⟨fun q => absurd q (hnl y hy), fun q => ?_⟩
        have := q.2.2
        rw [e18] at this
        exact absurd (by omega) e
      · rw [o i hi]
end AR2
