/-! A PATH BEGINS, both sides. -/
section BG
variable {κ ν ν' : Mu} {L L' : Lv} {n j z : Nat} {ls : Nat → List Nat}
theorem er_mem {l : List Nat} (hn : l.Nodup) {p i : Nat} (hp : p < l.length) : i ∈ l.eraseIdx p ↔ (i ∈ l ∧ ¬ i = l.getD p 0) := by
  rw [gDl hp]
  have e : l.eraseIdx p = l.erase l[p] := by
    rw [List.erase_eq_eraseIdx]
    have h : List.idxOf? l[p] l = some p := by
      rw [List.idxOf?_eq_some_iff]
      refine ⟨hp, rfl, fun q hq => ?_⟩
      have := List.pairwise_iff_getElem.mp hn q p (by omega) hp hq
      exact this
    rw [h]
  rw [e, hn.mem_erase_iff]
  exact ⟨fun q => ⟨q.2, q.1⟩, fun q => ⟨q.2, q.1⟩⟩
theorem bg_sl {κ' : Mu} {t : Int} (hE : JE κ κ' j) (hj : j < n) (e13 : κ' 13 j = 1) (r4 : Sl κ n) : slT κ' n t ↔ (slT κ n t ∧ ¬ (κ 13 j = 0 ∧ κ 17 j = t)) := by
  unfold slT
  constructor
  · rintro ⟨i, q1, q2, q3⟩
    have hij : ¬ i = j := fun w9 => by rw [w9, e13] at q2; cases q2
    rw [hE 13 i (Or.inr (Or.inr (Or.inr hij)))] at q2
    rw [hE 17 i (Or.inr (Or.inr (Or.inr hij)))] at q3
    exact ⟨⟨i, q1, q2, q3⟩, fun w9 => hij (r4 i j q1 hj q2 w9.1 (by rw [q3, w9.2]))⟩
  · rintro ⟨⟨i, q1, q2, q3⟩, hne⟩
    have hij : ¬ i = j := fun w9 => by
      rw [w9] at q2 q3
      exact hne ⟨q2, q3⟩
    exact ⟨i, q1, by rw [hE 13 i (Or.inr (Or.inr (Or.inr hij)))]; exact q2, by rw [hE 17 i (Or.inr (Or.inr (Or.inr hij)))]; exact q3⟩
theorem bg_cS {κ' : Mu} {t : Int} (hE : JE κ κ' j) (hj : j < n) (hs : κ 13 j = 0 ∨ κ 13 j = 2) (e13 : κ' 13 j = 1) (e19 : κ' 19 j = κ 19 j) (e16 : κ' 16 j = κ 16 j) : (κ 19 j = 1 ∧ κ 16 j = t → cnt (ocS κ' t) n = cnt (ocS κ t) n + 1) ∧ (¬ (κ 19 j = 1 ∧ κ 16 j = t) → cnt (ocS κ' t) n = cnt (ocS κ t) n) := by
  have nu : ¬ uw κ j := by unfold uw; omega
  have n3 : ¬ κ 13 j = 3 := by omega
  have nb : ¬ ocS κ t j := fun q => q.1.elim n3 (fun y => nu y.1)
  have o : ∀ i, ¬ i = j → (ocS κ t i ↔ ocS κ' t i) := fun i hi => (ocS_cg (fun f _ _ => hE f i (Or.inr (Or.inr (Or.inr hi))))).symm
  refine ⟨fun c => cnt_up n hj (fun i _ hi => o i hi) nb ⟨Or.inr ⟨Or.inl e13, by rw [e19]; exact c.1⟩, by rw [e16]; exact c.2⟩, fun c => (cnt_cg n (fun i _ => ?_)).symm⟩
  by_cases hi : i = j
  · rw [hi]
    refine ⟨fun q => absurd q nb, fun q => ?_⟩
    unfold ocS at q
    rw [e13, e19, e16] at q
    exact absurd ⟨(q.1.elim (fun y => by cases y) (fun y => y.2)), q.2⟩ c
  · exact o i hi
theorem bg_cY {κ' : Mu} {t : Int} (hE : JE κ κ' j) (hj : j < n) (hs : κ 13 j = 0 ∨ κ 13 j = 2) (e13 : κ' 13 j = 1) (e19 : κ' 19 j = κ 19 j) (e20 : κ' 20 j = κ 20 j) : ((κ 13 j = 2 ∧ κ 22 j = t) → (1 < κ 19 j ∧ κ 20 j = t) → cnt (ocY κ' t) n = cnt (ocY κ t) n) ∧ ((κ 13 j = 2 ∧ κ 22 j = t) → ¬ (1 < κ 19 j ∧ κ 20 j = t) → cnt (ocY κ t) n = cnt (ocY κ' t) n + 1) ∧ (¬ (κ 13 j = 2 ∧ κ 22 j = t) → (1 < κ 19 j ∧ κ 20 j = t) → cnt (ocY κ' t) n = cnt (ocY κ t) n + 1) ∧ (¬ (κ 13 j = 2 ∧ κ 22 j = t) → ¬ (1 < κ 19 j ∧ κ 20 j = t) → cnt (ocY κ' t) n = cnt (ocY κ t) n) := by
  have nu : ¬ uw κ j := by unfold uw; omega
  have o : ∀ i, ¬ i = j → (ocY κ t i ↔ ocY κ' t i) := fun i hi => (ocY_cg (fun f _ _ => hE f i (Or.inr (Or.inr (Or.inr hi))))).symm
  have pB : ocY κ t j ↔ (κ 13 j = 2 ∧ κ 22 j = t) := ⟨fun q => q.elim id (fun y => absurd y.1 nu), fun q => Or.inl q⟩
  have pA : ocY κ' t j ↔ (1 < κ 19 j ∧ κ 20 j = t) := by
    unfold ocY
    rw [e13, e19, e20]
    exact ⟨fun q => q.elim (fun y => by cases y.1) (fun y => y.2), fun q => Or.inr ⟨Or.inl e13, q⟩⟩
  refine ⟨fun b a => cnt_cg n (fun i _ => ?_), fun b a => cnt_up n hj (fun i _ hi => (o i hi).symm) (fun q => a (pA.mp q)) (pB.mpr b), fun b a => cnt_up n hj (fun i _ hi => o i hi) (fun q => b (pB.mp q)) (pA.mpr a), fun b a => cnt_cg n (fun i _ => ?_)⟩
  · by_cases hi : i = j
    · rw [hi]
      exact ⟨fun _ => pB.mpr b, fun _ => pA.mpr a⟩
    · exact (o i hi).symm
  · by_cases hi : i = j
    · rw [hi]
      exact ⟨fun q => absurd (pA.mp q) a, fun q => absurd (pB.mp q) b⟩
    · exact (o i hi).symm
theorem bg_43 {b : Nat} (hs : κ 13 j = 0 ∨ κ 13 j = 2) (h22 : κ 13 j = 2 → 0 ≤ κ 22 j) (h19 : 1 ≤ κ 19 j) (h20 : ¬ κ 19 j = 1 → 0 ≤ κ 20 j) {A B : Nat} (hA : ν 43 b = (A : Int)) (c1 : (κ 13 j = 2 ∧ κ 22 j = (b : Int)) → (1 < κ 19 j ∧ κ 20 j = (b : Int)) → B = A) (c2 : (κ 13 j = 2 ∧ κ 22 j = (b : Int)) → ¬ (1 < κ 19 j ∧ κ 20 j = (b : Int)) → A = B + 1) (c3 : ¬ (κ 13 j = 2 ∧ κ 22 j = (b : Int)) → (1 < κ 19 j ∧ κ 20 j = (b : Int)) → B = A + 1) (c4 : ¬ (κ 13 j = 2 ∧ κ 22 j = (b : Int)) → ¬ (1 < κ 19 j ∧ κ 20 j = (b : Int)) → B = A) : clU κ (lvU κ ν j) j 43 b = (B : Int) := by
  have o1 : ((κ 13 j = 2 ∧ κ 22 j = (b : Int)) → lvU κ ν j 43 b = ν 43 b - 1) ∧ (¬ (κ 13 j = 2 ∧ κ 22 j = (b : Int)) → lvU κ ν j 43 b = ν 43 b) := by
    unfold lvU
    by_cases c : κ 13 j = 0
    · rw [if_pos c]
      exact ⟨fun q => by omega, fun _ => mup_ne (by omega)⟩
    · rw [if_neg c]
      have h2 : κ 13 j = 2 := by omega
      have := h22 h2
      exact ⟨fun q => by rw [show (κ 22 j).toNat = b from by omega, mup_eq], fun q => mup_ne (fun w9 => q ⟨h2, by omega⟩)⟩
  have o2 : ((1 < κ 19 j ∧ κ 20 j = (b : Int)) → clU κ (lvU κ ν j) j 43 b = lvU κ ν j 43 b + 1) ∧ (¬ (1 < κ 19 j ∧ κ 20 j = (b : Int)) → clU κ (lvU κ ν j) j 43 b = lvU κ ν j 43 b) := by
    generalize lvU κ ν j = μ
    unfold clU
    by_cases c : κ 19 j = 1
    · rw [if_pos c]
      exact ⟨fun q => by omega, fun _ => mup_ne (by omega)⟩
    · rw [if_neg c]
      have := h20 c
      exact ⟨fun q => by rw [show (κ 20 j).toNat = b from by omega, mup_eq], fun q => mup_ne (fun w9 => q ⟨by omega, by omega⟩)⟩
  by_cases b1 : κ 13 j = 2 ∧ κ 22 j = (b : Int)
  · by_cases a1 : 1 < κ 19 j ∧ κ 20 j = (b : Int)
    · rw [o2.1 a1, o1.1 b1, hA, c1 b1 a1]
      omega
    · rw [o2.2 a1, o1.1 b1, hA, c2 b1 a1]
      omega
  · by_cases a1 : 1 < κ 19 j ∧ κ 20 j = (b : Int)
    · rw [o2.1 a1, o1.2 b1, hA, c3 b1 a1]
      omega
    · rw [o2.2 a1, o1.2 b1, hA, c4 b1 a1]
theorem bg_162 {t : Nat} (h17 : 0 ≤ κ 17 j) : (κ 13 j = 0 ∧ κ 17 j = (t : Int) → lvU κ ν j 162 t = 0) ∧ (¬ (κ 13 j = 0 ∧ κ 17 j = (t : Int)) → lvU κ ν j 162 t = ν 162 t) := by
  unfold lvU
  by_cases c : κ 13 j = 0
  · rw [if_pos c]
    exact ⟨fun q => by rw [show (κ 17 j).toNat = t from by omega, mup_eq], fun q => mup_ne (fun w9 => q ⟨c, by omega⟩)⟩
  · rw [if_neg c]
    exact ⟨fun q => absurd q.1 c, fun _ => mup_ne (by omega)⟩
theorem bg_163 {t : Nat} (h16 : 0 ≤ κ 16 j) : (κ 19 j = 1 ∧ κ 16 j = (t : Int) → clU κ (lvU κ ν j) j 163 t = ν 163 t + 1) ∧ (¬ (κ 19 j = 1 ∧ κ 16 j = (t : Int)) → clU κ (lvU κ ν j) j 163 t = ν 163 t) := by
  have e : ∀ x, lvU κ ν j 163 x = ν 163 x := fun x => lvU_ne (by omega) (by omega)
  unfold clU
  by_cases c : κ 19 j = 1
  · rw [if_pos c]
    exact ⟨fun q => by rw [show (κ 16 j).toNat = t from by omega, mup_eq, e], fun q => by rw [mup_ne (fun w9 => q ⟨c, by omega⟩), e]⟩
  · rw [if_neg c]
    exact ⟨fun q => absurd q.1 c, fun _ => by rw [mup_ne (by omega), e]⟩
theorem Rl_bg {p u w : Nat} (hI : Inv κ n) (hR : Rl κ n ν L ls) (hz : z < 5) (hj : j < n) (hs : κ 13 j = 0 ∨ κ 13 j = 2) (hjz : κ 18 j / 10 = (z : Int)) (hno : ∀ i, ¬ caP κ n z i) (hp : p < (ls z).length) (hpj : (ls z).getD p 0 = j) (hP : Pth κ (κ 18 j) (gOf κ j) u w) (hN : 0 < u + w) (hLe : L' = Ln L 5 z)
    (hν : ∀ f i, ¬ (80 ≤ f ∧ f ≤ 92 ∧ i = j) → ¬ (200 ≤ f ∧ f ≤ 239 ∧ i = z) → ¬ (f = 283 ∧ i = z) → ¬ f = 43 → ¬ f = 162 → ¬ f = 163 → ν' f i = ν f i) (h43 : ∀ b, ν' 43 b = clU κ (lvU κ ν j) j 43 b) (h162 : ∀ b, ν' 162 b = lvU κ ν j 162 b) (h163 : ∀ b, ν' 163 b = clU κ (lvU κ ν j) j 163 b)
    (hsm : ∀ f, 80 ≤ f → f ≤ 92 → ¬ f = 85 → ¬ f = 86 → ¬ f = 91 → ν' f j = ν f j) (h85 : ν' 85 j = 1) (h86 : ν' 86 j = z) (h91 : ν' 91 j = z) (h283 : ν' 283 z = z) (v0 : ν' 200 z = j) (v1 : ν' 201 z = gOf κ j) (v2 : ν' 202 z = κ 18 j) (v3 : ν' 203 z = pth κ (κ 18 j) (gOf κ j) u w 1) (v4 : ν' 204 z = 0) (v5 : ν' 205 z = wen κ (κ 18 j) (gOf κ j) u w 1) : Rl (bgS κ j) n ν' L' (fup ls z ((ls z).eraseIdx p)) := by
  obtain ⟨r1, r2, r3, r4, r5⟩ := hR
  have hL : ∀ c x, L c x → L' c x := fun c x q => by rw [hLe]; exact Or.inr q
  have l5 : L' 5 z := by rw [hLe]; exact Or.inl ⟨rfl, rfl⟩
  obtain ⟨hT, hPl, ⟨hn, h40⟩, _, a5, _, _, _⟩ := id hI
  have hE : JE κ (bgS κ j) j := JE_up (JE_up (JE_up (JE_rf κ j) (by omega)) (by omega)) (by omega)
  have hpe := JE_pe hE
  have e13 : bgS κ j 13 j = 1 := by unfold bgS; rw [mup_f rfl, mup_f rfl, mup_eq]
  have e23 : bgS κ j 23 j = 0 := by unfold bgS; rw [mup_eq]
  have ef : ∀ f, (14 ≤ f ∧ f ≤ 21) ∨ f = 24 → bgS κ j f j = κ f j := by
    intro f hf
    unfold bgS
    rw [mup_ne (by omega), mup_ne (by omega), mup_ne (by omega)]
  generalize bgS κ j = κ' at *
  have hu' : uw κ' j := Or.inl e13
  have nu : ¬ uw κ j := by
    unfold uw
    omega
  have nD : ¬ Dn κ j := by
    unfold Dn
    omega
  have hJI := a5 j hj
  obtain ⟨ng, zg, hneg, h20, h19a, h19b⟩ := gOf_ok hPl hJI nD
  have hle : ∀ c x, L c x → L' c x := hL
  obtain ⟨a1, a2, a3, a4, a5', a6, a7, a8, a9, a10, a11, a12, a13, a14, a15, a16⟩ := r2.1 j hj
  have r2' : RD κ ν L' n := RD_L hle r2
  refine ⟨RS_cg hE (fun f i a b c d e g h => hν f i (by omega) (by omega) (by omega) d e g) ?_ (RS_L hle r1), RD_mk (z := z) hE hj (fun f i a b c d e g h => hν f i a b c d e g) r2' ?_ ?_ ?_ (fun q => absurd q nu) (fun _ => by rw [ef 18 (by omega)]; exact hjz) ⟨fun q => absurd ⟨hj, hu', by rw [ef 18 (by omega)]; exact hjz⟩ (q j), fun i hi => ?_⟩, ⟨?_, fun y hy => ?_⟩, Sl_cg hE (fun q => by omega) r4, ?_⟩
  · rw [hν 327 0 (by omega) (by omega) (by omega) (by omega) (by omega) (by omega), hE 12 0 (by omega)]
    exact r1.2.2.2.2.2.2.2.2.2.2.2.2.2
  · unfold JR
    rw [hsm 80 (by omega) (by omega) (by omega) (by omega) (by omega), hsm 81 (by omega) (by omega) (by omega) (by omega) (by omega), hsm 82 (by omega) (by omega) (by omega) (by omega) (by omega), hsm 83 (by omega) (by omega) (by omega) (by omega) (by omega), hsm 84 (by omega) (by omega) (by omega) (by omega) (by omega), hsm 87 (by omega) (by omega) (by omega) (by omega) (by omega), hsm 89 (by omega) (by omega) (by omega) (by omega) (by omega), hsm 90 (by omega) (by omega) (by omega) (by omega) (by omega), hsm 92 (by omega) (by omega) (by omega) (by omega) (by omega), h85, h86, h91, e13, jAn_u hu', ef 14 (by omega), ef 15 (by omega), ef 16 (by omega), ef 17 (by omega), ef 18 (by omega), ef 19 (by omega), ef 20 (by omega), ef 21 (by omega), ef 24 (by omega), hjz]
    exact ⟨hle _ _ a1, a2, a3, a4, a5', a6, rfl, rfl, fun _ => a9 nD, fun q => by omega, fun q => by omega, a12, a13, fun _ => rfl, fun q => absurd hu' q, a16⟩
  · intro t ht h7
    have h := r2.2.1 t ht h7
    have o162 := bg_162 (κ := κ) (ν := ν) (j := j) (t := t) hJI.2.1.1
    have o163 := bg_163 (κ := κ) (ν := ν) (j := j) (t := t) hJI.1.1
    have cS := bg_cS (t := (t : Int)) hE hj hs e13 (ef 19 (Or.inl ⟨by decide, by decide⟩)) (ef 16 (Or.inl ⟨by decide, by decide⟩))
    rw [h162 t, h163 t, bg_sl hE hj e13 r4]
    clear hν h43 h162 h163 hsm ef hE
    refine ⟨fun q => ?_, fun q => ?_, ?_⟩
    · rw [o162.2 q.2]
      exact h.1 q.1
    · by_cases c : κ 13 j = 0 ∧ κ 17 j = (t : Int)
      · exact o162.1 c
      · rw [o162.2 c]
        exact h.2.1 (fun w9 => q ⟨w9, c⟩)
    · by_cases c : κ 19 j = 1 ∧ κ 16 j = (t : Int)
      · rw [o163.1 c, cS.1 c, h.2.2]
        rfl
      · rw [o163.2 c, cS.2 c]
        exact h.2.2
  · intro b hb h8
    have cY := bg_cY (t := (b : Int)) hE hj hs e13 (ef 19 (Or.inl ⟨by decide, by decide⟩)) (ef 20 (Or.inl ⟨by decide, by decide⟩))
    rw [h43 b]
    exact bg_43 hs (fun q => (hJI.2.2.2.2.2.2.2 q).1) h19a (fun q => (h20 q).1) (r2.2.2.1 b hb h8) cY.1 cY.2.1 cY.2.2.1 cY.2.2.2
  · have e : i = j := by
      by_cases e : i = j
      · exact e
      · exfalso
        refine hno i ⟨hi.1, ?_, ?_⟩
        · have := hi.2.1
          rw [uw_cg (hE 13 i (by omega))] at this
          exact this
        · have := hi.2.2
          rw [hE 18 i (by omega)] at this
          exact this
    rw [e]
    refine ⟨h283, l5, TR_mk (i := 1) hpe (ef 16 (by omega)) (ef 18 (by omega)) (ef 19 (by omega)) (ef 20 (by omega)) hP (Nat.le_refl _) hN (fun _ => ?_) (fun q => by omega) v0 v1 (by rw [Nat.sub_self, pth_0]; exact v2) v3 (by rw [e23]; exact v4) v5⟩
    rw [e23]
    exact ⟨Int.le_refl _, wen_lt hT hJI.2.2.1 ng hP (i := 0) 1 (by omega) hN⟩
  · rw [fup_ne (by omega)]
    exact r3.1
  · by_cases e : y = z
    · subst e
      rw [fup_eq]
      refine ⟨(r3.2 y hy).1.eraseIdx p, fun i => ?_⟩
      rw [er_mem (r3.2 y hy).1 hp, hpj, (r3.2 y hy).2 i]
      by_cases hi : i = j
      · rw [hi]
        exact ⟨fun q => absurd rfl q.2, fun q => by omega⟩
      · rw [hE 13 i (by omega), hE 18 i (by omega)]
        exact ⟨fun q => q.1, fun q => ⟨q, hi⟩⟩
    · rw [fup_ne e]
      refine ⟨(r3.2 y hy).1, fun i => ?_⟩
      rw [(r3.2 y hy).2 i]
      by_cases hi : i = j
      · rw [hi, ef 18 (by omega), hjz]
        exact ⟨fun q => absurd (by omega) e, fun q => absurd (by omega) e⟩
      · rw [hE 13 i (by omega), hE 18 i (by omega)]
  · have k41 := hν 241 0 (by omega) (by omega) (by omega) (by omega) (by omega) (by omega)
    have k42 := hν 242 0 (by omega) (by omega) (by omega) (by omega) (by omega) (by omega)
    have k1 : κ' 1 0 = κ 1 0 := hE 1 0 (by omega)
    have s1 : κ 1 0 = 1 := hI.2.2.2.2.2.2.1 (by omega)
    have o200 : ∀ x, ¬ x = z → ν' 200 x = ν 200 x := fun x hx => hν 200 x (by omega) (by omega) (by omega) (by omega) (by omega) (by omega)
    obtain ⟨b1, b2, b3, b4, b5, b6, b7, b8, b9, b10, b11⟩ := r5
    have ne : ∀ c x, ¬ c = 5 → L' c x → L c x := fun c x hc q => by
      rw [hLe] at q
      exact q.elim (fun w9 => absurd w9.1 hc) id
    refine ⟨fun x hx => b1 x (ne 2 x (by omega) hx), fun x hx => b2 x (ne 7 x (by omega) hx), fun x hx => ?_, fun x hx => by rw [nod_cg hpe.1]; exact b4 x (ne 3 x (by omega) hx), fun x hx => by rw [hpe.2.2.1]; exact b5 x (ne 4 x (by omega) hx), fun x hx => by rw [hpe.2.2.2.1]; exact b6 x (ne 1 x (by omega) hx), fun x hx => b7 x (ne 8 x (by omega) hx), fun x hx => b8 x (ne 6 x (by omega) hx), fun c x q1 q2 hx => b9 c x q1 q2 (ne c x (by omega) hx), by rw [k41]; exact b10.imp id (fun q => ⟨q.1, hL _ _ q.2⟩), by rw [k42]; exact b11.imp id (fun q => ⟨q.1, hL _ _ q.2⟩)⟩
    by_cases e : x = z
    · rw [e, v0, k1]
      exact ⟨hz, s1, by omega, by omega⟩
    · rw [k1, o200 x e]
      rw [hLe] at hx
      exact b3 x (hx.elim (fun w9 => absurd w9.2 e) id)
end BG
