/-! STATIONS AND BAYS are added to the plan. -/
section PL3
variable {κ κ' ν ν' : Mu} {L L' : Lv} {ls : Nat → List Nat}
theorem Rl_pl (hR : Rl κ 0 ν L ls) (hk : ∀ f, f = 1 ∨ f = 2 ∨ f = 3 ∨ f = 5 ∨ f = 6 ∨ f = 11 ∨ f = 12 ∨ f = 40 → κ' f = κ f) (hL : ∀ c x, L c x → L' c x) (hL' : ∀ c x, L' c x → ¬ c = 4 → ¬ c = 1 → L c x) (h4 : ∀ x, L' 4 x → x < 12 ∧ ¬ κ' 7 x = -1) (h1 : ∀ x, L' 1 x → x < 6 ∧ ¬ κ' 8 x = -1)
    (hv : ∀ f i, ¬ (40 ≤ f ∧ f ≤ 79) → ¬ (160 ≤ f ∧ f ≤ 199) → ¬ f = 524 → ¬ f = 526 → ¬ f = 126 → ν' f i = ν f i)
    (hb : ∀ b : Nat, b < 6 → (κ' 8 b = -1 → ν' 524 b = -1) ∧ (¬ κ' 8 b = -1 → L' 1 b ∧ ν' 524 b = b ∧ ν' 40 b = b ∧ ν' 41 b = κ' 8 b ∧ ν' 42 b = κ' 9 b ∧ ν' 43 b = 0))
    (hs : ∀ s : Nat, s < 12 → (κ' 7 s = -1 → ν' 526 s = -1) ∧ (¬ κ' 7 s = -1 → L' 4 s ∧ ν' 526 s = s ∧ ν' 160 s = s ∧ ν' 161 s = κ' 7 s ∧ ν' 162 s = 0 ∧ ν' 163 s = 0))
    (h26 : ∀ k : Nat, nod κ k → ν' 126 k = if κ' 4 k = 0 then 0 else 1) : Rl κ' 0 ν' L' ls := by
  obtain ⟨r1, r2, r3, r4, r5⟩ := hR
  obtain ⟨q1, q2, q3, q4, q5, q6, q7, q8, q9, q10, q11, q12, q13, q14⟩ := r1
  obtain ⟨d1, d2, d3⟩ := RD_e r2
  obtain ⟨a1, a2, a3, a4, a5, a6, a7, a8, a9, a10, a11⟩ := r5
  have tE : TE κ κ' := ⟨hk 2 (by omega), hk 3 (by omega), hk 40 (by omega)⟩
  have el : ∀ k, lfB κ' k ↔ lfB κ k := fun k => by
    unfold lfB
    rw [hk 2 (by omega)]
  refine ⟨⟨fun z hz => ?_, fun k hk' => ?_, fun b hb' => ⟨(hb b hb').1, fun q => ?_⟩, fun s hs' => ⟨(hs s hs').1, fun q => ?_⟩, fun k hk' => ?_, ⟨hL _ _ q6.1, hL _ _ q6.2.1, hL _ _ q6.2.2.1, hL _ _ q6.2.2.2.1, hL _ _ q6.2.2.2.2.1, hL _ _ q6.2.2.2.2.2⟩, ?_, ?_, ?_, ?_, ?_, ?_, ?_, ?_⟩, RD_0 (fun s hs' h7 => ?_) (fun b hb' h8 => ?_) (fun z hz => ?_), LQ_0 r3, Sl_0, ⟨fun x hx => a1 x (hL' _ _ hx (by omega) (by omega)), fun x hx => a2 x (hL' _ _ hx (by omega) (by omega)), fun x hx => ?_, fun x hx => ?_, h4, h1, fun x hx => a7 x (hL' _ _ hx (by omega) (by omega)), fun x hx => a8 x (hL' _ _ hx (by omega) (by omega)), fun c x q1 q2 hx => a9 c x q1 q2 (hL' _ _ hx (by omega) (by omega)), ?_, ?_⟩⟩
  · have w := q1 z hz
    rw [hv 527 z (by omega) (by omega) (by omega) (by omega) (by omega), hv 280 z (by omega) (by omega) (by omega) (by omega) (by omega), hv 281 z (by omega) (by omega) (by omega) (by omega) (by omega), hv 282 z (by omega) (by omega) (by omega) (by omega) (by omega), hv 284 z (by omega) (by omega) (by omega) (by omega) (by omega), hk 6 (by omega)]
    exact ⟨hL _ _ w.1, hL _ _ w.2.1, hL _ _ w.2.2.1, w.2.2.2⟩
  · rw [nod_cg tE] at hk'
    obtain ⟨w1, w2, w3, w4, w5, w6, w7, w8, w9, w10⟩ := q2 k hk'
    rw [hv 120 k (by omega) (by omega) (by omega) (by omega) (by omega), hv 121 k (by omega) (by omega) (by omega) (by omega) (by omega), hv 122 k (by omega) (by omega) (by omega) (by omega) (by omega), hv 123 k (by omega) (by omega) (by omega) (by omega) (by omega), hv 124 k (by omega) (by omega) (by omega) (by omega) (by omega), hv 125 k (by omega) (by omega) (by omega) (by omega) (by omega), hv 127 k (by omega) (by omega) (by omega) (by omega) (by omega), hk 2 (by omega), hk 3 (by omega), hk 40 (by omega), hk 5 (by omega), el]
    exact ⟨hL _ _ w1, w2, w3, w4, w5, w6, w7, w8, w9, h26 k hk'⟩
  · have := (hb b hb').2 q
    exact ⟨this.1, this.2.1, this.2.2.1, this.2.2.2.1, this.2.2.2.2.1⟩
  · have := (hs s hs').2 q
    exact ⟨this.1, this.2.1, this.2.2.1, this.2.2.2.1⟩
  · rw [hv 525 k (by omega) (by omega) (by omega) (by omega) (by omega), hk 2 (by omega)]
    exact q5 k hk'
  · rw [hv 320 0 (by omega) (by omega) (by omega) (by omega) (by omega)]; exact q7
  · rw [hv 321 0 (by omega) (by omega) (by omega) (by omega) (by omega)]; exact q8
  · rw [hv 322 0 (by omega) (by omega) (by omega) (by omega) (by omega)]; exact q9
  · rw [hv 323 0 (by omega) (by omega) (by omega) (by omega) (by omega)]; exact q10
  · rw [hv 324 0 (by omega) (by omega) (by omega) (by omega) (by omega)]; exact q11
  · rw [hv 325 0 (by omega) (by omega) (by omega) (by omega) (by omega), hk 1 (by omega)]; exact q12
  · rw [hv 326 0 (by omega) (by omega) (by omega) (by omega) (by omega), hk 11 (by omega)]; exact q13
  · rw [hv 327 0 (by omega) (by omega) (by omega) (by omega) (by omega), hk 12 (by omega)]; exact q14
  · exact ((hs s hs').2 h7).2.2.2.2
  · exact ((hb b hb').2 h8).2.2.2.2.2
  · rw [hv 283 z (by omega) (by omega) (by omega) (by omega) (by omega)]
    exact d3 z hz
  · rw [hk 1 (by omega), hv 200 x (by omega) (by omega) (by omega) (by omega) (by omega)]
    exact a3 x (hL' _ _ hx (by omega) (by omega))
  · rw [nod_cg tE]
    exact a4 x (hL' _ _ hx (by omega) (by omega))
  · rw [hv 241 0 (by omega) (by omega) (by omega) (by omega) (by omega)]
    exact a10.imp id (fun q => ⟨q.1, hL _ _ q.2⟩)
  · rw [hv 242 0 (by omega) (by omega) (by omega) (by omega) (by omega)]
    exact a11.imp id (fun q => ⟨q.1, hL _ _ q.2⟩)
theorem Rl_sta {X K : Nat} (hR : Rl κ 0 ν L ls) (hX : X < 12) (hK : nod κ K)
    (hv : ∀ f i, ¬ (160 ≤ f ∧ f ≤ 199 ∧ i = X) → ¬ (f = 526 ∧ i = X) → ¬ (f = 126 ∧ i = K) → ν' f i = ν f i) (v160 : ν' 160 X = X) (v161 : ν' 161 X = K) (v162 : ν' 162 X = 0) (v163 : ν' 163 X = 0) (v526 : ν' 526 X = X) (v126 : ν' 126 K = 1) :
    Rl (mup (mup κ 7 X K) 4 K (1 + X)) 0 ν' (Ln L 4 X) ls := by
  obtain ⟨r1, r2, r3, r4, r5⟩ := id hR
  obtain ⟨d1, d2, d3⟩ := RD_e r2
  have ef : ∀ f, ¬ f = 7 → ¬ f = 4 → mup (mup κ 7 X K) 4 K (1 + X) f = κ f := fun f h1 h2 => funext fun i => by rw [mup_ne (fun z => h2 z.1), mup_ne (fun z => h1 z.1)]
  have e7 : mup (mup κ 7 X K) 4 K (1 + X) 7 X = K := by rw [mup_f rfl, mup_eq]
  have e7n : ∀ i, ¬ i = X → mup (mup κ 7 X K) 4 K (1 + X) 7 i = κ 7 i := fun i hi => by rw [mup_f rfl, mup_o hi]
  have e4 : mup (mup κ 7 X K) 4 K (1 + X) 4 K = 1 + X := mup_eq _ _ _ _
  have e4n : ∀ i, ¬ i = K → mup (mup κ 7 X K) 4 K (1 + X) 4 i = κ 4 i := fun i hi => by rw [mup_o hi, mup_f rfl]
  generalize mup (mup κ 7 X K) 4 K (1 + X) = κ' at *
  have ot : ∀ c x, Ln L 4 X c x → ¬ (c = 4 ∧ x = X) → L c x := fun c x q hc => q.elim (fun y => absurd y hc) id
  refine Rl_pl hR (fun f hf => ef f (by omega) (by omega)) (fun c x q => Or.inr q) (fun c x q hc _ => ot c x q (by omega)) (fun x hx => ?_) (fun x hx => ?_) (fun f i f1 f2 f3 f4 f5 => hv f i (by omega) (by omega) (by omega)) (fun b hb => ?_) (fun s hs => ?_) (fun k hk => ?_)
  · by_cases e : x = X
    · subst e
      rw [e7]
      exact ⟨hX, by omega⟩
    · rw [e7n x e]
      exact r5.2.2.2.2.1 x (ot _ _ hx (by omega))
  · rw [ef 8 (by omega) (by omega)]
    exact r5.2.2.2.2.2.1 x (ot _ _ hx (by omega))
  · rw [ef 8 (by omega) (by omega), ef 9 (by omega) (by omega), hv 524 b (by omega) (by omega) (by omega), hv 40 b (by omega) (by omega) (by omega), hv 41 b (by omega) (by omega) (by omega), hv 42 b (by omega) (by omega) (by omega), hv 43 b (by omega) (by omega) (by omega)]
    have w := r1.2.2.1 b hb
    exact ⟨w.1, fun q => ⟨Or.inr (w.2 q).1, (w.2 q).2.1, (w.2 q).2.2.1, (w.2 q).2.2.2.1, (w.2 q).2.2.2.2, d2 b hb q⟩⟩
  · by_cases e : s = X
    · subst e
      rw [e7, v526, v160, v161, v162, v163]
      exact ⟨fun q => by omega, fun _ => ⟨Or.inl ⟨rfl, rfl⟩, rfl, rfl, rfl, rfl, rfl⟩⟩
    · rw [e7n s e, hv 526 s (by omega) (by omega) (by omega), hv 160 s (by omega) (by omega) (by omega), hv 161 s (by omega) (by omega) (by omega), hv 162 s (by omega) (by omega) (by omega), hv 163 s (by omega) (by omega) (by omega)]
      have w := r1.2.2.2.1 s hs
      exact ⟨w.1, fun q => ⟨Or.inr (w.2 q).1, (w.2 q).2.1, (w.2 q).2.2.1, (w.2 q).2.2.2, d1 s hs q⟩⟩
  · by_cases e : k = K
    · subst e
      rw [v126, e4, if_neg (by omega)]
    · rw [hv 126 k (by omega) (by omega) (by omega), e4n k e]
      exact (r1.2.1 k hk).2.2.2.2.2.2.2.2.2
theorem Rl_bay {X K J : Nat} (hR : Rl κ 0 ν L ls) (hX : X < 6) (hK : nod κ K) (hJ : nod κ J)
    (hv : ∀ f i, ¬ (40 ≤ f ∧ f ≤ 79 ∧ i = X) → ¬ (f = 524 ∧ i = X) → ¬ (f = 126 ∧ i = K) → ¬ (f = 126 ∧ i = J) → ν' f i = ν f i) (v40 : ν' 40 X = X) (v41 : ν' 41 X = K) (v42 : ν' 42 X = J) (v43 : ν' 43 X = 0) (v524 : ν' 524 X = X) (v126 : ν' 126 K = 1) (v126' : ν' 126 J = 1) :
    Rl (mup (mup (mup (mup κ 8 X K) 9 X J) 4 K (50 + X)) 4 J (50 + X)) 0 ν' (Ln L 1 X) ls := by
  obtain ⟨r1, r2, r3, r4, r5⟩ := id hR
  obtain ⟨d1, d2, d3⟩ := RD_e r2
  have ef : ∀ f, ¬ f = 8 → ¬ f = 9 → ¬ f = 4 → mup (mup (mup (mup κ 8 X K) 9 X J) 4 K (50 + X)) 4 J (50 + X) f = κ f := fun f h1 h2 h3 => funext fun i => by rw [mup_ne (fun z => h3 z.1), mup_ne (fun z => h3 z.1), mup_ne (fun z => h2 z.1), mup_ne (fun z => h1 z.1)]
  have e8 : mup (mup (mup (mup κ 8 X K) 9 X J) 4 K (50 + X)) 4 J (50 + X) 8 X = K := by rw [mup_f rfl, mup_f rfl, mup_f rfl, mup_eq]
  have e9 : mup (mup (mup (mup κ 8 X K) 9 X J) 4 K (50 + X)) 4 J (50 + X) 9 X = J := by rw [mup_f rfl, mup_f rfl, mup_eq]
  have e8n : ∀ i, ¬ i = X → mup (mup (mup (mup κ 8 X K) 9 X J) 4 K (50 + X)) 4 J (50 + X) 8 i = κ 8 i := fun i hi => by rw [mup_f rfl, mup_f rfl, mup_f rfl, mup_o hi]
  have e9n : ∀ i, ¬ i = X → mup (mup (mup (mup κ 8 X K) 9 X J) 4 K (50 + X)) 4 J (50 + X) 9 i = κ 9 i := fun i hi => by rw [mup_f rfl, mup_f rfl, mup_o hi, mup_f rfl]
  have e4 : mup (mup (mup (mup κ 8 X K) 9 X J) 4 K (50 + X)) 4 J (50 + X) 4 J = 50 + X := mup_eq _ _ _ _
  have e4' : mup (mup (mup (mup κ 8 X K) 9 X J) 4 K (50 + X)) 4 J (50 + X) 4 K = 50 + X := by
    by_cases e : K = J
    · rw [e, mup_eq]
    · rw [mup_o e, mup_eq]
  have e4n : ∀ i, ¬ i = K → ¬ i = J → mup (mup (mup (mup κ 8 X K) 9 X J) 4 K (50 + X)) 4 J (50 + X) 4 i = κ 4 i := fun i h1 h2 => by rw [mup_o h2, mup_o h1, mup_f rfl, mup_f rfl]
  generalize mup (mup (mup (mup κ 8 X K) 9 X J) 4 K (50 + X)) 4 J (50 + X) = κ' at *
  have ot : ∀ c x, Ln L 1 X c x → ¬ (c = 1 ∧ x = X) → L c x := fun c x q hc => q.elim (fun y => absurd y hc) id
  refine Rl_pl hR (fun f hf => ef f (by omega) (by omega) (by omega)) (fun c x q => Or.inr q) (fun c x q _ hc => ot c x q (by omega)) (fun x hx => ?_) (fun x hx => ?_) (fun f i f1 f2 f3 f4 f5 => hv f i (by omega) (by omega) (by omega) (by omega)) (fun b hb => ?_) (fun s hs => ?_) (fun k hk => ?_)
  · rw [ef 7 (by omega) (by omega) (by omega)]
    exact r5.2.2.2.2.1 x (ot _ _ hx (by omega))
  · by_cases e : x = X
    · subst e
      rw [e8]
      exact ⟨hX, by omega⟩
    · rw [e8n x e]
      exact r5.2.2.2.2.2.1 x (ot _ _ hx (by omega))
  · by_cases e : b = X
    · subst e
      rw [e8, e9, v524, v40, v41, v42, v43]
      exact ⟨fun q => by omega, fun _ => ⟨Or.inl ⟨rfl, rfl⟩, rfl, rfl, rfl, rfl, rfl⟩⟩
    · rw [e8n b e, e9n b e, hv 524 b (by omega) (by omega) (by omega) (by omega), hv 40 b (by omega) (by omega) (by omega) (by omega), hv 41 b (by omega) (by omega) (by omega) (by omega), hv 42 b (by omega) (by omega) (by omega) (by omega), hv 43 b (by omega) (by omega) (by omega) (by omega)]
      have w := r1.2.2.1 b hb
      exact ⟨w.1, fun q => ⟨Or.inr (w.2 q).1, (w.2 q).2.1, (w.2 q).2.2.1, (w.2 q).2.2.2.1, (w.2 q).2.2.2.2, d2 b hb q⟩⟩
  · rw [ef 7 (by omega) (by omega) (by omega), hv 526 s (by omega) (by omega) (by omega) (by omega), hv 160 s (by omega) (by omega) (by omega) (by omega), hv 161 s (by omega) (by omega) (by omega) (by omega), hv 162 s (by omega) (by omega) (by omega) (by omega), hv 163 s (by omega) (by omega) (by omega) (by omega)]
    have w := r1.2.2.2.1 s hs
    exact ⟨w.1, fun q => ⟨Or.inr (w.2 q).1, (w.2 q).2.1, (w.2 q).2.2.1, (w.2 q).2.2.2, d1 s hs q⟩⟩
  · by_cases e : k = K
    · subst e
      rw [v126, e4', if_neg (by omega)]
    · by_cases e2 : k = J
      · subst e2
        rw [v126', e4, if_neg (by omega)]
      · rw [hv 126 k (by omega) (by omega) (by omega) (by omega), e4n k e e2]
        exact (r1.2.1 k hk).2.2.2.2.2.2.2.2.2
end PL3
