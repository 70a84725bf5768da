/-! ROWS OF THE CLASS ARE WRITTEN; the plan grows. -/
section PUT
variable {d M : Nat} {Q : Rs → St → Prop} {pc : Nat} {lv : List (Option V_)} {st : List V_} {S S0 : St} {G : Ga} {L : Lv} {κ ν : Mu} {ls : Nat → List Nat} {Ar : Nat → Nat} {c s n : Nat}
theorem aln_inj {c i j p q : Nat} (ho : okR c = true) (hp : p < aln c) (hq : q < aln c) (h : aln c * i + p = aln c * j + q) : i = j ∧ p = q := by
  have h24 := okR_el ho
  have e24 : aln 24 = 6 := rfl
  have e25 : aln 25 = 10 := rfl
  have e26 : aln 26 = 12 := rfl
  have e27 : aln 27 = 5 := rfl
  have hc : c = 24 ∨ c = 25 ∨ c = 26 ∨ c = 27 := by omega
  rcases hc with z | z | z | z <;> subst z
  · rw [e24] at hp hq h; omega
  · rw [e25] at hp hq h; omega
  · rw [e26] at hp hq h; omega
  · rw [e27] at hp hq h; omega
theorem RC_setR {c i p : Nat} {y : Int} (hC : RC G L ν S) (ho : okR c = true) (hL : L c i) (hp : p < aln c) (hy : bd y) : RC G L (mup ν (500 + c) (aln c * i + p) y) (setR S (G c i) p (rf G (atg c) y)) := by
  obtain ⟨a1, a2, a3, a4, a5, a6⟩ := hC
  have h24 := okR_el ho
  refine ⟨a1, a2, fun c' f' j b1 b2 b3 b4 b5 => ?_, fun c' f' j b1 b2 b3 b4 b5 => ?_, fun c' j b1 b2 b3 => ⟨(a5 c' j b1 b2 b3).1, fun q hq => ?_⟩, mup_bd a6 hy⟩
  · rw [mup_ne (by omega)]
    exact a3 c' f' j b1 b2 b3 b4 b5
  · rw [mup_ne (by omega)]
    exact a4 c' f' j b1 b2 b3 b4 b5
  · show (if G c' j = G c i ∧ q = p then rf G (atg c) y else sR S (G c' j) q) = _
    have ho' : okR c' = true := by
      unfold okR
      simp
      omega
    by_cases hcc : c' = c
    · subst hcc
      by_cases hji : j = i ∧ q = p
      · rw [hji.1, hji.2, mup_eq, if_pos ⟨rfl, rfl⟩]
      · rw [mup_ne (fun z => hji (aln_inj ho hq hp z.2)), if_neg (fun z => hji ⟨a2 c' j i b3 hL z.1, z.2⟩)]
        exact (a5 c' j b1 b2 b3).2 q hq
    · rw [mup_ne (by omega), if_neg (fun z => ?_)]
      · exact (a5 c' j b1 b2 b3).2 q hq
      · have e1 := a1 c' j b3
        have e2 := a1 c i hL
        rw [z.1, e2, kO_r ho, kO_r ho'] at e1
        exact hcc e1.symm
theorem CI_setR {cl i p : Nat} {y : Int} (h : CI G L ν ls Ar c s S) (ho : okR cl = true) (hL : L cl i) (hp : p < aln cl) (hy : bd y) : CI G L (mup ν (500 + cl) (aln cl * i + p) y) ls Ar c s (setR S (G cl i) p (rf G (atg cl) y)) ∧ FZ S (setR S (G cl i) p (rf G (atg cl) y)) := by
  obtain ⟨a1, a2, a3, a4, a5, a6⟩ := id h
  have h24 := okR_el ho
  refine ⟨⟨RC_setR a1 ho hL hp hy, ⟨fun x hx => ⟨(a2.1 x hx).1, fun q hq => ?_⟩, a2.2⟩, a3, a4, a5, a6⟩, ⟨fun b _ => ⟨rfl, rfl, fun _ => rfl, fun _ => rfl, fun _ _ => ⟨rfl, rfl⟩⟩, rfl, rfl⟩⟩
  show (if Ar x = G cl i ∧ q = p then rf G (atg cl) y else sR S (Ar x) q) = _
  rw [if_neg (fun z => ?_)]
  · exact (a2.1 x hx).2 q hq
  · rcases (a2.1 x hx).1.2.2.2.2 with w | w
    · rw [w.2] at hq
      exact absurd hq (Nat.not_lt_zero _)
    · have e := RC_k a1 hL
      rw [← z.1, w.1, kO_r ho] at e
      omega
theorem C_aast {cl i p j : Nat} (h : CI G L ν ls Ar c s S) (ho : okR cl = true) (hL : L cl i) (hp : p < aln cl) (hj : j < 1000) (hLj : L (atg cl) j) (k : ∀ S', CI G L (mup ν (500 + cl) (aln cl * i + p) (j : Int)) ls Ar c s S' → FZ S S' → Run d M Q (pc + 1) lv st S') : Six d M .aastore 1 Q pc lv (vR (some (G (atg cl) j)) :: vI (ji (p : Int)) :: vR (some (G cl i)) :: st) S := by
  have h24 := okR_el ho
  have h12 := aln_12 ho
  have e := (h.1.2.2.2.2.1 cl i h24.1 h24.2 hL).1
  have hs := CI_setR (y := (j : Int)) h ho hL hp ⟨by omega, by omega⟩
  rw [rf_n] at hs
  have ek := RC_k h.1 hL
  rw [kO_r ho] at ek
  have ej := RC_k h.1 hLj
  refine S_aastore (n := aln cl) (by rw [ek]; omega) e (by omega) (by omega) ⟨by omega, by omega⟩ ?_ ?_
  · rw [ek]
    have hc : cl = 24 ∨ cl = 25 ∨ cl = 26 ∨ cl = 27 := by omega
    rcases hc with z | z | z | z <;> subst z
    · exact Or.inl ⟨rfl, ej⟩
    · exact Or.inr (Or.inl ⟨rfl, ej⟩)
    · exact Or.inr (Or.inr (Or.inl ⟨rfl, ej⟩))
    · exact Or.inr (Or.inr (Or.inr (Or.inl ⟨rfl, ej⟩)))
  · rw [Int.toNat_natCast]
    exact k _ hs.1 hs.2
end PUT
section N0
variable {κ κ' ν ν' : Mu} {L L' : Lv} {ls : Nat → List Nat}
theorem RD_0 (hS : ∀ s : Nat, s < 12 → ¬ κ 7 s = -1 → ν 162 s = 0 ∧ ν 163 s = 0) (hB : ∀ b : Nat, b < 6 → ¬ κ 8 b = -1 → ν 43 b = 0) (hZ : ∀ z : Nat, z < 5 → ν 283 z = -1) : RD κ ν L 0 :=
  ⟨fun j hj => absurd hj (Nat.not_lt_zero _), fun s hs h7 => ⟨fun q => by obtain ⟨j, hj, _⟩ := q; exact absurd hj (Nat.not_lt_zero _), fun _ => (hS s hs h7).1, (hS s hs h7).2⟩, fun b hb h8 => hB b hb h8, fun z hz => ⟨fun _ => hZ z hz, fun j hj => absurd hj.1 (Nat.not_lt_zero _)⟩⟩
theorem RD_e (h : RD κ ν L 0) : (∀ s : Nat, s < 12 → ¬ κ 7 s = -1 → ν 162 s = 0 ∧ ν 163 s = 0) ∧ (∀ b : Nat, b < 6 → ¬ κ 8 b = -1 → ν 43 b = 0) ∧ ∀ z : Nat, z < 5 → ν 283 z = -1 :=
  ⟨fun s hs h7 => ⟨(h.2.1 s hs h7).2.1 (fun q => by obtain ⟨j, hj, _⟩ := q; exact absurd hj (Nat.not_lt_zero _)), (h.2.1 s hs h7).2.2⟩, fun b hb h8 => h.2.2.1 b hb h8, fun z hz => (h.2.2.2 z hz).1 (fun j hj => absurd hj.1 (Nat.not_lt_zero _))⟩
theorem LQ_0 (h : LQ κ 0 ls) : LQ κ' 0 ls := ⟨h.1, fun z hz => ⟨(h.2 z hz).1, fun j => ⟨fun q => absurd ((h.2 z hz).2 j |>.mp q).1 (Nat.not_lt_zero _), fun q => absurd q.1 (Nat.not_lt_zero _)⟩⟩⟩
theorem Sl_0 : Sl κ 0 := fun i j hi => absurd hi (Nat.not_lt_zero _)
/-- a node is added -/
theorem Rl_tub {K P Z N : Nat} {t : Int} (hR : Rl κ 0 ν L ls) (hI : Inv κ 0) (hK : K = 10 * Z + N) (hZ : Z < 5) (hN : N < 10) (hP : nod κ P) (hKn : κ 2 K = -1) (h5 : κ 5 K = 0)
    (hv : ∀ f i, ¬ (120 ≤ f ∧ f ≤ 159 ∧ i = K) → ¬ (f = 525 ∧ i = K) → ¬ (f = 125 ∧ i = P) → ν' f i = ν f i) (v120 : ν' 120 K = Z) (v121 : ν' 121 K = N) (v122 : ν' 122 K = P) (v123 : ν' 123 K = t) (v124 : ν' 124 K = κ 40 P + 1) (v125 : ν' 125 K = 1) (v126 : ν' 126 K = 0) (v127 : ν' 127 K = 0) (v525 : ν' 525 K = K) (vP : ν' 125 P = 0) :
    Rl (mup (mup (mup κ 2 K P) 3 K t) 40 K (κ 40 P + 1)) 0 ν' (Ln L 3 K) ls := by
  obtain ⟨r1, r2, r3, r4, r5⟩ := hR
  obtain ⟨hT, hPl, _⟩ := hI
  have ef : ∀ f, ¬ f = 2 → ¬ f = 3 → ¬ f = 40 → mup (mup (mup κ 2 K P) 3 K t) 40 K (κ 40 P + 1) f = κ f := fun f h1 h2 h3 => funext fun i => by rw [mup_ne (fun z => h3 z.1), mup_ne (fun z => h2 z.1), mup_ne (fun z => h1 z.1)]
  have ei : ∀ f i, ¬ i = K → mup (mup (mup κ 2 K P) 3 K t) 40 K (κ 40 P + 1) f i = κ f i := fun f i hi => by rw [mup_ne (fun z => hi z.2), mup_ne (fun z => hi z.2), mup_ne (fun z => hi z.2)]
  have e2 : mup (mup (mup κ 2 K P) 3 K t) 40 K (κ 40 P + 1) 2 K = P := by rw [mup_f rfl, mup_f rfl, mup_eq]
  have e3 : mup (mup (mup κ 2 K P) 3 K t) 40 K (κ 40 P + 1) 3 K = t := by rw [mup_f rfl, mup_eq]
  have e40 : mup (mup (mup κ 2 K P) 3 K t) 40 K (κ 40 P + 1) 40 K = κ 40 P + 1 := mup_eq _ _ _ _
  generalize mup (mup (mup κ 2 K P) 3 K t) 40 K (κ 40 P + 1) = κ' at *
  have K50 : K < 50 := by omega
  have hP3 := hP.2.2
  rw [Int.toNat_natCast] at hP3
  have P50 : P < 50 := by have := hP.2.1; omega
  have hPK : ¬ P = K := fun q => hP3 (by rw [q]; exact hKn)
  have nK : ¬ nod κ K := fun q => q.2.2 (by rw [Int.toNat_natCast]; exact hKn)
  have nd : ∀ k : Nat, nod κ' k ↔ (nod κ k ∨ k = K) := by
    intro k
    unfold nod
    rw [Int.toNat_natCast]
    by_cases e : k = K
    · subst e
      rw [e2]
      exact ⟨fun _ => Or.inr rfl, fun _ => ⟨by omega, by omega, by omega⟩⟩
    · rw [ei 2 k e]
      exact ⟨fun q => Or.inl q, fun q => q.elim id (fun y => absurd y e)⟩
  have lf : ∀ k : Nat, ¬ k = P → (lfB κ' k ↔ lfB κ k) := by
    intro k hk
    unfold lfB
    constructor
    · intro q i hi
      by_cases e : i = K
      · rw [e, hKn]
        omega
      · rw [← ei 2 i e]
        exact q i hi
    · intro q i hi
      by_cases e : i = K
      · rw [e, e2]
        omega
      · rw [ei 2 i e]
        exact q i hi
  have h4K : κ 4 K = 0 := by
    refine Classical.byContradiction (fun q => ?_)
    rcases hPl.2.2.1 K K50 q with ⟨s, s1, s2⟩ | ⟨b, b1, b2, b3⟩
    · have := (hPl.1 s s1 (by rw [s2]; omega)).1
      rw [s2] at this
      exact nK this
    · have := hPl.2.1 b b1 b2
      rcases b3 with b3 | b3
      · rw [b3] at this
        exact nK this.1
      · rw [b3] at this
        exact nK this.2.1
  have lK : lfB κ K := by
    intro i hi q
    have hi3 : nod κ i := ⟨by omega, by omega, by rw [Int.toNat_natCast, q]; omega⟩
    have := (hT i hi3).2.2.2.2
    rw [Int.toNat_natCast, q] at this
    rcases this with w | w
    · have := w.1
      omega
    · exact nK w.2.2.1
  obtain ⟨q1, q2, q3, q4, q5, q6, q7, q8, q9, q10, q11, q12, q13, q14⟩ := r1
  obtain ⟨d1, d2, d3⟩ := RD_e r2
  obtain ⟨a1, a2, a3, a4, a5, a6, a7, a8, a9, a10, a11⟩ := r5
  have ot : ∀ c x, Ln L 3 K c x → ¬ c = 3 → L c x := fun c x q hc => q.elim (fun y => absurd y.1 hc) id
  refine ⟨⟨fun z hz => ?_, fun k hk => ?_, fun b hb => ?_, fun s hs => ?_, fun k hk => ?_, ⟨Or.inr q6.1, Or.inr q6.2.1, Or.inr q6.2.2.1, Or.inr q6.2.2.2.1, Or.inr q6.2.2.2.2.1, Or.inr q6.2.2.2.2.2⟩, ?_, ?_, ?_, ?_, ?_, ?_, ?_, ?_⟩, RD_0 (fun s hs h7 => ?_) (fun b hb h8 => ?_) (fun z hz => ?_), LQ_0 r3, Sl_0, ⟨fun x hx => a1 x (ot _ _ hx (by omega)), fun x hx => a2 x (ot _ _ hx (by omega)), fun x hx => ?_, fun x hx => (nd x).mpr (hx.elim (fun y => Or.inr y.2) (fun y => Or.inl (a4 x y))), fun x hx => ?_, fun x hx => ?_, fun x hx => a7 x (ot _ _ hx (by omega)), fun x hx => a8 x (ot _ _ hx (by omega)), fun c x q1 q2 hx => a9 c x q1 q2 (ot _ _ hx (by omega)), ?_, ?_⟩⟩
  · have w := q1 z hz
    rw [hv 527 z (by omega) (by omega) (by omega), hv 280 z (by omega) (by omega) (by omega), hv 281 z (by omega) (by omega) (by omega), hv 282 z (by omega) (by omega) (by omega), hv 284 z (by omega) (by omega) (by omega), ef 6 (by omega) (by omega) (by omega)]
    exact ⟨Or.inr w.1, Or.inr w.2.1, Or.inr w.2.2.1, w.2.2.2⟩
  · by_cases e : k = K
    · subst e
      rw [v120, v121, v122, v123, v124, v125, v126, v127, e2, e3, e40, ef 5 (by omega) (by omega) (by omega), ef 4 (by omega) (by omega) (by omega), h5, h4K, if_neg (by omega), if_pos rfl]
      have hlf := (lf k (fun q => hPK q.symm)).mpr lK
      exact ⟨Or.inl ⟨rfl, rfl⟩, by omega, by omega, rfl, rfl, rfl, rfl, fun _ => rfl, fun q => absurd hlf q, rfl⟩
    · have hk' : nod κ k := ((nd k).mp hk).elim id (fun y => absurd y e)
      obtain ⟨w1, w2, w3, w4, w5, w6, w7, w8, w9, w10⟩ := q2 k hk'
      rw [hv 120 k (by omega) (by omega) (by omega), hv 121 k (by omega) (by omega) (by omega), hv 122 k (by omega) (by omega) (by omega), hv 123 k (by omega) (by omega) (by omega), hv 124 k (by omega) (by omega) (by omega), hv 126 k (by omega) (by omega) (by omega), hv 127 k (by omega) (by omega) (by omega), ei 2 k e, ei 3 k e, ei 40 k e, ei 5 k e, ei 4 k e]
      by_cases ep : k = P
      · subst ep
        rw [vP]
        have nl : ¬ lfB κ' k := fun q => q K K50 e2
        exact ⟨Or.inr w1, w2, w3, w4, w5, w6, w7, fun q => absurd q nl, fun _ => rfl, w10⟩
      · rw [hv 125 k (by omega) (by omega) (by omega), lf k ep]
        exact ⟨Or.inr w1, w2, w3, w4, w5, w6, w7, w8, w9, w10⟩
  · rw [ef 8 (by omega) (by omega) (by omega), ef 9 (by omega) (by omega) (by omega), hv 524 b (by omega) (by omega) (by omega), hv 40 b (by omega) (by omega) (by omega), hv 41 b (by omega) (by omega) (by omega), hv 42 b (by omega) (by omega) (by omega)]
    exact ⟨(q3 b hb).1, fun q => ⟨Or.inr ((q3 b hb).2 q).1, ((q3 b hb).2 q).2⟩⟩
  · rw [ef 7 (by omega) (by omega) (by omega), hv 526 s (by omega) (by omega) (by omega), hv 160 s (by omega) (by omega) (by omega), hv 161 s (by omega) (by omega) (by omega)]
    exact ⟨(q4 s hs).1, fun q => ⟨Or.inr ((q4 s hs).2 q).1, ((q4 s hs).2 q).2⟩⟩
  · by_cases e : k = K
    · subst e
      rw [v525, e2, if_neg (by omega)]
    · rw [hv 525 k (by omega) (by omega) (by omega), ei 2 k e]
      exact q5 k hk
  · rw [hv 320 0 (by omega) (by omega) (by omega)]; exact q7
  · rw [hv 321 0 (by omega) (by omega) (by omega)]; exact q8
  · rw [hv 322 0 (by omega) (by omega) (by omega)]; exact q9
  · rw [hv 323 0 (by omega) (by omega) (by omega)]; exact q10
  · rw [hv 324 0 (by omega) (by omega) (by omega)]; exact q11
  · rw [hv 325 0 (by omega) (by omega) (by omega), ef 1 (by omega) (by omega) (by omega)]; exact q12
  · rw [hv 326 0 (by omega) (by omega) (by omega), ef 11 (by omega) (by omega) (by omega)]; exact q13
  · rw [hv 327 0 (by omega) (by omega) (by omega), ef 12 (by omega) (by omega) (by omega)]; exact q14
  · rw [ef 7 (by omega) (by omega) (by omega)] at h7
    rw [hv 162 s (by omega) (by omega) (by omega), hv 163 s (by omega) (by omega) (by omega)]
    exact d1 s hs h7
  · rw [ef 8 (by omega) (by omega) (by omega)] at h8
    rw [hv 43 b (by omega) (by omega) (by omega)]
    exact d2 b hb h8
  · rw [hv 283 z (by omega) (by omega) (by omega)]
    exact d3 z hz
  · rw [ef 1 (by omega) (by omega) (by omega), hv 200 x (by omega) (by omega) (by omega)]
    exact a3 x (ot _ _ hx (by omega))
  · rw [ef 7 (by omega) (by omega) (by omega)]
    exact a5 x (ot _ _ hx (by omega))
  · rw [ef 8 (by omega) (by omega) (by omega)]
    exact a6 x (ot _ _ hx (by omega))
  · rw [hv 241 0 (by omega) (by omega) (by omega)]
    exact a10.imp id (fun q => ⟨q.1, Or.inr q.2⟩)
  · rw [hv 242 0 (by omega) (by omega) (by omega)]
    exact a11.imp id (fun q => ⟨q.1, Or.inr q.2⟩)
end N0
