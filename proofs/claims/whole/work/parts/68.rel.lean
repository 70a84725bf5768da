/-! BOTH SIDES HELD TOGETHER: what changes where one job changes. -/
def LQ (κ : Mu) (n : Nat) (ls : Nat → List Nat) : Prop := ls 5 = List.range n ∧ ∀ z : Nat, z < 5 → (ls z).Nodup ∧ ∀ j : Nat, j ∈ ls z ↔ (j < n ∧ (κ 13 j = 0 ∨ κ 13 j = 2) ∧ κ 18 j / 10 = (z : Int))
def Sl (κ : Mu) (n : Nat) : Prop := ∀ i j, i < n → j < n → κ 13 i = 0 → κ 13 j = 0 → κ 17 i = κ 17 j → i = j
/-- who is there, and no other -/
def LX (κ : Mu) (n : Nat) (ν : Mu) (L : Lv) : Prop := (∀ x, L 2 x → x < n) ∧ (∀ x, L 7 x → x < 5) ∧ (∀ x, L 5 x → x < 5 ∧ κ 1 0 = 1 ∧ 0 ≤ ν 200 x ∧ ν 200 x < n) ∧ (∀ x : Nat, L 3 x → nod κ x) ∧ (∀ x, L 4 x → x < 12 ∧ ¬ κ 7 x = -1) ∧ (∀ x, L 1 x → x < 6 ∧ ¬ κ 8 x = -1) ∧ (∀ x, L 8 x → x = 0) ∧ (∀ x, L 6 x → x = 0) ∧ (∀ c x, 24 ≤ c → c ≤ 27 → L c x → x < 5 ∧ (¬ c = 25 → x = 0)) ∧ (ν 241 0 = -1 ∨ (0 ≤ ν 241 0 ∧ L 1 (ν 241 0).toNat)) ∧ (ν 242 0 = -1 ∨ (0 ≤ ν 242 0 ∧ L 1 (ν 242 0).toNat))
def Rl (κ : Mu) (n : Nat) (ν : Mu) (L : Lv) (ls : Nat → List Nat) : Prop := RS κ ν L ∧ RD κ ν L n ∧ LQ κ n ls ∧ Sl κ n ∧ LX κ n ν L
section RLt
variable {κ κ' ν ν' : Mu} {L : Lv} {n j z : Nat} {ls : Nat → List Nat}
theorem jAn_cg {i : Nat} (h : ∀ f, 13 ≤ f → f ≤ 24 → κ' f i = κ f i) : jAn κ' i 1 = jAn κ i 1 := by
  unfold jAn
  rw [uw_cg (h 13 (by omega) (by omega)), h 13 (by omega) (by omega), h 17 (by omega) (by omega), h 22 (by omega) (by omega), h 18 (by omega) (by omega), h 16 (by omega) (by omega)]
  rfl
theorem JR_cg {i : Nat} (h : ∀ f, 13 ≤ f → f ≤ 24 → κ' f i = κ f i) (hv : ∀ f, 80 ≤ f → f ≤ 92 → ν' f i = ν f i) (hJ : JR κ ν L i) : JR κ' ν' L i := by
  unfold JR Dn at *
  rw [jAn_cg h, uw_cg (h 13 (by omega) (by omega)), h 13 (by omega) (by omega), h 14 (by omega) (by omega), h 15 (by omega) (by omega), h 16 (by omega) (by omega), h 17 (by omega) (by omega), h 18 (by omega) (by omega), h 19 (by omega) (by omega), h 20 (by omega) (by omega), h 21 (by omega) (by omega), h 22 (by omega) (by omega), h 24 (by omega) (by omega), hv 80 (by omega) (by omega), hv 81 (by omega) (by omega), hv 82 (by omega) (by omega), hv 83 (by omega) (by omega), hv 84 (by omega) (by omega), hv 85 (by omega) (by omega), hv 86 (by omega) (by omega), hv 87 (by omega) (by omega), hv 88 (by omega) (by omega), hv 89 (by omega) (by omega), hv 90 (by omega) (by omega), hv 91 (by omega) (by omega), hv 92 (by omega) (by omega)]
  exact hJ
theorem TR_cg {i z : Nat} (hp : PE κ κ') (h : ∀ f, 13 ≤ f → f ≤ 24 → κ' f i = κ f i) (hv : ∀ f, 200 ≤ f → f ≤ 205 → ν' f z = ν f z) (hT : TR κ ν z i) : TR κ' ν' z i := by
  have e := gOf_cg hp (j := i) (h 19 (by omega) (by omega)) (h 16 (by omega) (by omega)) (h 20 (by omega) (by omega)) (h 18 (by omega) (by omega))
  unfold TR at *
  rw [e, h 13 (by omega) (by omega), h 18 (by omega) (by omega), h 23 (by omega) (by omega), hv 200 (by omega) (by omega), hv 201 (by omega) (by omega), hv 202 (by omega) (by omega), hv 203 (by omega) (by omega), hv 204 (by omega) (by omega), hv 205 (by omega) (by omega)]
  simp only [Pth_cg hp.1, wen_cg hp.1, pth_cg hp.1]
  exact hT
theorem ocS_cg {i : Nat} {s : Int} (h : ∀ f, 13 ≤ f → f ≤ 24 → κ' f i = κ f i) : ocS κ' s i ↔ ocS κ s i := by
  unfold ocS
  rw [uw_cg (h 13 (by omega) (by omega)), h 13 (by omega) (by omega), h 19 (by omega) (by omega), h 16 (by omega) (by omega)]
theorem ocY_cg {i : Nat} {b : Int} (h : ∀ f, 13 ≤ f → f ≤ 24 → κ' f i = κ f i) : ocY κ' b i ↔ ocY κ b i := by
  unfold ocY
  rw [uw_cg (h 13 (by omega) (by omega)), h 13 (by omega) (by omega), h 19 (by omega) (by omega), h 22 (by omega) (by omega), h 20 (by omega) (by omega)]
theorem cntS_eq (hE : JE κ κ' j) (h : ∀ s : Nat, s < 12 → (ocS κ' s j ↔ ocS κ s j)) {s : Nat} (hs : s < 12) : cnt (ocS κ' s) n = cnt (ocS κ s) n := by
  refine cnt_cg n (fun i _ => ?_)
  by_cases e : i = j
  · rw [e]; exact h s hs
  · exact ocS_cg (fun f _ _ => hE f i (by omega))
theorem cntY_eq (hE : JE κ κ' j) (h : ∀ b : Nat, b < 6 → (ocY κ' b j ↔ ocY κ b j)) {b : Nat} (hb : b < 6) : cnt (ocY κ' b) n = cnt (ocY κ b) n := by
  refine cnt_cg n (fun i _ => ?_)
  by_cases e : i = j
  · rw [e]; exact h b hb
  · exact ocY_cg (fun f _ _ => hE f i (by omega))
theorem slT_eq (hE : JE κ κ' j) (h : κ' 13 j = 0 ↔ κ 13 j = 0) (s : Int) : slT κ' n s ↔ slT κ n s := by
  unfold slT
  constructor
  · rintro ⟨i, h1, h2, h3⟩
    rw [hE 17 i (by omega)] at h3
    by_cases e : i = j
    · rw [e] at h2 h1 h3
      exact ⟨j, h1, h.mp h2, h3⟩
    · rw [hE 13 i (by omega)] at h2
      exact ⟨i, h1, h2, h3⟩
  · rintro ⟨i, h1, h2, h3⟩
    by_cases e : i = j
    · rw [e] at h2 h1 h3
      exact ⟨j, h1, h.mpr h2, by rw [hE 17 j (by omega)]; exact h3⟩
    · exact ⟨i, h1, by rw [hE 13 i (by omega)]; exact h2, by rw [hE 17 i (by omega)]; exact h3⟩
theorem RS_cg (hE : JE κ κ' j) (hv : ∀ f i, ¬ (80 ≤ f ∧ f ≤ 92) → ¬ (200 ≤ f ∧ f ≤ 239) → ¬ f = 283 → ¬ f = 43 → ¬ f = 162 → ¬ f = 163 → ¬ f = 327 → ν' f i = ν f i) (h27 : ν' 327 0 = κ' 12 0) (hR : RS κ ν L) : RS κ' ν' L := by
  have hp := JE_pe hE
  have e6 : κ' 6 = κ 6 := funext fun i => hE 6 i (by omega)
  have e5 : κ' 5 = κ 5 := funext fun i => hE 5 i (by omega)
  have v : ∀ f i, ¬ (80 ≤ f ∧ f ≤ 92) → ¬ (200 ≤ f ∧ f ≤ 239) → ¬ f = 283 → ¬ f = 43 → ¬ f = 162 → ¬ f = 163 → ¬ f = 327 → ν' f i = ν f i := hv
  have w : ∀ f, ¬ (80 ≤ f ∧ f ≤ 92) → ¬ (200 ≤ f ∧ f ≤ 239) → ¬ f = 283 → ¬ f = 43 → ¬ f = 162 → ¬ f = 163 → ¬ f = 327 → ν' f = ν f := fun f a b c d e g h => funext fun i => v f i a b c d e g h
  unfold RS lfB
  rw [w 527 (by omega) (by omega) (by omega) (by omega) (by omega) (by omega) (by omega), w 280 (by omega) (by omega) (by omega) (by omega) (by omega) (by omega) (by omega), w 281 (by omega) (by omega) (by omega) (by omega) (by omega) (by omega) (by omega), w 282 (by omega) (by omega) (by omega) (by omega) (by omega) (by omega) (by omega), w 284 (by omega) (by omega) (by omega) (by omega) (by omega) (by omega) (by omega), w 120 (by omega) (by omega) (by omega) (by omega) (by omega) (by omega) (by omega), w 121 (by omega) (by omega) (by omega) (by omega) (by omega) (by omega) (by omega), w 122 (by omega) (by omega) (by omega) (by omega) (by omega) (by omega) (by omega), w 123 (by omega) (by omega) (by omega) (by omega) (by omega) (by omega) (by omega), w 124 (by omega) (by omega) (by omega) (by omega) (by omega) (by omega) (by omega), w 125 (by omega) (by omega) (by omega) (by omega) (by omega) (by omega) (by omega), w 126 (by omega) (by omega) (by omega) (by omega) (by omega) (by omega) (by omega), w 127 (by omega) (by omega) (by omega) (by omega) (by omega) (by omega) (by omega), w 524 (by omega) (by omega) (by omega) (by omega) (by omega) (by omega) (by omega), w 40 (by omega) (by omega) (by omega) (by omega) (by omega) (by omega) (by omega), w 41 (by omega) (by omega) (by omega) (by omega) (by omega) (by omega) (by omega), w 42 (by omega) (by omega) (by omega) (by omega) (by omega) (by omega) (by omega), w 526 (by omega) (by omega) (by omega) (by omega) (by omega) (by omega) (by omega), w 160 (by omega) (by omega) (by omega) (by omega) (by omega) (by omega) (by omega), w 161 (by omega) (by omega) (by omega) (by omega) (by omega) (by omega) (by omega), w 525 (by omega) (by omega) (by omega) (by omega) (by omega) (by omega) (by omega), w 320 (by omega) (by omega) (by omega) (by omega) (by omega) (by omega) (by omega), w 321 (by omega) (by omega) (by omega) (by omega) (by omega) (by omega) (by omega), w 322 (by omega) (by omega) (by omega) (by omega) (by omega) (by omega) (by omega), w 323 (by omega) (by omega) (by omega) (by omega) (by omega) (by omega) (by omega), w 324 (by omega) (by omega) (by omega) (by omega) (by omega) (by omega) (by omega), w 325 (by omega) (by omega) (by omega) (by omega) (by omega) (by omega) (by omega), w 326 (by omega) (by omega) (by omega) (by omega) (by omega) (by omega) (by omega)]
  rw [hp.1.1, hp.1.2.1, hp.1.2.2, hp.2.1, hp.2.2.1, hp.2.2.2.1, hp.2.2.2.2, e6, e5, hE 1 0 (by omega), hE 11 0 (by omega)]
  simp only [nod_cg hp.1]
  unfold RS lfB at hR
  obtain ⟨r1, r2, r3, r4, r5, r6, r7, r8, r9, r10, r11, r12, r13, r14⟩ := hR
  exact ⟨r1, r2, r3, r4, r5, r6, r7, r8, r9, r10, r11, r12, r13, h27⟩
/-- one job of zone z changes -/
theorem RD_mk (hE : JE κ κ' j) (hj : j < n) (hv : ∀ f i, ¬ (80 ≤ f ∧ f ≤ 92 ∧ i = j) → ¬ (200 ≤ f ∧ f ≤ 239 ∧ i = z) → ¬ (f = 283 ∧ i = z) → ¬ f = 43 → ¬ f = 162 → ¬ f = 163 → ¬ f = 327 → ν' f i = ν f i) (hD : RD κ ν L n) (hJ : JR κ' ν' L j)
    (hS : ∀ s : Nat, s < 12 → ¬ κ 7 s = -1 → (slT κ' n s → ν' 162 s = 1) ∧ (¬ slT κ' n s → ν' 162 s = 0) ∧ ν' 163 s = (cnt (ocS κ' s) n : Int)) (hB : ∀ b : Nat, b < 6 → ¬ κ 8 b = -1 → ν' 43 b = (cnt (ocY κ' b) n : Int))
    (hu : uw κ j → κ 18 j / 10 = (z : Int)) (hu' : uw κ' j → κ' 18 j / 10 = (z : Int)) (hZ : ((∀ i, ¬ caP κ' n z i) → ν' 283 z = -1) ∧ ∀ i, caP κ' n z i → ν' 283 z = z ∧ L 5 z ∧ TR κ' ν' z i) : RD κ' ν' L n := by
  have hp := JE_pe hE
  refine ⟨fun i hi => ?_, fun s hs h7 => hS s hs (by rw [← hp.2.2.1]; exact h7), fun b hb h8 => hB b hb (by rw [← hp.2.2.2.1]; exact h8), fun y hy => ?_⟩
  · by_cases e : i = j
    · rw [e]; exact hJ
    · exact JR_cg (fun f _ _ => hE f i (by omega)) (fun f _ _ => hv f i (by omega) (by omega) (by omega) (by omega) (by omega) (by omega) (by omega)) (hD.1 i hi)
  · by_cases e : y = z
    · rw [e]; exact hZ
    · have hc : ∀ i, caP κ' n y i ↔ caP κ n y i := by
        intro i
        unfold caP
        by_cases e2 : i = j
        · subst e2
          constructor
          · intro q
            exact absurd (q.2.2.symm.trans (hu' q.2.1)) (fun w => e (by omega))
          · intro q
            exact absurd (q.2.2.symm.trans (hu q.2.1)) (fun w => e (by omega))
        · rw [uw_cg (hE 13 i (by omega)), hE 18 i (by omega)]
      have hd := hD.2.2.2 y hy
      rw [hv 283 y (by omega) (by omega) (by omega) (by omega) (by omega) (by omega) (by omega)]
      refine ⟨fun q => hd.1 (fun i hi => q i ((hc i).mpr hi)), fun i hi => ?_⟩
      have h9 := hd.2 i ((hc i).mp hi)
      refine ⟨h9.1, h9.2.1, ?_⟩
      have e2 : ¬ i = j := by
        intro q
        rw [q] at hi
        exact e (by have := hi.2.2; have := hu' hi.2.1; omega)
      exact TR_cg hp (fun f _ _ => hE f i (by omega)) (fun f _ _ => hv f y (by omega) (by omega) (by omega) (by omega) (by omega) (by omega) (by omega)) h9.2.2
theorem LQ_cg (hE : JE κ κ' j) (h18 : κ' 18 j = κ 18 j) (hs : (κ' 13 j = 0 ∨ κ' 13 j = 2) ↔ (κ 13 j = 0 ∨ κ 13 j = 2)) (h : LQ κ n ls) : LQ κ' n ls := by
  refine ⟨h.1, fun y hy => ⟨(h.2 y hy).1, fun i => ?_⟩⟩
  rw [(h.2 y hy).2 i]
  by_cases e : i = j
  · rw [e, h18, hs]
  · rw [hE 13 i (by omega), hE 18 i (by omega)]
theorem Sl_cg (hE : JE κ κ' j) (h : κ' 13 j = 0 → κ 13 j = 0) (hs : Sl κ n) : Sl κ' n := by
  intro a b ha hb h1 h2 h3
  have q : ∀ i, κ' 13 i = 0 → κ 13 i = 0 := by
    intro i hi
    by_cases e : i = j
    · rw [e] at hi ⊢; exact h hi
    · rw [hE 13 i (by omega)] at hi; exact hi
  rw [hE 17 a (by omega), hE 17 b (by omega)] at h3
  exact hs a b ha hb (q a h1) (q b h2) h3
theorem LX_fr (hp : PE κ κ') (h1 : κ' 1 0 = κ 1 0) (hv : ∀ x, L 5 x → 0 ≤ ν' 200 x ∧ ν' 200 x < n) (h41 : ν' 241 0 = ν 241 0) (h42 : ν' 242 0 = ν 242 0) (h : LX κ n ν L) : LX κ' n ν' L := by
  obtain ⟨a1, a2, a3, a4, a5, a6, a7, a8, a9, a10, a11⟩ := h
  refine ⟨a1, a2, fun x hx => ⟨(a3 x hx).1, by rw [h1]; exact (a3 x hx).2.1, hv x hx⟩, fun x hx => by rw [nod_cg hp.1]; exact a4 x hx, fun x hx => by rw [hp.2.2.1]; exact a5 x hx, fun x hx => by rw [hp.2.2.2.1]; exact a6 x hx, a7, a8, a9, by rw [h41]; exact a10, by rw [h42]; exact a11⟩
theorem nod_len : ∀ (n : Nat) (l : List Nat), l.Nodup → (∀ x, x ∈ l → x < n) → l.length ≤ n := by
  intro n
  induction n with
  | zero =>
    intro l _ h
    cases l with
    | nil => exact Nat.le_refl _
    | cons a t => exact absurd (h a (List.mem_cons_self ..)) (Nat.not_lt_zero _)
  | succ n ih =>
    intro l hn h
    have h1 := ih (l.erase n) (hn.erase n) (fun x hx => by
      have h2 := (hn.mem_erase_iff).mp hx
      have := h x h2.2
      have := h2.1
      omega)
    have h2 := List.length_erase (a := n) (l := l)
    split at h2
    · omega
    · omega
end RLt
