/-! WHAT HOLDS BETWEEN CALLS is kept where one job changes. -/
/-- only what a job's run may change has changed, and of job j alone -/
def JE (κ κ' : Mu) (j : Nat) : Prop := ∀ f i, (f < 13 ∨ (14 ≤ f ∧ f ≤ 17) ∨ 24 < f ∨ ¬ i = j) → κ' f i = κ f i
theorem JE_rf (κ : Mu) (j : Nat) : JE κ κ j := fun _ _ _ => rfl
theorem JE_up {κ κ' : Mu} {j f : Nat} {v : Int} (h : JE κ κ' j) (hf : f = 13 ∨ (18 ≤ f ∧ f ≤ 24)) : JE κ (mup κ' f j v) j := by
  intro g i hg
  rw [mup_ne (by omega)]
  exact h g i hg
section KP
variable {κ κ' : Mu} {n j : Nat}
theorem JE_pe (h : JE κ κ' j) : PE κ κ' := ⟨⟨funext fun i => h 2 i (by omega), funext fun i => h 3 i (by omega), funext fun i => h 40 i (by omega)⟩, funext fun i => h 4 i (by omega), funext fun i => h 7 i (by omega), funext fun i => h 8 i (by omega), funext fun i => h 9 i (by omega)⟩
theorem uw_cg {i : Nat} (h : κ' 13 i = κ 13 i) : uw κ' i = uw κ i := by unfold uw; rw [h]
theorem JI_cg {i : Nat} (hp : PE κ κ') (h : ∀ f, 13 ≤ f → f ≤ 24 → κ' f i = κ f i) (hi : JI κ i) : JI κ' i := by
  have e := gOf_cg hp (j := i) (h 19 (by omega) (by omega)) (h 16 (by omega) (by omega)) (h 20 (by omega) (by omega)) (h 18 (by omega) (by omega))
  unfold JI Dn Prg at *
  rw [uw_cg (h 13 (by omega) (by omega))]
  rw [h 13 (by omega) (by omega), h 16 (by omega) (by omega), h 17 (by omega) (by omega), h 18 (by omega) (by omega), h 19 (by omega) (by omega), h 20 (by omega) (by omega), h 21 (by omega) (by omega), h 22 (by omega) (by omega), h 23 (by omega) (by omega), e, hp.2.2.1, hp.2.2.2.1, nod_cg hp.1, Wok_cg hp]
  simp only [Pth_cg hp.1, wen_cg hp.1]
  exact hi
theorem Inv_job (hI : Inv κ n) (h : JE κ κ' j) (hj : j < n) (hJ : JI κ' j) (hu : uw κ' j → ∀ i, i < n → ¬ i = j → uw κ i → ¬ κ 18 i / 10 = κ' 18 j / 10) : Inv κ' n := by
  obtain ⟨a1, a2, a3, a4, a5, a6, a7, a8⟩ := hI
  have hp := JE_pe h
  have e1 : κ' 1 0 = κ 1 0 := h 1 0 (by omega)
  have e6 : ∀ z, κ' 6 z = κ 6 z := fun z => h 6 z (by omega)
  have e5 : ∀ z, κ' 5 z = κ 5 z := fun z => h 5 z (by omega)
  have hs : ∀ i, ¬ i = j → ∀ f, κ' f i = κ f i := fun i hi f => h f i (by omega)
  refine ⟨Tr_cg hp.1 a1, Plc_cg hp a2, by rw [h 10 0 (by omega)]; exact a3, ⟨by rw [e1]; exact a4.1, fun z => by rw [e6]; exact a4.2.1 z, fun z => by rw [e5]; exact a4.2.2 z⟩, fun i hi => ?_, fun i k hi hk ui uk he => ?_, by rw [e1]; exact a7, fun z => ?_⟩
  · by_cases e : i = j
    · rw [e]; exact hJ
    · exact JI_cg hp (fun f _ _ => hs i e f) (a5 i hi)
  · by_cases e : i = j
    · by_cases e2 : k = j
      · omega
      · rw [uw_cg (hs k e2 13)] at uk
        rw [e, hs k e2 18] at he
        rw [e] at ui
        exact absurd he.symm (hu ui k hk e2 uk)
    · by_cases e2 : k = j
      · rw [uw_cg (hs i e 13)] at ui
        rw [e2, hs i e 18] at he
        rw [e2] at uk
        exact absurd he (hu uk i hi e ui)
      · rw [uw_cg (hs k e2 13)] at uk
        rw [uw_cg (hs i e 13)] at ui
        rw [hs i e, hs k e2] at he
        exact a6 i k hi hk ui uk he
  · rw [e1] at z
    have := a8 z
    simp only [fW_cg0 hp, hp.2.2.1]
    exact this
/-- bays end at places of their own, stations too -/
theorem end_ne (hP : Plc κ) {b c : Nat} (hb : b < 6) (hc : c < 6) (hne : ¬ b = c) (h8 : ¬ κ 8 b = -1) (h8' : ¬ κ 8 c = -1) {x y : Int} (hx : x = κ 8 b ∨ x = κ 9 b) (hy : y = κ 8 c ∨ y = κ 9 c) : ¬ x = y := by
  intro e
  have a := hP.2.1 b hb h8
  have a' := hP.2.1 c hc h8'
  have e1 : κ 4 x.toNat = 50 + b := by
    rcases hx with z | z
    · rw [z]; exact a.2.2.2.1
    · rw [z]; exact a.2.2.2.2
  have e2 : κ 4 y.toNat = 50 + c := by
    rcases hy with z | z
    · rw [z]; exact a'.2.2.2.1
    · rw [z]; exact a'.2.2.2.2
  rw [e] at e1
  omega
theorem end_st (hP : Plc κ) {b s : Nat} (hb : b < 6) (hs : s < 12) (h8 : ¬ κ 8 b = -1) (h7 : ¬ κ 7 s = -1) {x : Int} (hx : x = κ 8 b ∨ x = κ 9 b) : ¬ x = κ 7 s := by
  intro e
  have a := hP.2.1 b hb h8
  have a' := hP.1 s hs h7
  have e1 : κ 4 x.toNat = 50 + b := by
    rcases hx with z | z
    · rw [z]; exact a.2.2.2.1
    · rw [z]; exact a.2.2.2.2
  rw [e] at e1
  omega
theorem eI_or {b : Nat} {z : Int} (h : ¬ eI κ b z = -1) : eI κ b z = κ 8 b ∨ eI κ b z = κ 9 b := by
  unfold eI at *
  split
  · next h1 => rw [if_pos h1] at h; exact absurd rfl h
  · next h1 =>
    split
    · exact Or.inl rfl
    · next h2 =>
      split
      · exact Or.inr rfl
      · next h3 => rw [if_neg h1, if_neg h2, if_neg h3] at h; exact absurd rfl h
theorem oE_or (κ : Mu) (b : Nat) (e : Int) : oE κ b e = κ 8 b ∨ oE κ b e = κ 9 b := by
  unfold oE
  split
  · exact Or.inr rfl
  · exact Or.inl rfl
/-- the rest of a way -/
theorem Wok_nx (hP : Plc κ) {x z f s : Int} {t : Nat} (ht : t < 12) (h7 : ¬ κ 7 t = -1) (h : Wok κ x (κ 7 t) z f s) (hz : ¬ z = 1) : Wok κ (oE κ f.toNat (eI κ f.toNat (x / 10))) (κ 7 t) (z - 1) s (-1) := by
  rcases h with ⟨c0, ⟨c1, _⟩ | ⟨c1, c2, c3, c4, c5⟩⟩
  · exact absurd c1 hz
  · have hb : f.toNat < 6 := by omega
    have e := eI_sp (Plc_b hP) hb c3
    rcases c5 with ⟨d1, d2⟩ | ⟨d1, d2, d3, d4, d5, d6⟩
    · exact ⟨end_st hP hb ht e.1 h7 (oE_or _ _ _), Or.inl ⟨by omega, d2⟩⟩
    · have hs : s.toNat < 6 := by omega
      have e' := eI_sp (Plc_b hP) hs d5
      refine ⟨end_st hP hb ht e.1 h7 (oE_or _ _ _), Or.inr ⟨d2, d3, d5, ?_, Or.inl ⟨by omega, d6⟩⟩⟩
      exact end_ne hP hs hb (by omega) e'.1 e.1 (eI_or d5) (oE_or _ _ _)
/-- what a search finds is a way -/
def wOk (κ : Mu) (x g : Int) (v : Wy) : Prop := v.1 = -1 ∨ Wok κ x g (zn v) v.2.1 v.2.2
theorem ofr_w {x g : Int} {v : Wy} {c f s : Int} (h : wOk κ x g v) (hw : Wok κ x g (zn (c, f, s)) f s) : wOk κ x g (ofr v c f s) := by
  unfold ofr
  split
  · exact Or.inr hw
  · exact h
theorem pfC_w {x t g c0 : Int} {b : Nat} {v : Wy} (hb : b < 6) (hne : ¬ x = g) (h1 : ¬ eI κ b (x / 10) = -1) (h2 : ¬ eI κ b (x / 10) = x) (ht : t = oE κ b (eI κ b (x / 10))) (h : wOk κ x g v) : ∀ c, c ≤ 6 → wOk κ x g (pfC κ b t g c0 v c) := by
  intro c
  induction c with
  | zero => intro _; exact h
  | succ c ih =>
    intro hc
    have ih := ih (by omega)
    show wOk κ x g (stC κ b t g c0 (pfC κ b t g c0 v c) c)
    unfold stC
    split
    · exact ih
    · next hx =>
      refine ofr_w ih ⟨hne, Or.inr ⟨by omega, by omega, ?_, ?_, Or.inr ⟨?_, by omega, by omega, ?_, ?_, ?_⟩⟩⟩
      · rw [Int.toNat_natCast]; exact h1
      · rw [Int.toNat_natCast]; exact h2
      · unfold zn
        dsimp only
        rw [if_neg (by omega), if_neg (by omega)]
      · exact fun z => hx (Or.inl (by omega))
      · rw [Int.toNat_natCast, Int.toNat_natCast, ← ht]; exact fun z => hx (Or.inr (Or.inl z))
      · rw [Int.toNat_natCast, Int.toNat_natCast, ← ht]
        exact Classical.byContradiction (fun z => hx (Or.inr (Or.inr z)))
theorem pfB_w {x g o : Int} (hne : ¬ x = g) : ∀ b, b ≤ 6 → wOk κ x g (pfB κ x g o b) := by
  intro b
  induction b with
  | zero => intro _; exact Or.inl rfl
  | succ b ih =>
    intro hb
    have ih := ih (by omega)
    show wOk κ x g (stB κ x g o (pfB κ x g o b) b)
    unfold stB
    split
    · exact ih
    · next h1 =>
      have h2 : ¬ eI κ b (x / 10) = -1 := fun z => h1 (Or.inl z)
      have h3 : ¬ eI κ b (x / 10) = x := fun z => h1 (Or.inr z)
      split
      · next h4 =>
        refine ofr_w ih ⟨hne, Or.inr ⟨by omega, by omega, ?_, ?_, Or.inl ⟨?_, ?_⟩⟩⟩
        · rw [Int.toNat_natCast]; exact h2
        · rw [Int.toNat_natCast]; exact h3
        · unfold zn
          dsimp only
          rw [if_neg (by omega), if_pos rfl]
        · rw [Int.toNat_natCast]; exact h4
      · split
        · exact pfC_w (by omega) hne h2 h3 rfl ih 6 (Nat.le_refl _)
        · exact ih
theorem fW_w {x g o : Int} (hne : ¬ x = g) (h : ¬ (fW κ x g o).1 = -1) : Wok κ x g (zn (fW κ x g o)) (fW κ x g o).2.1 (fW κ x g o).2.2 := by
  have key : wOk κ x g (fW κ x g o) := by
    unfold fW
    split
    · exact Or.inl rfl
    · split
      · next hz => exact Or.inr ⟨hne, Or.inl ⟨rfl, hz⟩⟩
      · exact pfB_w hne 6 (Nat.le_refl _)
  rcases key with z | z
  · exact absurd z h
  · exact z
theorem gOf_or (h : ¬ κ 19 j = 1) : gOf κ j = eI κ (κ 20 j).toNat (κ 18 j / 10) := if_neg h
end KP
