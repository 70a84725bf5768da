/-! THE CLASS'S WHOLE STATE: objects, lists, room. -/
/-- what the class leaves to others -/
def FZ (S0 S : St) : Prop := (∀ a, ¬ sK S0 a = 0 → sK S a = sK S0 a ∧ sN S a = sN S0 a ∧ (∀ p, sA S a p = sA S0 a p) ∧ (∀ p, sW S a p = sW S0 a p) ∧ ∀ f, 360 ≤ f → sI S f a = sI S0 f a ∧ sP S f a = sP S0 f a) ∧ se S = se S0 ∧ sm S = sm S0
theorem FZ.rf (S : St) : FZ S S := ⟨fun _ _ => ⟨rfl, rfl, fun _ => rfl, fun _ => rfl, fun _ _ => ⟨rfl, rfl⟩⟩, rfl, rfl⟩
theorem FZ_tr {S0 S1 S2 : St} (h : FZ S0 S1) (h' : FZ S1 S2) : FZ S0 S2 := by
  refine ⟨fun a ha => ?_, h'.2.1.trans h.2.1, h'.2.2.trans h.2.2⟩
  obtain ⟨a1, a2, a3, a4, a5⟩ := h.1 a ha
  obtain ⟨b1, b2, b3, b4, b5⟩ := h'.1 a (by rw [a1]; exact ha)
  exact ⟨b1.trans a1, b2.trans a2, fun p => (b3 p).trans (a3 p), fun p => (b4 p).trans (a4 p), fun f hf => ⟨(b5 f hf).1.trans (a5 f hf).1, (b5 f hf).2.trans (a5 f hf).2⟩⟩
theorem FZ_L {S0 S : St} (h : FL S0 S) : FZ S0 S := ⟨fun a ha => by
  obtain ⟨a1, a2, a3, a4, a5, _⟩ := h.1 a ha
  exact ⟨a1, a2, a3, a4, fun f hf => a5 f (by omega)⟩, h.2.1, h.2.2.1⟩
theorem FZ_Q {S0 S : St} (h : FQ S0 S) : FZ S0 S := ⟨fun a _ => by
  obtain ⟨a1, a2, a3, a4, a5, a6, a7, a8, a9, a10⟩ := h
  exact ⟨by rw [a1], by rw [a2], fun p => by rw [a3], fun p => by rw [a4], fun f hf => a6 f a (Or.inr hf)⟩, h.2.2.2.2.2.2.2.2.1, h.2.2.2.2.2.2.2.2.2⟩
noncomputable def cpa (S : St) (ar : Nat) : Nat := by
  classical
  exact if ar = (se S).1 then 0 else sN S ar
noncomputable def pot (Ar : Nat → Nat) (S : St) : Nat := cpa S (Ar 0) + cpa S (Ar 1) + cpa S (Ar 2) + cpa S (Ar 3) + cpa S (Ar 4) + cpa S (Ar 5)
def RB (Ar : Nat → Nat) (S : St) (c s : Nat) : Prop := sk S ≤ c ∧ sn S ≤ s + 4 * pot Ar S
def CI (G : Ga) (L : Lv) (ν : Mu) (ls : Nat → List Nat) (Ar : Nat → Nat) (c s : Nat) (S : St) : Prop := RC G L ν S ∧ RLs G ls Ar S ∧ RB Ar S c s ∧ ¬ sK S (se S).1 = 28 ∧ (∀ i, i ≤ 5 → L 0 i) ∧ ∀ i, i ≤ 5 → ∀ j, j ∈ ls i → L 2 j
def fup {α : Type} (f : Nat → α) (i : Nat) (v : α) : Nat → α := fun x => if x = i then v else f x
theorem fup_eq {α : Type} (f : Nat → α) (i : Nat) (v : α) : fup f i v i = v := if_pos rfl
theorem fup_ne {α : Type} {f : Nat → α} {i x : Nat} {v : α} (h : ¬ x = i) : fup f i v x = f x := if_neg h
theorem gDl {l : List Nat} {p : Nat} (h : p < l.length) : l.getD p 0 = l[p] := by simp [List.getD, List.getElem?_eq_getElem h]
section CS
variable {d : Nat} {Q : Rs → St → Prop} {S S0 S' : St} {G : Ga} {L : Lv} {ν ν' : Mu} {ls : Nat → List Nat} {Ar : Nat → Nat} {c s : Nat}
theorem cpa_60 (h : RLs G ls Ar S) {i : Nat} (hi : i ≤ 5) : cpa S (Ar i) ≤ 60 := by
  unfold cpa
  split
  · omega
  · next hn => exact ((h.1 i hi).1.2.2.2.2.elim (fun q => absurd q.1 hn) id).2.2.2
theorem pot_360 (h : RLs G ls Ar S) : pot Ar S ≤ 360 := by
  have h0 := cpa_60 h (i := 0) (by omega)
  have h1 := cpa_60 h (i := 1) (by omega)
  have h2 := cpa_60 h (i := 2) (by omega)
  have h3 := cpa_60 h (i := 3) (by omega)
  have h4 := cpa_60 h (i := 4) (by omega)
  have h5 := cpa_60 h (i := 5) (by omega)
  unfold pot
  omega
theorem CI_Q (h : CI G L ν ls Ar c s S) (hC : RC G L ν' S') (hF : FQ S S') : CI G L ν' ls Ar c s S' := by
  obtain ⟨a1, a2, a3, a4, a5, a6⟩ := h
  have e : pot Ar S' = pot Ar S := by
    unfold pot cpa
    rw [hF.2.1, hF.2.2.2.2.2.2.2.2.1]
  refine ⟨hC, RLs_FQ a2 hF, ⟨?_, ?_⟩, ?_, a5, a6⟩
  · rw [hF.2.2.2.2.2.2.1]; exact a3.1
  · rw [e, hF.2.2.2.2.2.2.2.1]; exact a3.2
  · rw [hF.1, hF.2.2.2.2.2.2.2.2.1]; exact a4
theorem pot_up {i : Nat} {ar' : Nat} (hi : i ≤ 5) (hs : ∀ x, x ≤ 5 → ¬ x = i → cpa S' (Ar x) = cpa S (Ar x)) : pot (fup Ar i ar') S' + cpa S (Ar i) = pot Ar S + cpa S' ar' := by
  have e : ∀ x, x ≤ 5 → ¬ x = i → cpa S' (fup Ar i ar' x) = cpa S (Ar x) := fun x hx hn => by rw [fup_ne hn]; exact hs x hx hn
  have ei : cpa S' (fup Ar i ar' i) = cpa S' ar' := by rw [fup_eq]
  unfold pot
  have hc : i = 0 ∨ i = 1 ∨ i = 2 ∨ i = 3 ∨ i = 4 ∨ i = 5 := by omega
  rcases hc with z | z | z | z | z | z <;> subst z
  · rw [ei, e 1 (by omega) (by omega), e 2 (by omega) (by omega), e 3 (by omega) (by omega), e 4 (by omega) (by omega), e 5 (by omega) (by omega)]; omega
  · rw [ei, e 0 (by omega) (by omega), e 2 (by omega) (by omega), e 3 (by omega) (by omega), e 4 (by omega) (by omega), e 5 (by omega) (by omega)]; omega
  · rw [ei, e 0 (by omega) (by omega), e 1 (by omega) (by omega), e 3 (by omega) (by omega), e 4 (by omega) (by omega), e 5 (by omega) (by omega)]; omega
  · rw [ei, e 0 (by omega) (by omega), e 1 (by omega) (by omega), e 2 (by omega) (by omega), e 4 (by omega) (by omega), e 5 (by omega) (by omega)]; omega
  · rw [ei, e 0 (by omega) (by omega), e 1 (by omega) (by omega), e 2 (by omega) (by omega), e 3 (by omega) (by omega), e 5 (by omega) (by omega)]; omega
  · rw [ei, e 0 (by omega) (by omega), e 1 (by omega) (by omega), e 2 (by omega) (by omega), e 3 (by omega) (by omega), e 4 (by omega) (by omega)]; omega
theorem ok_ls (h : CI G L ν ls Ar c s S) {i : Nat} (hi : i ≤ 5) : ∀ p, p < (ls i).length → okSt S 28 (sR S (Ar i) p) := by
  intro p hp
  rw [(h.2.1.1 i hi).2 p hp]
  have e : (ls i).getD p 0 ∈ ls i := by
    rw [gDl hp]
    exact List.getElem_mem hp
  refine Or.inr (Or.inr (Or.inr (Or.inr ⟨rfl, ?_⟩)))
  exact RC_k h.1 (h.2.2.2.2.2 i hi _ e)
/-- a list's other lists -/
theorem LA_ot {i x : Nat} (h : CI G L ν ls Ar c s S) (hi : i ≤ 5) (hx : x ≤ 5) (hne : ¬ x = i) (hF : FL S S') (hb : ∀ b, ¬ b = G 0 i → sP S' 1 b = sP S 1 b ∧ sI S' 2 b = sI S 2 b) : LA (G 0 x) (Ar x) (ls x).length S' := by
  obtain ⟨l1, l2⟩ := h.2.1.1 x hx
  have hg : ¬ G 0 x = G 0 i := fun z => hne (h.2.1.2.2 x i hx hi z)
  have q := hb _ hg
  obtain ⟨m1, m2, m3, m4, m5⟩ := l1
  refine ⟨?_, q.1.trans m2, q.2.trans m3, m4, ?_⟩
  · rw [(hF.1 _ (by rw [m1]; omega)).1]
    exact m1
  · rw [hF.2.1]
    rcases m5 with m5 | m5
    · exact Or.inl m5
    · have o := hF.1 (Ar x) (by rw [m5.1]; omega)
      rw [o.1, o.2.1]
      exact Or.inr m5
/-- a job is added to a list -/
theorem k_add {i j : Nat} (h : CI G L ν ls Ar c s S) (hi : i ≤ 5) (lj : L 2 j) (hlen : (ls i).length < 40) (hrc : c + 1 ≤ mxC) (hrs : s + 1500 ≤ mxS) (k : ∀ S' Ar', CI G L ν (fup ls i (ls i ++ [j])) Ar' (c + 1) s S' → FZ S S' → Q (aI 1) S') : Ev (d + 8) 9 [vR (some (G 0 i)), vR (some (G 2 j))] S Q := by
  obtain ⟨a1, a2, a3, a4, a5, a6⟩ := id h
  obtain ⟨l1, l2⟩ := a2.1 i hi
  have hpot := pot_360 a2
  refine a_add l1 hlen a4 (ok_ls h hi) (RC_k a1 lj) ⟨by have := a3.1; omega, by have := a3.2; omega⟩ (fun S' arr' g1 g2 g3 => ?_)
  obtain ⟨p1, p2, p3, p4, p5, p6, p7, p8⟩ := g3
  have hC' := RC_FL a1 g2
  have oth : ∀ x, x ≤ 5 → ¬ x = i → ¬ Ar x = arr' ∨ Ar x = (se S).1 := by
    intro x hx hn
    rcases p3 with q | q
    · by_cases hz : Ar x = arr'
      · rw [q] at hz
        exact absurd ⟨hz, fun y => p4 (by rw [q, ← hz, y])⟩ (a2.2.1 x i hx hi hn)
      · exact Or.inl hz
    · by_cases hz : Ar x = (se S).1
      · exact Or.inr hz
      · refine Or.inl (fun y => ?_)
        have := (a2.1 x hx).1.2.2.2.2.elim (fun q => absurd q.1 hz) id
        rw [y, q] at this
        have := this.1
        omega
  have se' := g2.2.1
  have cpo : ∀ x, x ≤ 5 → ¬ x = i → cpa S' (Ar x) = cpa S (Ar x) := by
    intro x hx hn
    unfold cpa
    rw [se']
    by_cases hz : Ar x = (se S).1
    · rw [if_pos hz, if_pos hz]
    · rw [if_neg hz, if_neg hz]
      have := (a2.1 x hx).1.2.2.2.2.elim (fun q => absurd q.1 hz) id
      exact (g2.1 (Ar x) (by rw [this.1]; omega)).2.1
  have hpu := pot_up (S := S) (S' := S') (Ar := Ar) (i := i) (ar' := arr') hi cpo
  have nse : ¬ arr' = (se S).1 := p4
  have g1' := g1
  obtain ⟨q1, q2, q3, q4, q5⟩ := g1'
  have q5' := q5.elim (fun q => absurd (q.1.trans (by rw [se'])) nse) id
  refine k S' (fup Ar i arr') ⟨hC', ⟨fun x hx => ?_, fun x y hx hy hn => ?_, a2.2.2⟩, ⟨by have := a3.1; omega, ?_⟩, ?_, a5, fun x hx y hy => ?_⟩ (FZ_L g2)
  · by_cases e : x = i
    · subst e
      rw [fup_eq, fup_eq]
      have el : (ls x ++ [j]).length = (ls x).length + 1 := by simp
      rw [el]
      refine ⟨g1, fun p hp => ?_⟩
      by_cases hq : p < (ls x).length
      · rw [p1 p hq, l2 p hq]
        rw [gDl hq, gDl (by rw [el]; omega), List.getElem_append_left hq]
      · have e2 : p = (ls x).length := by omega
        subst e2
        rw [p2, gDl (by rw [el]; omega)]
        simp
    · rw [fup_ne e, fup_ne e]
      refine ⟨LA_ot h hi hx e g2 p5, fun p hp => ?_⟩
      have hne : ¬ Ar x = arr' := by
        rcases oth x hx e with z | z
        · exact z
        · have := (a2.1 x hx).1.2.2.2.2
          rcases this with y | y
          · rw [y.2] at hp
            exact absurd hp (Nat.not_lt_zero _)
          · rw [z] at y
            exact absurd y.1 a4
      rw [p6 _ hne]
      exact (a2.1 x hx).2 p hp
  · rw [se']
    by_cases e1 : x = i
    · subst e1
      rw [fup_eq, fup_ne (fun z => hn z.symm)]
      intro z
      rcases oth y hy (fun q => hn q.symm) with w | w
      · exact w z.1.symm
      · exact nse (z.1.trans w)
    · by_cases e2 : y = i
      · subst e2
        rw [fup_eq, fup_ne e1]
        intro z
        rcases oth x hx e1 with w | w
        · exact w z.1
        · exact z.2 w
      · rw [fup_ne e1, fup_ne e2]
        exact a2.2.1 x y hx hy hn
  · have b2 := a3.2
    have ec : cpa S' arr' = sN S' arr' := by
      unfold cpa
      rw [if_neg (by rw [se']; exact nse)]
    rcases p8 with ⟨r1, r2⟩ | ⟨r1, r2, r3⟩ | ⟨r1, r2, r3, r4⟩
    · have e9 : cpa S (Ar i) = cpa S' arr' := by
        have : cpa S (Ar i) = sN S (Ar i) := by
          unfold cpa
          rw [if_neg (by rw [← r1]; exact nse)]
        rw [this, ec, r1]
        have o := l1.2.2.2.2.elim (fun q => absurd (r1.trans q.1) nse) id
        rw [(g2.1 (Ar i) (by rw [o.1]; omega)).2.1]
      omega
    · have e9 : cpa S (Ar i) = 0 := by
        unfold cpa
        rw [if_pos r1]
      omega
    · have e9 : cpa S (Ar i) = sN S (Ar i) := by
        unfold cpa
        rw [if_neg r1]
      omega
  · rw [se', g2.2.2.2]
    exact a4
  · by_cases e : x = i
    · subst e
      rw [fup_eq] at hy
      rcases List.mem_append.mp hy with z | z
      · exact a6 x hx y z
      · rw [List.mem_singleton.mp z]
        exact lj
    · rw [fup_ne e] at hy
      exact a6 x hx y hy
end CS
