/-! A JOB LEAVES A LIST; NEW OBJECTS. -/
section CN
variable {d : Nat} {Q : Rs → St → Prop} {S S0 S' : St} {G : Ga} {L : Lv} {ν ν' : Mu} {ls : Nat → List Nat} {Ar : Nat → Nat} {c s : Nat}
theorem k_remove {i p : Nat} (h : CI G L ν ls Ar c s S) (hi : i ≤ 5) (hp : p < (ls i).length) (k : ∀ S', CI G L ν (fup ls i ((ls i).eraseIdx p)) Ar c s S' → FZ S S' → Q (aR (some (G 2 ((ls i).getD p 0)))) S') : Ev (d + 4) 16 [vR (some (G 0 i)), vI (ji (p : Int))] S Q := by
  obtain ⟨a1, a2, a3, a4, a5, a6⟩ := id h
  obtain ⟨l1, l2⟩ := a2.1 i hi
  refine a_remove l1 hp (ok_ls h hi) (l2 p hp) (fun S' g1 g2 g3 => ?_)
  obtain ⟨p1, p2, p3, p4, p5⟩ := g3
  have hC' := RC_FL a1 g2
  have se' := g2.2.1
  have nse : ¬ Ar i = (se S).1 := fun z => by
    rcases l1.2.2.2.2 with y | y
    · rw [y.2] at hp
      exact absurd hp (Nat.not_lt_zero _)
    · rw [z] at y
      exact a4 y.1
  have el : ((ls i).eraseIdx p).length = (ls i).length - 1 := List.length_eraseIdx_of_lt hp
  have cpo : ∀ x, x ≤ 5 → cpa S' (Ar x) = cpa S (Ar x) := by
    intro x hx
    unfold cpa
    rw [se']
    by_cases hz : Ar x = (se S).1
    · rw [if_pos hz, if_pos hz]
    · rw [if_neg hz, if_neg hz]
      have := (a2.1 x hx).1.2.2.2.2.elim (fun q => absurd q.1 hz) id
      exact (g2.1 (Ar x) (by rw [this.1]; omega)).2.1
  have ep : pot Ar S' = pot Ar S := by
    unfold pot
    rw [cpo 0 (by omega), cpo 1 (by omega), cpo 2 (by omega), cpo 3 (by omega), cpo 4 (by omega), cpo 5 (by omega)]
  refine k S' ⟨hC', ⟨fun x hx => ?_, fun x y hx hy hn => ?_, a2.2.2⟩, ⟨by rw [p4]; exact a3.1, by rw [p5, ep]; exact a3.2⟩, ?_, a5, fun x hx y hy => ?_⟩ (FZ_L g2)
  · by_cases e : x = i
    · subst e
      rw [fup_eq, el]
      refine ⟨g1, fun q hq => ?_⟩
      rw [p1 q hq, gDl (by rw [el]; exact hq), List.getElem_eraseIdx]
      by_cases hqp : q < p
      · rw [if_pos hqp, dif_pos hqp, l2 q (by omega), gDl (by omega)]
      · rw [if_neg hqp, dif_neg hqp, l2 (q + 1) (by omega), gDl (by omega)]
    · rw [fup_ne e]
      refine ⟨LA_ot h hi hx e g2 p2, fun q hq => ?_⟩
      have hne : ¬ Ar x = Ar i := by
        intro z
        exact a2.2.1 x i hx hi e ⟨z, fun y => nse (by rw [← z]; exact y)⟩
      rw [p3 _ hne]
      exact (a2.1 x hx).2 q hq
  · rw [se']
    exact a2.2.1 x y hx hy hn
  · rw [se', g2.2.2.2]
    exact a4
  · by_cases e : x = i
    · subst e
      rw [fup_eq] at hy
      exact a6 x hx y (List.mem_of_mem_eraseIdx hy)
    · rw [fup_ne e] at hy
      exact a6 x hx y hy
/-- a new object of class cl with number i at a -/
def Gn (G : Ga) (cl i a : Nat) : Ga := fun c x => if c = cl ∧ x = i then a else G c x
def Ln (L : Lv) (cl i : Nat) : Lv := fun c x => (c = cl ∧ x = i) ∨ L c x
def νn (ν : Mu) (cl i : Nat) : Mu := fun F x => if F / 40 = cl ∧ x = i then (if isRf cl (F % 40) then -1 else 0) else ν F x
theorem rf_Gn {cl i a t : Nat} {x : Int} (h : t = cl → ¬ x = i) : rf (Gn G cl i a) t x = rf G t x := by
  unfold rf Gn
  by_cases hx : x < 0
  · rw [if_pos hx, if_pos hx]
  · rw [if_neg hx, if_neg hx, if_neg (fun z => h z.1 (by have := z.2; omega))]
theorem RC_new {cl i a : Nat} (hC : RC G L ν S) (h1 : 1 ≤ cl) (h2 : cl < 9) (ha : sK S a = 0) (hr : ∀ c f x, 1 ≤ c → c < 9 → f < 40 → L c x → isRf c f = true → tgt (40 * c + f) = cl → ¬ (c = cl ∧ x = i) → ¬ ν (40 * c + f) x = i) (hq : ∀ c x p, 24 ≤ c → c ≤ 27 → L c x → p < aln c → atg c = cl → ¬ ν (500 + c) (aln c * x + p) = i) : RC (Gn G cl i a) (Ln L cl i) (νn ν cl i) (newO S a cl) := by
  obtain ⟨a1, a2, a3, a4, a5, a6⟩ := hC
  have ne : ∀ c x, L c x → ¬ G c x = a := fun c x hx z => by
    have := a1 c x hx
    rw [z, ha] at this
    exact kO_0 c this.symm
  have gn : ∀ c x, ¬ (c = cl ∧ x = i) → Gn G cl i a c x = G c x := fun c x h => if_neg h
  have gy : Gn G cl i a cl i = a := if_pos ⟨rfl, rfl⟩
  have kcl : kO cl = cl + 1 := by
    have e : ∀ c, c < 9 → kO c = c + 1 := by decide
    exact e cl h2
  refine ⟨fun c x hx => ?_, fun c x y hx hy he => ?_, fun c f x b1 b2 b3 hx hf => ?_, fun c f x b1 b2 b3 hx hf => ?_, fun c x b1 b2 hx => ?_, fun f x => ?_⟩
  · by_cases e : c = cl ∧ x = i
    · rw [e.1, e.2, gy, kcl]
      exact if_pos rfl
    · rw [gn c x e]
      have hx' := hx.elim (fun z => absurd z e) id
      exact (if_neg (ne c x hx')).trans (a1 c x hx')
  · by_cases e : c = cl ∧ x = i
    · by_cases e2 : c = cl ∧ y = i
      · rw [e.2, e2.2]
      · have hy' := hy.elim (fun z => absurd z e2) id
        rw [gn c y e2, e.1, e.2, gy] at he
        rw [e.1] at hy'
        exact absurd he.symm (ne cl y hy')
    · have hx' := hx.elim (fun z => absurd z e) id
      by_cases e2 : c = cl ∧ y = i
      · rw [gn c x e, e2.1, e2.2, gy] at he
        rw [e2.1] at hx'
        exact absurd he (ne cl x hx')
      · have hy' := hy.elim (fun z => absurd z e2) id
        rw [gn c x e, gn c y e2] at he
        exact a2 c x y hx' hy' he
  · by_cases e : c = cl ∧ x = i
    · rw [e.1, e.2, gy]
      have e5 : νn ν cl i (40 * cl + f) i = 0 := by
        unfold νn
        rw [if_pos ⟨by omega, rfl⟩, show (40 * cl + f) % 40 = f from by omega]
        rw [e.1] at hf
        rw [hf]
        rfl
      rw [e5]
      exact if_pos rfl
    · have hx' := hx.elim (fun z => absurd z e) id
      rw [gn c x e]
      have e5 : νn ν cl i (40 * c + f) x = ν (40 * c + f) x := by
        unfold νn
        rw [if_neg (fun z => e ⟨by have := z.1; omega, z.2⟩)]
      rw [e5]
      exact (if_neg (ne c x hx')).trans (a3 c f x b1 b2 b3 hx' hf)
  · by_cases e : c = cl ∧ x = i
    · rw [e.1, e.2, gy]
      have e5 : νn ν cl i (40 * cl + f) i = -1 := by
        unfold νn
        rw [if_pos ⟨by omega, rfl⟩, show (40 * cl + f) % 40 = f from by omega]
        rw [e.1] at hf
        rw [hf]
        rfl
      rw [e5]
      exact if_pos rfl
    · have hx' := hx.elim (fun z => absurd z e) id
      rw [gn c x e]
      have e5 : νn ν cl i (40 * c + f) x = ν (40 * c + f) x := by
        unfold νn
        rw [if_neg (fun z => e ⟨by have := z.1; omega, z.2⟩)]
      rw [e5, rf_Gn (fun z => hr c f x b1 b2 b3 hx' hf z e)]
      exact (if_neg (ne c x hx')).trans (a4 c f x b1 b2 b3 hx' hf)
  · have e : ¬ (c = cl ∧ x = i) := fun z => by have := z.1; omega
    have hx' := hx.elim (fun z => absurd z e) id
    rw [gn c x e]
    refine ⟨(a5 c x b1 b2 hx').1, fun p hp => ?_⟩
    have e5 : νn ν cl i (500 + c) (aln c * x + p) = ν (500 + c) (aln c * x + p) := by
      unfold νn
      rw [if_neg (fun z => by have := z.1; omega)]
    rw [e5, rf_Gn (fun z => hq c x p b1 b2 hx' hp z)]
    exact (a5 c x b1 b2 hx').2 p hp
  · unfold νn
    split
    · split
      · exact ⟨by omega, by omega⟩
      · exact ⟨by omega, by omega⟩
    · exact a6 f x
/-- a new object leaves the lists -/
theorem CI_new {cl i a : Nat} (h : CI G L ν ls Ar c s S) (h1 : 1 ≤ cl) (h2 : cl < 9) (ha : sK S a = 0) (hse : ¬ a = (se S).1) (hj : cl = 2 → ∀ x, x ≤ 5 → ¬ i ∈ ls x) (hr : ∀ c f x, 1 ≤ c → c < 9 → f < 40 → L c x → isRf c f = true → tgt (40 * c + f) = cl → ¬ (c = cl ∧ x = i) → ¬ ν (40 * c + f) x = i) (hq : ∀ c x p, 24 ≤ c → c ≤ 27 → L c x → p < aln c → atg c = cl → ¬ ν (500 + c) (aln c * x + p) = i) : CI (Gn G cl i a) (Ln L cl i) (νn ν cl i) ls Ar (c + 1) (s + nFd.getD cl 0) (newO S a cl) ∧ FZ S (newO S a cl) := by
  obtain ⟨a1, a2, a3, a4, a5, a6⟩ := id h
  have gz : ∀ x, Gn G cl i a 0 x = G 0 x := fun x => if_neg (fun z => by have := z.1; omega)
  have ng : ∀ x, x ≤ 5 → ¬ G 0 x = a := fun x hx z => by
    have := (a2.1 x hx).1.1
    rw [z, ha] at this
    omega
  have na : ∀ x, x ≤ 5 → Ar x = (se S).1 ∨ ¬ Ar x = a := fun x hx => by
    rcases (a2.1 x hx).1.2.2.2.2 with y | y
    · exact Or.inl y.1
    · refine Or.inr (fun z => ?_)
      have := y.1
      rw [z, ha] at this
      omega
  have ep : pot Ar (newO S a cl) = pot Ar S := rfl
  refine ⟨⟨RC_new a1 h1 h2 ha hr hq, ⟨fun x hx => ?_, a2.2.1, fun x y hx hy he => ?_⟩, ⟨?_, ?_⟩, ?_, fun x hx => Or.inr (a5 x hx), fun x hx y hy => Or.inr (a6 x hx y hy)⟩, ⟨fun b hb => ?_, rfl, rfl⟩⟩
  · obtain ⟨l1, l2⟩ := a2.1 x hx
    obtain ⟨m1, m2, m3, m4, m5⟩ := l1
    rw [gz]
    refine ⟨⟨(if_neg (ng x hx)).trans m1, (if_neg (ng x hx)).trans m2, (if_neg (ng x hx)).trans m3, m4, ?_⟩, fun p hp => ?_⟩
    · rcases m5 with y | y
      · exact Or.inl y
      · refine Or.inr ⟨?_, y.2⟩
        have hne : ¬ Ar x = a := fun z => by rw [z, ha] at y; omega
        exact (if_neg hne).trans y.1
    · have e : (ls x).getD p 0 ∈ ls x := by
        rw [gDl hp]
        exact List.getElem_mem hp
      show sR S (Ar x) p = _
      rw [l2 p hp]
      unfold Gn
      rw [if_neg (fun z => hj z.1.symm x hx (by rw [← z.2]; exact e))]
  · rw [gz, gz] at he
    exact a2.2.2 x y hx hy he
  · show sk S + 1 ≤ c + 1
    have := a3.1
    omega
  · show sn S + nFd.getD cl 0 ≤ s + nFd.getD cl 0 + 4 * pot Ar S
    have := a3.2
    omega
  · exact fun z => a4 ((if_neg (fun y => hse y.symm)).symm.trans z)
  · have hne : ¬ b = a := fun z => hb (by rw [z]; exact ha)
    exact ⟨if_neg hne, rfl, fun p => rfl, fun p => rfl, fun f hf => ⟨if_neg hne, if_neg hne⟩⟩
end CN
