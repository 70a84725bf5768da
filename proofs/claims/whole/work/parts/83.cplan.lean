/-! WAYS ARE PLANNED ANEW. -/
section PLr
variable {κ κ' ν : Mu} {L : Lv} {n j : Nat} {ls : Nat → List Nat}
def b12 (v : Wy) : Prop := v.2.1 = -1 → v.2.2 = -1
theorem b12_ofr {v : Wy} {c f s : Int} (h : b12 v) (h2 : f = -1 → s = -1) : b12 (ofr v c f s) := by
  unfold ofr
  split
  · exact h2
  · exact h
theorem pfC_12 {t g c0 : Int} {b : Nat} {v : Wy} (h : b12 v) : ∀ c, b12 (pfC κ b t g c0 v c) := by
  intro c
  induction c with
  | zero => exact h
  | succ c ih =>
    show b12 (stC κ b t g c0 (pfC κ b t g c0 v c) c)
    unfold stC
    split
    · exact ih
    · exact b12_ofr ih (fun q => by omega)
theorem pfB_12 {x g o : Int} : ∀ b, b12 (pfB κ x g o b) := by
  intro b
  induction b with
  | zero => exact fun _ => rfl
  | succ b ih =>
    show b12 (stB κ x g o (pfB κ x g o b) b)
    unfold stB
    split
    · exact ih
    · split
      · exact b12_ofr ih (fun q => by omega)
      · split
        · exact pfC_12 ih 6
        · exact ih
theorem fW_12 (x g o : Int) : b12 (fW κ x g o) := by
  unfold fW
  split
  · exact fun _ => rfl
  · split
    · exact fun _ => rfl
    · exact pfB_12 6
/-- Job.follow -/
def flU (ν : Mu) (j : Nat) (v : Wy) : Mu := mup (mup ν 89 j v.2.1) 90 j v.2.2
theorem Rl_gW {v : Wy} (hR : Rl κ n ν L ls) (hj : j < n) (hs : κ 13 j = 0 ∨ κ 13 j = 2) (h12 : b12 v) : Rl (gW κ j v) n (flU ν j v) L ls := by
  obtain ⟨r1, r2, r3, r4, r5⟩ := hR
  have hE : JE κ (gW κ j v) j := JE_up (JE_up (JE_up (JE_rf κ j) (by omega)) (by omega)) (by omega)
  have ef : ∀ f, ¬ (19 ≤ f ∧ f ≤ 21) → gW κ j v f j = κ f j := fun f hf => by
    unfold gW
    rw [mup_ne (by omega), mup_ne (by omega), mup_ne (by omega)]
  have e19 : gW κ j v 19 j = zn v := by unfold gW; rw [mup_f rfl, mup_f rfl, mup_eq]
  have e20 : gW κ j v 20 j = v.2.1 := by unfold gW; rw [mup_f rfl, mup_eq]
  have e21 : gW κ j v 21 j = v.2.2 := by unfold gW; rw [mup_eq]
  have hν : ∀ f i, ¬ ((f = 89 ∨ f = 90) ∧ i = j) → flU ν j v f i = ν f i := fun f i a => by
    unfold flU
    rw [mup_ne (by omega), mup_ne (by omega)]
  have v89 : flU ν j v 89 j = v.2.1 := by unfold flU; rw [mup_f rfl, mup_eq]
  have v90 : flU ν j v 90 j = v.2.2 := by unfold flU; rw [mup_eq]
  generalize gW κ j v = κ' at *
  generalize flU ν j v = ν' at *
  have e13 := ef 13 (by omega)
  have nu : ¬ uw κ j := by
    unfold uw
    omega
  have nu' : ¬ uw κ' j := by
    unfold uw
    omega
  have nD : ¬ Dn κ j := by
    unfold Dn
    omega
  refine ⟨RS_cg hE (fun f i a b c d e g h => hν f i (by omega)) ?_ r1, RD_rs hE hj (fun f i a b c d => hν f i (by omega)) r2 ?_ nu nu' ?_ ?_, LQ_cg hE (ef 18 (by omega)) (by rw [e13]) r3, Sl_cg hE (fun q => by rw [← e13]; exact q) r4, LX_fr (JE_pe hE) (hE 1 0 (by omega)) (fun x hx => by rw [hν 200 x (by omega)]; exact (r5.2.2.1 x hx).2.2) (hν 241 0 (by omega)) (hν 242 0 (by omega)) r5⟩
  · rw [hν 327 0 (by omega), hE 12 0 (by omega)]
    exact r1.2.2.2.2.2.2.2.2.2.2.2.2.2
  · obtain ⟨a1, a2, a3, a4, a5, a6, a7, a8, a9, a10, a11, a12, a13, a14, a15, a16⟩ := r2.1 j hj
    have w : ∀ f, ¬ f = 89 → ¬ f = 90 → ν' f j = ν f j := fun f f1 f2 => hν f j (by omega)
    have ej : jAn κ' j 1 = jAn κ j 1 := by
      rcases hs with q | q
      · rw [jAn_0 (e13.trans q), jAn_0 q, ef 17 (by omega)]
      · rw [jAn_2 (e13.trans q), jAn_2 q, ef 22 (by omega)]
    unfold JR Dn
    rw [w 80 (by omega) (by omega), w 81 (by omega) (by omega), w 82 (by omega) (by omega), w 83 (by omega) (by omega), w 84 (by omega) (by omega), w 85 (by omega) (by omega), w 86 (by omega) (by omega), w 87 (by omega) (by omega), w 88 (by omega) (by omega), w 91 (by omega) (by omega), w 92 (by omega) (by omega), ej, ef 14 (by omega), ef 15 (by omega), ef 16 (by omega), ef 17 (by omega), ef 18 (by omega), ef 22 (by omega), ef 24 (by omega), e13, e19, e20, e21, v89, v90]
    refine ⟨a1, a2, a3, a4, a5, a6, a7, a8, fun _ => a9 nD, a10, a11, ?_, ?_, fun q => absurd q nu', fun _ => a15 nu, a16⟩
    · unfold zn
      by_cases q : v.2.1 = -1
      · rw [if_pos q, if_neg (by omega)]
        exact q
      · rw [if_neg q]
        by_cases q2 : v.2.2 = -1
        · rw [if_pos q2, if_pos (by omega)]
        · rw [if_neg q2, if_pos (by omega)]
    · unfold zn
      by_cases q : v.2.1 = -1
      · rw [if_pos q, if_neg (by omega)]
        exact h12 q
      · rw [if_neg q]
        by_cases q2 : v.2.2 = -1
        · rw [if_pos q2, if_neg (by omega)]
          exact q2
        · rw [if_neg q2, if_pos (by omega)]
  · intro s hs' h7
    have h := r2.2.1 s hs' h7
    rw [hν 162 s (by omega), hν 163 s (by omega), slT_eq hE (by rw [e13]), cntS_eq hE (fun s _ => ⟨fun q => q.1.elim (fun y => by omega) (fun y => absurd y.1 nu'), fun q => q.1.elim (fun y => by omega) (fun y => absurd y.1 nu)⟩) hs']
    exact h
  · intro b hb h8
    rw [hν 43 b (by omega), cntY_eq hE (fun b _ => ⟨fun q => q.elim (fun y => Or.inl ⟨by rw [← e13]; exact y.1, by rw [← ef 22 (by omega)]; exact y.2⟩) (fun y => absurd y.1 nu'), fun q => q.elim (fun y => Or.inl ⟨by rw [e13]; exact y.1, by rw [ef 22 (by omega)]; exact y.2⟩) (fun y => absurd y.1 nu)⟩) hb]
    exact r2.2.2.1 b hb h8
end PLr
