/-! EACH SIDE LEAVES THE OTHER AS IT WAS. -/
section BTH
variable {S S0 : St} {m : Nat} {A : Nat → Nat} {κ σ : Mu} {G : Ga} {L : Lv} {ν : Mu} {ls : Nat → List Nat} {Ar : Nat → Nat} {c s : Nat}
theorem kdM_0 (f : Nat) : ¬ kdM f = 0 := by
  unfold kdM
  split <;> omega
theorem RM_FZ {μ : Mu} (h : RM m A μ S0) (hF : FZ S0 S) : RM m A μ S := by
  obtain ⟨a1, a2, a3, a4, a5⟩ := h
  have hm := hF.1 m (by rw [a1]; omega)
  refine ⟨hm.1.trans a1, fun f hf hr => ?_, fun f hf hr => ?_, a4, a5⟩
  · obtain ⟨b1, b2, b3, b4⟩ := a2 f hf hr
    have ha := hF.1 (A f) (by rw [b2]; exact kdM_0 f)
    exact ⟨(hm.2.2.2.2 (360 + f) (by omega)).2.trans b1, ha.1.trans b2, ha.2.1.trans b3, fun i hi => (ha.2.2.1 i).trans (b4 i hi)⟩
  · exact (hm.2.2.2.2 (360 + f) (by omega)).1.trans (a3 f hf hr)
theorem RN_FZ (h : RN m A κ σ S0) (hF : FZ S0 S) : RN m A κ σ S := ⟨RM_FZ h.1 hF, h.2⟩
theorem CI_FM (h : CI G L ν ls Ar c s S0) (hF : FM S0 S) : CI G L ν ls Ar c s S := by
  obtain ⟨f1, f2, f3, f4, f5, f6, f7, f8, f9, f10⟩ := hF
  obtain ⟨⟨a1, a2, a3, a4, a5, a6⟩, ⟨b1, b2, b3⟩, c1, d1, e1, g1⟩ := h
  have la : ∀ a arr k, LA a arr k S0 → LA a arr k S := by
    intro a arr k hh
    unfold LA at *
    rw [f1, f2, f3, f9, f6 2 a (by omega)]
    exact hh
  have ep : pot Ar S = pot Ar S0 := by
    unfold pot cpa
    rw [f3, f9]
  refine ⟨⟨fun c i hi => by rw [f1]; exact a1 c i hi, a2, fun c f i q1 q2 q3 q4 q5 => by rw [f6 _ _ (by omega)]; exact a3 c f i q1 q2 q3 q4 q5, fun c f i q1 q2 q3 q4 q5 => by rw [f2]; exact a4 c f i q1 q2 q3 q4 q5, fun c i q1 q2 q3 => by rw [f3, f4]; exact a5 c i q1 q2 q3, a6⟩, ⟨fun i hi => ⟨la _ _ _ (b1 i hi).1, fun p hp => by rw [f4]; exact (b1 i hi).2 p hp⟩, by rw [f9]; exact b2, b3⟩, ⟨by rw [f7]; exact c1.1, by rw [f8, ep]; exact c1.2⟩, by rw [f1, f9]; exact d1, e1, g1⟩
end BTH
