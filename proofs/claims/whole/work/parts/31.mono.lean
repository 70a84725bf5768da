/-! MORE STEPS AND WEAKER ENDS: run and ev grow. -/
theorem popI_mo {st : List V_} {f g : Int32 → List V_ → Prop} (h : ∀ x r, f x r → g x r) (a : popI st f) : popI st g := by
  obtain ⟨x, r, rfl, z⟩ := popI_el a
  exact h x r z
theorem popR_mo {st : List V_} {f g : Option Nat → List V_ → Prop} (h : ∀ x r, f x r → g x r) (a : popR st f) : popR st g := by
  obtain ⟨x, r, rfl, z⟩ := popR_el a
  exact h x r z
theorem popL_mo {st : List V_} {f g : Int64 → List V_ → Prop} (h : ∀ x r, f x r → g x r) (a : popL st f) : popL st g := by
  obtain ⟨x, r, rfl, z⟩ := popL_el a
  exact h x r z
theorem pop1_mo {st : List V_} {f g : V_ → List V_ → Prop} (h : ∀ x r, f x r → g x r) (a : pop1 st f) : pop1 st g := by
  unfold pop1 at a ⊢
  split at a
  · exact h _ _ a
  · exact h _ _ a
  · exact a.elim
theorem ldI_mo {lv : List (Option V_)} {j : Nat} {f g : Int32 → Prop} (h : ∀ x, f x → g x) (a : ldI lv j f) : ldI lv j g := by
  unfold ldI at a ⊢
  split at a
  · exact h _ a
  · exact a.elim
theorem ldR_mo {lv : List (Option V_)} {j : Nat} {f g : Option Nat → Prop} (h : ∀ x, f x → g x) (a : ldR lv j f) : ldR lv j g := by
  unfold ldR at a ⊢
  split at a
  · exact h _ a
  · exact a.elim
theorem popN_mo {n : Nat} {st : List V_} {f g : List V_ → List V_ → Prop} (h : ∀ x r, f x r → g x r) (a : popN n st f) : popN n st g := ⟨a.1, h _ _ a.2⟩
section MO
variable {d M : Nat} {cal cal' : Nat → List V_ → St → (Rs → St → Prop) → Prop} {k k' : Nat → List (Option V_) → List V_ → St → Prop} {Q Q' : Rs → St → Prop} {pc : Nat} {lv : List (Option V_)} {st : List V_} {S : St}
theorem aft_mo (hk : ∀ pc lv st S, k pc lv st S → k' pc lv st S) : ∀ R S, aft M pc k lv st R S → aft M pc k' lv st R S := by
  intro R S h
  match R, h with
  | .inl none, h => exact hk _ _ _ _ h
  | .inl (some v), h => exact hk _ _ _ _ h
  | .inr E, h =>
    obtain ⟨t, h1, h2⟩ := h
    exact ⟨t, h1, fun q => hk _ _ _ _ (h2 q)⟩
theorem aft0_mo (hk : ∀ pc lv st S, k pc lv st S → k' pc lv st S) : ∀ R S, aft0 pc k lv st R S → aft0 pc k' lv st R S := by
  intro R S h
  match R, h with
  | .inl none, h => exact hk _ _ _ _ h
  | .inl (some v), h => exact h.elim
  | .inr E, h => exact h.elim
set_option maxHeartbeats 4000000 in
theorem stp_mo (hk : ∀ pc lv st S, k pc lv st S → k' pc lv st S) (hc : ∀ M as S (Q Q' : Rs → St → Prop), (∀ r S, Q r S → Q' r S) → cal M as S Q → cal' M as S Q') (hQ : ∀ r S, Q r S → Q' r S) {i : Instr} {len : Nat} (h : stp d cal M i len k Q pc lv st S) : stp d cal' M i len k' Q' pc lv st S := by
  cases i
  case iconst n => exact ⟨h.1, hk _ _ _ _ h.2⟩
  case bipush n => exact ⟨h.1, hk _ _ _ _ h.2⟩
  case lconst n => exact ⟨h.1, hk _ _ _ _ h.2⟩
  case aconst_null => exact ⟨h.1, hk _ _ _ _ h.2⟩
  case iload_n j => exact ⟨h.1, ldI_mo (fun x z => hk _ _ _ _ z) h.2⟩
  case iload j => exact ⟨h.1, ldI_mo (fun x z => hk _ _ _ _ z) h.2⟩
  case aload_n j => exact ⟨h.1, ldR_mo (fun x z => hk _ _ _ _ z) h.2⟩
  case aload j => exact ⟨h.1, ldR_mo (fun x z => hk _ _ _ _ z) h.2⟩
  case istore_n j => exact ⟨h.1, h.2.1, popI_mo (fun x r z => hk _ _ _ _ z) h.2.2⟩
  case istore j => exact ⟨h.1, h.2.1, popI_mo (fun x r z => hk _ _ _ _ z) h.2.2⟩
  case astore_n j => exact ⟨h.1, h.2.1, popR_mo (fun x r z => hk _ _ _ _ z) h.2.2⟩
  case astore j => exact ⟨h.1, h.2.1, popR_mo (fun x r z => hk _ _ _ _ z) h.2.2⟩
  case iinc j n => exact ⟨h.1, ldI_mo (fun x z => hk _ _ _ _ z) h.2⟩
  case iadd => exact ⟨h.1, popI_mo (fun y r z => popI_mo (fun x r z => hk _ _ _ _ z) z) h.2⟩
  case isub => exact ⟨h.1, popI_mo (fun y r z => popI_mo (fun x r z => hk _ _ _ _ z) z) h.2⟩
  case imul => exact ⟨h.1, popI_mo (fun y r z => popI_mo (fun x r z => hk _ _ _ _ z) z) h.2⟩
  case iand => exact ⟨h.1, popI_mo (fun y r z => popI_mo (fun x r z => hk _ _ _ _ z) z) h.2⟩
  case ishr => exact ⟨h.1, popI_mo (fun y r z => popI_mo (fun x r z => hk _ _ _ _ z) z) h.2⟩
  case idiv => exact ⟨h.1, popI_mo (fun y r z => popI_mo (fun x r z => ⟨z.1, hk _ _ _ _ z.2⟩) z) h.2⟩
  case irem => exact ⟨h.1, popI_mo (fun y r z => popI_mo (fun x r z => ⟨z.1, hk _ _ _ _ z.2⟩) z) h.2⟩
  case i2l => exact ⟨h.1, popI_mo (fun x r z => hk _ _ _ _ z) h.2⟩
  case lcmp => exact ⟨h.1, popL_mo (fun y r z => popL_mo (fun x r z => hk _ _ _ _ z) z) h.2⟩
  case dup => exact ⟨h.1, pop1_mo (fun x r z => hk _ _ _ _ z) h.2⟩
  case pop => exact ⟨h.1, pop1_mo (fun x r z => hk _ _ _ _ z) h.2⟩
  case dup_x1 => exact ⟨h.1, pop1_mo (fun y r z => pop1_mo (fun x r z => hk _ _ _ _ z) z) h.2⟩
  case dup2 => exact ⟨h.1, pop1_mo (fun y r z => pop1_mo (fun x r z => hk _ _ _ _ z) z) h.2⟩
  case ifCond cn off => exact ⟨h.1, popI_mo (fun x r ⟨t, ht, z1, z2⟩ => ⟨t, ht, fun w => hk _ _ _ _ (z1 w), fun w => hk _ _ _ _ (z2 w)⟩) h.2⟩
  case if_icmp cn off => exact ⟨h.1, popI_mo (fun y r z => popI_mo (fun x r ⟨t, ht, z1, z2⟩ => ⟨t, ht, fun w => hk _ _ _ _ (z1 w), fun w => hk _ _ _ _ (z2 w)⟩) z) h.2⟩
  case if_acmp cn off => exact ⟨h.1, popR_mo (fun y r z => popR_mo (fun x r ⟨t, ht, z⟩ => ⟨t, ht, by cases cn <;> exact ⟨fun w => hk _ _ _ _ (z.1 w), fun w => hk _ _ _ _ (z.2 w)⟩⟩) z) h.2⟩
  case ifnull off => exact ⟨h.1, popR_mo (fun x r ⟨t, ht, z1, z2⟩ => ⟨t, ht, fun w => hk _ _ _ _ (z1 w), fun a w => hk _ _ _ _ (z2 a w)⟩) h.2⟩
  case ifnonnull off => exact ⟨h.1, popR_mo (fun x r ⟨t, ht, z1, z2⟩ => ⟨t, ht, fun a w => hk _ _ _ _ (z1 a w), fun w => hk _ _ _ _ (z2 w)⟩) h.2⟩
  case goto off => obtain ⟨h1, t, ht, z⟩ := h; exact ⟨h1, t, ht, hk _ _ _ _ z⟩
  case tableswitch df lo hi offs => exact popI_mo (fun x r ⟨z1, z2⟩ => ⟨fun w => (z1 w).imp fun t z => ⟨z.1, hk _ _ _ _ z.2⟩, fun w1 w2 => (z2 w1 w2).imp fun off z => z.imp fun t z => ⟨z.1, z.2.1, hk _ _ _ _ z.2.2⟩⟩) h
  case getfield ix => exact ⟨h.1, h.2.1, popR_mo (fun o r ⟨c, f, a, z1, z2, z3, z⟩ => ⟨c, f, a, z1, z2, z3, hk _ _ _ _ z⟩) h.2.2⟩
  case putfield ix => exact ⟨h.1, h.2.1, pop1_mo (fun v r z => popR_mo (fun o r ⟨c, f, a, z1, z2, z3, z4, z⟩ => ⟨c, f, a, z1, z2, z3, z4, by
      rcases v with x | x | x
      · exact ⟨z.1, z.2.1, hk _ _ _ _ z.2.2⟩
      · exact ⟨z.1, hk _ _ _ _ z.2⟩
      · exact z.elim⟩) z) h.2.2⟩
  case arraylength => exact ⟨h.1, popR_mo (fun o r ⟨a, z1, z⟩ => ⟨a, z1, z.imp (fun z => ⟨z.1, hk _ _ _ _ z.2⟩) (fun z => z.imp (fun z => ⟨z.1, hk _ _ _ _ z.2⟩) (fun z => ⟨z.1, hk _ _ _ _ z.2⟩))⟩) h.2⟩
  case iaload => exact ⟨h.1, popI_mo (fun j r z => popR_mo (fun o r ⟨a, z1, z⟩ => ⟨a, z1, z.imp (fun z => ⟨z.1, z.2.1, hk _ _ _ _ z.2.2⟩) (fun z => ⟨z.1, z.2.1, hk _ _ _ _ z.2.2⟩)⟩) z) h.2⟩
  case baload => exact ⟨h.1, popI_mo (fun j r z => popR_mo (fun o r ⟨a, z1, z2, z3, z⟩ => ⟨a, z1, z2, z3, hk _ _ _ _ z⟩) z) h.2⟩
  case laload => exact ⟨h.1, popI_mo (fun j r z => popR_mo (fun o r ⟨a, z1, z2, z3, z⟩ => ⟨a, z1, z2, z3, hk _ _ _ _ z⟩) z) h.2⟩
  case aaload => exact ⟨h.1, popI_mo (fun j r z => popR_mo (fun o r ⟨a, z1, z2, z3, z⟩ => ⟨a, z1, z2, z3, hk _ _ _ _ z⟩) z) h.2⟩
  case iastore => exact ⟨h.1, popI_mo (fun x r z => popI_mo (fun j r z => popR_mo (fun o r ⟨a, z1, z2, z3, z⟩ => ⟨a, z1, z2, z3, hk _ _ _ _ z⟩) z) z) h.2⟩
  case bastore => exact ⟨h.1, popI_mo (fun x r z => popI_mo (fun j r z => popR_mo (fun o r ⟨a, z1, z2, z3, z4, z⟩ => ⟨a, z1, z2, z3, z4, hk _ _ _ _ z⟩) z) z) h.2⟩
  case lastore => exact ⟨h.1, popL_mo (fun x r z => popI_mo (fun j r z => popR_mo (fun o r ⟨a, z1, z2, z3, z⟩ => ⟨a, z1, z2, z3, hk _ _ _ _ z⟩) z) z) h.2⟩
  case aastore => exact ⟨h.1, popR_mo (fun x r z => popI_mo (fun j r z => popR_mo (fun o r ⟨a, z1, z2, z3, z4, z⟩ => ⟨a, z1, z2, z3, z4, hk _ _ _ _ z⟩) z) z) h.2⟩
  case newarray t => exact ⟨h.1, popI_mo (fun n r ⟨z1, z2, z3, z4, z⟩ => ⟨z1, z2, z3, z4, fun a w1 w2 w3 => hk _ _ _ _ (z a w1 w2 w3)⟩) h.2⟩
  case anewarray ix => exact ⟨h.1, h.2.1, popI_mo (fun n r ⟨q, z1, z2, z3, z4, z⟩ => ⟨q, z1, z2, z3, z4, fun a w1 w2 w3 => hk _ _ _ _ (z a w1 w2 w3)⟩) h.2.2⟩
  case new ix =>
    obtain ⟨h1, h2, h⟩ := h
    refine ⟨h1, h2, ?_⟩
    cases ht : tres.lookup (2000 * M + pc) with
    | none =>
      rw [ht] at h
      obtain ⟨c, z1, z2, z⟩ := h
      exact ⟨c, z1, z2, fun a w1 w2 w3 => hk _ _ _ _ (z a w1 w2 w3)⟩
    | some w =>
      rw [ht] at h
      obtain ⟨z1, z2, z3, z4, z⟩ := h
      exact ⟨z1, z2, z3, z4, hQ _ _ z⟩
  case checkcast ix => exact ⟨h.1, h.2.1, popR_mo (fun o r z => ⟨z.1, hk _ _ _ _ z.2⟩) h.2.2⟩
  case ldc ix => exact ⟨h.1, h.2.1, h.2.2.imp (fun z => ⟨z.1, hk _ _ _ _ z.2⟩) (fun z => ⟨z.1, hk _ _ _ _ z.2⟩)⟩
  case getstatic ix => exact ⟨h.1, h.2.1, h.2.2.1, hk _ _ _ _ h.2.2.2⟩
  case invokestatic ix =>
    refine ⟨h.1, h.2.1, h.2.2.imp (fun ⟨M', z1, z⟩ => ⟨M', z1, popN_mo (fun as r z => ⟨z.1, hc _ _ _ _ _ (aft_mo hk) z.2⟩) z⟩) (fun ⟨z1, z2, z⟩ => ⟨z1, z2, ?_⟩)⟩
    exact popI_mo (fun n r z => popI_mo (fun dp r z => popR_mo (fun o1 r z => popI_mo (fun sp r z => popR_mo (fun o0 r ⟨a0, a1, y1, y2, y3, y4, y5, y6, y7, y8, y9, y10, y11, y12, y13, z⟩ => ⟨a0, a1, y1, y2, y3, y4, y5, y6, y7, y8, y9, y10, y11, y12, y13, hk _ _ _ _ z⟩) z) z) z) z) z
  case invokevirtual ix =>
    exact ⟨h.1, h.2.1, h.2.2.imp (fun ⟨M', z1, z⟩ => ⟨M', z1, popN_mo (fun as r z => popR_mo (fun o r ⟨a, y1, y2, y3, y⟩ => ⟨a, y1, y2, y3, hc _ _ _ _ _ (aft_mo hk) y⟩) z) z⟩) (fun ⟨z1, z2, z⟩ => ⟨z1, z2, popR_mo (fun o r ⟨a, y1, y2, y3, y⟩ => ⟨a, y1, y2, y3, hk _ _ _ _ y⟩) z⟩)⟩
  case invokespecial ix =>
    exact ⟨h.1, h.2.1, h.2.2.imp (fun ⟨M', kd, z1, z2, z⟩ => ⟨M', kd, z1, z2, popN_mo (fun as r z => popR_mo (fun o r ⟨a, y1, y2, y⟩ => ⟨a, y1, y2, hc _ _ _ _ _ (aft0_mo hk) y⟩) z) z⟩) (fun ⟨z1, z⟩ => ⟨z1, popR_mo (fun o r ⟨a, y1, y2, y⟩ => ⟨a, y1, y2, hk _ _ _ _ y⟩) z⟩)⟩
  case ireturn => exact ⟨h.1, popI_mo (fun x r ⟨z1, z2, z⟩ => ⟨z1, z2, hQ _ _ z⟩) h.2⟩
  case areturn => exact ⟨h.1, popR_mo (fun x r ⟨z1, z2, z⟩ => ⟨z1, z2, hQ _ _ z⟩) h.2⟩
  case return_ => exact ⟨h.1, h.2.1, h.2.2.1, hQ _ _ h.2.2.2⟩
  all_goals exact False.elim h
theorem nxt_mo (hk : ∀ pc lv st S, k pc lv st S → k' pc lv st S) (hc : ∀ M as S (Q Q' : Rs → St → Prop), (∀ r S, Q r S → Q' r S) → cal M as S Q → cal' M as S Q') (hQ : ∀ r S, Q r S → Q' r S) (h : nxt d cal M Q k pc lv st S) : nxt d cal' M Q' k' pc lv st S := by
  unfold nxt at h ⊢
  split at h
  · exact stp_mo hk hc hQ h
  · exact False.elim h
theorem run_mo (hc : ∀ M as S (Q Q' : Rs → St → Prop), (∀ r S, Q r S → Q' r S) → cal M as S Q → cal' M as S Q') (hQ : ∀ r S, Q r S → Q' r S) (h : run d cal M Q pc lv st S) : run d cal' M Q' pc lv st S := fun P hP => h P fun pc lv st S hn => hP pc lv st S (nxt_mo (fun _ _ _ _ z => z) hc hQ hn)
end MO
theorem Ev_mo : ∀ {D M : Nat} {as : List V_} {S : St} {Q Q' : Rs → St → Prop}, (∀ r S, Q r S → Q' r S) → Ev D M as S Q → Ev D M as S Q' := by
  intro D
  induction D with
  | zero => intro M as S Q Q' _ h; exact False.elim h
  | succ d ih =>
    intro M as S Q Q' hQ h
    exact ⟨h.1, run_mo (fun M as S Q Q' hq z => ih hq z) hQ h.2⟩
/-- from here method M (callees of d frames) ends with Q -/
abbrev Run (d M : Nat) (Q : Rs → St → Prop) (pc : Nat) (lv : List (Option V_)) (st : List V_) (S : St) : Prop := run d (Ev d) M Q pc lv st S
theorem Run_mo {d M pc : Nat} {lv : List (Option V_)} {st : List V_} {S : St} {Q Q' : Rs → St → Prop} (hQ : ∀ r S, Q r S → Q' r S) (h : Run d M Q pc lv st S) : Run d M Q' pc lv st S := run_mo (fun _ _ _ _ _ hq z => Ev_mo hq z) hQ h
/-- one step -/
theorem Run_of {d M pc : Nat} {lv : List (Option V_)} {st : List V_} {S : St} {Q : Rs → St → Prop} {i : Instr} {len : Nat} (hcd : cdT M pc = some (i, len)) (h : stp d (Ev d) M i len (Run d M Q) Q pc lv st S) : Run d M Q pc lv st S := by
  intro P hP
  refine hP pc lv st S ?_
  unfold nxt
  rw [hcd]
  exact stp_mo (k := Run d M Q) (k' := P) (cal := Ev d) (cal' := Ev d) (Q := Q) (Q' := Q) (fun pc lv st S z => z P hP) (fun _ _ _ _ _ hq z => Ev_mo hq z) (fun _ _ z => z) h
/-- a method out of a run from its first instruction -/
theorem Ev_of {d M : Nat} {as : List V_} {S : St} {Q : Rs → St → Prop} (hA : okA M as) (h : Run d M Q 0 (ent M as) [] S) : Ev (d + 1) M as S Q := ⟨hA, h⟩
