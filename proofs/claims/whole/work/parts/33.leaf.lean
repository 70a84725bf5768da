/-! LEAVES of the class. -/
def w1 (v : V_) : Bool := match v with
  | .inr (.inr _) => false
  | _ => true
theorem okA_of {M : Nat} {as : List V_} (h : as.length ≤ (mI M).2.2.1) (h2 : as.all w1 = true) : okA M as := by
  refine ⟨h, fun v hv => ?_⟩
  have := List.all_eq_true.mp h2 v hv
  rcases v with x | o | w
  · trivial
  · trivial
  · cases this
/-- Bay.endIn -/
theorem c_endIn {d b ea : Nat} {z eb : Option Nat} {S : St} {Q : Rs → St → Prop} (hb : sK S b = 2) (h1 : sP S 41 b = some ea) (h2 : sP S 42 b = eb) (hea : sK S ea = 4) (k : Q (.inl (some (vR (if sP S 120 ea = z then some ea else eb)))) S) : Ev (d + 1) 21 [vR (some b), vR z] S Q := by
  refine Ev_of (okA_of (Nat.le_of_ble_eq_true rfl) rfl) ?_
  refine R_aload_n rfl rfl ?_
  refine R_getR rfl (by decide) rfl rfl hb ?_
  rw [show sP S (40 * 1 + 1) b = some ea from h1]
  refine R_getR rfl (by decide) rfl rfl hea ?_
  refine R_aload_n rfl rfl ?_
  refine R_acmp_ne 18 rfl (by decide) (fun hne => ?_) (fun he => ?_)
  · refine R_aload_n rfl rfl ?_
    refine R_getR rfl (by decide) rfl rfl hb ?_
    refine R_areturn rfl (Or.inl ⟨_, rfl⟩) ?_
    rw [if_neg hne] at k
    rw [show sP S (40 * 1 + 2) b = eb from h2]
    exact k
  · refine R_aload_n rfl rfl ?_
    refine R_getR rfl (by decide) rfl rfl hb ?_
    refine R_goto 22 rfl (by decide) ?_
    refine R_areturn rfl (Or.inl ⟨_, rfl⟩) ?_
    rw [if_pos he] at k
    rw [show sP S (40 * 1 + 1) b = some ea from h1]
    exact k
