/-! THE START: what the Statement gives at the law's entry is a world of the plain state with nothing in it. -/
def Sini (e0 b L : Nat) (xs : Nat → Int32) (mi : Nat) : St := (fun _ => 0, fun _ _ => 0, fun _ _ => none, fun _ => 0, fun _ _ => 0, fun _ _ => 0, fun _ _ => none, 0, 0, (e0, b, L, xs), mi)
set_option maxRecDepth 100000 in
theorem over_in : ∀ C ∈ overT, Cond.arrayOver (.object C) ∈ lw_tbl := by decide +kernel
set_option maxRecDepth 100000 in
theorem cins0 : Cond.instantiable RJx4a65c 3 ∈ lw_tbl := by decide +kernel
set_option maxRecDepth 100000 in
theorem cins1 : Cond.instantiable RX0 4 ∈ lw_tbl := by decide +kernel
set_option maxRecDepth 100000 in
theorem cins2 : Cond.instantiable RX1 13 ∈ lw_tbl := by decide +kernel
set_option maxRecDepth 100000 in
theorem cins3 : Cond.instantiable RX2 8 ∈ lw_tbl := by decide +kernel
set_option maxRecDepth 100000 in
theorem cins4 : Cond.instantiable RX3 4 ∈ lw_tbl := by decide +kernel
set_option maxRecDepth 100000 in
theorem cins5 : Cond.instantiable RX4 6 ∈ lw_tbl := by decide +kernel
set_option maxRecDepth 100000 in
theorem cins6 : Cond.instantiable RX5 3 ∈ lw_tbl := by decide +kernel
set_option maxRecDepth 100000 in
theorem cins7 : Cond.instantiable RX6 5 ∈ lw_tbl := by decide +kernel
set_option maxRecDepth 100000 in
theorem cins8 : Cond.instantiable RX7 8 ∈ lw_tbl := by decide +kernel
set_option maxRecDepth 100000 in
theorem cins9 : Cond.instantiable RX8 32 ∈ lw_tbl := by decide +kernel
theorem cls_inst : ∀ k, k < 10 → ∀ r : vw_C, cls10[k]? = some r → Cond.instantiable r.1 r.2.2 ∈ lw_tbl := fun k hk r hr => by
  match k, hk with
  | 0, _ => cases hr; exact cins0
  | 1, _ => cases hr; exact cins1
  | 2, _ => cases hr; exact cins2
  | 3, _ => cases hr; exact cins3
  | 4, _ => cases hr; exact cins4
  | 5, _ => cases hr; exact cins5
  | 6, _ => cases hr; exact cins6
  | 7, _ => cases hr; exact cins7
  | 8, _ => cases hr; exact cins8
  | 9, _ => cases hr; exact cins9
section SR
variable {args : Array Value} {s : State}
theorem ra_prim {ty : FieldType} (hty : ∀ C, ty ≠ .object C) (h : (Cond.arrayClass ty).before args s = true) : ∃ cA, ArrOfT s cA ty ∧ va_RA s cA ty := by
  obtain ⟨cA, kA, comp, h1, h2, h3⟩ := Cond.arrayClass_spec h
  refine ⟨cA, fun N z => ⟨(fun k h => by cases h), kA, h2, comp, h3⟩, ?_⟩
  cases ty with
  | object C => exact absurd rfl (hty C)
  | _ => exact h1
theorem ra_obj {C : String} (h : (Cond.arrayOver (.object C)).before args s = true) : ∃ cA, ArrOfT s cA (.object C) ∧ va_RA s cA (.object C) := by
  obtain ⟨comp, cA, kA, h1, -, h2, h3, h4⟩ := Cond.arrayOver_spec h
  exact ⟨cA, fun N z => ⟨(fun k h => by cases h), kA, h2, comp, h3⟩, kA, comp, h2, h3, h1, h4⟩
set_option maxHeartbeats 1000000 in
theorem K_start (hts : ∀ w ∈ lw_tbl, w.before args s = true) (B0 : Nat) : ∃ γ : Gam, g0 γ = B0 ∧ va_K (gD γ) cls10 (tyL γ) s := by
  have htG : ∀ w ∈ tG, w.before args s = true := fun w hw => hts w (List.mem_filter.mp hw).1
  have hcl : ∀ k : Nat, ∃ q : ClassId × (Nat → Nat), ∀ r : vw_C, cls10[k]? = some r → u_Kn s r.1 r.2.1 r.2.2 q.1 q.2 := by
    intro k
    by_cases hk : k < 10
    · obtain ⟨C, T, N, ty, hc, hN, hin, -⟩ := cOk_all k hk
      have hi : (Cond.instantiable C N).before args s = true := by
        have hinst : ∀ k, k < 10 → ∀ r, cls10[k]? = some r → Cond.instantiable r.1 r.2.2 ∈ lw_tbl := cls_inst
        exact hts _ (hinst k hk _ hc)
      obtain ⟨cC, iS, hKn⟩ := u_known htG hin hi
      exact ⟨(cC, iS), fun r hr => by cases hr.symm.trans hc; exact hKn⟩
    · exact ⟨(0, fun _ => 0), fun r hr => absurd (List.getElem?_eq_some_iff.mp hr).1 (by simpa using hk)⟩
  obtain ⟨f, hf⟩ := Classical.axiomOfChoice hcl
  obtain ⟨a21, h21⟩ := ra_prim (ty := .int) (by intro C h; cases h) (htG _ (inT_G (arr_in .int (by simp))))
  obtain ⟨a22, h22⟩ := ra_prim (ty := .boolean) (by intro C h; cases h) (htG _ (inT_G (arr_in .boolean (by simp))))
  obtain ⟨a23, h23⟩ := ra_prim (ty := .long) (by intro C h; cases h) (htG _ (inT_G (arr_in .long (by simp))))
  obtain ⟨a24, h24⟩ := ra_obj (C := "TubeDesk$Bay") (hts _ (over_in "TubeDesk$Bay" (by decide)))
  obtain ⟨a25, h25⟩ := ra_obj (C := "TubeDesk$Node") (hts _ (over_in "TubeDesk$Node" (by decide)))
  obtain ⟨a26, h26⟩ := ra_obj (C := "TubeDesk$Station") (hts _ (over_in "TubeDesk$Station" (by decide)))
  obtain ⟨a27, h27⟩ := ra_obj (C := "TubeDesk$Zone") (hts _ (over_in "TubeDesk$Zone" (by decide)))
  obtain ⟨a28, h28⟩ := ra_obj (C := "java/lang/Object") (hts _ (over_in "java/lang/Object" (by decide)))
  refine ⟨(fun k => (f k).1, fun k => (f k).2, fun q => [a21, a22, a23, a24, a25, a26, a27, a28].getD (q - 21) 0, B0), rfl, fun k r hr => hf k r hr, fun k q hq => ?_⟩
  have hk : k < 8 := (List.getElem?_eq_some_iff.mp hq).1
  match k, hk with
  | 0, _ => cases hq; exact h21
  | 1, _ => cases hq; exact h22
  | 2, _ => cases hq; exact h23
  | 3, _ => cases hq; exact h24
  | 4, _ => cases hq; exact h25
  | 5, _ => cases hq; exact h26
  | 6, _ => cases hq; exact h27
  | 7, _ => cases hq; exact h28
end SR
set_option maxRecDepth 100000 in
theorem cast_in : ∀ q ∈ castT, Cond.castable q.1 q.2 ∈ lw_tbl := by decide +kernel
set_option maxRecDepth 100000 in
theorem decl_in : ∀ x ∈ declT, Cond.declares x ∈ lw_tbl := by decide +kernel
set_option maxRecDepth 100000 in
theorem str_in : ∀ q ∈ strT, Cond.stringRef RX7 q.1 q.2 ∈ lw_tbl := by decide +kernel
set_option maxRecDepth 100000 in
theorem nest_in : Cond.methodLinkNest RX7 36 yX5_init "TubeDesk" ∈ lw_tbl := by decide +kernel
set_option maxRecDepth 100000 in
theorem lays_in : ∀ w ∈ [Cond.laysStatic RJx4a65c "DEFAULTCAPACITY_EMPTY_ELEMENTDATA" "[Ljava/lang/Object;", Cond.laysStatic Bundle.tN "UNASSIGNED_STACK" Bundle.steD, Cond.laysStatic Bundle.tN "SUPPRESSED_SENTINEL" Bundle.listD, Cond.initialized RJx4a65c, Cond.initialized Bundle.tN], w ∈ lw_tbl := by decide +kernel
abbrev stat0 : Term := .static "java/util/ArrayList" "DEFAULTCAPACITY_EMPTY_ELEMENTDATA" "[Ljava/lang/Object;"
set_option maxRecDepth 100000 in
theorem nar_in : ∀ w ∈ [Cond.arrayOf stat0 (.object "java/lang/Object"), Cond.eq (.length stat0) (.int 0), Cond.isRef (.mirror "[Ljava/lang/Object;"), Cond.isRef (.static Bundle.tN "UNASSIGNED_STACK" Bundle.steD), Cond.isRef (.static Bundle.tN "SUPPRESSED_SENTINEL" Bundle.listD)], w ∈ flatC (Jvm.Cond.and given_1 narrow_1) := by decide +kernel
set_option maxRecDepth 100000 in
theorem nstr_in : ∀ q ∈ strT, Cond.exactly (.string RX7 q.1) "java/lang/String" ∈ flatC (Jvm.Cond.and given_1 narrow_1) := by decide +kernel
set_option maxRecDepth 100000 in
theorem nnc_in : ∀ q ∈ ncT, Cond.not (.castable q.1 q.2) ∈ flatC (Jvm.Cond.and given_1 narrow_1) := by decide +kernel
theorem Z_start {s : State} {b L : Nat} {xs : Nat → Int32} (hts : ∀ w ∈ lw_tbl, w.before #[Value.ref b] s = true) (hgv : (Jvm.Cond.and given_1 narrow_1).before #[Value.ref b] s = true) (hX : va_X b L xs s s.heap) (hbl : b < s.heap.size) (γ : Gam) (hg : g0 γ = s.heap.size) : ∃ e0 mi, Zs γ (Sini e0 b L xs mi) s s.heap := by
  have hs := flat_of_before _ hgv
  have hA : ∀ a : Nat, a < s.heap.size → ¬ gA γ a := fun a h1 h2 => by
    have : g0 γ ≤ a := h2
    omega
  obtain ⟨e0, he, hT⟩ := va_Tof (tm := stat0) (ty := .object "java/lang/Object") (N := 0) (f := fun _ => .null) (A := gA γ) (by decide) (hs _ (nar_in _ (by simp))) (va_eqt (hs _ (nar_in (Cond.eq (.length stat0) (.int 0)) (by simp)))) (fun j hj => absurd hj (Nat.not_lt_zero j)) hA
  obtain ⟨mi, hmi⟩ := va_Mi.of (hs _ (nar_in (Cond.isRef (.mirror "[Ljava/lang/Object;")) (by simp)))
  refine ⟨e0, mi, va_Zref (hts _ (lays_in _ (by simp))) (hts _ (lays_in _ (by simp))) he hA, hmi, fun C hC => va_AO.of (hts _ (over_in C hC)), vx_Zqof (hts _ (lays_in _ (by simp))) (hts _ (lays_in _ (by simp))) (hs _ (nar_in _ (by simp))) hA, vx_Zqof (hts _ (lays_in _ (by simp))) (hts _ (lays_in _ (by simp))) (hs _ (nar_in _ (by simp))) hA, fun q hq => ?_, fun q hq => va_Nc.of (hs _ (nnc_in q hq)), fun q hq => va_Nw.of rfl (hts _ (cast_in q hq)), fun x hx => va_Nw.of rfl (hts _ (decl_in x hx)), va_Nw.of rfl (hts _ nest_in), hT, hX, ?_⟩
  · obtain ⟨a, -, -, -, h1, -⟩ := Cond.exactly_spec (args := #[Value.ref b]) (first := s) (o := none) (s := s) (idx := []) (hs _ (nstr_in q hq))
    exact ⟨a, vk_R.of (hts _ (str_in q hq)) h1⟩
  · rw [hg]
    exact hbl
theorem Wo_start {s : State} {b L : Nat} {xs : Nat → Int32} (hts : ∀ w ∈ lw_tbl, w.before #[Value.ref b] s = true) (hgv : (Jvm.Cond.and given_1 narrow_1).before #[Value.ref b] s = true) (hX : va_X b L xs s s.heap) (hbl : b < s.heap.size) : ∃ γ e0 mi, g0 γ = s.heap.size ∧ Wo γ (Sini e0 b L xs mi) s := by
  obtain ⟨γ, hg, hK⟩ := K_start hts s.heap.size
  obtain ⟨e0, mi, hZ⟩ := Z_start hts hgv hX hbl γ hg
  exact ⟨γ, e0, mi, hg, fun a ha => absurd rfl ha, hK, hZ, by rw [hg]; exact Nat.le_refl _, Nat.zero_le _, Nat.zero_le _⟩
