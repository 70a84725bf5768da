/-! SOUNDNESS: what run and ev say, the machine does. -/
theorem popN_el {n : Nat} {st : List V_} {f : List V_ → List V_ → Prop} (h : popN n st f) : ∃ as r, st = as.reverse ++ r ∧ as.length = n ∧ f as r := by
  obtain ⟨h1, h2⟩ := h
  refine ⟨(st.take n).reverse, st.drop n, ?_, ?_, h2⟩
  · rw [List.reverse_reverse, List.take_append_drop]
  · rw [List.length_reverse, List.length_take]
    omega
set_option maxRecDepth 100000 in
theorem cres_small : cres.all (fun q => decide (q.2.2 < 136)) = true := by decide +kernel
theorem cres_lt {x kd M' : Nat} (h : cres.lookup x = some (kd, M')) (_ : kd ≤ 3) : M' < 136 := by
  have := List.all_eq_true.mp cres_small _ (lookup_mem h)
  exact of_decide_eq_true this
section SD
variable {γ : Gam} {p : Program} {l : Launch} {e : Env} {R : Room} {s : State} {m : MethodId} {args : Array Value} {below : List Frame} {meth : Method} {c : Code} {Q : Rs → St → Prop} {M d : Nat} {S0 : St} {pc : Nat} {lv : List (Option V_)} {st : List V_} {S : St} {k : Nat → List (Option V_) → List V_ → St → Prop} {cal : Nat → List V_ → St → (Rs → St → Prop) → Prop}
set_option maxHeartbeats 4000000 in
set_option maxRecDepth 10000 in
theorem stp_ok (hO : Ok γ p l R s m args meth c M S0 d) (hcal : ∀ M' as S' Q', M' < 136 → cal M' as S' Q' → Tri l γ d M' as S' Q') (hk : ∀ pc lv st S, k pc lv st S → J γ p l e R s m args below meth c (Zend γ below args s S0 Q) M S0 pc lv st S) {i : Instr} {len : Nat} (hcd : cdT M pc = some (i, len)) (h : stp d cal M i len k Q pc lv st S) :
    J γ p l e R s m args below meth c (Zend γ below args s S0 Q) M S0 pc lv st S := by
  have hd := cdT_ok hcd
  obtain ⟨o1, o2, o3, o4, o5, o6, o7, o8, o9, o10, o11, o12, o13, o14, o15⟩ := id hO
  have hR : R.cells = mxC - sk S0 ∧ R.slots = mxS - sn S0 := by rw [o14]; exact ⟨rfl, rfl⟩
  have hRf : 1 ≤ R.frames ∧ 38 ≤ R.locals := by rw [o14]; exact ⟨Nat.succ_le_succ (Nat.zero_le _), by show 38 ≤ 38 * (d + 1); omega⟩
  have hRg : 2 ≤ d → 1 ≤ R.frames ∧ 76 ≤ R.locals := fun h2 => by rw [o14]; exact ⟨Nat.succ_le_succ (Nat.zero_le _), by show 76 ≤ 38 * (d + 1); omega⟩
  cases i
  case iconst n => obtain ⟨rfl, h⟩ := h; exact st_iconst o1 o2 hd (hk _ _ _ _ h)
  case bipush n => obtain ⟨rfl, h⟩ := h; exact st_bipush o1 o2 hd (hk _ _ _ _ h)
  case lconst n => obtain ⟨rfl, h⟩ := h; exact st_lconst o1 o2 hd (hk _ _ _ _ h)
  case aconst_null => obtain ⟨rfl, h⟩ := h; exact st_aconst_null o1 o2 hd (hk _ _ _ _ h)
  case iload_n j => obtain ⟨rfl, h⟩ := h; obtain ⟨x, hj, h⟩ := ldI_el h; exact st_iload_n o1 o2 hd hj (hk _ _ _ _ h)
  case iload j => obtain ⟨rfl, h⟩ := h; obtain ⟨x, hj, h⟩ := ldI_el h; exact st_iload o1 o2 hd hj (hk _ _ _ _ h)
  case aload_n j => obtain ⟨rfl, h⟩ := h; obtain ⟨x, hj, h⟩ := ldR_el h; exact st_aload_n o1 o2 hd hj (hk _ _ _ _ h)
  case aload j => obtain ⟨rfl, h⟩ := h; obtain ⟨x, hj, h⟩ := ldR_el h; exact st_aload o1 o2 hd hj (hk _ _ _ _ h)
  case istore_n j => obtain ⟨rfl, hj, h⟩ := h; obtain ⟨x, r1, rfl, g1⟩ := popI_el h; exact st_istore_n o1 o2 hd hj (hk _ _ _ _ g1)
  case istore j => obtain ⟨rfl, hj, h⟩ := h; obtain ⟨x, r1, rfl, g1⟩ := popI_el h; exact st_istore o1 o2 hd hj (hk _ _ _ _ g1)
  case astore_n j => obtain ⟨rfl, hj, h⟩ := h; obtain ⟨x, r1, rfl, g1⟩ := popR_el h; exact st_astore_n o1 o2 hd hj (hk _ _ _ _ g1)
  case astore j => obtain ⟨rfl, hj, h⟩ := h; obtain ⟨x, r1, rfl, g1⟩ := popR_el h; exact st_astore o1 o2 hd hj (hk _ _ _ _ g1)
  case iinc j n => obtain ⟨rfl, h⟩ := h; obtain ⟨x, hj, h⟩ := ldI_el h; exact st_iinc o1 o2 hd hj (hk _ _ _ _ h)
  case iadd => obtain ⟨rfl, h⟩ := h; obtain ⟨y, r1, rfl, g1⟩ := popI_el h; obtain ⟨x, r2, rfl, g2⟩ := popI_el g1; exact st_iadd o1 o2 hd (hk _ _ _ _ g2)
  case isub => obtain ⟨rfl, h⟩ := h; obtain ⟨y, r1, rfl, g1⟩ := popI_el h; obtain ⟨x, r2, rfl, g2⟩ := popI_el g1; exact st_isub o1 o2 hd (hk _ _ _ _ g2)
  case imul => obtain ⟨rfl, h⟩ := h; obtain ⟨y, r1, rfl, g1⟩ := popI_el h; obtain ⟨x, r2, rfl, g2⟩ := popI_el g1; exact st_imul o1 o2 hd (hk _ _ _ _ g2)
  case iand => obtain ⟨rfl, h⟩ := h; obtain ⟨y, r1, rfl, g1⟩ := popI_el h; obtain ⟨x, r2, rfl, g2⟩ := popI_el g1; exact st_iand o1 o2 hd (hk _ _ _ _ g2)
  case ishr => obtain ⟨rfl, h⟩ := h; obtain ⟨y, r1, rfl, g1⟩ := popI_el h; obtain ⟨x, r2, rfl, g2⟩ := popI_el g1; exact st_ishr o1 o2 hd (hk _ _ _ _ g2)
  case idiv => obtain ⟨rfl, h⟩ := h; obtain ⟨y, r1, rfl, g1⟩ := popI_el h; obtain ⟨x, r2, rfl, hy, g2⟩ := popI_el g1; exact st_idiv o1 o2 hd hy (hk _ _ _ _ g2)
  case irem => obtain ⟨rfl, h⟩ := h; obtain ⟨y, r1, rfl, g1⟩ := popI_el h; obtain ⟨x, r2, rfl, hy, g2⟩ := popI_el g1; exact st_irem o1 o2 hd hy (hk _ _ _ _ g2)
  case i2l => obtain ⟨rfl, h⟩ := h; obtain ⟨x, r1, rfl, g1⟩ := popI_el h; exact st_i2l o1 o2 hd (hk _ _ _ _ g1)
  case lcmp => obtain ⟨rfl, h⟩ := h; obtain ⟨y, r1, rfl, g1⟩ := popL_el h; obtain ⟨x, r2, rfl, g2⟩ := popL_el g1; exact st_lcmp o1 o2 hd (hk _ _ _ _ g2)
  case dup => obtain ⟨rfl, h⟩ := h; obtain ⟨a, r1, rfl, ha, g1⟩ := pop1_el h; exact st_dup o1 o2 hd ha (hk _ _ _ _ g1)
  case pop => obtain ⟨rfl, h⟩ := h; obtain ⟨a, r1, rfl, ha, g1⟩ := pop1_el h; exact st_pop o1 o2 hd ha (hk _ _ _ _ g1)
  case dup_x1 => obtain ⟨rfl, h⟩ := h; obtain ⟨a, r1, rfl, ha, g1⟩ := pop1_el h; obtain ⟨b, r2, rfl, hb, g2⟩ := pop1_el g1; exact st_dup_x1 o1 o2 hd ha hb (hk _ _ _ _ g2)
  case dup2 => obtain ⟨rfl, h⟩ := h; obtain ⟨a, r1, rfl, ha, g1⟩ := pop1_el h; obtain ⟨b, r2, rfl, hb, g2⟩ := pop1_el g1; exact st_dup2 o1 o2 hd ha hb (hk _ _ _ _ g2)
  case ifCond cn off => obtain ⟨rfl, h⟩ := h; obtain ⟨x, r1, rfl, t, ht, h1, h2⟩ := popI_el h; exact st_ifCond o1 o2 hd ht (fun z => hk _ _ _ _ (h1 z)) (fun z => hk _ _ _ _ (h2 z))
  case if_icmp cn off => obtain ⟨rfl, h⟩ := h; obtain ⟨y, r1, rfl, g1⟩ := popI_el h; obtain ⟨x, r2, rfl, t, ht, h1, h2⟩ := popI_el g1; exact st_if_icmp o1 o2 hd ht (fun z => hk _ _ _ _ (h1 z)) (fun z => hk _ _ _ _ (h2 z))
  case if_acmp cn off =>
    obtain ⟨rfl, h⟩ := h; obtain ⟨y, r1, rfl, g1⟩ := popR_el h; obtain ⟨x, r2, rfl, t, ht, g2⟩ := popR_el g1
    cases cn
    · exact st_acmp_eq o1 o2 hd ht (fun z => hk _ _ _ _ (g2.1 z)) (fun z => hk _ _ _ _ (g2.2 z))
    · exact st_acmp_ne o1 o2 hd ht (fun z => hk _ _ _ _ (g2.1 z)) (fun z => hk _ _ _ _ (g2.2 z))
  case ifnull off => obtain ⟨rfl, h⟩ := h; obtain ⟨x, r1, rfl, t, ht, h1, h2⟩ := popR_el h; exact st_ifnull o1 o2 hd ht (fun z => hk _ _ _ _ (h1 z)) (fun a z => hk _ _ _ _ (h2 a z))
  case ifnonnull off => obtain ⟨rfl, h⟩ := h; obtain ⟨x, r1, rfl, t, ht, h1, h2⟩ := popR_el h; exact st_ifnonnull o1 o2 hd ht (fun a z => hk _ _ _ _ (h1 a z)) (fun z => hk _ _ _ _ (h2 z))
  case goto off => obtain ⟨rfl, t, ht, h⟩ := h; exact st_goto o1 o2 hd ht (hk _ _ _ _ h)
  case tableswitch df lo hi offs =>
    obtain ⟨x, r1, rfl, h1, h2⟩ := popI_el h
    by_cases hin : x.toInt < lo ∨ hi < x.toInt
    · obtain ⟨t, ht, h⟩ := h1 hin
      exact st_tswOut o1 o2 hd hin ht (hk _ _ _ _ h)
    · obtain ⟨off, t, ho, ht, h⟩ := h2 (fun z => hin (Or.inl z)) (fun z => hin (Or.inr z))
      exact st_tswIn o1 o2 hd (fun z => hin (Or.inl z)) (fun z => hin (Or.inr z)) ho ht (hk _ _ _ _ h)
  case getfield ix => obtain ⟨rfl, hix, h⟩ := h; obtain ⟨o, r1, rfl, cl, f, a, hf, rfl, hka, g1⟩ := popR_el h; exact st_getfield o1 o2 o3 o4 o5 hd hix hf hka (hk _ _ _ _ g1)
  case putfield ix =>
    obtain ⟨rfl, hix, h⟩ := h; obtain ⟨v, r1, rfl, -, g1⟩ := pop1_el h; obtain ⟨o, r2, rfl, cl, f, a, hf, rfl, hka, hfin, g2⟩ := popR_el g1
    rcases v with x | x | x
    · obtain ⟨h1, h2, g2⟩ := g2; exact st_putI o1 o2 o3 o4 o5 o7 o11 hd hix hf hka hfin h1 h2 (hk _ _ _ _ g2)
    · obtain ⟨h1, g2⟩ := g2; exact st_putP o1 o2 o3 o4 o5 o7 o11 hd hix hf hka hfin h1 (hk _ _ _ _ g2)
    · exact g2.elim
  case arraylength =>
    obtain ⟨rfl, h⟩ := h; obtain ⟨o, r1, rfl, a, rfl, g1⟩ := popR_el h
    rcases g1 with ⟨hka, g⟩ | ⟨rfl, g⟩ | ⟨rfl, g⟩
    · exact st_alen o1 o2 o5 hd hka (hk _ _ _ _ g)
    · exact st_elen o1 o2 o6 hd (hk _ _ _ _ g)
    · exact st_slen o1 o2 o6 o7 hd (hk _ _ _ _ g)
  case iaload =>
    obtain ⟨rfl, h⟩ := h; obtain ⟨j, r1, rfl, g1⟩ := popI_el h; obtain ⟨o, r2, rfl, a, rfl, g2⟩ := popR_el g1
    rcases g2 with ⟨hka, hi, g⟩ | ⟨rfl, hi, g⟩
    · exact st_iaload o1 o2 o5 hd hka hi (hk _ _ _ _ g)
    · exact st_sld o1 o2 o6 o7 hd hi (hk _ _ _ _ g)
  case baload => obtain ⟨rfl, h⟩ := h; obtain ⟨j, r1, rfl, g1⟩ := popI_el h; obtain ⟨o, r2, rfl, a, rfl, hka, hi, g2⟩ := popR_el g1; exact st_baload o1 o2 o5 hd hka hi (hk _ _ _ _ g2)
  case laload => obtain ⟨rfl, h⟩ := h; obtain ⟨j, r1, rfl, g1⟩ := popI_el h; obtain ⟨o, r2, rfl, a, rfl, hka, hi, g2⟩ := popR_el g1; exact st_laload o1 o2 o5 hd hka hi (hk _ _ _ _ g2)
  case aaload => obtain ⟨rfl, h⟩ := h; obtain ⟨j, r1, rfl, g1⟩ := popI_el h; obtain ⟨o, r2, rfl, a, rfl, hka, hi, g2⟩ := popR_el g1; exact st_aaload o1 o2 o5 hd hka hi (hk _ _ _ _ g2)
  case iastore => obtain ⟨rfl, h⟩ := h; obtain ⟨x, r1, rfl, g1⟩ := popI_el h; obtain ⟨j, r2, rfl, g2⟩ := popI_el g1; obtain ⟨o, r3, rfl, a, rfl, hka, hi, g3⟩ := popR_el g2; exact st_iastore o1 o2 o5 o7 hd hka hi (hk _ _ _ _ g3)
  case bastore => obtain ⟨rfl, h⟩ := h; obtain ⟨x, r1, rfl, g1⟩ := popI_el h; obtain ⟨j, r2, rfl, g2⟩ := popI_el g1; obtain ⟨o, r3, rfl, a, rfl, hka, hi, hx, g3⟩ := popR_el g2; exact st_bastore o1 o2 o5 o7 hd hka hi hx (hk _ _ _ _ g3)
  case lastore => obtain ⟨rfl, h⟩ := h; obtain ⟨x, r1, rfl, g1⟩ := popL_el h; obtain ⟨j, r2, rfl, g2⟩ := popI_el g1; obtain ⟨o, r3, rfl, a, rfl, hka, hi, g3⟩ := popR_el g2; exact st_lastore o1 o2 o5 o7 hd hka hi (hk _ _ _ _ g3)
  case aastore => obtain ⟨rfl, h⟩ := h; obtain ⟨v, r1, rfl, g1⟩ := popR_el h; obtain ⟨j, r2, rfl, g2⟩ := popI_el g1; obtain ⟨o, r3, rfl, a, rfl, hka, hi, hv, g3⟩ := popR_el g2; exact st_aastore o1 o2 o5 o6 o7 hd hka hi hv (hk _ _ _ _ g3)
  case newarray t => obtain ⟨rfl, h⟩ := h; obtain ⟨n, r1, rfl, h1, h2, h3, h4, g1⟩ := popI_el h; exact st_newarray o1 o2 o3 o5 o6 o7 hR hd h1 h2 h3 h4 (fun a ha z1 z2 => hk _ _ _ _ (g1 a ha z1 z2))
  case anewarray ix => obtain ⟨rfl, hix, h⟩ := h; obtain ⟨n, r1, rfl, q, h0, h1, h2, h4, g1⟩ := popI_el h; exact st_anewarray o1 o2 o3 o4 o5 o6 o7 hR hd hix h0 h1 h2 h4 (fun a ha z1 z2 => hk _ _ _ _ (g1 a ha z1 z2))
  case new ix =>
    obtain ⟨rfl, hix, h⟩ := h
    cases ht : tres.lookup (2000 * M + pc) with
    | none =>
      rw [ht] at h
      obtain ⟨cl, h0, h4, h⟩ := h
      exact st_new o1 o2 o3 o4 o5 o6 o7 hR hd hix h0 h4 (fun a ha z1 z2 => hk _ _ _ _ (h a ha z1 z2))
    | some w =>
      rw [ht] at h
      obtain ⟨hp, hd5, hw, hr, hQ⟩ := h
      obtain ⟨t1, t2, t3, t4, t5, t6, t7, t8, t9, t10, t11⟩ := tres_ok _ (lookup_mem ht)
      dsimp only at t1 t2 t3 t4 t5 t6 t7 t8 t9 t10 t11
      rw [show (2000 * M + pc) / 2000 = M by omega] at t2 t3 t4 t5 t6 t7 t8
      rw [show (2000 * M + pc) % 2000 = pc by omega] at t4 t5 t6 t7 t8
      obtain ⟨⟨is, text⟩, hs1, hs2⟩ := List.mem_map.mp t11
      dsimp only at hs2
      obtain ⟨sa, hsa⟩ := o6.2.2.2.2.2.1 _ hs1
      rw [hs2] at hsa
      exact st_throw hO t1 t2 t3 (tG_of t9 rfl) (tG_of t10 rfl) hsa (cdT_ok t4) (cdT_ok t5) (cdT_ok t6) (cdT_ok t7) (cdT_ok t8) hd5 hw hr hQ
  case checkcast ix =>
    obtain ⟨rfl, hix, h⟩ := h; obtain ⟨o, r1, rfl, hc, g1⟩ := popR_el h
    rcases hc with rfl | ⟨a, cl, rfl, ⟨h1, h2⟩ | ⟨h1, h2⟩⟩
    · exact st_castN o1 o2 hd (hk _ _ _ _ g1)
    · exact st_castO o1 o2 o3 o4 o5 hd hix h1 h2 (hk _ _ _ _ g1)
    · exact st_castA o1 o2 o3 o4 o5 hd hix h1 h2 (hk _ _ _ _ g1)
  case ldc ix =>
    obtain ⟨rfl, hix, ⟨h1, h⟩ | ⟨h1, h⟩⟩ := h
    · exact st_ldcM o1 o2 o3 o4 o6 hd hix h1 (hk _ _ _ _ h)
    · exact st_ldcI o1 o2 o3 o4 hd hix h1 (hk _ _ _ _ h)
  case getstatic ix => obtain ⟨rfl, hix, h1, h⟩ := h; exact st_getstatic o1 o2 o3 o4 o6 hd hix h1 (hk _ _ _ _ h)
  case invokestatic ix =>
    obtain ⟨rfl, hix, ⟨M', hq, h⟩ | ⟨hq, h2, h⟩⟩ := h
    · obtain ⟨as, r1, rfl, hn, hw, g1⟩ := popN_el h
      exact st_static hO hk hd hix hq as hn hw (hcal _ _ _ _ (cres_lt hq (by decide)) g1)
    · obtain ⟨n, r2, rfl, g2⟩ := popI_el h; obtain ⟨dp, r3, rfl, g3⟩ := popI_el g2; obtain ⟨x1, r4, rfl, g4⟩ := popR_el g3; obtain ⟨sp, r5, rfl, g5⟩ := popI_el g4
      obtain ⟨x0, r6, rfl, a0, a1, rfl, rfl, k0, k1, p0, p1, hw, n1, n2, n3, n4, n5, n6, g6⟩ := popR_el g5
      exact st_arraycopy o1 o2 o3 o4 o5 o6 o7 o8 (hRg h2) hd hix hq k0 k1 p0 p1 hw n1 n2 n3 n4 n5 n6 (hk _ _ _ _ g6)
  case invokevirtual ix =>
    obtain ⟨rfl, hix, ⟨M', hq, h⟩ | ⟨hq, h2, h⟩⟩ := h
    · obtain ⟨as, r1, rfl, hn, g1⟩ := popN_el h
      obtain ⟨o, r2, rfl, a, rfl, hka, hw, g2⟩ := popR_el g1
      exact st_virtual hO hk hd hix hq as hn hka hw (hcal _ _ _ _ (cres_lt hq (by decide)) g2)
    · obtain ⟨o, r3, rfl, a, rfl, hka, hw, g3⟩ := popR_el h
      exact st_getClass o1 o2 o3 o4 o5 o6 o8 (hRg h2) hd hix hq hka hw (hk _ _ _ _ g3)
  case invokespecial ix =>
    obtain ⟨rfl, hix, ⟨M', kd, hq, hkd, h⟩ | ⟨hq, h⟩⟩ := h
    · obtain ⟨as, r1, rfl, hn, g1⟩ := popN_el h
      obtain ⟨o, r2, rfl, a, rfl, hw, g2⟩ := popR_el g1
      exact st_init hO hk hd hix hq hkd as hn hw (hcal _ _ _ _ (cres_lt hq (by omega)) g2)
    · obtain ⟨o, r3, rfl, a, rfl, hw, g3⟩ := popR_el h
      exact st_objInit o1 o2 o3 o4 o8 hRf hd hix hq hw (hk _ _ _ _ g3)
  case ireturn => obtain ⟨rfl, h⟩ := h; obtain ⟨x, r1, rfl, rfl, hr, hQ⟩ := popI_el h; exact st_ireturn hO hd hr hQ
  case areturn => obtain ⟨rfl, h⟩ := h; obtain ⟨x, r1, rfl, rfl, hr, hQ⟩ := popR_el h; exact st_areturn hO hd hr hQ
  case return_ => obtain ⟨rfl, rfl, hr, hQ⟩ := h; exact st_return hO hd hr hQ
  all_goals exact False.elim h
theorem run_ok (hO : Ok γ p l R s m args meth c M S0 d) (hcal : ∀ M' as S' Q', M' < 136 → cal M' as S' Q' → Tri l γ d M' as S' Q') (h : run d cal M Q pc lv st S) : J γ p l e R s m args below meth c (Zend γ below args s S0 Q) M S0 pc lv st S := by
  refine h (fun pc lv st S => J γ p l e R s m args below meth c (Zend γ below args s S0 Q) M S0 pc lv st S) (fun pc lv st S hn => ?_)
  unfold nxt at hn
  split at hn
  · rename_i i len hcd
    exact stp_ok hO hcal (fun _ _ _ _ z => z) hcd hn
  · exact False.elim hn
end SD
theorem sl_1 : ∀ (as : List V_), (∀ v ∈ as, (vv v).category = 1) → lg_sl (as.map vv) = as.map (fun v => Slot.val (vv v)) ∧ ∀ i, lv_args i (as.map vv) = (as.zipIdx i).map (fun q => (q.2, vv q.1)) := by
  intro as
  induction as with
  | nil => intro _; exact ⟨rfl, fun _ => rfl⟩
  | cons v t ih =>
    intro h
    have hv := h v List.mem_cons_self
    obtain ⟨i1, i2⟩ := ih (fun w hw => h w (List.mem_cons_of_mem _ hw))
    constructor
    · show (if (vv v).category = 2 then [Slot.val (vv v), Slot.second] else [Slot.val (vv v)]) ++ lg_sl (t.map vv) = _
      rw [hv, i1]
      rfl
    · intro i
      show (i, vv v) :: lv_args (if (vv v).category = 2 then i + 2 else i + 1) (t.map vv) = _
      rw [hv, if_neg (by decide), i2 (i + 1)]
      rfl
theorem okA_cat {M : Nat} {as : List V_} (h : okA M as) : ∀ v ∈ as, (vv v).category = 1 := by
  intro v hv
  have := h.2 v hv
  rcases v with x | o | w
  · rfl
  · exact va_rf_cat o
  · exact False.elim this
theorem ent_lvh {M : Nat} {as : List V_} (h : okA M as) {ls : Array Slot} (hl : lv_has ls (mI M).2.2.1 (lv_args 0 (as.map vv))) : lvh ls (mI M).2.2.1 (ent M as) := by
  have hc := okA_cat h
  refine ⟨hl.1, hl.2.1, ?_, fun i v hi => ?_⟩
  · have := h.1
    simp [ent]
    omega
  · unfold ent at hi
    by_cases hil : i < as.length
    · rw [List.getElem?_append_left (by simpa using hil), List.getElem?_map] at hi
      have hv : as[i]? = some v := by
        cases hz : as[i]? with
        | none => rw [hz] at hi; cases hi
        | some w => rw [hz] at hi; exact congrArg some (Option.some.inj (Option.some.inj hi))
      refine ⟨hl.2.2 (i, vv v) ?_, hc v (List.mem_of_getElem? hv)⟩
      rw [(sl_1 as hc).2 0]
      refine List.mem_map.mpr ⟨(v, i), ?_, rfl⟩
      rw [List.mem_zipIdx_iff_getElem?]
      simpa using hv
    · rw [List.getElem?_append_right (by simpa using Nat.not_lt.mp hil), List.getElem?_replicate] at hi
      split at hi
      · cases hi
      · cases hi
