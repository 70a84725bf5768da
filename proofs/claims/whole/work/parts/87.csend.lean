/-! THE CLASS'S CALLS: send. -/
section SNr
variable {κ κ' ν ν' : Mu} {L L' : Lv} {n j : Nat} {ls : Nat → List Nat}
/-- the plan's numbers as they were -/
theorem RS_g (hk : ∀ f, (1 ≤ f ∧ f < 10) ∨ f = 40 → κ' f = κ f) (h11 : ν' 326 0 = κ' 11 0) (h12 : ν' 327 0 = κ' 12 0) (hv : ∀ f i, (40 ≤ f ∧ f ≤ 42) ∨ (120 ≤ f ∧ f ≤ 127) ∨ f = 160 ∨ f = 161 ∨ f = 280 ∨ f = 281 ∨ f = 282 ∨ f = 284 ∨ (320 ≤ f ∧ f ≤ 325) ∨ (524 ≤ f ∧ f ≤ 527) → ν' f i = ν f i) (hR : RS κ ν L) : RS κ' ν' L := by
  have w : ∀ f, (40 ≤ f ∧ f ≤ 42) ∨ (120 ≤ f ∧ f ≤ 127) ∨ f = 160 ∨ f = 161 ∨ f = 280 ∨ f = 281 ∨ f = 282 ∨ f = 284 ∨ (320 ≤ f ∧ f ≤ 325) ∨ (524 ≤ f ∧ f ≤ 527) → ν' f = ν f := fun f q => funext fun i => hv f i q
  have tE : TE κ κ' := ⟨hk 2 (by omega), hk 3 (by omega), hk 40 (by omega)⟩
  unfold RS lfB
  rw [w 527 (by omega), w 280 (by omega), w 281 (by omega), w 282 (by omega), w 284 (by omega), w 120 (by omega), w 121 (by omega), w 122 (by omega), w 123 (by omega), w 124 (by omega), w 125 (by omega), w 126 (by omega), w 127 (by omega), w 524 (by omega), w 40 (by omega), w 41 (by omega), w 42 (by omega), w 526 (by omega), w 160 (by omega), w 161 (by omega), w 525 (by omega), w 320 (by omega), w 321 (by omega), w 322 (by omega), w 323 (by omega), w 324 (by omega), w 325 (by omega)]
  rw [hk 1 (by omega), hk 2 (by omega), hk 3 (by omega), hk 4 (by omega), hk 5 (by omega), hk 6 (by omega), hk 7 (by omega), hk 8 (by omega), hk 9 (by omega), hk 40 (by omega)]
  simp only [nod_cg tE]
  unfold RS lfB at hR
  obtain ⟨r1, r2, r3, r4, r5, r6, r7, r8, r9, r10, r11, r12, r13, r14⟩ := hR
  exact ⟨r1, r2, r3, r4, r5, r6, r7, r8, r9, r10, r11, r12, h11, h12⟩
theorem Rl_sn {X Y a : Nat} {p : Int} {v : Wy} (hR : Rl κ n ν L ls) (hX : X < 12) (ha : κ 7 X = a) (a50 : a < 50) (h12 : b12 v) (h1 : κ 1 0 = 1) (hs : ¬ slT κ n X)
    (hv : ∀ f i, ¬ (80 ≤ f ∧ f ≤ 119 ∧ i = n) → ¬ (f = 162 ∧ i = X) → ν' f i = ν f i) (v162 : ν' 162 X = 1) (v80 : ν' 80 n = n) (v81 : ν' 81 n = X) (v82 : ν' 82 n = Y) (v83 : ν' 83 n = p) (v84 : ν' 84 n = κ 11 0) (v85 : ν' 85 n = 0) (v86 : ν' 86 n = X) (v87 : ν' 87 n = a) (v88 : ν' 88 n = -1) (v89 : ν' 89 n = v.2.1) (v90 : ν' 90 n = v.2.2) (v91 : ν' 91 n = -1) (v92 : ν' 92 n = -1) :
    Rl (snS κ n X Y p v) (n + 1) ν' (Ln L 2 n) (fup (fup ls 5 (ls 5 ++ [n])) (a / 10) (fup ls 5 (ls 5 ++ [n]) (a / 10) ++ [n])) := by
  obtain ⟨r1, r2, r3, r4, r5⟩ := hR
  have e : ∀ g i, ¬ i = n → ¬ g = 10 → snS κ n X Y p v g i = κ g i := by
    intro g i hi hg
    unfold snS gW
    rw [mup_ne (by omega), mup_ne (by omega), mup_ne (by omega), mup_ne (by omega), mup_ne (by omega), mup_ne (by omega), mup_ne (by omega), mup_ne (by omega), mup_ne (by omega), mup_ne (by omega), mup_ne (by omega), mup_ne (by omega), mup_ne (by omega)]
  have e' : ∀ g, g < 10 ∨ 24 < g ∨ g = 11 ∨ g = 12 → snS κ n X Y p v g = κ g := by
    intro g hg
    funext i
    unfold snS gW
    rw [mup_ne (by omega), mup_ne (by omega), mup_ne (by omega), mup_ne (by omega), mup_ne (by omega), mup_ne (by omega), mup_ne (by omega), mup_ne (by omega), mup_ne (by omega), mup_ne (by omega), mup_ne (by omega), mup_ne (by omega), mup_ne (by omega)]
  have f13 : snS κ n X Y p v 13 n = 0 := by unfold snS gW; rw [mup_f rfl, mup_f rfl, mup_f rfl, mup_f rfl, mup_f rfl, mup_f rfl, mup_f rfl, mup_f rfl, mup_f rfl, mup_f rfl, mup_f rfl, mup_f rfl, mup_eq]
  have f14 : snS κ n X Y p v 14 n = p := by unfold snS gW; rw [mup_f rfl, mup_f rfl, mup_f rfl, mup_f rfl, mup_f rfl, mup_f rfl, mup_f rfl, mup_f rfl, mup_f rfl, mup_f rfl, mup_f rfl, mup_eq]
  have f15 : snS κ n X Y p v 15 n = κ 11 0 := by unfold snS gW; rw [mup_f rfl, mup_f rfl, mup_f rfl, mup_f rfl, mup_f rfl, mup_f rfl, mup_f rfl, mup_f rfl, mup_f rfl, mup_f rfl, mup_eq]
  have f16 : snS κ n X Y p v 16 n = Y := by unfold snS gW; rw [mup_f rfl, mup_f rfl, mup_f rfl, mup_f rfl, mup_f rfl, mup_f rfl, mup_f rfl, mup_f rfl, mup_f rfl, mup_eq]
  have f17 : snS κ n X Y p v 17 n = X := by unfold snS gW; rw [mup_f rfl, mup_f rfl, mup_f rfl, mup_f rfl, mup_f rfl, mup_f rfl, mup_f rfl, mup_f rfl, mup_eq]
  have f18 : snS κ n X Y p v 18 n = a := by unfold snS gW; rw [mup_f rfl, mup_f rfl, mup_f rfl, mup_f rfl, mup_f rfl, mup_f rfl, mup_f rfl, mup_eq, Int.toNat_natCast]; exact ha
  have f19 : snS κ n X Y p v 19 n = zn v := by unfold snS gW; rw [mup_f rfl, mup_f rfl, mup_f rfl, mup_eq]
  have f20 : snS κ n X Y p v 20 n = v.2.1 := by unfold snS gW; rw [mup_f rfl, mup_f rfl, mup_eq]
  have f21 : snS κ n X Y p v 21 n = v.2.2 := by unfold snS gW; rw [mup_f rfl, mup_eq]
  have f24 : snS κ n X Y p v 24 n = -1 := by unfold snS gW; rw [mup_f rfl, mup_f rfl, mup_f rfl, mup_f rfl, mup_eq]
  generalize snS κ n X Y p v = κ' at *
  have hp : PE κ κ' := ⟨⟨e' 2 (by omega), e' 3 (by omega), e' 40 (by omega)⟩, e' 4 (by omega), e' 7 (by omega), e' 8 (by omega), e' 9 (by omega)⟩
  have nu : ¬ uw κ' n := by
    unfold uw
    omega
  have nd : ¬ Dn κ' n := by
    unfold Dn
    omega
  have R1 : RS κ' ν' (Ln L 2 n) := RS_g (κ := κ) (ν := ν) (fun f hf => e' f (by omega)) (by rw [hv 326 0 (by omega) (by omega), e' 11 (by omega)]; exact r1.2.2.2.2.2.2.2.2.2.2.2.2.1) (by rw [hv 327 0 (by omega) (by omega), e' 12 (by omega)]; exact r1.2.2.2.2.2.2.2.2.2.2.2.2.2) (fun f i hf => hv f i (by omega) (by omega)) (RS_L (fun c x q => Or.inr q) r1)
  have r2 : RD κ ν (Ln L 2 n) n := RD_L (fun c x q => Or.inr q) r2
  refine ⟨R1, ⟨fun i hi => ?_, fun s hs' h7 => ?_, fun b hb h8 => ?_, fun z hz => ?_⟩, ⟨?_, fun z hz => ?_⟩, fun i j hi hj q1 q2 q3 => ?_, ?_⟩
  · by_cases hin : i = n
    · subst hin
      unfold JR
      rw [jAn_0 f13, f13, f14, f15, f16, f17, f18, f19, f20, f21, f24, v80, v81, v82, v83, v84, v85, v86, v87, v88, v89, v90, v91, v92]
      refine ⟨Or.inl ⟨rfl, rfl⟩, rfl, rfl, rfl, rfl, rfl, rfl, rfl, fun _ => rfl, fun _ => rfl, fun q => by omega, ?_, ?_, fun q => absurd q nu, fun _ => rfl, rfl⟩
      · unfold zn
        by_cases q : v.2.1 = -1
        · rw [if_pos q, if_neg (by omega)]
          exact q
        · rw [if_neg q]
          by_cases q2 : v.2.2 = -1
          · rw [if_pos q2, if_pos (by omega)]
          · rw [if_neg q2, if_pos (by omega)]
      · unfold zn
        by_cases q : v.2.1 = -1
        · rw [if_pos q, if_neg (by omega)]
          exact h12 q
        · rw [if_neg q]
          by_cases q2 : v.2.2 = -1
          · rw [if_pos q2, if_neg (by omega)]
            exact q2
          · rw [if_neg q2, if_pos (by omega)]
    · exact JR_cg (fun f _ _ => e f i hin (by omega)) (fun f _ _ => hv f i (by omega) (by omega)) (r2.1 i (by omega))
  · rw [hp.2.2.1] at h7
    have h := r2.2.1 s hs' h7
    have nS : ¬ ocS κ' s n := fun q => q.1.elim (fun y => by omega) (fun y => nu y.1)
    rw [hv 163 s (by omega) (by omega), cnt_n _ n nS, cnt_cg n (fun i hi => ocS_cg (κ := κ) (fun f _ _ => e f i (by omega) (by omega)))]
    have sl : slT κ' (n + 1) s ↔ (slT κ n s ∨ s = X) := by
      constructor
      · rintro ⟨i, a1, a2, a3⟩
        by_cases hin : i = n
        · subst hin
          exact Or.inr (by omega)
        · rw [e 13 i hin (by omega)] at a2
          rw [e 17 i hin (by omega)] at a3
          exact Or.inl ⟨i, by omega, a2, a3⟩
      · rintro (⟨i, a1, a2, a3⟩ | q)
        · exact ⟨i, by omega, by rw [e 13 i (by omega) (by omega)]; exact a2, by rw [e 17 i (by omega) (by omega)]; exact a3⟩
        · exact ⟨n, by omega, f13, by rw [f17, q]⟩
    rw [sl]
    by_cases hsx : s = X
    · subst hsx
      rw [v162]
      exact ⟨fun _ => rfl, fun q => absurd (Or.inr rfl) q, h.2.2⟩
    · rw [hv 162 s (by omega) (by omega)]
      exact ⟨fun q => h.1 (q.elim id (fun y => absurd y hsx)), fun q => h.2.1 (fun y => q (Or.inl y)), h.2.2⟩
  · rw [hp.2.2.2.1] at h8
    have nS : ¬ ocY κ' b n := fun q => q.elim (fun y => by omega) (fun y => nu y.1)
    rw [hv 43 b (by omega) (by omega), cnt_n _ n nS, cnt_cg n (fun i hi => ocY_cg (κ := κ) (fun f _ _ => e f i (by omega) (by omega)))]
    exact r2.2.2.1 b hb h8
  · have hc : ∀ i, caP κ' (n + 1) z i ↔ caP κ n z i := by
      intro i
      unfold caP
      by_cases hin : i = n
      · subst hin
        exact ⟨fun q => absurd q.2.1 nu, fun q => absurd q.1 (Nat.lt_irrefl _)⟩
      · rw [uw_cg (e 13 i hin (by omega)), e 18 i hin (by omega)]
        exact ⟨fun q => ⟨by omega, q.2⟩, fun q => ⟨by omega, q.2⟩⟩
    rw [hv 283 z (by omega) (by omega)]
    have hd := r2.2.2.2 z hz
    refine ⟨fun q => hd.1 (fun i hi => q i ((hc i).mpr hi)), fun i hi => ?_⟩
    have h9 := hd.2 i ((hc i).mp hi)
    have hin : ¬ i = n := by have := ((hc i).mp hi).1; omega
    exact ⟨h9.1, h9.2.1, TR_cg hp (fun f _ _ => e f i hin (by omega)) (fun f _ _ => hv f z (by omega) (by omega)) h9.2.2⟩
  · rw [fup_ne (by omega), fup_eq, r3.1, List.range_succ]
  · have hq := r3.2 z hz
    by_cases hza : z = a / 10
    · subst hza
      rw [fup_eq, fup_ne (by omega)]
      refine ⟨?_, fun i => ?_⟩
      · rw [List.nodup_append]
        refine ⟨hq.1, List.nodup_cons.mpr ⟨List.not_mem_nil, List.nodup_nil⟩, fun x hx y hy q => ?_⟩
        rw [List.mem_singleton.mp hy] at q
        rw [q] at hx
        exact absurd ((hq.2 n).mp hx).1 (Nat.lt_irrefl _)
      · rw [List.mem_append, hq.2 i, List.mem_singleton]
        by_cases hin : i = n
        · subst hin
          rw [f13, f18]
          exact ⟨fun _ => ⟨by omega, Or.inl rfl, by omega⟩, fun _ => Or.inr rfl⟩
        · rw [e 13 i hin (by omega), e 18 i hin (by omega)]
          exact ⟨fun q => q.elim (fun y => ⟨by omega, y.2⟩) (fun y => absurd y hin), fun q => Or.inl ⟨by omega, q.2⟩⟩
    · rw [fup_ne hza, fup_ne (by omega)]
      refine ⟨hq.1, fun i => ?_⟩
      rw [hq.2 i]
      by_cases hin : i = n
      · subst hin
        rw [f13, f18]
        exact ⟨fun q => absurd q.1 (Nat.lt_irrefl _), fun q => absurd q.2.2 (by omega)⟩
      · rw [e 13 i hin (by omega), e 18 i hin (by omega)]
        exact ⟨fun q => ⟨by omega, q.2⟩, fun q => ⟨by omega, q.2⟩⟩
  · by_cases hin : i = n
    · by_cases hjn : j = n
      · rw [hin, hjn]
      · subst hin
        rw [e 13 j hjn (by omega)] at q2
        rw [f17, e 17 j hjn (by omega)] at q3
        exact absurd ⟨j, by omega, q2, q3.symm⟩ hs
    · rw [e 13 i hin (by omega)] at q1
      rw [e 17 i hin (by omega)] at q3
      by_cases hjn : j = n
      · subst hjn
        rw [f17] at q3
        exact absurd ⟨i, by omega, q1, q3⟩ hs
      · rw [e 13 j hjn (by omega)] at q2
        rw [e 17 j hjn (by omega)] at q3
        exact r4 i j (by omega) (by omega) q1 q2 q3
  · obtain ⟨a1, a2, a3, a4, a5, a6, a7, a8, a9, a10, a11⟩ := r5
    have ot : ∀ c x, Ln L 2 n c x → ¬ c = 2 → L c x := fun c x q hc => q.elim (fun y => absurd y.1 hc) id
    refine ⟨fun x hx => hx.elim (fun y => by omega) (fun y => by have := a1 x y; omega), fun x hx => a2 x (ot _ _ hx (by omega)), fun x hx => ?_, fun x hx => by rw [nod_cg hp.1]; exact a4 x (ot _ _ hx (by omega)), fun x hx => by rw [hp.2.2.1]; exact a5 x (ot _ _ hx (by omega)), fun x hx => by rw [hp.2.2.2.1]; exact a6 x (ot _ _ hx (by omega)), fun x hx => a7 x (ot _ _ hx (by omega)), fun x hx => a8 x (ot _ _ hx (by omega)), fun c x q1 q2 hx => a9 c x q1 q2 (ot _ _ hx (by omega)), ?_, ?_⟩
    · have := a3 x (ot _ _ hx (by omega))
      rw [e' 1 (by omega), hv 200 x (by omega) (by omega)]
      exact ⟨this.1, this.2.1, this.2.2.1, by omega⟩
    · rw [hv 241 0 (by omega) (by omega)]
      exact a10.imp id (fun q => ⟨q.1, Or.inr q.2⟩)
    · rw [hv 242 0 (by omega) (by omega)]
      exact a11.imp id (fun q => ⟨q.1, Or.inr q.2⟩)
end SNr
/-- a new job's numbers -/
def jiU (ν : Mu) (i x y a : Nat) (p m : Int) : Mu := mup (mup (mup (mup (mup (mup (mup (mup (mup ν 85 i 0) 92 i (-1)) 80 i i) 81 i x) 82 i y) 83 i p) 84 i m) 86 i x) 87 i a
section SNc
variable {d : Nat} {Q : Rs → St → Prop} {S S0 : St} {G : Ga} {L : Lv} {κ ν : Mu} {ls : Nat → List Nat} {Ar : Nat → Nat} {c s n : Nat}
theorem k_jobInit {i x y a : Nat} {p m : Int} (hC : RC G L ν S) (hF : FQ S0 S) (lj : L 2 i) (lx : L 4 x) (ly : L 4 y) (hi : i < 40) (hx : x < 12) (hy : y < 12) (ha : a < 50) (bp : bd p) (bm : bd m) (h160 : ν 160 x = x) (h161 : ν 161 x = a) (k : ∀ S', RC G L (jiU ν i x y a p m) S' → FQ S0 S' → Q (.inl none) S') : Ev (d + 1) 30 [vR (some (G 2 i)), vI (ji (i : Int)), vR (some (G 4 x)), vR (some (G 4 y)), vI (ji p), vI (ji m)] S Q := by
  refine Ev_o rfl rfl ?_
  have f161 : rf G 3 (ν 161 x) = some (G 3 a) := by rw [h161, rf_n]
  iterate 26 (first | ((with_reducible refine Run_id ?_); refine Run_st rfl rfl ?_; first | ((with_reducible refine p_aload_n ?_); refine S_aload_n rfl ?_) | ((with_reducible refine p_iload_n ?_); refine S_iload_n rfl ?_) | ((with_reducible refine p_iload ?_); refine S_iload rfl ?_) | ((with_reducible refine p_aload ?_); refine S_aload rfl ?_) | ((with_reducible refine p_iconst ?_); refine S_iconst ?_) | ((with_reducible refine p_bipush ?_); refine S_bipush (by decide) (by decide) ?_) | ((with_reducible refine p_istore_n ?_); refine S_istore_n rfl ?_) | ((with_reducible refine p_astore_n ?_); refine S_astore_n rfl ?_) | ((with_reducible refine p_istore ?_); refine S_istore rfl ?_) | ((with_reducible refine p_astore ?_); refine S_astore rfl ?_) | ((with_reducible refine p_iinc ?_); refine S_iinc rfl ?_) | ((with_reducible refine p_iadd ?_); refine S_iadd ?_) | ((with_reducible refine p_isub ?_); refine S_isub ?_) | ((with_reducible refine p_imul ?_); refine S_imul ?_) | ((with_reducible refine p_goto ?_); refine S_goto (by decide) ?_) | ((with_reducible refine p_dup ?_); (first | refine S_dupI ?_ | refine S_dupR ?_)) | ((with_reducible refine p_pop ?_); (first | refine S_popI ?_ | refine S_popR ?_)) | ((with_reducible refine p_dup_x1 ?_); (first | refine S_dup_x1 ?_ | refine S_dup_x1R ?_)) | ((with_reducible refine p_dup2 ?_); refine S_dup2 ?_) | ((with_reducible refine p_static ?_); (first | refine S_s1 rfl rfl rfl rfl ?_ | refine S_s2 rfl rfl rfl rfl ?_ | refine S_s3 rfl rfl rfl rfl ?_)) | ((with_reducible refine p_return ?_); refine S_return rfl ?_) | ((with_reducible refine p_ireturn ?_); (first | refine S_ireturn rfl ?_ | refine S_zreturn rfl (by first | omega | assumption) ?_)) | ((with_reducible refine p_getfield ?_); (first | (refine C_getI hC rfl rfl rfl rfl (by assumption) ?_; dsimp only [Nat.reduceMul, Nat.reduceAdd]) | refine C_getR hC rfl rfl rfl rfl (by assumption) (by first | assumption | rfl) ?_)) | ((with_reducible refine p_aaload ?_); (first | refine C_ab24 hC (by assumption) (by omega) (by first | assumption | rfl) ?_ | refine C_ab26 hC (by assumption) (by omega) (by first | assumption | rfl) ?_ | refine C_ab27 hC (by assumption) (by omega) (by first | assumption | rfl) ?_ | refine C_aa24 hC (by assumption) (by omega) (by omega) (by first | assumption | rfl) ?_ | refine C_aa26 hC (by assumption) (by omega) (by omega) (by first | assumption | rfl) ?_ | refine C_aa27 hC (by assumption) (by omega) (by omega) (by first | assumption | rfl) ?_ | refine C_aa25 hC (by assumption) (by omega) (by omega) (by first | assumption | rfl) ?_)) | ((with_reducible refine p_arraylength ?_); (first | refine C_al24 hC (by assumption) ?_ | refine C_al26 hC (by assumption) ?_ | refine C_al27 hC (by assumption) ?_)) | ((with_reducible refine p_putfield ?_); (first | (refine C_putN hC hF rfl rfl rfl rfl rfl (by assumption) ?_; clear hC hF; intro S hC hF; dsimp only [Nat.reduceMul, Nat.reduceAdd] at hC) | (refine C_putS (by omega) hC hF rfl rfl rfl rfl rfl rfl (by assumption) ?_; clear hC hF; intro S hC hF; dsimp only [Nat.reduceMul, Nat.reduceAdd] at hC) | (refine C_putR (by first | with_reducible exact bN hC _ _ | exact bd_mk (by omega) (by omega) | with_reducible exact wr_bd _ | with_reducible exact dv_bd _ _ | assumption) hC hF rfl rfl rfl rfl rfl rfl (by assumption) ?_; clear hC hF; intro S hC hF; dsimp only [Nat.reduceMul, Nat.reduceAdd] at hC) | (refine C_putI (by first | with_reducible exact bN hC _ _ | exact bd_mk (by omega) (by omega) | with_reducible exact wr_bd _ | with_reducible exact dv_bd _ _ | assumption) hC hF rfl rfl rfl rfl rfl rfl (by assumption) ?_; clear hC hF; intro S hC hF; dsimp only [Nat.reduceMul, Nat.reduceAdd] at hC) | (refine C_putZ (by omega) hC hF rfl rfl rfl rfl rfl (by assumption) ?_; clear hC hF; intro S hC hF; dsimp only [Nat.reduceMul, Nat.reduceAdd] at hC) | (refine C_putW hC hF rfl rfl rfl rfl rfl rfl (by assumption) ?_; clear hC hF; intro S hC hF; dsimp only [Nat.reduceMul, Nat.reduceAdd] at hC))) | ((with_reducible refine p_null ?_); refine S_null ?_) | ((with_reducible refine p_idiv ?_); (first | refine S_idiv (by first | with_reducible exact bN hC _ _ | exact bd_mk (by omega) (by omega) | with_reducible exact wr_bd _ | with_reducible exact dv_bd _ _ | assumption) (by omega) ⟨by omega, by omega⟩ (by omega) ?_ | refine S_idvG (by decide) ⟨by omega, by omega⟩ ?_)) | ((with_reducible refine p_irem ?_); refine S_irem (by first | with_reducible exact bN hC _ _ | exact bd_mk (by omega) (by omega) | with_reducible exact wr_bd _ | with_reducible exact dv_bd _ _ | assumption) (by omega) ⟨by omega, by omega⟩ (by omega) ?_) | ((with_reducible refine p_if ?_); (first | refine S_izt (by first | with_reducible exact bN hC _ _ | exact bd_mk (by omega) (by omega) | with_reducible exact wr_bd _ | with_reducible exact dv_bd _ _ | assumption) (by first | decide | omega) (by dsimp only [cnP]; first | assumption | exact not_not_intro (by assumption)) ?_ | refine S_izf (by first | with_reducible exact bN hC _ _ | exact bd_mk (by omega) (by omega) | with_reducible exact wr_bd _ | with_reducible exact dv_bd _ _ | assumption) (by first | decide | omega) (by dsimp only [cnP]; first | assumption | exact not_not_intro (by assumption)) ?_ | refine S_izt (by first | with_reducible exact bN hC _ _ | exact bd_mk (by omega) (by omega) | with_reducible exact wr_bd _ | with_reducible exact dv_bd _ _ | assumption) (by first | decide | omega) (by first | (dsimp only [cnP]; omega) | exact rfl) ?_ | refine S_izf (by first | with_reducible exact bN hC _ _ | exact bd_mk (by omega) (by omega) | with_reducible exact wr_bd _ | with_reducible exact dv_bd _ _ | assumption) (by first | decide | omega) (by first | (dsimp only [cnP]; omega) | exact rfl) ?_)) | ((with_reducible refine p_icmp ?_); (first | refine S_ict (by first | with_reducible exact bN hC _ _ | exact bd_mk (by omega) (by omega) | with_reducible exact wr_bd _ | with_reducible exact dv_bd _ _ | assumption) (by first | with_reducible exact bN hC _ _ | exact bd_mk (by omega) (by omega) | with_reducible exact wr_bd _ | with_reducible exact dv_bd _ _ | assumption) (by first | decide | omega) (by dsimp only [cnP]; first | assumption | exact not_not_intro (by assumption)) ?_ | refine S_icf (by first | with_reducible exact bN hC _ _ | exact bd_mk (by omega) (by omega) | with_reducible exact wr_bd _ | with_reducible exact dv_bd _ _ | assumption) (by first | with_reducible exact bN hC _ _ | exact bd_mk (by omega) (by omega) | with_reducible exact wr_bd _ | with_reducible exact dv_bd _ _ | assumption) (by first | decide | omega) (by dsimp only [cnP]; first | assumption | exact not_not_intro (by assumption)) ?_ | refine S_ict (by first | with_reducible exact bN hC _ _ | exact bd_mk (by omega) (by omega) | with_reducible exact wr_bd _ | with_reducible exact dv_bd _ _ | assumption) (by first | with_reducible exact bN hC _ _ | exact bd_mk (by omega) (by omega) | with_reducible exact wr_bd _ | with_reducible exact dv_bd _ _ | assumption) (by first | decide | omega) (by first | (dsimp only [cnP]; omega) | exact rfl) ?_ | refine S_icf (by first | with_reducible exact bN hC _ _ | exact bd_mk (by omega) (by omega) | with_reducible exact wr_bd _ | with_reducible exact dv_bd _ _ | assumption) (by first | with_reducible exact bN hC _ _ | exact bd_mk (by omega) (by omega) | with_reducible exact wr_bd _ | with_reducible exact dv_bd _ _ | assumption) (by first | decide | omega) (by first | (dsimp only [cnP]; omega) | exact rfl) ?_)) | ((with_reducible refine p_ifnull ?_); (first | refine S_nulln (by first | decide | omega) ?_ | refine S_nulls (by first | decide | omega) ?_)) | ((with_reducible refine p_ifnonnull ?_); (first | refine S_nonn (by first | decide | omega) ?_ | refine S_nons (by first | decide | omega) ?_)) | ((with_reducible refine p_acmpe ?_); (first | refine S_aceqf (by first | decide | omega) (by assumption) ?_ | refine S_aceqt (by first | decide | omega) (by first | assumption | rfl) ?_)) | ((with_reducible refine p_acmpn ?_); (first | refine S_acnet (by first | decide | omega) (by assumption) ?_ | refine S_acnef (by first | decide | omega) (by first | assumption | rfl) ?_)) | ((with_reducible refine p_virtual ?_); (first | refine S_v0 rfl rfl rfl rfl (RC_k hC (by assumption)) ?_ | refine S_v1 rfl rfl rfl rfl (RC_k hC (by assumption)) ?_ | refine S_v2 rfl rfl rfl rfl (RC_k hC (by assumption)) ?_ | refine S_v3 rfl rfl rfl rfl (RC_k hC (by assumption)) ?_ | refine S_v4 rfl rfl rfl rfl (RC_k hC (by assumption)) ?_ | refine S_v5 rfl rfl rfl rfl (RC_k hC (by assumption)) ?_)) | ((with_reducible refine p_special ?_); refine S_obj rfl rfl rfl ?_) | ((with_reducible refine p_cast ?_); refine S_cast rfl rfl (RC_k hC (by assumption)) ?_) | ((with_reducible refine p_areturn ?_); refine S_areturn rfl ?_)) | with_reducible refine aft_v ?_ | with_reducible refine aft_n ?_ | with_reducible refine aft0_n ?_)
  rw [show mup (mup (mup (mup (mup (mup (mup ν 85 i 0) 92 i (-1)) 80 i i) 81 i x) 82 i y) 83 i p) 84 i m 160 x = (x : Int) from h160]
  repeat (first | ((with_reducible refine Run_id ?_); refine Run_st rfl rfl ?_; first | ((with_reducible refine p_aload_n ?_); refine S_aload_n rfl ?_) | ((with_reducible refine p_iload_n ?_); refine S_iload_n rfl ?_) | ((with_reducible refine p_iload ?_); refine S_iload rfl ?_) | ((with_reducible refine p_aload ?_); refine S_aload rfl ?_) | ((with_reducible refine p_iconst ?_); refine S_iconst ?_) | ((with_reducible refine p_bipush ?_); refine S_bipush (by decide) (by decide) ?_) | ((with_reducible refine p_istore_n ?_); refine S_istore_n rfl ?_) | ((with_reducible refine p_astore_n ?_); refine S_astore_n rfl ?_) | ((with_reducible refine p_istore ?_); refine S_istore rfl ?_) | ((with_reducible refine p_astore ?_); refine S_astore rfl ?_) | ((with_reducible refine p_iinc ?_); refine S_iinc rfl ?_) | ((with_reducible refine p_iadd ?_); refine S_iadd ?_) | ((with_reducible refine p_isub ?_); refine S_isub ?_) | ((with_reducible refine p_imul ?_); refine S_imul ?_) | ((with_reducible refine p_goto ?_); refine S_goto (by decide) ?_) | ((with_reducible refine p_dup ?_); (first | refine S_dupI ?_ | refine S_dupR ?_)) | ((with_reducible refine p_pop ?_); (first | refine S_popI ?_ | refine S_popR ?_)) | ((with_reducible refine p_dup_x1 ?_); (first | refine S_dup_x1 ?_ | refine S_dup_x1R ?_)) | ((with_reducible refine p_dup2 ?_); refine S_dup2 ?_) | ((with_reducible refine p_static ?_); (first | refine S_s1 rfl rfl rfl rfl ?_ | refine S_s2 rfl rfl rfl rfl ?_ | refine S_s3 rfl rfl rfl rfl ?_)) | ((with_reducible refine p_return ?_); refine S_return rfl ?_) | ((with_reducible refine p_ireturn ?_); (first | refine S_ireturn rfl ?_ | refine S_zreturn rfl (by first | omega | assumption) ?_)) | ((with_reducible refine p_getfield ?_); (first | (refine C_getI hC rfl rfl rfl rfl (by assumption) ?_; dsimp only [Nat.reduceMul, Nat.reduceAdd]) | refine C_getR hC rfl rfl rfl rfl (by assumption) (by first | assumption | rfl) ?_)) | ((with_reducible refine p_aaload ?_); (first | refine C_ab24 hC (by assumption) (by omega) (by first | assumption | rfl) ?_ | refine C_ab26 hC (by assumption) (by omega) (by first | assumption | rfl) ?_ | refine C_ab27 hC (by assumption) (by omega) (by first | assumption | rfl) ?_ | refine C_aa24 hC (by assumption) (by omega) (by omega) (by first | assumption | rfl) ?_ | refine C_aa26 hC (by assumption) (by omega) (by omega) (by first | assumption | rfl) ?_ | refine C_aa27 hC (by assumption) (by omega) (by omega) (by first | assumption | rfl) ?_ | refine C_aa25 hC (by assumption) (by omega) (by omega) (by first | assumption | rfl) ?_)) | ((with_reducible refine p_arraylength ?_); (first | refine C_al24 hC (by assumption) ?_ | refine C_al26 hC (by assumption) ?_ | refine C_al27 hC (by assumption) ?_)) | ((with_reducible refine p_putfield ?_); (first | (refine C_putN hC hF rfl rfl rfl rfl rfl (by assumption) ?_; clear hC hF; intro S hC hF; dsimp only [Nat.reduceMul, Nat.reduceAdd] at hC) | (refine C_putS (by omega) hC hF rfl rfl rfl rfl rfl rfl (by assumption) ?_; clear hC hF; intro S hC hF; dsimp only [Nat.reduceMul, Nat.reduceAdd] at hC) | (refine C_putR (by first | with_reducible exact bN hC _ _ | exact bd_mk (by omega) (by omega) | with_reducible exact wr_bd _ | with_reducible exact dv_bd _ _ | assumption) hC hF rfl rfl rfl rfl rfl rfl (by assumption) ?_; clear hC hF; intro S hC hF; dsimp only [Nat.reduceMul, Nat.reduceAdd] at hC) | (refine C_putI (by first | with_reducible exact bN hC _ _ | exact bd_mk (by omega) (by omega) | with_reducible exact wr_bd _ | with_reducible exact dv_bd _ _ | assumption) hC hF rfl rfl rfl rfl rfl rfl (by assumption) ?_; clear hC hF; intro S hC hF; dsimp only [Nat.reduceMul, Nat.reduceAdd] at hC) | (refine C_putZ (by omega) hC hF rfl rfl rfl rfl rfl (by assumption) ?_; clear hC hF; intro S hC hF; dsimp only [Nat.reduceMul, Nat.reduceAdd] at hC) | (refine C_putW hC hF rfl rfl rfl rfl rfl rfl (by assumption) ?_; clear hC hF; intro S hC hF; dsimp only [Nat.reduceMul, Nat.reduceAdd] at hC))) | ((with_reducible refine p_null ?_); refine S_null ?_) | ((with_reducible refine p_idiv ?_); (first | refine S_idiv (by first | with_reducible exact bN hC _ _ | exact bd_mk (by omega) (by omega) | with_reducible exact wr_bd _ | with_reducible exact dv_bd _ _ | assumption) (by omega) ⟨by omega, by omega⟩ (by omega) ?_ | refine S_idvG (by decide) ⟨by omega, by omega⟩ ?_)) | ((with_reducible refine p_irem ?_); refine S_irem (by first | with_reducible exact bN hC _ _ | exact bd_mk (by omega) (by omega) | with_reducible exact wr_bd _ | with_reducible exact dv_bd _ _ | assumption) (by omega) ⟨by omega, by omega⟩ (by omega) ?_) | ((with_reducible refine p_if ?_); (first | refine S_izt (by first | with_reducible exact bN hC _ _ | exact bd_mk (by omega) (by omega) | with_reducible exact wr_bd _ | with_reducible exact dv_bd _ _ | assumption) (by first | decide | omega) (by dsimp only [cnP]; first | assumption | exact not_not_intro (by assumption)) ?_ | refine S_izf (by first | with_reducible exact bN hC _ _ | exact bd_mk (by omega) (by omega) | with_reducible exact wr_bd _ | with_reducible exact dv_bd _ _ | assumption) (by first | decide | omega) (by dsimp only [cnP]; first | assumption | exact not_not_intro (by assumption)) ?_ | refine S_izt (by first | with_reducible exact bN hC _ _ | exact bd_mk (by omega) (by omega) | with_reducible exact wr_bd _ | with_reducible exact dv_bd _ _ | assumption) (by first | decide | omega) (by first | (dsimp only [cnP]; omega) | exact rfl) ?_ | refine S_izf (by first | with_reducible exact bN hC _ _ | exact bd_mk (by omega) (by omega) | with_reducible exact wr_bd _ | with_reducible exact dv_bd _ _ | assumption) (by first | decide | omega) (by first | (dsimp only [cnP]; omega) | exact rfl) ?_)) | ((with_reducible refine p_icmp ?_); (first | refine S_ict (by first | with_reducible exact bN hC _ _ | exact bd_mk (by omega) (by omega) | with_reducible exact wr_bd _ | with_reducible exact dv_bd _ _ | assumption) (by first | with_reducible exact bN hC _ _ | exact bd_mk (by omega) (by omega) | with_reducible exact wr_bd _ | with_reducible exact dv_bd _ _ | assumption) (by first | decide | omega) (by dsimp only [cnP]; first | assumption | exact not_not_intro (by assumption)) ?_ | refine S_icf (by first | with_reducible exact bN hC _ _ | exact bd_mk (by omega) (by omega) | with_reducible exact wr_bd _ | with_reducible exact dv_bd _ _ | assumption) (by first | with_reducible exact bN hC _ _ | exact bd_mk (by omega) (by omega) | with_reducible exact wr_bd _ | with_reducible exact dv_bd _ _ | assumption) (by first | decide | omega) (by dsimp only [cnP]; first | assumption | exact not_not_intro (by assumption)) ?_ | refine S_ict (by first | with_reducible exact bN hC _ _ | exact bd_mk (by omega) (by omega) | with_reducible exact wr_bd _ | with_reducible exact dv_bd _ _ | assumption) (by first | with_reducible exact bN hC _ _ | exact bd_mk (by omega) (by omega) | with_reducible exact wr_bd _ | with_reducible exact dv_bd _ _ | assumption) (by first | decide | omega) (by first | (dsimp only [cnP]; omega) | exact rfl) ?_ | refine S_icf (by first | with_reducible exact bN hC _ _ | exact bd_mk (by omega) (by omega) | with_reducible exact wr_bd _ | with_reducible exact dv_bd _ _ | assumption) (by first | with_reducible exact bN hC _ _ | exact bd_mk (by omega) (by omega) | with_reducible exact wr_bd _ | with_reducible exact dv_bd _ _ | assumption) (by first | decide | omega) (by first | (dsimp only [cnP]; omega) | exact rfl) ?_)) | ((with_reducible refine p_ifnull ?_); (first | refine S_nulln (by first | decide | omega) ?_ | refine S_nulls (by first | decide | omega) ?_)) | ((with_reducible refine p_ifnonnull ?_); (first | refine S_nonn (by first | decide | omega) ?_ | refine S_nons (by first | decide | omega) ?_)) | ((with_reducible refine p_acmpe ?_); (first | refine S_aceqf (by first | decide | omega) (by assumption) ?_ | refine S_aceqt (by first | decide | omega) (by first | assumption | rfl) ?_)) | ((with_reducible refine p_acmpn ?_); (first | refine S_acnet (by first | decide | omega) (by assumption) ?_ | refine S_acnef (by first | decide | omega) (by first | assumption | rfl) ?_)) | ((with_reducible refine p_virtual ?_); (first | refine S_v0 rfl rfl rfl rfl (RC_k hC (by assumption)) ?_ | refine S_v1 rfl rfl rfl rfl (RC_k hC (by assumption)) ?_ | refine S_v2 rfl rfl rfl rfl (RC_k hC (by assumption)) ?_ | refine S_v3 rfl rfl rfl rfl (RC_k hC (by assumption)) ?_ | refine S_v4 rfl rfl rfl rfl (RC_k hC (by assumption)) ?_ | refine S_v5 rfl rfl rfl rfl (RC_k hC (by assumption)) ?_)) | ((with_reducible refine p_special ?_); refine S_obj rfl rfl rfl ?_) | ((with_reducible refine p_cast ?_); refine S_cast rfl rfl (RC_k hC (by assumption)) ?_) | ((with_reducible refine p_areturn ?_); refine S_areturn rfl ?_)) | with_reducible refine aft_v ?_ | with_reducible refine aft_n ?_ | with_reducible refine aft0_n ?_)
  exact k S hC hF
theorem wyU_wyU (v w : Wy) : wyU (wyU ν v) w = wyU ν w := by
  funext f i
  unfold wyU mup
  split
  · rfl
  · split
    · rfl
    · split
      · rfl
      · rfl
end SNc
