def inT (w : Cond) : Bool := decide (w ∈ lw_tbl) && goodWord w
theorem inT_G {w : Cond} (h : inT w = true) : w ∈ tG := by
  unfold inT at h
  rw [Bool.and_eq_true, decide_eq_true_eq] at h
  exact tG_of h.1 h.2
def nchk (q : Nat × Nat) : Bool := match cls10[q.2]? with
  | some (C, _, N) => inT (.classLink (cnm.getD (q.1 / 1000) "") (q.1 % 1000) C) && inT (.instantiable C N) && inT (.initialized C)
  | none => false
set_option maxRecDepth 100000 in
theorem nres_ok : nres.all nchk = true := by decide +kernel
theorem nres_at {o ix c : Nat} (h : nres.lookup (1000 * o + ix) = some c) (hix : ix < 1000) : ∃ (C : String) (T : u_T) (N : Nat), cls10[c]? = some (C, T, N) ∧ Cond.classLink (cnm.getD o "") ix C ∈ tG ∧ Cond.instantiable C N ∈ tG ∧ Cond.initialized C ∈ tG := by
  have h1 := List.all_eq_true.mp nres_ok _ (lookup_mem h)
  have ho : (1000 * o + ix) / 1000 = o := by omega
  have hi : (1000 * o + ix) % 1000 = ix := by omega
  unfold nchk at h1
  dsimp only at h1
  rw [ho, hi] at h1
  split at h1
  · rename_i C T N hc
    simp only [Bool.and_eq_true] at h1
    exact ⟨C, T, N, hc, inT_G h1.1.1, inT_G h1.1.2, inT_G h1.2⟩
  · cases h1
def achk (q : Nat × Nat) : Bool := decide (24 ≤ q.2 ∧ q.2 ≤ 28) && (match tyOf q.2 with
  | .object C => inT (.classLink (cnm.getD (q.1 / 1000) "") (q.1 % 1000) C) && decide (C ∈ overT)
  | _ => false)
set_option maxRecDepth 100000 in
theorem ares_ok : ares.all achk = true := by decide +kernel
theorem ares_at {o ix q : Nat} (h : ares.lookup (1000 * o + ix) = some q) (hix : ix < 1000) : ∃ C : String, tyOf q = .object C ∧ 24 ≤ q ∧ q ≤ 28 ∧ Cond.classLink (cnm.getD o "") ix C ∈ tG ∧ C ∈ overT := by
  have h1 := List.all_eq_true.mp ares_ok _ (lookup_mem h)
  have ho : (1000 * o + ix) / 1000 = o := by omega
  have hi : (1000 * o + ix) % 1000 = ix := by omega
  unfold achk at h1
  dsimp only at h1
  rw [ho, hi, Bool.and_eq_true, decide_eq_true_eq] at h1
  obtain ⟨h2, h3⟩ := h1
  split at h3
  · rename_i C hC
    simp only [Bool.and_eq_true, decide_eq_true_eq] at h3
    exact ⟨C, hC, h2.1, h2.2, inT_G h3.1, h3.2⟩
  · cases h3
set_option maxRecDepth 100000 in
theorem arr_in : ∀ t ∈ [ArrayType.int, ArrayType.boolean, ArrayType.long], inT (.arrayClass (newarray.typeOf t)) = true := by decide +kernel
theorem va_RA_name {U : State} {a b : ClassId} {ty : FieldType} (h1 : va_RA U a ty) (h2 : va_RA U b ty) : a = b := by
  cases ty with
  | object C =>
    obtain ⟨_, _, -, -, -, e1⟩ := h1
    obtain ⟨_, _, -, -, -, e2⟩ := h2
    exact Option.some.inj (e1.symm.trans e2)
  | _ => exact Option.some.inj (Eq.trans (Eq.symm h1) h2)
section JN
variable {γ : Gam} {p : Program} {l : Launch} {e : Env} {R : Room} {s : State} {m : MethodId} {args : Array Value} {below : List Frame} {meth : Method} {c : Code} {Qm : State → Prop} {M : Nat} {S0 : St} {pc : Nat} {lv : List (Option V_)} {st : List V_} {S : St}
theorem fresh {H : Heap} {q : Nat} {x : va_E} (hP : Wp γ S H) (hD : va_D (gA γ) (wl γ S H.size ++ [(q, x)])) : sK S q = 0 ∧ g0 γ ≤ q := by
  have hl : (wl γ S H.size ++ [(q, x)])[(wl γ S H.size).length]? = some (q, x) := by rw [List.getElem?_append_right (Nat.le_refl _), Nat.sub_self]; rfl
  have hg : g0 γ ≤ q := hD.2 _ _ hl
  refine ⟨?_, hg⟩
  by_cases h : sK S q = 0
  · exact h
  · obtain ⟨j, hj⟩ := Wp_get hP h hg
    have hj1 := (List.getElem?_eq_some_iff.mp hj).1
    have := hD.1 j (wl γ S H.size).length (q, ccell γ S q) (q, x) (by rw [List.getElem?_append_left hj1]; exact hj) hl rfl
    omega
theorem cc_newR {S : St} {a b q n : Nat} (h : b ≠ a) : ccell γ (newR S a q n) b = ccell γ S b := by
  have e1 : sK (newR S a q n) b = sK S b := by simp [sK, newR, h]
  have e2 : sN (newR S a q n) b = sN S b := by simp [sN, newR, h]
  have e3 : sA (newR S a q n) b = sA S b := by funext j; simp [sA, newR, h]
  have e4 : sW (newR S a q n) b = sW S b := by funext j; simp [sW, newR, h]
  have e5 : sR (newR S a q n) b = sR S b := by funext j; simp [sR, newR, h]
  simp only [ccell, e1, e2, e3, e4, e5]
  rfl
theorem cc_newO {S : St} {a b q : Nat} (h : b ≠ a) : ccell γ (newO S a q) b = ccell γ S b := by
  have e1 : sK (newO S a q) b = sK S b := by simp [sK, newO, h]
  have e2 : ∀ c, fcell (newO S a q) c b = fcell S c b := fun c => by simp [fcell, sI, sP, newO, h]
  simp only [ccell, e1, e2]
  rfl
set_option maxHeartbeats 2000000 in
theorem st_newarray (hx : p.tables.exec = Jvm.exec) (hb : c.code = mC M) (hts : ∀ w ∈ tG, w.before args s = true) (hK : va_K (gD γ) cls10 (tyL γ) s) (hZ : Zs γ S0 s s.heap) (h0 : g0 γ ≤ s.heap.size) (hR : R.cells = mxC - sk S0 ∧ R.slots = mxS - sn S0) {t : ArrayType} {n : Int32} (hd : decode (mC M) pc = .ok (.newarray t, 2)) (hn : ¬ n < 0) (hn4 : n.toNatClampNeg ≤ 4000) (hkd : kdOf t ≠ 0) (hr : room S n.toNatClampNeg)
    (k : ∀ a, sK S a = 0 → a ≠ (se S).1 → a ≠ (se S).2.1 → J γ p l e R s m args below meth c Qm M S0 (pc + 2) lv (vR (some a) :: st) (newR S a (kdOf t) n.toNatClampNeg)) : J γ p l e R s m args below meth c Qm M S0 pc lv (vI n :: st) S := by
  intro H locs ls hl hP hS q1 q2 q3 q45
  obtain ⟨q4, -, -⟩ := q45
  obtain ⟨r1, r2⟩ := hr
  have ht : (t = .int ∨ t = .boolean ∨ t = .long) := by cases t <;> simp_all [kdOf]
  have hw : (Cond.arrayClass (newarray.typeOf t)).before args s = true := hts _ (inT_G (arr_in t (by rcases ht with rfl | rfl | rfl <;> simp)))
  have hk : 21 ≤ kdOf t ∧ kdOf t ≤ 23 ∧ tyOf (kdOf t) = newarray.typeOf t := by rcases ht with rfl | rfl | rfl <;> decide
  have key : ∀ (a0 : vp_A), (∀ cA : ClassId, vp_cell cA a0 = arrV cA n.toNatClampNeg (fun _ => defaultValue (newarray.typeOf t))) → (∀ q, ccell γ (newR S q (kdOf t) n.toNatClampNeg) q = .inl (gy γ (kdOf t), a0)) → W p l e R s m args below meth c H locs (sk S - sk S0) (sn S - sn S0) Qm (F0 m pc ls ((vI n :: st).map vv)) := by
    intro a0 ha0 hcc
    refine va_newa hx hb hw rfl hK (wl_P hP H.size) (wl_D H.size) hS (fun q h => Nat.le_trans h0 h) ha0 hn rfl ?_ (by omega) (by omega) hd (fun q cA H1 hK1 hP1 hD1 hS1 => ?_)
    · rcases ht with rfl | rfl | rfl <;> simp [newarray.typeOf, componentBytes] <;> omega
    · obtain ⟨f1, f2⟩ := fresh hP hD1
      have e8 : (tyL γ ++ [(cA, newarray.typeOf t)])[8]? = some (cA, newarray.typeOf t) := rfl
      have hcA : cA = gy γ (kdOf t) := by
        refine va_RA_name (hK1.2 8 _ e8).2 ?_
        have := (hK.2 _ _ (tyAt (γ := γ) (kdOf t) hk.1 (by omega))).2
        rw [hk.2.2] at this
        exact this
      subst hcA
      have k0 := k q f1 (Zs_ne hZ q1 f2).1 (Zs_ne hZ q1 f2).2 H1 locs ls hl (Wp_made hP hS hS1 h0 hP1 f2 (by simp [sK, newR, kdOk]; omega) (fun b hb => by simp [sK, newR, hb]) (fun b hb => by simp [sN, newR, hb]) (hcc q) (fun b hb => cc_newR hb)) hS1 q1 q2 (by show sk S0 ≤ sk S + 1; omega) ⟨by show sn S0 ≤ sn S + _; omega, r1, r2⟩
      have e1 : sk (newR S q (kdOf t) n.toNatClampNeg) - sk S0 = sk S - sk S0 + 1 := by show sk S + 1 - sk S0 = _; omega
      have e2 : sn (newR S q (kdOf t) n.toNatClampNeg) - sn S0 = sn S - sn S0 + n.toNatClampNeg := by show sn S + n.toNatClampNeg - sn S0 = _; omega
      rw [e1, e2] at k0
      exact k0
  rcases ht with rfl | rfl | rfl
  · exact key (n.toNatClampNeg, .inl (fun _ => 0)) (fun cA => rfl) (fun q => by rw [cc_i (Or.inl (by simp [sK, newR, kdOf]))]; simp [sK, sN, sA, newR, kdOf])
  · exact key (n.toNatClampNeg, .inl (fun _ => 0)) (fun cA => rfl) (fun q => by rw [cc_i (Or.inr (by simp [sK, newR, kdOf]))]; simp [sK, sN, sA, newR, kdOf])
  · exact key (n.toNatClampNeg, .inr (.inl (fun _ => 0))) (fun cA => rfl) (fun q => by rw [cc_l (by simp [sK, newR, kdOf])]; simp [sN, sW, newR, kdOf])
set_option maxHeartbeats 2000000 in
theorem st_anewarray (hx : p.tables.exec = Jvm.exec) (hb : c.code = mC M) (hts : ∀ w ∈ tG, w.before args s = true) (hown : s.vm.findClass (cnm.getD (mOwn M) "") = some m.cls) (hK : va_K (gD γ) cls10 (tyL γ) s) (hZ : Zs γ S0 s s.heap) (h0 : g0 γ ≤ s.heap.size) (hR : R.cells = mxC - sk S0 ∧ R.slots = mxS - sn S0) {ix q : Nat} {n : Int32} (hd : decode (mC M) pc = .ok (.anewarray ix, 3)) (hix : ix < 1000) (hq : ares.lookup (1000 * mOwn M + ix) = some q) (hn : ¬ n < 0) (hn4 : n.toNatClampNeg ≤ 4000) (hr : room S n.toNatClampNeg)
    (k : ∀ a, sK S a = 0 → a ≠ (se S).1 → a ≠ (se S).2.1 → J γ p l e R s m args below meth c Qm M S0 (pc + 3) lv (vR (some a) :: st) (newR S a q n.toNatClampNeg)) : J γ p l e R s m args below meth c Qm M S0 pc lv (vI n :: st) S := by
  intro H locs ls hl hP hS q1 q2 q3 q45
  obtain ⟨q4, -, -⟩ := q45
  obtain ⟨r1, r2⟩ := hr
  obtain ⟨C, hC, k1, k2, hlk, hov⟩ := ares_at hq hix
  refine va_newq hx hb hown (hts _ hlk) (hZ.2.2.1 C hov) hK (wl_P hP H.size) (wl_D H.size) hS (fun q h => Nat.le_trans h0 h) hn rfl (by omega) (by omega) (by omega) hd (fun a cA H1 hK1 hP1 hD1 hS1 => ?_)
  obtain ⟨f1, f2⟩ := fresh hP hD1
  have e8 : (tyL γ ++ [(cA, FieldType.object C)])[8]? = some (cA, FieldType.object C) := rfl
  have hcA : cA = gy γ q := by
    refine va_RA_name (hK1.2 8 _ e8).2 ?_
    have := (hK.2 _ _ (tyAt (γ := γ) q (by omega) k2)).2
    rw [hC] at this
    exact this
  subst hcA
  have k0 := k a f1 (Zs_ne hZ q1 f2).1 (Zs_ne hZ q1 f2).2 H1 locs ls hl (Wp_made hP hS hS1 h0 hP1 f2 (by simp [sK, newR, kdOk]; omega) (fun b hb => by simp [sK, newR, hb]) (fun b hb => by simp [sN, newR, hb]) (by rw [cc_r (by simp [sK, newR]; omega)]; simp [sK, sN, sR, newR]) (fun b hb => cc_newR hb)) hS1 q1 q2 (by show sk S0 ≤ sk S + 1; omega) ⟨by show sn S0 ≤ sn S + _; omega, r1, r2⟩
  have e1 : sk (newR S a q n.toNatClampNeg) - sk S0 = sk S - sk S0 + 1 := by show sk S + 1 - sk S0 = _; omega
  have e2 : sn (newR S a q n.toNatClampNeg) - sn S0 = sn S - sn S0 + n.toNatClampNeg := by show sn S + n.toNatClampNeg - sn S0 = _; omega
  rw [e1, e2] at k0
  exact k0
set_option maxHeartbeats 2000000 in
theorem st_new (hx : p.tables.exec = Jvm.exec) (hb : c.code = mC M) (hts : ∀ w ∈ tG, w.before args s = true) (hown : s.vm.findClass (cnm.getD (mOwn M) "") = some m.cls) (hK : va_K (gD γ) cls10 (tyL γ) s) (hZ : Zs γ S0 s s.heap) (h0 : g0 γ ≤ s.heap.size) (hR : R.cells = mxC - sk S0 ∧ R.slots = mxS - sn S0) {ix cl : Nat} (hd : decode (mC M) pc = .ok (.new ix, 3)) (hix : ix < 1000) (hq : nres.lookup (1000 * mOwn M + ix) = some cl) (hr : room S (nFd.getD cl 0))
    (k : ∀ a, sK S a = 0 → a ≠ (se S).1 → a ≠ (se S).2.1 → J γ p l e R s m args below meth c Qm M S0 (pc + 3) lv (vR (some a) :: st) (newO S a cl)) : J γ p l e R s m args below meth c Qm M S0 pc lv st S := by
  intro H locs ls hl hP hS q1 q2 q3 q45
  obtain ⟨q4, -, -⟩ := q45
  obtain ⟨r1, r2⟩ := hr
  obtain ⟨C, T, N, hc, hlk, hins, hini⟩ := nres_at hq hix
  have hc10 : cl < 10 := (List.getElem?_eq_some_iff.mp hc).1
  obtain ⟨C', T', N', ty, hc', hN, hin, hty, hnm, hfl⟩ := cOk_all cl hc10
  cases hc.symm.trans hc'
  have hfs : ∀ a j, j < N → defaultValue (ty j) = vp_V (fcell (newO S a cl) cl a) j := by
    intro a j hj
    obtain ⟨f1, f2, f3, f4⟩ := hfl j hj
    have : (fcell (newO S a cl) cl a)[j]? = _ := fcell_at (by rw [← hN]; exact hj)
    unfold vp_V
    rw [List.getD_eq_getElem?_getD, this]
    cases hrf : isRf cl j with
    | true =>
      rw [hrf] at f2
      cases hty2 : ty j <;> rw [hty2] at f2 <;> first | (cases f2; done) | simp [sP, newO, va_rf, defaultValue]
    | false =>
      rcases f3 hrf with ⟨-, z⟩ | ⟨-, z⟩ <;> rw [z] <;> simp [sI, newO, defaultValue]
  have hcell : ∀ a, fcell (newO S a cl) cl a = fcell (newO S 0 cl) cl 0 := fun a => by simp [fcell, sI, sP, newO]
  refine va_new hx hb hts hin ty hty hown (hts _ hlk) (hts _ hins) (hts _ hini) hK (wl_P hP H.size) (wl_D H.size) hS (fun q h => Nat.le_trans h0 h) hc (hfs 0) (by omega) (by omega) hd (fun a H1 hP1 hD1 hS1 => ?_)
  obtain ⟨f1, f2⟩ := fresh hP hD1
  have hka : sK (newO S a cl) a = cl + 1 := by simp [sK, newO]
  have k0 := k a f1 (Zs_ne hZ q1 f2).1 (Zs_ne hZ q1 f2).2 H1 locs ls hl (Wp_made hP hS hS1 h0 hP1 f2 (by rw [hka]; unfold kdOk; omega) (fun b hb => by simp [sK, newO, hb]) (fun b hb => rfl) (by rw [cc_obj hka hc10, hcell]) (fun b hb => cc_newO hb)) hS1 q1 q2 (by show sk S0 ≤ sk S + 1; omega) ⟨by show sn S0 ≤ sn S + _; omega, r1, r2⟩
  have e1 : sk (newO S a cl) - sk S0 = sk S - sk S0 + 1 := by show sk S + 1 - sk S0 = _; omega
  have e2 : sn (newO S a cl) - sn S0 = sn S - sn S0 + N := by show sn S + nFd.getD cl 0 - sn S0 = _; omega
  rw [e1, e2] at k0
  exact k0
end JN
