set_option maxRecDepth 100000 in
theorem more_in : ∀ w ∈ [Cond.classLink "java/util/Arrays" 110 "[Ljava/lang/Object;", Cond.constant "jdk/internal/util/ArraysSupport" 200 2147483639, Cond.fieldLink "java/util/ArrayList" 39 "java/util/ArrayList" "DEFAULTCAPACITY_EMPTY_ELEMENTDATA" "[Ljava/lang/Object;", Cond.instanceMethod objectInit, Cond.code objectInit ⟨#[0xb1]⟩ 1 none, Cond.native arraycopyName, Cond.static arraycopyName, Cond.initialized "java/lang/System", Cond.native ⟨"java/lang/Object", "getClass", "()Ljava/lang/Class;"⟩, Cond.instanceMethod ⟨"java/lang/Object", "getClass", "()Ljava/lang/Class;"⟩, Cond.selects "[Ljava/lang/Object;" ⟨"java/lang/Object", "getClass", "()Ljava/lang/Class;"⟩ ⟨"java/lang/Object", "getClass", "()Ljava/lang/Class;"⟩], inT w = true := by decide +kernel
/-- calls that have rows of their own: Object's constructor, arraycopy, getClass -/
def schk (q : Nat × Nat × Nat) : Bool := match q.2.1 with
  | 4 => inT (.methodLink (cnm.getD (q.1 / 1000) "") (q.1 % 1000) objectInit)
  | 5 => inT (.methodLink (cnm.getD (q.1 / 1000) "") (q.1 % 1000) arraycopyName)
  | 6 => inT (.methodLink (cnm.getD (q.1 / 1000) "") (q.1 % 1000) ⟨"java/lang/Object", "getClass", "()Ljava/lang/Class;"⟩)
  | _ => true
set_option maxRecDepth 100000 in
theorem sres_ok : cres.all schk = true := by decide +kernel
theorem sres_at {o ix kd M' : Nat} (h : cres.lookup (1000 * o + ix) = some (kd, M')) (hix : ix < 1000) : schk (1000 * o + ix, kd, M') = true ∧ (1000 * o + ix) / 1000 = o ∧ (1000 * o + ix) % 1000 = ix :=
  ⟨List.all_eq_true.mp sres_ok _ (lookup_mem h), by omega, by omega⟩
theorem wds_vv (st : List V_) : ((st.map vv).map fun v => v.category).sum = wds st := by
  unfold wds
  rw [List.map_map]
  congr 1
  apply List.map_congr_left
  intro v _
  rcases v with x | o | w
  · rfl
  · exact va_rf_cat o
  · rfl
section JM
variable {γ : Gam} {p : Program} {l : Launch} {e : Env} {R : Room} {s : State} {m : MethodId} {args : Array Value} {below : List Frame} {meth : Method} {c : Code} {Qm : State → Prop} {M : Nat} {S0 : St} {pc : Nat} {lv : List (Option V_)} {st : List V_} {S : St}
theorem Wp_recv {H : Heap} (hK : va_K (gD γ) cls10 (tyL γ) s) (hP : Wp γ S H) {a cl : Nat} {C : String} {T : u_T} {N : Nat} (hc : cls10[cl]? = some (C, T, N)) (hk : sK S a = cl + 1) : ∃ cell : Cell, H[a]? = some cell ∧ cell.vm.isStatics = false ∧ s.vm.findClass C = some cell.cls := by
  have hc10 : cl < 10 := (List.getElem?_eq_some_iff.mp hc).1
  have hat := (hP a (by omega)).2.2
  rw [cc_obj hk hc10] at hat
  exact va_recv hK (vP1 hat) hc (q0 := 0) rfl
theorem Wp_any {H : Heap} (hK : va_K (gD γ) cls10 (tyL γ) s) (hZ : Zs γ S0 s s.heap) (hP : Wp γ S H) {a : Nat} (hk : sK S a = 3) : va_Any "java/lang/Object" s H a := by
  have hat := (hP a (by omega)).2.2
  rw [cc_obj hk (by omega)] at hat
  refine va_rAny hK (vP1 hat) (q0 := 0) rfl (r := (RX1, TX1, 13)) rfl (fun comp c0 h1 h2 => ?_)
  have hw : (Cond.castable "TubeDesk$Job" "java/lang/Object").before #[] s = true := hZ.2.2.2.2.2.2.2.1 ("TubeDesk$Job", "java/lang/Object") (by decide)
  obtain ⟨c3, t3, w1, w2, w3⟩ := Cond.castable_spec hw
  cases Option.some.inj (w1.symm.trans h2)
  cases Option.some.inj (w2.symm.trans h1)
  exact w3
set_option maxHeartbeats 2000000 in
theorem st_aastore (hx : p.tables.exec = Jvm.exec) (hb : c.code = mC M) (hK : va_K (gD γ) cls10 (tyL γ) s) (hZ : Zs γ S0 s s.heap) (h0 : g0 γ ≤ s.heap.size) {a : Nat} {i : Int32} {v : Option Nat} (hd : decode (mC M) pc = .ok (.aastore, 1)) (hk : 24 ≤ sK S a) (hi : inR i (sN S a)) (hv : okSt S (sK S a) v)
    (k : J γ p l e R s m args below meth c Qm M S0 (pc + 1) lv st (setR S a i.toNatClampNeg v)) : J γ p l e R s m args below meth c Qm M S0 pc lv (vR v :: vI i :: vR (some a) :: st) S := by
  intro H locs ls hl hP hS q1 q2 q3 q4
  have hn : sK S a ≠ 0 := by omega
  have hq : sK S a ≤ 28 := by have := (hP a hn).1; unfold kdOk at this; omega
  obtain ⟨q0, hq0⟩ := Wp_get hP hn (rg hP hn rfl (inR_pos hi))
  have hq2 := hq0
  rw [cc_r hk] at hq2
  have ht := tyAt (γ := γ) _ (by omega : 21 ≤ sK S a) hq
  have kk : ∀ (H1 : Heap) (locs1 : List Loc), va_P (gD γ) cls10 ((wl γ S H.size).set q0 (a, .inl (gy γ (sK S a), sN S a, .inr (.inr (.inr (.inr (va_up (sR S a) i.toNatClampNeg v))))))) H1 → va_D (gA γ) ((wl γ S H.size).set q0 (a, .inl (gy γ (sK S a), sN S a, .inr (.inr (.inr (.inr (va_up (sR S a) i.toNatClampNeg v))))))) → va_S (gA γ) s.heap H1 locs1 → W p l e R s m args below meth c H1 locs1 (sk S - sk S0) (sn S - sn S0) Qm (F0 m (pc + 1) ls (st.map vv)) := by
    intro H1 locs1 hP1 hD1 hS1
    refine k H1 locs1 ls hl (Wp_write hP hS hS1 h0 hq0 hP1 rfl rfl ?_ (fun b hb => cc_setR hb)) hS1 q1 q2 q3 q4
    rw [cc_r (S := setR S a i.toNatClampNeg v) hk]
    have : sR (setR S a i.toNatClampNeg v) a = va_up (sR S a) i.toNatClampNeg v := by funext j; simp [sR, setR, va_up]
    rw [this]
    rfl
  cases v with
  | none =>
    have hob : ∃ C, tyOf (sK S a) = .object C := by
      have : sK S a = 24 ∨ sK S a = 25 ∨ sK S a = 26 ∨ sK S a = 27 ∨ sK S a = 28 := by omega
      rcases this with h | h | h | h | h <;> rw [h] <;> exact ⟨_, rfl⟩
    obtain ⟨C, hC⟩ := hob
    rw [hC] at ht
    exact va_astqN hx hb hK (wl_P hP H.size) (wl_D H.size) hS q0 (sK S a - 21) hq2 ht hi hd kk
  | some b =>
    have go : ∀ (cl : Nat) (r : vw_C), cls10[cl]? = some r → sK S b = cl + 1 → tyOf (sK S a) = .object r.1 → W p l e R s m args below meth c H locs (sk S - sk S0) (sn S - sn S0) Qm (F0 m pc ls ((vR (some b) :: vI i :: vR (some a) :: st).map vv)) := by
      intro cl r hr hkb hty
      have hc10 : cl < 10 := (List.getElem?_eq_some_iff.mp hr).1
      have hgb : g0 γ ≤ b := by
        rcases (hP b (by omega)).2.1 with h | h
        · exact h
        · omega
      obtain ⟨qk, hqk⟩ := Wp_get hP (a := b) (by omega) hgb
      rw [cc_obj hkb hc10] at hqk
      rw [hty] at ht
      exact va_astq hx hb hK (wl_P hP H.size) (wl_D H.size) hS q0 (sK S a - 21) qk cl hq2 ht hqk hr hi hd kk
    rcases hv with ⟨h1, h2⟩ | ⟨h1, h2⟩ | ⟨h1, h2⟩ | ⟨h1, h2⟩ | ⟨h1, h2⟩
    · exact go 1 (RX0, TX0, 4) rfl h2 (by rw [h1]; rfl)
    · exact go 3 (RX2, TX2, 8) rfl h2 (by rw [h1]; rfl)
    · exact go 4 (RX3, TX3, 4) rfl h2 (by rw [h1]; rfl)
    · exact go 7 (RX6, TX6, 5) rfl h2 (by rw [h1]; rfl)
    · rw [show tyOf (sK S a) = .object "java/lang/Object" by rw [h1]; rfl] at ht
      exact va_astqM hx hb hK (wl_P hP H.size) (wl_D H.size) hS q0 (sK S a - 21) hq2 ht (Wp_any hK hZ hP h2) hi hd kk
theorem st_castO (hx : p.tables.exec = Jvm.exec) (hb : c.code = mC M) (hts : ∀ w ∈ tG, w.before args s = true) (hown : s.vm.findClass (cnm.getD (mOwn M) "") = some m.cls) (hK : va_K (gD γ) cls10 (tyL γ) s) {ix a cl : Nat} (hd : decode (mC M) pc = .ok (.checkcast ix, 3)) (hix : ix < 1000) (hq : nres.lookup (1000 * mOwn M + ix) = some cl) (hk : sK S a = cl + 1)
    (k : J γ p l e R s m args below meth c Qm M S0 (pc + 3) lv (vR (some a) :: st) S) : J γ p l e R s m args below meth c Qm M S0 pc lv (vR (some a) :: st) S := by
  intro H locs ls hl hP hS q1 q2 q3 q4
  obtain ⟨C, T, N, hc, hlk, -, -⟩ := nres_at hq hix
  exact va_castS hx hb hown (hts _ hlk) (hK.1 cl _ hc).2 (Wp_recv hK hP hc hk) hd (k H locs ls hl hP hS q1 q2 q3 q4)
theorem st_castN (hx : p.tables.exec = Jvm.exec) (hb : c.code = mC M) {ix : Nat} (hd : decode (mC M) pc = .ok (.checkcast ix, 3))
    (k : J γ p l e R s m args below meth c Qm M S0 (pc + 3) lv (vR none :: st) S) : J γ p l e R s m args below meth c Qm M S0 pc lv (vR none :: st) S := by
  intro H locs ls hl hP hS q1 q2 q3 q4
  exact lv_castN hx hb hd (k H locs ls hl hP hS q1 q2 q3 q4)
theorem name_obj {s : State} (hK : va_K (gD γ) cls10 (tyL γ) s) : s.vm.findClass "[Ljava/lang/Object;" = some (gy γ 28) := by
  obtain ⟨_, _, -, -, -, h⟩ := (hK.2 7 _ (rfl : (tyL γ)[7]? = some (gy γ 28, .object "java/lang/Object"))).2
  exact h
theorem own18 {M ix : Nat} (h : 1000 * mOwn M + ix = 18110) (hix : ix < 1000) : cnm.getD (mOwn M) "" = "java/util/Arrays" ∧ ix = 110 := by
  have h1 : mOwn M = 18 := by omega
  have h2 : ix = 110 := by omega
  rw [h1]
  exact ⟨rfl, h2⟩
theorem st_castA (hx : p.tables.exec = Jvm.exec) (hb : c.code = mC M) (hts : ∀ w ∈ tG, w.before args s = true) (hown : s.vm.findClass (cnm.getD (mOwn M) "") = some m.cls) (hK : va_K (gD γ) cls10 (tyL γ) s) {ix a : Nat} (hd : decode (mC M) pc = .ok (.checkcast ix, 3)) (hix : ix < 1000) (hq : 1000 * mOwn M + ix = 18110) (hk : sK S a = 28)
    (k : J γ p l e R s m args below meth c Qm M S0 (pc + 3) lv (vR (some a) :: st) S) : J γ p l e R s m args below meth c Qm M S0 pc lv (vR (some a) :: st) S := by
  intro H locs ls hl hP hS q1 q2 q3 q4
  obtain ⟨ho, rfl⟩ := own18 hq hix
  rw [ho] at hown
  have hat := (hP a (by omega)).2.2
  rw [cc_r (by omega), hk] at hat
  exact va_castA hx hb hown (hts _ (inT_G (more_in _ (by simp)))) (vP1 hat) 0 rfl (name_obj hK) hd (k H locs ls hl hP hS q1 q2 q3 q4)
theorem st_ldcM (hx : p.tables.exec = Jvm.exec) (hb : c.code = mC M) (hts : ∀ w ∈ tG, w.before args s = true) (hown : s.vm.findClass (cnm.getD (mOwn M) "") = some m.cls) (hZ : Zs γ S0 s s.heap) {ix : Nat} (hd : decode (mC M) pc = .ok (.ldc ix, 2)) (hix : ix < 1000) (hq : 1000 * mOwn M + ix = 18110)
    (k : J γ p l e R s m args below meth c Qm M S0 (pc + 2) lv (vR (some (sm S)) :: st) S) : J γ p l e R s m args below meth c Qm M S0 pc lv st S := by
  intro H locs ls hl hP hS q1 q2 q3 q4
  obtain ⟨ho, rfl⟩ := own18 hq hix
  rw [ho] at hown
  have k0 := k H locs ls hl hP hS q1 q2 q3 q4
  rw [q2] at k0
  exact va_ldcM hx hb hown (hts _ (inT_G (more_in _ (by simp)))) hZ.2.1 hd k0
theorem st_ldcI (hx : p.tables.exec = Jvm.exec) (hb : c.code = mC M) (hts : ∀ w ∈ tG, w.before args s = true) (hown : s.vm.findClass (cnm.getD (mOwn M) "") = some m.cls) {ix : Nat} (hd : decode (mC M) pc = .ok (.ldc ix, 2)) (hix : ix < 1000) (hq : 1000 * mOwn M + ix = 21200)
    (k : J γ p l e R s m args below meth c Qm M S0 (pc + 2) lv (vI 2147483639 :: st) S) : J γ p l e R s m args below meth c Qm M S0 pc lv st S := by
  intro H locs ls hl hP hS q1 q2 q3 q4
  have h1 : mOwn M = 21 := by omega
  have h2 : ix = 200 := by omega
  subst h2
  rw [h1] at hown
  exact lv_ldc hx hb (own := "jdk/internal/util/ArraysSupport") hown (hts _ (inT_G (more_in _ (by simp)))) hd (k H locs ls hl hP hS q1 q2 q3 q4)
theorem st_getstatic (hx : p.tables.exec = Jvm.exec) (hb : c.code = mC M) (hts : ∀ w ∈ tG, w.before args s = true) (hown : s.vm.findClass (cnm.getD (mOwn M) "") = some m.cls) (hZ : Zs γ S0 s s.heap) {ix : Nat} (hd : decode (mC M) pc = .ok (.getstatic ix, 3)) (hix : ix < 1000) (hq : 1000 * mOwn M + ix = 39)
    (k : J γ p l e R s m args below meth c Qm M S0 (pc + 3) lv (vR (some (se S).1) :: st) S) : J γ p l e R s m args below meth c Qm M S0 pc lv st S := by
  intro H locs ls hl hP hS q1 q2 q3 q4
  have h1 : mOwn M = 0 := by omega
  have h2 : ix = 39 := by omega
  subst h2
  rw [h1] at hown
  have k0 := k H locs ls hl hP hS q1 q2 q3 q4
  rw [q1] at k0
  exact va_gets hx hb hZ.1 hS (own := "java/util/ArrayList") (ref := "java/util/ArrayList") hown (hts _ (inT_G (more_in _ (by simp)))) (fun x h => h) hd k0
theorem st_objInit (hx : p.tables.exec = Jvm.exec) (hb : c.code = mC M) (hts : ∀ w ∈ tG, w.before args s = true) (hown : s.vm.findClass (cnm.getD (mOwn M) "") = some m.cls) (hml : c.maxLocals = (mI M).2.2.1) (hRf : 1 ≤ R.frames ∧ 38 ≤ R.locals) {ix a : Nat} (hd : decode (mC M) pc = .ok (.invokespecial ix, 3)) (hix : ix < 1000) (hq : cres.lookup (1000 * mOwn M + ix) = some (4, 0)) (hw : wds st ≤ 8)
    (k : J γ p l e R s m args below meth c Qm M S0 (pc + 3) lv st S) : J γ p l e R s m args below meth c Qm M S0 pc lv (vR (some a) :: st) S := by
  intro H locs ls hl hP hS q1 q2 q3 q4
  obtain ⟨h1, h2, h3⟩ := sres_at hq hix
  unfold schk at h1
  dsimp only at h1
  rw [h2, h3] at h1
  refine W.objInit hx hb hown (hts _ (inT_G h1)) (hts _ (inT_G (more_in _ (by simp)))) (hts _ (inT_G (more_in _ (by simp)))) rfl (by rw [hml]; exact hl.1) (a := a) (rest := st.map vv) rfl hd hRf.1 ?_ (k H locs ls hl hP hS q1 q2 q3 q4)
  rw [wds_vv]
  show 2 * 0 + wds st + 12 ≤ R.locals
  omega
theorem st_elen (hx : p.tables.exec = Jvm.exec) (hb : c.code = mC M) (hZ : Zs γ S0 s s.heap) (hd : decode (mC M) pc = .ok (.arraylength, 1))
    (k : J γ p l e R s m args below meth c Qm M S0 (pc + 1) lv (vI 0 :: st) S) : J γ p l e R s m args below meth c Qm M S0 pc lv (vR (some (se S).1) :: st) S := by
  intro H locs ls hl hP hS q1 q2 q3 q4
  have k0 := k H locs ls hl hP hS q1 q2 q3 q4
  have hT := hZ.2.2.2.2.2.2.2.2.2.2.1
  rw [← q1] at hT
  exact va_tlen hx hb hT hS rfl hd k0
theorem st_slen (hx : p.tables.exec = Jvm.exec) (hb : c.code = mC M) (hZ : Zs γ S0 s s.heap) (h0 : g0 γ ≤ s.heap.size) (hd : decode (mC M) pc = .ok (.arraylength, 1))
    (k : J γ p l e R s m args below meth c Qm M S0 (pc + 1) lv (vI (Int32.ofNat (se S).2.2.1) :: st) S) : J γ p l e R s m args below meth c Qm M S0 pc lv (vR (some (se S).2.1) :: st) S := by
  intro H locs ls hl hP hS q1 q2 q3 q4
  have k0 := k H locs ls hl hP hS q1 q2 q3 q4
  obtain ⟨hX, hlt⟩ := hZ.2.2.2.2.2.2.2.2.2.2.2
  rw [← q1] at hX hlt
  exact va_slen hx hb hX (Nat.lt_of_lt_of_le hlt h0) (Nat.not_le.mpr hlt) hS hd k0
theorem st_sld (hx : p.tables.exec = Jvm.exec) (hb : c.code = mC M) (hZ : Zs γ S0 s s.heap) (h0 : g0 γ ≤ s.heap.size) {i : Int32} (hd : decode (mC M) pc = .ok (.iaload, 1)) (hi : inR i (se S).2.2.1)
    (k : J γ p l e R s m args below meth c Qm M S0 (pc + 1) lv (vI ((se S).2.2.2 i.toNatClampNeg) :: st) S) : J γ p l e R s m args below meth c Qm M S0 pc lv (vI i :: vR (some (se S).2.1) :: st) S := by
  intro H locs ls hl hP hS q1 q2 q3 q4
  have k0 := k H locs ls hl hP hS q1 q2 q3 q4
  obtain ⟨hX, hlt⟩ := hZ.2.2.2.2.2.2.2.2.2.2.2
  rw [← q1] at hX hlt
  exact va_sld hx hb hX (Nat.lt_of_lt_of_le hlt h0) (Nat.not_le.mpr hlt) hS hi hd k0
end JM
