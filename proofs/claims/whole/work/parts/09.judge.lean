/-! SOUNDNESS, instruction by instruction. -/
theorem popI_el {st : List V_} {f : Int32 → List V_ → Prop} (h : popI st f) : ∃ x r, st = vI x :: r ∧ f x r := by
  unfold popI at h
  split at h
  · exact ⟨_, _, rfl, h⟩
  · exact h.elim
theorem popR_el {st : List V_} {f : Option Nat → List V_ → Prop} (h : popR st f) : ∃ x r, st = vR x :: r ∧ f x r := by
  unfold popR at h
  split at h
  · exact ⟨_, _, rfl, h⟩
  · exact h.elim
theorem popL_el {st : List V_} {f : Int64 → List V_ → Prop} (h : popL st f) : ∃ x r, st = vL x :: r ∧ f x r := by
  unfold popL at h
  split at h
  · exact ⟨_, _, rfl, h⟩
  · exact h.elim
theorem va_rf_cat (o : Option Nat) : (va_rf o).category = 1 := by cases o <;> rfl
theorem pop1_el {st : List V_} {f : V_ → List V_ → Prop} (h : pop1 st f) : ∃ v r, st = v :: r ∧ (vv v).category = 1 ∧ f v r := by
  unfold pop1 at h
  split at h
  · exact ⟨_, _, rfl, rfl, h⟩
  · exact ⟨_, _, rfl, va_rf_cat _, h⟩
  · exact h.elim
theorem ldI_el {lv : List (Option V_)} {j : Nat} {f : Int32 → Prop} (h : ldI lv j f) : ∃ x, lv[j]? = some (some (vI x)) ∧ f x := by
  unfold ldI at h
  split at h
  · exact ⟨_, by assumption, h⟩
  · exact h.elim
theorem ldR_el {lv : List (Option V_)} {j : Nat} {f : Option Nat → Prop} (h : ldR lv j f) : ∃ x, lv[j]? = some (some (vR x)) ∧ f x := by
  unfold ldR at h
  split at h
  · exact ⟨_, by assumption, h⟩
  · exact h.elim
/-- the machine at pc with the plain state S, S0 at the method's start -/
def J (γ : Gam) (p : Program) (l : Launch) (e : Env) (R : Room) (s : State) (m : MethodId) (args : Array Value) (below : List Frame) (meth : Method) (c : Code) (Qm : State → Prop) (M : Nat) (S0 : St) (pc : Nat) (lv : List (Option V_)) (st : List V_) (S : St) : Prop :=
  ∀ (H : Heap) (locs : List Loc) (ls : Array Slot), lvh ls (mI M).2.2.1 lv → Wp γ S H → va_S (gA γ) s.heap H locs → se S = se S0 → sm S = sm S0 → sk S0 ≤ sk S → (sn S0 ≤ sn S ∧ sk S ≤ mxC ∧ sn S ≤ mxS) →
    W p l e R s m args below meth c H locs (sk S - sk S0) (sn S - sn S0) Qm (F0 m pc ls (st.map vv))
section JR
variable {γ : Gam} {p : Program} {l : Launch} {e : Env} {R : Room} {s : State} {m : MethodId} {args : Array Value} {below : List Frame} {meth : Method} {c : Code} {Qm : State → Prop} {M : Nat} {S0 : St} {pc : Nat} {lv : List (Option V_)} {st : List V_} {S : St}
theorem st_iconst (hx : p.tables.exec = Jvm.exec) (hb : c.code = mC M) {n : Int} (hd : decode (mC M) pc = .ok (.iconst n, 1)) (k : J γ p l e R s m args below meth c Qm M S0 (pc + 1) lv (vI (Int32.ofInt n) :: st) S) : J γ p l e R s m args below meth c Qm M S0 pc lv (st) S := by
  intro H locs ls hl hP hS q1 q2 q3 q4
  exact lv_iconst hx hb hd rfl (k H locs ls hl hP hS q1 q2 q3 q4)
theorem st_bipush (hx : p.tables.exec = Jvm.exec) (hb : c.code = mC M) {n : Int} (hd : decode (mC M) pc = .ok (.bipush n, 2)) (k : J γ p l e R s m args below meth c Qm M S0 (pc + 2) lv (vI (Int8.ofInt n).toInt32 :: st) S) : J γ p l e R s m args below meth c Qm M S0 pc lv (st) S := by
  intro H locs ls hl hP hS q1 q2 q3 q4
  exact lv_bipush hx hb hd rfl (k H locs ls hl hP hS q1 q2 q3 q4)
theorem st_lconst (hx : p.tables.exec = Jvm.exec) (hb : c.code = mC M) {n : Fin 2} (hd : decode (mC M) pc = .ok (.lconst n, 1)) (k : J γ p l e R s m args below meth c Qm M S0 (pc + 1) lv (vL (Int64.ofNat n.val) :: st) S) : J γ p l e R s m args below meth c Qm M S0 pc lv (st) S := by
  intro H locs ls hl hP hS q1 q2 q3 q4
  exact lv_lconst hx hb hd rfl (k H locs ls hl hP hS q1 q2 q3 q4)
theorem st_aconst_null (hx : p.tables.exec = Jvm.exec) (hb : c.code = mC M) (hd : decode (mC M) pc = .ok (.aconst_null, 1)) (k : J γ p l e R s m args below meth c Qm M S0 (pc + 1) lv (vR none :: st) S) : J γ p l e R s m args below meth c Qm M S0 pc lv (st) S := by
  intro H locs ls hl hP hS q1 q2 q3 q4
  exact lv_null hx hb hd (k H locs ls hl hP hS q1 q2 q3 q4)
theorem st_iload_n (hx : p.tables.exec = Jvm.exec) (hb : c.code = mC M) {j : Fin 4} {x : Int32} (hd : decode (mC M) pc = .ok (.iload_n j, 1)) (hj : lv[j.val]? = some (some (vI x))) (k : J γ p l e R s m args below meth c Qm M S0 (pc + 1) lv (vI x :: st) S) : J γ p l e R s m args below meth c Qm M S0 pc lv (st) S := by
  intro H locs ls hl hP hS q1 q2 q3 q4
  exact lv_iload_n hx hb hd rfl (lvh_get hl hj) (k H locs ls hl hP hS q1 q2 q3 q4)
theorem st_iload (hx : p.tables.exec = Jvm.exec) (hb : c.code = mC M) {j : Nat} {x : Int32} (hd : decode (mC M) pc = .ok (.iload j, 2)) (hj : lv[j]? = some (some (vI x))) (k : J γ p l e R s m args below meth c Qm M S0 (pc + 2) lv (vI x :: st) S) : J γ p l e R s m args below meth c Qm M S0 pc lv (st) S := by
  intro H locs ls hl hP hS q1 q2 q3 q4
  exact lv_iload hx hb hd (lvh_get hl hj) (k H locs ls hl hP hS q1 q2 q3 q4)
theorem st_aload_n (hx : p.tables.exec = Jvm.exec) (hb : c.code = mC M) {j : Fin 4} {x : Option Nat} (hd : decode (mC M) pc = .ok (.aload_n j, 1)) (hj : lv[j.val]? = some (some (vR x))) (k : J γ p l e R s m args below meth c Qm M S0 (pc + 1) lv (vR x :: st) S) : J γ p l e R s m args below meth c Qm M S0 pc lv (st) S := by
  intro H locs ls hl hP hS q1 q2 q3 q4
  have h0 := lvh_get hl hj
  have k0 := k H locs ls hl hP hS q1 q2 q3 q4
  cases x with
  | none => exact lv_aload_nN hx hb hd rfl h0 k0
  | some a => exact lv_aload_n hx hb hd rfl h0 k0
theorem st_aload (hx : p.tables.exec = Jvm.exec) (hb : c.code = mC M) {j : Nat} {x : Option Nat} (hd : decode (mC M) pc = .ok (.aload j, 2)) (hj : lv[j]? = some (some (vR x))) (k : J γ p l e R s m args below meth c Qm M S0 (pc + 2) lv (vR x :: st) S) : J γ p l e R s m args below meth c Qm M S0 pc lv (st) S := by
  intro H locs ls hl hP hS q1 q2 q3 q4
  have h0 := lvh_get hl hj
  have k0 := k H locs ls hl hP hS q1 q2 q3 q4
  cases x with
  | none => exact lv_aloadN hx hb hd h0 k0
  | some a => exact lv_aload hx hb hd h0 k0
theorem st_istore_n (hx : p.tables.exec = Jvm.exec) (hb : c.code = mC M) {j : Fin 4} {x : Int32} (hd : decode (mC M) pc = .ok (.istore_n j, 1)) (hj : j.val < lv.length) (k : J γ p l e R s m args below meth c Qm M S0 (pc + 1) (lv.set j.val (some (vI x))) st S) : J γ p l e R s m args below meth c Qm M S0 pc lv (vI x :: st) S := by
  intro H locs ls hl hP hS q1 q2 q3 q4
  exact lv_istore_n hx hb hd rfl (lvh_has hl) (by rw [← hl.2.2.1]; exact hj) rfl (fun ls' h' => k H locs ls' (lvh_set hl (v := vI x) rfl h') hP hS q1 q2 q3 q4)
theorem st_istore (hx : p.tables.exec = Jvm.exec) (hb : c.code = mC M) {j : Nat} {x : Int32} (hd : decode (mC M) pc = .ok (.istore j, 2)) (hj : j < lv.length) (k : J γ p l e R s m args below meth c Qm M S0 (pc + 2) (lv.set j (some (vI x))) st S) : J γ p l e R s m args below meth c Qm M S0 pc lv (vI x :: st) S := by
  intro H locs ls hl hP hS q1 q2 q3 q4
  exact lv_istore hx hb hd (lvh_has hl) (by rw [← hl.2.2.1]; exact hj) rfl (fun ls' h' => k H locs ls' (lvh_set hl (v := vI x) rfl h') hP hS q1 q2 q3 q4)
theorem st_astore_n (hx : p.tables.exec = Jvm.exec) (hb : c.code = mC M) {j : Fin 4} {x : Option Nat} (hd : decode (mC M) pc = .ok (.astore_n j, 1)) (hj : j.val < lv.length) (k : J γ p l e R s m args below meth c Qm M S0 (pc + 1) (lv.set j.val (some (vR x))) st S) : J γ p l e R s m args below meth c Qm M S0 pc lv (vR x :: st) S := by
  intro H locs ls hl hP hS q1 q2 q3 q4
  cases x with
  | none => exact lv_astore_nN hx hb hd rfl (lvh_has hl) (by rw [← hl.2.2.1]; exact hj) rfl (fun ls' h' => k H locs ls' (lvh_set hl (v := vR none) rfl h') hP hS q1 q2 q3 q4)
  | some a => exact lv_astore_n hx hb hd rfl (lvh_has hl) (by rw [← hl.2.2.1]; exact hj) rfl (fun ls' h' => k H locs ls' (lvh_set hl (v := vR (some a)) rfl h') hP hS q1 q2 q3 q4)
theorem st_astore (hx : p.tables.exec = Jvm.exec) (hb : c.code = mC M) {j : Nat} {x : Option Nat} (hd : decode (mC M) pc = .ok (.astore j, 2)) (hj : j < lv.length) (k : J γ p l e R s m args below meth c Qm M S0 (pc + 2) (lv.set j (some (vR x))) st S) : J γ p l e R s m args below meth c Qm M S0 pc lv (vR x :: st) S := by
  intro H locs ls hl hP hS q1 q2 q3 q4
  cases x with
  | none => exact lv_astoreN hx hb hd (lvh_has hl) (by rw [← hl.2.2.1]; exact hj) rfl (fun ls' h' => k H locs ls' (lvh_set hl (v := vR none) rfl h') hP hS q1 q2 q3 q4)
  | some a => exact lv_astore hx hb hd (lvh_has hl) (by rw [← hl.2.2.1]; exact hj) rfl (fun ls' h' => k H locs ls' (lvh_set hl (v := vR (some a)) rfl h') hP hS q1 q2 q3 q4)
theorem st_iinc (hx : p.tables.exec = Jvm.exec) (hb : c.code = mC M) {j : Nat} {n : Int} {x : Int32} (hd : decode (mC M) pc = .ok (.iinc j n, 3)) (hj : lv[j]? = some (some (vI x))) (k : J γ p l e R s m args below meth c Qm M S0 (pc + 3) (lv.set j (some (vI (x + Int32.ofInt n)))) st S) : J γ p l e R s m args below meth c Qm M S0 pc lv (st) S := by
  intro H locs ls hl hP hS q1 q2 q3 q4
  obtain ⟨q, hq⟩ := List.getElem?_of_mem (lvL_mem.mpr ⟨_, hj, rfl⟩)
  exact lv_iinc hx hb hd (lvh_has hl) hq rfl (by rw [← hl.2.2.1]; exact (List.getElem?_eq_some_iff.mp hj).1) rfl (fun ls' h' => k H locs ls' (lvh_set hl (v := vI (x + Int32.ofInt n)) rfl h') hP hS q1 q2 q3 q4)
theorem st_iadd (hx : p.tables.exec = Jvm.exec) (hb : c.code = mC M) {x y : Int32} (hd : decode (mC M) pc = .ok (.iadd, 1)) (k : J γ p l e R s m args below meth c Qm M S0 (pc + 1) lv (vI (x + y) :: st) S) : J γ p l e R s m args below meth c Qm M S0 pc lv (vI y :: vI x :: st) S := by
  intro H locs ls hl hP hS q1 q2 q3 q4
  exact lv_iadd hx hb hd (k H locs ls hl hP hS q1 q2 q3 q4)
theorem st_isub (hx : p.tables.exec = Jvm.exec) (hb : c.code = mC M) {x y : Int32} (hd : decode (mC M) pc = .ok (.isub, 1)) (k : J γ p l e R s m args below meth c Qm M S0 (pc + 1) lv (vI (x - y) :: st) S) : J γ p l e R s m args below meth c Qm M S0 pc lv (vI y :: vI x :: st) S := by
  intro H locs ls hl hP hS q1 q2 q3 q4
  exact lv_isub hx hb hd (k H locs ls hl hP hS q1 q2 q3 q4)
theorem st_imul (hx : p.tables.exec = Jvm.exec) (hb : c.code = mC M) {x y : Int32} (hd : decode (mC M) pc = .ok (.imul, 1)) (k : J γ p l e R s m args below meth c Qm M S0 (pc + 1) lv (vI (x * y) :: st) S) : J γ p l e R s m args below meth c Qm M S0 pc lv (vI y :: vI x :: st) S := by
  intro H locs ls hl hP hS q1 q2 q3 q4
  exact lv_imul hx hb hd (k H locs ls hl hP hS q1 q2 q3 q4)
theorem st_iand (hx : p.tables.exec = Jvm.exec) (hb : c.code = mC M) {x y : Int32} (hd : decode (mC M) pc = .ok (.iand, 1)) (k : J γ p l e R s m args below meth c Qm M S0 (pc + 1) lv (vI (x &&& y) :: st) S) : J γ p l e R s m args below meth c Qm M S0 pc lv (vI y :: vI x :: st) S := by
  intro H locs ls hl hP hS q1 q2 q3 q4
  exact lv_iand hx hb hd (k H locs ls hl hP hS q1 q2 q3 q4)
theorem st_ishr (hx : p.tables.exec = Jvm.exec) (hb : c.code = mC M) {x y : Int32} (hd : decode (mC M) pc = .ok (.ishr, 1)) (k : J γ p l e R s m args below meth c Qm M S0 (pc + 1) lv (vI (x >>> (y &&& 31)) :: st) S) : J γ p l e R s m args below meth c Qm M S0 pc lv (vI y :: vI x :: st) S := by
  intro H locs ls hl hP hS q1 q2 q3 q4
  exact lv_ishr hx hb hd (k H locs ls hl hP hS q1 q2 q3 q4)
theorem st_idiv (hx : p.tables.exec = Jvm.exec) (hb : c.code = mC M) {x y : Int32} (hd : decode (mC M) pc = .ok (.idiv, 1)) (hy : ¬ y = 0) (k : J γ p l e R s m args below meth c Qm M S0 (pc + 1) lv (vI (x / y) :: st) S) : J γ p l e R s m args below meth c Qm M S0 pc lv (vI y :: vI x :: st) S := by
  intro H locs ls hl hP hS q1 q2 q3 q4
  exact lv_idiv hx hb hd hy (k H locs ls hl hP hS q1 q2 q3 q4)
theorem st_irem (hx : p.tables.exec = Jvm.exec) (hb : c.code = mC M) {x y : Int32} (hd : decode (mC M) pc = .ok (.irem, 1)) (hy : ¬ y = 0) (k : J γ p l e R s m args below meth c Qm M S0 (pc + 1) lv (vI (x - x / y * y) :: st) S) : J γ p l e R s m args below meth c Qm M S0 pc lv (vI y :: vI x :: st) S := by
  intro H locs ls hl hP hS q1 q2 q3 q4
  exact lv_irem hx hb hd hy (k H locs ls hl hP hS q1 q2 q3 q4)
theorem st_i2l (hx : p.tables.exec = Jvm.exec) (hb : c.code = mC M) {x : Int32} (hd : decode (mC M) pc = .ok (.i2l, 1)) (k : J γ p l e R s m args below meth c Qm M S0 (pc + 1) lv (vL x.toInt64 :: st) S) : J γ p l e R s m args below meth c Qm M S0 pc lv (vI x :: st) S := by
  intro H locs ls hl hP hS q1 q2 q3 q4
  exact lv_i2l hx hb hd rfl (k H locs ls hl hP hS q1 q2 q3 q4)
theorem st_lcmp (hx : p.tables.exec = Jvm.exec) (hb : c.code = mC M) {x y : Int64} (hd : decode (mC M) pc = .ok (.lcmp, 1)) (k : J γ p l e R s m args below meth c Qm M S0 (pc + 1) lv (vI (lg_cmp x y) :: st) S) : J γ p l e R s m args below meth c Qm M S0 pc lv (vL y :: vL x :: st) S := by
  intro H locs ls hl hP hS q1 q2 q3 q4
  exact W.lcmp hx hb hd (k H locs ls hl hP hS q1 q2 q3 q4)
theorem st_dup (hx : p.tables.exec = Jvm.exec) (hb : c.code = mC M) {a : V_} (hd : decode (mC M) pc = .ok (.dup, 1)) (ha : (vv a).category = 1) (k : J γ p l e R s m args below meth c Qm M S0 (pc + 1) lv (a :: a :: st) S) : J γ p l e R s m args below meth c Qm M S0 pc lv (a :: st) S := by
  intro H locs ls hl hP hS q1 q2 q3 q4
  exact lv_dup hx hb hd ha (k H locs ls hl hP hS q1 q2 q3 q4)
theorem st_pop (hx : p.tables.exec = Jvm.exec) (hb : c.code = mC M) {a : V_} (hd : decode (mC M) pc = .ok (.pop, 1)) (ha : (vv a).category = 1) (k : J γ p l e R s m args below meth c Qm M S0 (pc + 1) lv st S) : J γ p l e R s m args below meth c Qm M S0 pc lv (a :: st) S := by
  intro H locs ls hl hP hS q1 q2 q3 q4
  exact lv_pop hx hb hd ha (k H locs ls hl hP hS q1 q2 q3 q4)
theorem st_dup_x1 (hx : p.tables.exec = Jvm.exec) (hb : c.code = mC M) {a b : V_} (hd : decode (mC M) pc = .ok (.dup_x1, 1)) (ha : (vv a).category = 1) (hb2 : (vv b).category = 1) (k : J γ p l e R s m args below meth c Qm M S0 (pc + 1) lv (a :: b :: a :: st) S) : J γ p l e R s m args below meth c Qm M S0 pc lv (a :: b :: st) S := by
  intro H locs ls hl hP hS q1 q2 q3 q4
  exact lv_dup_x1 hx hb hd ha hb2 (k H locs ls hl hP hS q1 q2 q3 q4)
theorem st_dup2 (hx : p.tables.exec = Jvm.exec) (hb : c.code = mC M) {a b : V_} (hd : decode (mC M) pc = .ok (.dup2, 1)) (ha : (vv a).category = 1) (hb2 : (vv b).category = 1) (k : J γ p l e R s m args below meth c Qm M S0 (pc + 1) lv (a :: b :: a :: b :: st) S) : J γ p l e R s m args below meth c Qm M S0 pc lv (a :: b :: st) S := by
  intro H locs ls hl hP hS q1 q2 q3 q4
  exact lv_dup2_11 hx hb hd ha hb2 (k H locs ls hl hP hS q1 q2 q3 q4)
theorem st_ifCond (hx : p.tables.exec = Jvm.exec) (hb : c.code = mC M) {cn : ClassFile.Cond} {off : Int} {tg : Nat} {x : Int32} (hd : decode (mC M) pc = .ok (.ifCond cn off, 3)) (ht : (pc : Int) + off = (tg : Int)) (kt : Op.ifCond.holds cn x = true → J γ p l e R s m args below meth c Qm M S0 tg lv st S) (kf : Op.ifCond.holds cn x = false → J γ p l e R s m args below meth c Qm M S0 (pc + 3) lv st S) : J γ p l e R s m args below meth c Qm M S0 pc lv (vI x :: st) S := by
  intro H locs ls hl hP hS q1 q2 q3 q4
  intro T hT X
  cases hh : Op.ifCond.holds cn x with
  | true =>
    obtain ⟨t, a, b⟩ := kt hh H locs ls hl hP hS q1 q2 q3 q4 T hT X
    refine ⟨t, ?_, b⟩
    jvm_step X.here [X.here.top, hx, hb, hd, hh, ht, vv]
    exact a
  | false =>
    obtain ⟨t, a, b⟩ := kf hh H locs ls hl hP hS q1 q2 q3 q4 T hT X
    refine ⟨t, ?_, b⟩
    jvm_step X.here [X.here.top, hx, hb, hd, hh, ht, vv]
    exact a
theorem st_if_icmp (hx : p.tables.exec = Jvm.exec) (hb : c.code = mC M) {cn : ClassFile.Cond} {off : Int} {tg : Nat} {x y : Int32} (hd : decode (mC M) pc = .ok (.if_icmp cn off, 3)) (ht : (pc : Int) + off = (tg : Int)) (kt : Op.if_icmp.holds cn x y = true → J γ p l e R s m args below meth c Qm M S0 tg lv st S) (kf : Op.if_icmp.holds cn x y = false → J γ p l e R s m args below meth c Qm M S0 (pc + 3) lv st S) : J γ p l e R s m args below meth c Qm M S0 pc lv (vI y :: vI x :: st) S := by
  intro H locs ls hl hP hS q1 q2 q3 q4
  intro T hT X
  cases hh : Op.if_icmp.holds cn x y with
  | true =>
    obtain ⟨t, a, b⟩ := kt hh H locs ls hl hP hS q1 q2 q3 q4 T hT X
    refine ⟨t, ?_, b⟩
    jvm_step X.here [X.here.top, hx, hb, hd, hh, ht, vv]
    exact a
  | false =>
    obtain ⟨t, a, b⟩ := kf hh H locs ls hl hP hS q1 q2 q3 q4 T hT X
    refine ⟨t, ?_, b⟩
    jvm_step X.here [X.here.top, hx, hb, hd, hh, ht, vv]
    exact a
theorem st_acmp_eq (hx : p.tables.exec = Jvm.exec) (hb : c.code = mC M) {off : Int} {tg : Nat} {x y : Option Nat} (hd : decode (mC M) pc = .ok (.if_acmp .eq off, 3)) (ht : (pc : Int) + off = (tg : Int)) (kt : x = y → J γ p l e R s m args below meth c Qm M S0 tg lv st S) (kf : ¬ x = y → J γ p l e R s m args below meth c Qm M S0 (pc + 3) lv st S) : J γ p l e R s m args below meth c Qm M S0 pc lv (vR y :: vR x :: st) S := by
  intro H locs ls hl hP hS q1 q2 q3 q4
  exact lv_acmp_eq hx hb hd ht (fun h => kt h H locs ls hl hP hS q1 q2 q3 q4) (fun h => kf h H locs ls hl hP hS q1 q2 q3 q4)
theorem st_acmp_ne (hx : p.tables.exec = Jvm.exec) (hb : c.code = mC M) {off : Int} {tg : Nat} {x y : Option Nat} (hd : decode (mC M) pc = .ok (.if_acmp .ne off, 3)) (ht : (pc : Int) + off = (tg : Int)) (kt : ¬ x = y → J γ p l e R s m args below meth c Qm M S0 tg lv st S) (kf : x = y → J γ p l e R s m args below meth c Qm M S0 (pc + 3) lv st S) : J γ p l e R s m args below meth c Qm M S0 pc lv (vR y :: vR x :: st) S := by
  intro H locs ls hl hP hS q1 q2 q3 q4
  exact lv_acmp_ne hx hb hd ht (fun h => kt h H locs ls hl hP hS q1 q2 q3 q4) (fun h => kf h H locs ls hl hP hS q1 q2 q3 q4)
theorem st_ifnull (hx : p.tables.exec = Jvm.exec) (hb : c.code = mC M) {off : Int} {tg : Nat} {x : Option Nat} (hd : decode (mC M) pc = .ok (.ifnull off, 3)) (ht : (pc : Int) + off = (tg : Int)) (kt : x = none → J γ p l e R s m args below meth c Qm M S0 tg lv st S) (kf : ∀ a, x = some a → J γ p l e R s m args below meth c Qm M S0 (pc + 3) lv st S) : J γ p l e R s m args below meth c Qm M S0 pc lv (vR x :: st) S := by
  intro H locs ls hl hP hS q1 q2 q3 q4
  cases x with
  | none => exact lv_ifnullN hx hb hd ht (kt rfl H locs ls hl hP hS q1 q2 q3 q4)
  | some a => exact lv_ifnull hx hb hd (kf a rfl H locs ls hl hP hS q1 q2 q3 q4)
theorem st_ifnonnull (hx : p.tables.exec = Jvm.exec) (hb : c.code = mC M) {off : Int} {tg : Nat} {x : Option Nat} (hd : decode (mC M) pc = .ok (.ifnonnull off, 3)) (ht : (pc : Int) + off = (tg : Int)) (kt : ∀ a, x = some a → J γ p l e R s m args below meth c Qm M S0 tg lv st S) (kf : x = none → J γ p l e R s m args below meth c Qm M S0 (pc + 3) lv st S) : J γ p l e R s m args below meth c Qm M S0 pc lv (vR x :: st) S := by
  intro H locs ls hl hP hS q1 q2 q3 q4
  cases x with
  | none => exact lv_ifnonnullN hx hb hd (kf rfl H locs ls hl hP hS q1 q2 q3 q4)
  | some a => exact lv_ifnonnull hx hb hd ht (kt a rfl H locs ls hl hP hS q1 q2 q3 q4)
theorem st_goto (hx : p.tables.exec = Jvm.exec) (hb : c.code = mC M) {off : Int} {tg : Nat} (hd : decode (mC M) pc = .ok (.goto off, 3)) (ht : (pc : Int) + off = (tg : Int)) (k : J γ p l e R s m args below meth c Qm M S0 tg lv st S) : J γ p l e R s m args below meth c Qm M S0 pc lv (st) S := by
  intro H locs ls hl hP hS q1 q2 q3 q4
  exact lv_goto hx hb hd ht (k H locs ls hl hP hS q1 q2 q3 q4)
theorem st_tswOut (hx : p.tables.exec = Jvm.exec) (hb : c.code = mC M) {df lo hi : Int} {offs : Array Int} {len : Nat} {x : Int32} {tg : Nat} (hd : decode (mC M) pc = .ok (.tableswitch df lo hi offs, len)) (hi2 : x.toInt < lo ∨ hi < x.toInt) (ht : (pc : Int) + df = (tg : Int)) (k : J γ p l e R s m args below meth c Qm M S0 tg lv st S) : J γ p l e R s m args below meth c Qm M S0 pc lv (vI x :: st) S := by
  intro H locs ls hl hP hS q1 q2 q3 q4
  exact lv_tableOut hx hb hd hi2 ht (k H locs ls hl hP hS q1 q2 q3 q4)
theorem st_tswIn (hx : p.tables.exec = Jvm.exec) (hb : c.code = mC M) {df lo hi : Int} {offs : Array Int} {len : Nat} {x : Int32} {off : Int} {tg : Nat} (hd : decode (mC M) pc = .ok (.tableswitch df lo hi offs, len)) (h1 : ¬ x.toInt < lo) (h2 : ¬ hi < x.toInt) (ho : offs[(x.toInt - lo).toNat]? = some off) (ht : (pc : Int) + off = (tg : Int)) (k : J γ p l e R s m args below meth c Qm M S0 tg lv st S) : J γ p l e R s m args below meth c Qm M S0 pc lv (vI x :: st) S := by
  intro H locs ls hl hP hS q1 q2 q3 q4
  exact lv_tableIn hx hb hd h1 h2 ho ht (k H locs ls hl hP hS q1 q2 q3 q4)
end JR
