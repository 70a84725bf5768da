/-! ROWS OF THE PLAIN MEANING: one an instruction. -/
section RR
variable {d M : Nat} {Q : Rs → St → Prop} {pc : Nat} {lv : List (Option V_)} {st : List V_} {S : St}
theorem R_iconst {n : Int} (hc : cdT M pc = some (.iconst n, 1)) (k : Run d M Q (pc + 1) lv (vI (Int32.ofInt n) :: st) S) : Run d M Q pc lv st S := Run_of hc ⟨rfl, k⟩
theorem R_bipush {n : Int} (hc : cdT M pc = some (.bipush n, 2)) (k : Run d M Q (pc + 2) lv (vI (Int8.ofInt n).toInt32 :: st) S) : Run d M Q pc lv st S := Run_of hc ⟨rfl, k⟩
theorem R_lconst {n : Fin 2} (hc : cdT M pc = some (.lconst n, 1)) (k : Run d M Q (pc + 1) lv (vL (Int64.ofNat n.val) :: st) S) : Run d M Q pc lv st S := Run_of hc ⟨rfl, k⟩
theorem R_null (hc : cdT M pc = some (.aconst_null, 1)) (k : Run d M Q (pc + 1) lv (vR none :: st) S) : Run d M Q pc lv st S := Run_of hc ⟨rfl, k⟩
theorem ldI_in {j : Nat} {x : Int32} {f : Int32 → Prop} (h : lv[j]? = some (some (vI x))) (k : f x) : ldI lv j f := by unfold ldI; rw [h]; exact k
theorem ldR_in {j : Nat} {x : Option Nat} {f : Option Nat → Prop} (h : lv[j]? = some (some (vR x))) (k : f x) : ldR lv j f := by unfold ldR; rw [h]; exact k
theorem R_iload_n {j : Fin 4} {x : Int32} (hc : cdT M pc = some (.iload_n j, 1)) (h : lv[j.val]? = some (some (vI x))) (k : Run d M Q (pc + 1) lv (vI x :: st) S) : Run d M Q pc lv st S := Run_of hc ⟨rfl, ldI_in h k⟩
theorem R_iload {j : Nat} {x : Int32} (hc : cdT M pc = some (.iload j, 2)) (h : lv[j]? = some (some (vI x))) (k : Run d M Q (pc + 2) lv (vI x :: st) S) : Run d M Q pc lv st S := Run_of hc ⟨rfl, ldI_in h k⟩
theorem R_aload_n {j : Fin 4} {x : Option Nat} (hc : cdT M pc = some (.aload_n j, 1)) (h : lv[j.val]? = some (some (vR x))) (k : Run d M Q (pc + 1) lv (vR x :: st) S) : Run d M Q pc lv st S := Run_of hc ⟨rfl, ldR_in h k⟩
theorem R_aload {j : Nat} {x : Option Nat} (hc : cdT M pc = some (.aload j, 2)) (h : lv[j]? = some (some (vR x))) (k : Run d M Q (pc + 2) lv (vR x :: st) S) : Run d M Q pc lv st S := Run_of hc ⟨rfl, ldR_in h k⟩
theorem R_istore_n {j : Fin 4} {x : Int32} (hc : cdT M pc = some (.istore_n j, 1)) (h : j.val < lv.length) (k : Run d M Q (pc + 1) (lv.set j.val (some (vI x))) st S) : Run d M Q pc lv (vI x :: st) S := Run_of hc ⟨rfl, h, k⟩
theorem R_istore {j : Nat} {x : Int32} (hc : cdT M pc = some (.istore j, 2)) (h : j < lv.length) (k : Run d M Q (pc + 2) (lv.set j (some (vI x))) st S) : Run d M Q pc lv (vI x :: st) S := Run_of hc ⟨rfl, h, k⟩
theorem R_astore_n {j : Fin 4} {x : Option Nat} (hc : cdT M pc = some (.astore_n j, 1)) (h : j.val < lv.length) (k : Run d M Q (pc + 1) (lv.set j.val (some (vR x))) st S) : Run d M Q pc lv (vR x :: st) S := Run_of hc ⟨rfl, h, k⟩
theorem R_astore {j : Nat} {x : Option Nat} (hc : cdT M pc = some (.astore j, 2)) (h : j < lv.length) (k : Run d M Q (pc + 2) (lv.set j (some (vR x))) st S) : Run d M Q pc lv (vR x :: st) S := Run_of hc ⟨rfl, h, k⟩
theorem R_iinc {j : Nat} {n : Int} {x : Int32} (hc : cdT M pc = some (.iinc j n, 3)) (h : lv[j]? = some (some (vI x))) (k : Run d M Q (pc + 3) (lv.set j (some (vI (x + Int32.ofInt n)))) st S) : Run d M Q pc lv st S := Run_of hc ⟨rfl, ldI_in h k⟩
theorem R_iadd {x y : Int32} (hc : cdT M pc = some (.iadd, 1)) (k : Run d M Q (pc + 1) lv (vI (x + y) :: st) S) : Run d M Q pc lv (vI y :: vI x :: st) S := Run_of hc ⟨rfl, k⟩
theorem R_isub {x y : Int32} (hc : cdT M pc = some (.isub, 1)) (k : Run d M Q (pc + 1) lv (vI (x - y) :: st) S) : Run d M Q pc lv (vI y :: vI x :: st) S := Run_of hc ⟨rfl, k⟩
theorem R_imul {x y : Int32} (hc : cdT M pc = some (.imul, 1)) (k : Run d M Q (pc + 1) lv (vI (x * y) :: st) S) : Run d M Q pc lv (vI y :: vI x :: st) S := Run_of hc ⟨rfl, k⟩
theorem R_iand {x y : Int32} (hc : cdT M pc = some (.iand, 1)) (k : Run d M Q (pc + 1) lv (vI (x &&& y) :: st) S) : Run d M Q pc lv (vI y :: vI x :: st) S := Run_of hc ⟨rfl, k⟩
theorem R_ishr {x y : Int32} (hc : cdT M pc = some (.ishr, 1)) (k : Run d M Q (pc + 1) lv (vI (x >>> (y &&& 31)) :: st) S) : Run d M Q pc lv (vI y :: vI x :: st) S := Run_of hc ⟨rfl, k⟩
theorem R_idiv {x y : Int32} (hc : cdT M pc = some (.idiv, 1)) (h : ¬ y = 0) (k : Run d M Q (pc + 1) lv (vI (x / y) :: st) S) : Run d M Q pc lv (vI y :: vI x :: st) S := Run_of hc ⟨rfl, h, k⟩
theorem R_irem {x y : Int32} (hc : cdT M pc = some (.irem, 1)) (h : ¬ y = 0) (k : Run d M Q (pc + 1) lv (vI (x - x / y * y) :: st) S) : Run d M Q pc lv (vI y :: vI x :: st) S := Run_of hc ⟨rfl, h, k⟩
theorem R_i2l {x : Int32} (hc : cdT M pc = some (.i2l, 1)) (k : Run d M Q (pc + 1) lv (vL x.toInt64 :: st) S) : Run d M Q pc lv (vI x :: st) S := Run_of hc ⟨rfl, k⟩
theorem R_lcmp {x y : Int64} (hc : cdT M pc = some (.lcmp, 1)) (k : Run d M Q (pc + 1) lv (vI (lg_cmp x y) :: st) S) : Run d M Q pc lv (vL y :: vL x :: st) S := Run_of hc ⟨rfl, k⟩
theorem R_dupI {x : Int32} (hc : cdT M pc = some (.dup, 1)) (k : Run d M Q (pc + 1) lv (vI x :: vI x :: st) S) : Run d M Q pc lv (vI x :: st) S := Run_of hc ⟨rfl, k⟩
theorem R_dupR {x : Option Nat} (hc : cdT M pc = some (.dup, 1)) (k : Run d M Q (pc + 1) lv (vR x :: vR x :: st) S) : Run d M Q pc lv (vR x :: st) S := Run_of hc ⟨rfl, k⟩
theorem R_popI {x : Int32} (hc : cdT M pc = some (.pop, 1)) (k : Run d M Q (pc + 1) lv st S) : Run d M Q pc lv (vI x :: st) S := Run_of hc ⟨rfl, k⟩
theorem R_popR {x : Option Nat} (hc : cdT M pc = some (.pop, 1)) (k : Run d M Q (pc + 1) lv st S) : Run d M Q pc lv (vR x :: st) S := Run_of hc ⟨rfl, k⟩
theorem R_dup_x1 {a : Int32} {o : Option Nat} (hc : cdT M pc = some (.dup_x1, 1)) (k : Run d M Q (pc + 1) lv (vI a :: vR o :: vI a :: st) S) : Run d M Q pc lv (vI a :: vR o :: st) S := Run_of hc ⟨rfl, k⟩
theorem R_dup2 {a : Int32} {o : Option Nat} (hc : cdT M pc = some (.dup2, 1)) (k : Run d M Q (pc + 1) lv (vI a :: vR o :: vI a :: vR o :: st) S) : Run d M Q pc lv (vI a :: vR o :: st) S := Run_of hc ⟨rfl, k⟩
theorem R_goto {off : Int} (t : Nat) (hc : cdT M pc = some (.goto off, 3)) (ht : (pc : Int) + off = (t : Int)) (k : Run d M Q t lv st S) : Run d M Q pc lv st S := Run_of hc ⟨rfl, t, ht, k⟩
/-- a branch on a number, by a proposition -/
theorem R_if {cn : ClassFile.Cond} {off : Int} {x : Int32} (p : Prop) (t : Nat) (hc : cdT M pc = some (.ifCond cn off, 3)) (ht : (pc : Int) + off = (t : Int)) (hp : Op.ifCond.holds cn x = true ↔ p) (k1 : p → Run d M Q t lv st S) (k2 : ¬ p → Run d M Q (pc + 3) lv st S) : Run d M Q pc lv (vI x :: st) S :=
  Run_of hc ⟨rfl, t, ht, fun h => k1 (hp.mp h), fun h => k2 (fun z => by rw [hp.mpr z] at h; cases h)⟩
theorem R_icmp {cn : ClassFile.Cond} {off : Int} {x y : Int32} (p : Prop) (t : Nat) (hc : cdT M pc = some (.if_icmp cn off, 3)) (ht : (pc : Int) + off = (t : Int)) (hp : Op.if_icmp.holds cn x y = true ↔ p) (k1 : p → Run d M Q t lv st S) (k2 : ¬ p → Run d M Q (pc + 3) lv st S) : Run d M Q pc lv (vI y :: vI x :: st) S :=
  Run_of hc ⟨rfl, t, ht, fun h => k1 (hp.mp h), fun h => k2 (fun z => by rw [hp.mpr z] at h; cases h)⟩
theorem R_acmp_eq {off : Int} {x y : Option Nat} (t : Nat) (hc : cdT M pc = some (.if_acmp .eq off, 3)) (ht : (pc : Int) + off = (t : Int)) (k1 : x = y → Run d M Q t lv st S) (k2 : ¬ x = y → Run d M Q (pc + 3) lv st S) : Run d M Q pc lv (vR y :: vR x :: st) S := Run_of hc ⟨rfl, t, ht, k1, k2⟩
theorem R_acmp_ne {off : Int} {x y : Option Nat} (t : Nat) (hc : cdT M pc = some (.if_acmp .ne off, 3)) (ht : (pc : Int) + off = (t : Int)) (k1 : ¬ x = y → Run d M Q t lv st S) (k2 : x = y → Run d M Q (pc + 3) lv st S) : Run d M Q pc lv (vR y :: vR x :: st) S := Run_of hc ⟨rfl, t, ht, k1, k2⟩
theorem R_ifnull {off : Int} {x : Option Nat} (t : Nat) (hc : cdT M pc = some (.ifnull off, 3)) (ht : (pc : Int) + off = (t : Int)) (k1 : x = none → Run d M Q t lv st S) (k2 : ∀ a, x = some a → Run d M Q (pc + 3) lv st S) : Run d M Q pc lv (vR x :: st) S := Run_of hc ⟨rfl, t, ht, k1, k2⟩
theorem R_ifnonnull {off : Int} {x : Option Nat} (t : Nat) (hc : cdT M pc = some (.ifnonnull off, 3)) (ht : (pc : Int) + off = (t : Int)) (k1 : ∀ a, x = some a → Run d M Q t lv st S) (k2 : x = none → Run d M Q (pc + 3) lv st S) : Run d M Q pc lv (vR x :: st) S := Run_of hc ⟨rfl, t, ht, k1, k2⟩
theorem R_getI {ix cl f a : Nat} (hc : cdT M pc = some (.getfield ix, 3)) (hix : ix < 1000) (hf : fres.lookup (1000 * mOwn M + ix) = some (cl, f)) (hr : isRf cl f = false) (hk : sK S a = cl + 1) (k : Run d M Q (pc + 3) lv (vI (sI S (40 * cl + f) a) :: st) S) : Run d M Q pc lv (vR (some a) :: st) S := Run_of hc ⟨rfl, hix, cl, f, a, hf, rfl, hk, by rw [hr]; exact k⟩
theorem R_getR {ix cl f a : Nat} (hc : cdT M pc = some (.getfield ix, 3)) (hix : ix < 1000) (hf : fres.lookup (1000 * mOwn M + ix) = some (cl, f)) (hr : isRf cl f = true) (hk : sK S a = cl + 1) (k : Run d M Q (pc + 3) lv (vR (sP S (40 * cl + f) a) :: st) S) : Run d M Q pc lv (vR (some a) :: st) S := Run_of hc ⟨rfl, hix, cl, f, a, hf, rfl, hk, by rw [hr]; exact k⟩
theorem R_putI {ix cl f a : Nat} {x : Int32} (hc : cdT M pc = some (.putfield ix, 3)) (hix : ix < 1000) (hf : fres.lookup (1000 * mOwn M + ix) = some (cl, f)) (hr : isRf cl f = false) (hl : isLf cl f = false ∨ (mInit M = true ∧ mOwn M = cl)) (hz : isZf cl f = true → x = 0 ∨ x = 1) (hk : sK S a = cl + 1) (k : Run d M Q (pc + 3) lv st (setI S (40 * cl + f) a x)) : Run d M Q pc lv (vI x :: vR (some a) :: st) S := Run_of hc ⟨rfl, hix, cl, f, a, hf, rfl, hk, hl, hr, hz, k⟩
theorem R_putR {ix cl f a : Nat} {x : Option Nat} (hc : cdT M pc = some (.putfield ix, 3)) (hix : ix < 1000) (hf : fres.lookup (1000 * mOwn M + ix) = some (cl, f)) (hr : isRf cl f = true) (hl : isLf cl f = false ∨ (mInit M = true ∧ mOwn M = cl)) (hk : sK S a = cl + 1) (k : Run d M Q (pc + 3) lv st (setP S (40 * cl + f) a x)) : Run d M Q pc lv (vR x :: vR (some a) :: st) S := Run_of hc ⟨rfl, hix, cl, f, a, hf, rfl, hk, hl, hr, k⟩
theorem R_alen {a : Nat} (hc : cdT M pc = some (.arraylength, 1)) (hk : 21 ≤ sK S a) (k : Run d M Q (pc + 1) lv (vI (Int32.ofNat (sN S a)) :: st) S) : Run d M Q pc lv (vR (some a) :: st) S := Run_of hc ⟨rfl, a, rfl, Or.inl ⟨hk, k⟩⟩
theorem R_elen (hc : cdT M pc = some (.arraylength, 1)) (k : Run d M Q (pc + 1) lv (vI 0 :: st) S) : Run d M Q pc lv (vR (some (se S).1) :: st) S := Run_of hc ⟨rfl, _, rfl, Or.inr (Or.inl ⟨rfl, k⟩)⟩
theorem R_slen (hc : cdT M pc = some (.arraylength, 1)) (k : Run d M Q (pc + 1) lv (vI (Int32.ofNat (se S).2.2.1) :: st) S) : Run d M Q pc lv (vR (some (se S).2.1) :: st) S := Run_of hc ⟨rfl, _, rfl, Or.inr (Or.inr ⟨rfl, k⟩)⟩
theorem R_iaload {a : Nat} {i : Int32} (hc : cdT M pc = some (.iaload, 1)) (hk : sK S a = 21) (hi : inR i (sN S a)) (k : Run d M Q (pc + 1) lv (vI (sA S a i.toNatClampNeg) :: st) S) : Run d M Q pc lv (vI i :: vR (some a) :: st) S := Run_of hc ⟨rfl, a, rfl, Or.inl ⟨hk, hi, k⟩⟩
theorem R_sld {i : Int32} (hc : cdT M pc = some (.iaload, 1)) (hi : inR i (se S).2.2.1) (k : Run d M Q (pc + 1) lv (vI ((se S).2.2.2 i.toNatClampNeg) :: st) S) : Run d M Q pc lv (vI i :: vR (some (se S).2.1) :: st) S := Run_of hc ⟨rfl, _, rfl, Or.inr ⟨rfl, hi, k⟩⟩
theorem R_baload {a : Nat} {i : Int32} (hc : cdT M pc = some (.baload, 1)) (hk : sK S a = 22) (hi : inR i (sN S a)) (k : Run d M Q (pc + 1) lv (vI (sA S a i.toNatClampNeg) :: st) S) : Run d M Q pc lv (vI i :: vR (some a) :: st) S := Run_of hc ⟨rfl, a, rfl, hk, hi, k⟩
theorem R_laload {a : Nat} {i : Int32} (hc : cdT M pc = some (.laload, 1)) (hk : sK S a = 23) (hi : inR i (sN S a)) (k : Run d M Q (pc + 1) lv (vL (sW S a i.toNatClampNeg) :: st) S) : Run d M Q pc lv (vI i :: vR (some a) :: st) S := Run_of hc ⟨rfl, a, rfl, hk, hi, k⟩
theorem R_aaload {a : Nat} {i : Int32} (hc : cdT M pc = some (.aaload, 1)) (hk : 24 ≤ sK S a) (hi : inR i (sN S a)) (k : Run d M Q (pc + 1) lv (vR (sR S a i.toNatClampNeg) :: st) S) : Run d M Q pc lv (vI i :: vR (some a) :: st) S := Run_of hc ⟨rfl, a, rfl, hk, hi, k⟩
theorem R_iastore {a : Nat} {i x : Int32} (hc : cdT M pc = some (.iastore, 1)) (hk : sK S a = 21) (hi : inR i (sN S a)) (k : Run d M Q (pc + 1) lv st (setA S a i.toNatClampNeg x)) : Run d M Q pc lv (vI x :: vI i :: vR (some a) :: st) S := Run_of hc ⟨rfl, a, rfl, hk, hi, k⟩
theorem R_bastore {a : Nat} {i x : Int32} (hc : cdT M pc = some (.bastore, 1)) (hk : sK S a = 22) (hi : inR i (sN S a)) (hx : x = 0 ∨ x = 1) (k : Run d M Q (pc + 1) lv st (setA S a i.toNatClampNeg x)) : Run d M Q pc lv (vI x :: vI i :: vR (some a) :: st) S := Run_of hc ⟨rfl, a, rfl, hk, hi, hx, k⟩
theorem R_lastore {a : Nat} {i : Int32} {x : Int64} (hc : cdT M pc = some (.lastore, 1)) (hk : sK S a = 23) (hi : inR i (sN S a)) (k : Run d M Q (pc + 1) lv st (setW S a i.toNatClampNeg x)) : Run d M Q pc lv (vL x :: vI i :: vR (some a) :: st) S := Run_of hc ⟨rfl, a, rfl, hk, hi, k⟩
theorem R_aastore {a : Nat} {i : Int32} {v : Option Nat} (hc : cdT M pc = some (.aastore, 1)) (hk : 24 ≤ sK S a) (hi : inR i (sN S a)) (hv : okSt S (sK S a) v) (k : Run d M Q (pc + 1) lv st (setR S a i.toNatClampNeg v)) : Run d M Q pc lv (vR v :: vI i :: vR (some a) :: st) S := Run_of hc ⟨rfl, a, rfl, hk, hi, hv, k⟩
theorem R_newarray {t : ArrayType} {n : Int32} (hc : cdT M pc = some (.newarray t, 2)) (h1 : ¬ n < 0) (h2 : n.toNatClampNeg ≤ 4000) (h3 : kdOf t ≠ 0) (hr : room S n.toNatClampNeg) (k : ∀ a, sK S a = 0 → a ≠ (se S).1 → a ≠ (se S).2.1 → Run d M Q (pc + 2) lv (vR (some a) :: st) (newR S a (kdOf t) n.toNatClampNeg)) : Run d M Q pc lv (vI n :: st) S := Run_of hc ⟨rfl, h1, h2, h3, hr, k⟩
theorem R_anewarray {ix q : Nat} {n : Int32} (hc : cdT M pc = some (.anewarray ix, 3)) (hix : ix < 1000) (hq : ares.lookup (1000 * mOwn M + ix) = some q) (h1 : ¬ n < 0) (h2 : n.toNatClampNeg ≤ 4000) (hr : room S n.toNatClampNeg) (k : ∀ a, sK S a = 0 → a ≠ (se S).1 → a ≠ (se S).2.1 → Run d M Q (pc + 3) lv (vR (some a) :: st) (newR S a q n.toNatClampNeg)) : Run d M Q pc lv (vI n :: st) S := Run_of hc ⟨rfl, hix, q, hq, h1, h2, hr, k⟩
theorem R_new {ix cl : Nat} (hc : cdT M pc = some (.new ix, 3)) (hix : ix < 1000) (ht : tres.lookup (2000 * M + pc) = none) (hq : nres.lookup (1000 * mOwn M + ix) = some cl) (hr : room S (nFd.getD cl 0)) (k : ∀ a, sK S a = 0 → a ≠ (se S).1 → a ≠ (se S).2.1 → Run d M Q (pc + 3) lv (vR (some a) :: st) (newO S a cl)) : Run d M Q pc lv st S := Run_of hc ⟨rfl, hix, by rw [ht]; exact ⟨cl, hq, hr, k⟩⟩
theorem R_throw {ix : Nat} {w : Nat × Nat × Nat × Nat} (hc : cdT M pc = some (.new ix, 3)) (hix : ix < 1000) (ht : tres.lookup (2000 * M + pc) = some w) (hp : pc < 2000) (hd : 5 ≤ d) (hw : wds st ≤ 8) (hr : room S 6) (k : Q (.inr (exn.getD w.1 "")) (bump S 1 6)) : Run d M Q pc lv st S := Run_of hc ⟨rfl, hix, by rw [ht]; exact ⟨hp, hd, hw, hr, k⟩⟩
theorem R_castN {ix : Nat} (hc : cdT M pc = some (.checkcast ix, 3)) (hix : ix < 1000) (k : Run d M Q (pc + 3) lv (vR none :: st) S) : Run d M Q pc lv (vR none :: st) S := Run_of hc ⟨rfl, hix, Or.inl rfl, k⟩
theorem R_cast {ix cl a : Nat} (hc : cdT M pc = some (.checkcast ix, 3)) (hix : ix < 1000) (hq : nres.lookup (1000 * mOwn M + ix) = some cl) (hk : sK S a = cl + 1) (k : Run d M Q (pc + 3) lv (vR (some a) :: st) S) : Run d M Q pc lv (vR (some a) :: st) S := Run_of hc ⟨rfl, hix, Or.inr ⟨a, cl, rfl, Or.inl ⟨hq, hk⟩⟩, k⟩
theorem R_static {ix M' : Nat} (as : List V_) (hc : cdT M pc = some (.invokestatic ix, 3)) (hix : ix < 1000) (hq : cres.lookup (1000 * mOwn M + ix) = some (0, M')) (hn : as.length = mPar M') (hw : wds st ≤ 8) (k : Ev d M' as S (aft M pc (Run d M Q) lv st)) : Run d M Q pc lv (as.reverse ++ st) S := Run_of hc ⟨rfl, hix, Or.inl ⟨M', hq, by
  refine ⟨by simp [hn], ?_⟩
  have e1 : (as.reverse ++ st).take (mPar M') = as.reverse := by rw [← hn, ← List.length_reverse, List.take_left']; rfl
  have e2 : (as.reverse ++ st).drop (mPar M') = st := by rw [← hn, ← List.length_reverse, List.drop_left']; rfl
  rw [e1, e2, List.reverse_reverse]
  exact ⟨hw, k⟩⟩⟩
theorem R_virtual {ix M' a : Nat} (as : List V_) (hc : cdT M pc = some (.invokevirtual ix, 3)) (hix : ix < 1000) (hq : cres.lookup (1000 * mOwn M + ix) = some (1, M')) (hn : as.length = mPar M') (hk : sK S a = mOwn M' + 1) (hw : wds st ≤ 8) (k : Ev d M' (vR (some a) :: as) S (aft M pc (Run d M Q) lv st)) : Run d M Q pc lv (as.reverse ++ vR (some a) :: st) S := Run_of hc ⟨rfl, hix, Or.inl ⟨M', hq, by
  refine ⟨by simp [hn], ?_⟩
  have e1 : (as.reverse ++ vR (some a) :: st).take (mPar M') = as.reverse := by rw [← hn, ← List.length_reverse, List.take_left']; rfl
  have e2 : (as.reverse ++ vR (some a) :: st).drop (mPar M') = vR (some a) :: st := by rw [← hn, ← List.length_reverse, List.drop_left']; rfl
  rw [e1, e2, List.reverse_reverse]
  exact ⟨a, rfl, hk, hw, k⟩⟩⟩
theorem R_init {ix M' a kd : Nat} (as : List V_) (hc : cdT M pc = some (.invokespecial ix, 3)) (hix : ix < 1000) (hq : cres.lookup (1000 * mOwn M + ix) = some (kd, M')) (hkd : kd = 2 ∨ kd = 3) (hn : as.length = mPar M') (hw : wds st ≤ 8) (k : Ev d M' (vR (some a) :: as) S (aft0 pc (Run d M Q) lv st)) : Run d M Q pc lv (as.reverse ++ vR (some a) :: st) S := Run_of hc ⟨rfl, hix, Or.inl ⟨M', kd, hq, hkd, by
  refine ⟨by simp [hn], ?_⟩
  have e1 : (as.reverse ++ vR (some a) :: st).take (mPar M') = as.reverse := by rw [← hn, ← List.length_reverse, List.take_left']; rfl
  have e2 : (as.reverse ++ vR (some a) :: st).drop (mPar M') = vR (some a) :: st := by rw [← hn, ← List.length_reverse, List.drop_left']; rfl
  rw [e1, e2, List.reverse_reverse]
  exact ⟨a, rfl, hw, k⟩⟩⟩
theorem R_objInit {ix a : Nat} (hc : cdT M pc = some (.invokespecial ix, 3)) (hix : ix < 1000) (hq : cres.lookup (1000 * mOwn M + ix) = some (4, 0)) (hw : wds st ≤ 8) (k : Run d M Q (pc + 3) lv st S) : Run d M Q pc lv (vR (some a) :: st) S := Run_of hc ⟨rfl, hix, Or.inr ⟨hq, a, rfl, hw, k⟩⟩
theorem R_ireturn {x : Int32} (hc : cdT M pc = some (.ireturn, 1)) (hr : (mI M).2.2.2.1 = some .int ∨ ((mI M).2.2.2.1 = some .boolean ∧ (x = 0 ∨ x = 1))) (k : Q (.inl (some (vI x))) S) : Run d M Q pc lv [vI x] S := Run_of hc ⟨rfl, rfl, hr, k⟩
theorem R_areturn {x : Option Nat} (hc : cdT M pc = some (.areturn, 1)) (hr : (∃ n, (mI M).2.2.2.1 = some (.object n)) ∨ ∃ t, (mI M).2.2.2.1 = some (.array t)) (k : Q (.inl (some (vR x))) S) : Run d M Q pc lv [vR x] S := Run_of hc ⟨rfl, rfl, hr, k⟩
theorem R_return (hc : cdT M pc = some (.return_, 1)) (hr : (mI M).2.2.2.1 = none) (k : Q (.inl none) S) : Run d M Q pc lv [] S := Run_of hc ⟨rfl, rfl, hr, k⟩
end RR
theorem h_eq (x : Int32) : Op.ifCond.holds .eq x = true ↔ x = 0 := by simp [Op.ifCond.holds]
theorem h_ne (x : Int32) : Op.ifCond.holds .ne x = true ↔ ¬ x = 0 := by simp [Op.ifCond.holds]
theorem h_lt (x : Int32) : Op.ifCond.holds .lt x = true ↔ x < 0 := by simp [Op.ifCond.holds]
theorem h_ge (x : Int32) : Op.ifCond.holds .ge x = true ↔ 0 ≤ x := by simp [Op.ifCond.holds]
theorem h_gt (x : Int32) : Op.ifCond.holds .gt x = true ↔ 0 < x := by simp [Op.ifCond.holds]
theorem h_le (x : Int32) : Op.ifCond.holds .le x = true ↔ x ≤ 0 := by simp [Op.ifCond.holds]
theorem i_eq (x y : Int32) : Op.if_icmp.holds .eq x y = true ↔ x = y := by simp [Op.if_icmp.holds]
theorem i_ne (x y : Int32) : Op.if_icmp.holds .ne x y = true ↔ ¬ x = y := by simp [Op.if_icmp.holds]
theorem i_lt (x y : Int32) : Op.if_icmp.holds .lt x y = true ↔ x < y := by simp [Op.if_icmp.holds]
theorem i_ge (x y : Int32) : Op.if_icmp.holds .ge x y = true ↔ y ≤ x := by simp [Op.if_icmp.holds]
theorem i_gt (x y : Int32) : Op.if_icmp.holds .gt x y = true ↔ y < x := by simp [Op.if_icmp.holds]
theorem i_le (x y : Int32) : Op.if_icmp.holds .le x y = true ↔ x ≤ y := by simp [Op.if_icmp.holds]
