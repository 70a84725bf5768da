/-! THE PROGRAM'S MEANING, as a predicate over a plain state: objects by kinds and fields, rows by their places. -/
abbrev V_ : Type := Int32 ⊕ (Option Nat ⊕ Int64)
abbrev vI (x : Int32) : V_ := .inl x
abbrev vR (o : Option Nat) : V_ := .inr (.inl o)
abbrev vL (w : Int64) : V_ := .inr (.inr w)
/-- a method's end: its answer, or the name of the class that it threw -/
abbrev Rs : Type := Option V_ ⊕ String
/-- kinds (0: nothing there; class c: c + 1; rows from 21 on); int fields; reference fields; lengths; rows of ints; of longs; of references; cells and slots made so far; the lists' empty row, the script's address, length and ints; the class object of Object[] -/
abbrev St : Type := (Nat → Nat) × (Nat → Nat → Int32) × (Nat → Nat → Option Nat) × (Nat → Nat) × (Nat → Nat → Int32) × (Nat → Nat → Int64) × (Nat → Nat → Option Nat) × Nat × Nat × (Nat × Nat × Nat × (Nat → Int32)) × Nat
def sK (S : St) : Nat → Nat := S.1
def sI (S : St) : Nat → Nat → Int32 := S.2.1
def sP (S : St) : Nat → Nat → Option Nat := S.2.2.1
def sN (S : St) : Nat → Nat := S.2.2.2.1
def sA (S : St) : Nat → Nat → Int32 := S.2.2.2.2.1
def sW (S : St) : Nat → Nat → Int64 := S.2.2.2.2.2.1
def sR (S : St) : Nat → Nat → Option Nat := S.2.2.2.2.2.2.1
def sk (S : St) : Nat := S.2.2.2.2.2.2.2.1
def sn (S : St) : Nat := S.2.2.2.2.2.2.2.2.1
def se (S : St) : Nat × Nat × Nat × (Nat → Int32) := S.2.2.2.2.2.2.2.2.2.1
def sm (S : St) : Nat := S.2.2.2.2.2.2.2.2.2.2
def setI (S : St) (f a : Nat) (x : Int32) : St := (S.1, (fun g b => if g = f ∧ b = a then x else S.2.1 g b), S.2.2)
def setP (S : St) (f a : Nat) (o : Option Nat) : St := (S.1, S.2.1, (fun g b => if g = f ∧ b = a then o else S.2.2.1 g b), S.2.2.2)
def setA (S : St) (a i : Nat) (x : Int32) : St := (S.1, S.2.1, S.2.2.1, S.2.2.2.1, (fun b j => if b = a ∧ j = i then x else S.2.2.2.2.1 b j), S.2.2.2.2.2)
def setW (S : St) (a i : Nat) (x : Int64) : St := (S.1, S.2.1, S.2.2.1, S.2.2.2.1, S.2.2.2.2.1, (fun b j => if b = a ∧ j = i then x else S.2.2.2.2.2.1 b j), S.2.2.2.2.2.2)
def setR (S : St) (a i : Nat) (o : Option Nat) : St := (S.1, S.2.1, S.2.2.1, S.2.2.2.1, S.2.2.2.2.1, S.2.2.2.2.2.1, (fun b j => if b = a ∧ j = i then o else S.2.2.2.2.2.2.1 b j), S.2.2.2.2.2.2.2)
/-- a row of references written as a whole -/
def setRr (S : St) (a : Nat) (r : Nat → Option Nat) : St := (S.1, S.2.1, S.2.2.1, S.2.2.2.1, S.2.2.2.2.1, S.2.2.2.2.2.1, (fun b j => if b = a then r j else S.2.2.2.2.2.2.1 b j), S.2.2.2.2.2.2.2)
def bump (S : St) (c n : Nat) : St := (S.1, S.2.1, S.2.2.1, S.2.2.2.1, S.2.2.2.2.1, S.2.2.2.2.2.1, S.2.2.2.2.2.2.1, S.2.2.2.2.2.2.2.1 + c, S.2.2.2.2.2.2.2.2.1 + n, S.2.2.2.2.2.2.2.2.2)
/-- a new object of class c at a -/
def newO (S : St) (a c : Nat) : St := ((fun b => if b = a then c + 1 else S.1 b), (fun g b => if b = a then 0 else S.2.1 g b), (fun g b => if b = a then none else S.2.2.1 g b), S.2.2.2.1, S.2.2.2.2.1, S.2.2.2.2.2.1, S.2.2.2.2.2.2.1, S.2.2.2.2.2.2.2.1 + 1, S.2.2.2.2.2.2.2.2.1 + nFd.getD c 0, S.2.2.2.2.2.2.2.2.2)
/-- a new row of kind q and length n at a -/
def newR (S : St) (a q n : Nat) : St := ((fun b => if b = a then q else S.1 b), S.2.1, S.2.2.1, (fun b => if b = a then n else S.2.2.2.1 b), (fun b j => if b = a then 0 else S.2.2.2.2.1 b j), (fun b j => if b = a then 0 else S.2.2.2.2.2.1 b j), (fun b j => if b = a then none else S.2.2.2.2.2.2.1 b j), S.2.2.2.2.2.2.2.1 + 1, S.2.2.2.2.2.2.2.2.1 + n, S.2.2.2.2.2.2.2.2.2)
def isRf (c k : Nat) : Bool := (rFd.getD c []).getD k false
def isZf (c k : Nat) : Bool := (zFd.getD c []).getD k false
def isLf (c k : Nat) : Bool := (lFd.getD c []).getD k false
/-- the claim's room -/
abbrev mxC : Nat := 623288
abbrev mxS : Nat := 7226240
def popI (st : List V_) (f : Int32 → List V_ → Prop) : Prop := match st with
  | .inl x :: r => f x r
  | _ => False
def popR (st : List V_) (f : Option Nat → List V_ → Prop) : Prop := match st with
  | .inr (.inl o) :: r => f o r
  | _ => False
def popL (st : List V_) (f : Int64 → List V_ → Prop) : Prop := match st with
  | .inr (.inr w) :: r => f w r
  | _ => False
/-- a value of one word -/
def pop1 (st : List V_) (f : V_ → List V_ → Prop) : Prop := match st with
  | .inl x :: r => f (.inl x) r
  | .inr (.inl o) :: r => f (.inr (.inl o)) r
  | _ => False
def ldI (lv : List (Option V_)) (j : Nat) (f : Int32 → Prop) : Prop := match lv[j]? with
  | some (some (.inl x)) => f x
  | _ => False
def ldR (lv : List (Option V_)) (j : Nat) (f : Option Nat → Prop) : Prop := match lv[j]? with
  | some (some (.inr (.inl o))) => f o
  | _ => False
/-- n values off the stack, the last one first; the first ones of the list are the deepest -/
def popN (n : Nat) (st : List V_) (f : List V_ → List V_ → Prop) : Prop := n ≤ st.length ∧ f (st.take n).reverse (st.drop n)
def inR (i : Int32) (n : Nat) : Prop := vp_in i n
noncomputable def mOwn (M : Nat) : Nat := mOw.getD M 99
/-- how many parameters a method takes, the receiver not counted -/
def mPar (M : Nat) : Nat := nPar.getD M 0
def mInit (M : Nat) : Bool := mIni.getD M false
/-- what may be laid into a row of kind q -/
def okSt (S : St) (q : Nat) (v : Option Nat) : Prop := match v with
  | none => True
  | some b => (q = 24 ∧ sK S b = 2) ∨ (q = 25 ∧ sK S b = 4) ∨ (q = 26 ∧ sK S b = 5) ∨ (q = 27 ∧ sK S b = 8) ∨ (q = 28 ∧ sK S b = 3)
def wds (st : List V_) : Nat := (st.map (fun v => match v with | .inr (.inr _) => 2 | _ => 1)).sum
/-- where a throw of class number e at pc is caught in method M -/
noncomputable def hdl (M pc : Nat) (E : String) : Option Nat := (mI M).2.2.2.2.findSome? (fun h => if h.1 ≤ pc ∧ pc < h.2.1 ∧ ((xres.lookup (1000 * mOwn M + h.2.2.2)).map (fun e => exn.getD e "")) = some E then some h.2.2.1 else none)
def kdOf (t : ArrayType) : Nat := match t with
  | .int => 21
  | .boolean => 22
  | .long => 23
  | _ => 0
def room (S : St) (n : Nat) : Prop := sk S + 1 ≤ mxC ∧ sn S + n ≤ mxS
/-- the machine behind a call: with the answer on the stack, or at the handler -/
noncomputable def aft (M pc : Nat) (k : Nat → List (Option V_) → List V_ → St → Prop) (lv : List (Option V_)) (r : List V_) : Rs → St → Prop := fun R S => match R with
  | .inl none => k (pc + 3) lv r S
  | .inl (some v) => k (pc + 3) lv (v :: r) S
  | .inr E => ∃ t, hdl M pc E = some t ∧ ∀ q, k t lv [vR (some q)] S
/-- behind a constructor: it answers nothing and throws nothing -/
def aft0 (pc : Nat) (k : Nat → List (Option V_) → List V_ → St → Prop) (lv : List (Option V_)) (r : List V_) : Rs → St → Prop := fun R S => match R with
  | .inl none => k (pc + 3) lv r S
  | _ => False
/-- one instruction -/
noncomputable def stp (d : Nat) (cal : Nat → List V_ → St → (Rs → St → Prop) → Prop) (M : Nat) (i : Instr) (len : Nat) (k : Nat → List (Option V_) → List V_ → St → Prop) (Q : Rs → St → Prop) (pc : Nat) (lv : List (Option V_)) (st : List V_) (S : St) : Prop :=
  match i with
  | .iconst n => len = 1 ∧ k (pc + 1) lv (vI (Int32.ofInt n) :: st) S
  | .bipush n => len = 2 ∧ k (pc + 2) lv (vI (Int8.ofInt n).toInt32 :: st) S
  | .lconst n => len = 1 ∧ k (pc + 1) lv (vL (Int64.ofNat n.val) :: st) S
  | .aconst_null => len = 1 ∧ k (pc + 1) lv (vR none :: st) S
  | .iload_n j => len = 1 ∧ ldI lv j.val (fun x => k (pc + 1) lv (vI x :: st) S)
  | .iload j => len = 2 ∧ ldI lv j (fun x => k (pc + 2) lv (vI x :: st) S)
  | .aload_n j => len = 1 ∧ ldR lv j.val (fun o => k (pc + 1) lv (vR o :: st) S)
  | .aload j => len = 2 ∧ ldR lv j (fun o => k (pc + 2) lv (vR o :: st) S)
  | .istore_n j => len = 1 ∧ j.val < lv.length ∧ popI st (fun x r => k (pc + 1) (lv.set j.val (some (vI x))) r S)
  | .istore j => len = 2 ∧ j < lv.length ∧ popI st (fun x r => k (pc + 2) (lv.set j (some (vI x))) r S)
  | .astore_n j => len = 1 ∧ j.val < lv.length ∧ popR st (fun x r => k (pc + 1) (lv.set j.val (some (vR x))) r S)
  | .astore j => len = 2 ∧ j < lv.length ∧ popR st (fun x r => k (pc + 2) (lv.set j (some (vR x))) r S)
  | .iinc j n => len = 3 ∧ ldI lv j (fun x => k (pc + 3) (lv.set j (some (vI (x + Int32.ofInt n)))) st S)
  | .iadd => len = 1 ∧ popI st (fun y r => popI r (fun x r => k (pc + 1) lv (vI (x + y) :: r) S))
  | .isub => len = 1 ∧ popI st (fun y r => popI r (fun x r => k (pc + 1) lv (vI (x - y) :: r) S))
  | .imul => len = 1 ∧ popI st (fun y r => popI r (fun x r => k (pc + 1) lv (vI (x * y) :: r) S))
  | .iand => len = 1 ∧ popI st (fun y r => popI r (fun x r => k (pc + 1) lv (vI (x &&& y) :: r) S))
  | .idiv => len = 1 ∧ popI st (fun y r => popI r (fun x r => ¬ y = 0 ∧ k (pc + 1) lv (vI (x / y) :: r) S))
  | .irem => len = 1 ∧ popI st (fun y r => popI r (fun x r => ¬ y = 0 ∧ k (pc + 1) lv (vI (x - x / y * y) :: r) S))
  | .ishr => len = 1 ∧ popI st (fun y r => popI r (fun x r => k (pc + 1) lv (vI (x >>> (y &&& 31)) :: r) S))
  | .i2l => len = 1 ∧ popI st (fun x r => k (pc + 1) lv (vL x.toInt64 :: r) S)
  | .lcmp => len = 1 ∧ popL st (fun y r => popL r (fun x r => k (pc + 1) lv (vI (lg_cmp x y) :: r) S))
  | .dup => len = 1 ∧ pop1 st (fun a r => k (pc + 1) lv (a :: a :: r) S)
  | .pop => len = 1 ∧ pop1 st (fun _ r => k (pc + 1) lv r S)
  | .dup_x1 => len = 1 ∧ pop1 st (fun a r => pop1 r (fun b r => k (pc + 1) lv (a :: b :: a :: r) S))
  | .dup2 => len = 1 ∧ pop1 st (fun a r => pop1 r (fun b r => k (pc + 1) lv (a :: b :: a :: b :: r) S))
  | .ifCond c off => len = 3 ∧ popI st (fun x r => ∃ t : Nat, (pc : Int) + off = (t : Int) ∧ (Op.ifCond.holds c x = true → k t lv r S) ∧ (Op.ifCond.holds c x = false → k (pc + 3) lv r S))
  | .if_icmp c off => len = 3 ∧ popI st (fun y r => popI r (fun x r => ∃ t : Nat, (pc : Int) + off = (t : Int) ∧ (Op.if_icmp.holds c x y = true → k t lv r S) ∧ (Op.if_icmp.holds c x y = false → k (pc + 3) lv r S)))
  | .if_acmp c off => len = 3 ∧ popR st (fun y r => popR r (fun x r => ∃ t : Nat, (pc : Int) + off = (t : Int) ∧ (match c with
    | .eq => (x = y → k t lv r S) ∧ (¬ x = y → k (pc + 3) lv r S)
    | .ne => (¬ x = y → k t lv r S) ∧ (x = y → k (pc + 3) lv r S))))
  | .ifnull off => len = 3 ∧ popR st (fun o r => ∃ t : Nat, (pc : Int) + off = (t : Int) ∧ (o = none → k t lv r S) ∧ (∀ a, o = some a → k (pc + 3) lv r S))
  | .ifnonnull off => len = 3 ∧ popR st (fun o r => ∃ t : Nat, (pc : Int) + off = (t : Int) ∧ (∀ a, o = some a → k t lv r S) ∧ (o = none → k (pc + 3) lv r S))
  | .goto off => len = 3 ∧ ∃ t : Nat, (pc : Int) + off = (t : Int) ∧ k t lv st S
  | .tableswitch df lo hi offs => popI st (fun x r => (x.toInt < lo ∨ hi < x.toInt → ∃ t : Nat, (pc : Int) + df = (t : Int) ∧ k t lv r S) ∧ (¬ x.toInt < lo → ¬ hi < x.toInt → ∃ (off : Int) (t : Nat), offs[(x.toInt - lo).toNat]? = some off ∧ (pc : Int) + off = (t : Int) ∧ k t lv r S))
  | .getfield ix => len = 3 ∧ ix < 1000 ∧ popR st (fun o r => ∃ c f a, fres.lookup (1000 * mOwn M + ix) = some (c, f) ∧ o = some a ∧ sK S a = c + 1 ∧ k (pc + 3) lv ((if isRf c f then vR (sP S (40 * c + f) a) else vI (sI S (40 * c + f) a)) :: r) S)
  | .putfield ix => len = 3 ∧ ix < 1000 ∧ pop1 st (fun v r => popR r (fun o r => ∃ c f a, fres.lookup (1000 * mOwn M + ix) = some (c, f) ∧ o = some a ∧ sK S a = c + 1 ∧ (isLf c f = false ∨ (mInit M = true ∧ mOwn M = c)) ∧ (match v with
    | .inl x => isRf c f = false ∧ (isZf c f = true → x = 0 ∨ x = 1) ∧ k (pc + 3) lv r (setI S (40 * c + f) a x)
    | .inr (.inl q) => isRf c f = true ∧ k (pc + 3) lv r (setP S (40 * c + f) a q)
    | _ => False)))
  | .arraylength => len = 1 ∧ popR st (fun o r => ∃ a, o = some a ∧ ((21 ≤ sK S a ∧ k (pc + 1) lv (vI (Int32.ofNat (sN S a)) :: r) S) ∨ (a = (se S).1 ∧ k (pc + 1) lv (vI 0 :: r) S) ∨ (a = (se S).2.1 ∧ k (pc + 1) lv (vI (Int32.ofNat (se S).2.2.1) :: r) S)))
  | .iaload => len = 1 ∧ popI st (fun j r => popR r (fun o r => ∃ a, o = some a ∧ ((sK S a = 21 ∧ inR j (sN S a) ∧ k (pc + 1) lv (vI (sA S a j.toNatClampNeg) :: r) S) ∨ (a = (se S).2.1 ∧ inR j (se S).2.2.1 ∧ k (pc + 1) lv (vI ((se S).2.2.2 j.toNatClampNeg) :: r) S))))
  | .baload => len = 1 ∧ popI st (fun j r => popR r (fun o r => ∃ a, o = some a ∧ sK S a = 22 ∧ inR j (sN S a) ∧ k (pc + 1) lv (vI (sA S a j.toNatClampNeg) :: r) S))
  | .laload => len = 1 ∧ popI st (fun j r => popR r (fun o r => ∃ a, o = some a ∧ sK S a = 23 ∧ inR j (sN S a) ∧ k (pc + 1) lv (vL (sW S a j.toNatClampNeg) :: r) S))
  | .aaload => len = 1 ∧ popI st (fun j r => popR r (fun o r => ∃ a, o = some a ∧ 24 ≤ sK S a ∧ inR j (sN S a) ∧ k (pc + 1) lv (vR (sR S a j.toNatClampNeg) :: r) S))
  | .iastore => len = 1 ∧ popI st (fun x r => popI r (fun j r => popR r (fun o r => ∃ a, o = some a ∧ sK S a = 21 ∧ inR j (sN S a) ∧ k (pc + 1) lv r (setA S a j.toNatClampNeg x))))
  | .bastore => len = 1 ∧ popI st (fun x r => popI r (fun j r => popR r (fun o r => ∃ a, o = some a ∧ sK S a = 22 ∧ inR j (sN S a) ∧ (x = 0 ∨ x = 1) ∧ k (pc + 1) lv r (setA S a j.toNatClampNeg x))))
  | .lastore => len = 1 ∧ popL st (fun x r => popI r (fun j r => popR r (fun o r => ∃ a, o = some a ∧ sK S a = 23 ∧ inR j (sN S a) ∧ k (pc + 1) lv r (setW S a j.toNatClampNeg x))))
  | .aastore => len = 1 ∧ popR st (fun v r => popI r (fun j r => popR r (fun o r => ∃ a, o = some a ∧ 24 ≤ sK S a ∧ inR j (sN S a) ∧ okSt S (sK S a) v ∧ k (pc + 1) lv r (setR S a j.toNatClampNeg v))))
  | .newarray t => len = 2 ∧ popI st (fun n r => ¬ n < 0 ∧ n.toNatClampNeg ≤ 4000 ∧ kdOf t ≠ 0 ∧ room S n.toNatClampNeg ∧ ∀ a, sK S a = 0 → a ≠ (se S).1 → a ≠ (se S).2.1 → k (pc + 2) lv (vR (some a) :: r) (newR S a (kdOf t) n.toNatClampNeg))
  | .anewarray ix => len = 3 ∧ ix < 1000 ∧ popI st (fun n r => ∃ q, ares.lookup (1000 * mOwn M + ix) = some q ∧ ¬ n < 0 ∧ n.toNatClampNeg ≤ 4000 ∧ room S n.toNatClampNeg ∧ ∀ a, sK S a = 0 → a ≠ (se S).1 → a ≠ (se S).2.1 → k (pc + 3) lv (vR (some a) :: r) (newR S a q n.toNatClampNeg))
  | .new ix => len = 3 ∧ ix < 1000 ∧ (match tres.lookup (2000 * M + pc) with
    | some w => pc < 2000 ∧ 5 ≤ d ∧ wds st ≤ 8 ∧ room S 6 ∧ Q (.inr (exn.getD w.1 "")) (bump S 1 6)
    | none => ∃ c, nres.lookup (1000 * mOwn M + ix) = some c ∧ room S (nFd.getD c 0) ∧ ∀ a, sK S a = 0 → a ≠ (se S).1 → a ≠ (se S).2.1 → k (pc + 3) lv (vR (some a) :: st) (newO S a c))
  | .checkcast ix => len = 3 ∧ ix < 1000 ∧ popR st (fun o r => (o = none ∨ ∃ a c, o = some a ∧ ((nres.lookup (1000 * mOwn M + ix) = some c ∧ sK S a = c + 1) ∨ (1000 * mOwn M + ix = 18110 ∧ sK S a = 28))) ∧ k (pc + 3) lv (vR o :: r) S)
  | .ldc ix => len = 2 ∧ ix < 1000 ∧ ((1000 * mOwn M + ix = 18110 ∧ k (pc + 2) lv (vR (some (sm S)) :: st) S) ∨ (1000 * mOwn M + ix = 21200 ∧ k (pc + 2) lv (vI 2147483639 :: st) S))
  | .getstatic ix => len = 3 ∧ ix < 1000 ∧ 1000 * mOwn M + ix = 39 ∧ k (pc + 3) lv (vR (some (se S).1) :: st) S
  | .invokestatic ix => len = 3 ∧ ix < 1000 ∧ ((∃ M', cres.lookup (1000 * mOwn M + ix) = some (0, M') ∧ popN (mPar M') st (fun as r => wds r ≤ 8 ∧ cal M' as S (aft M pc k lv r))) ∨
      (cres.lookup (1000 * mOwn M + ix) = some (5, 0) ∧ 2 ≤ d ∧ popI st (fun n r => popI r (fun dp r => popR r (fun o1 r => popI r (fun sp r => popR r (fun o0 r => ∃ a0 a1, o0 = some a0 ∧ o1 = some a1 ∧ sK S a0 = 28 ∧ sK S a1 = 28 ∧ 0 < sN S a0 ∧ 0 < sN S a1 ∧ wds r ≤ 8 ∧ ¬ sp < 0 ∧ ¬ dp < 0 ∧ ¬ n < 0 ∧
        sp.toNatClampNeg + n.toNatClampNeg ≤ sN S a0 ∧ dp.toNatClampNeg + n.toNatClampNeg ≤ sN S a1 ∧ (∀ i, i < n.toNatClampNeg → okSt S 28 (sR S a0 (sp.toNatClampNeg + i))) ∧ k (pc + 3) lv r (setRr S a1 (va_cpy (sR S a0) (sR S a1) sp.toNatClampNeg dp.toNatClampNeg n.toNatClampNeg)))))))))
  | .invokevirtual ix => len = 3 ∧ ix < 1000 ∧ ((∃ M', cres.lookup (1000 * mOwn M + ix) = some (1, M') ∧ popN (mPar M') st (fun as r => popR r (fun o r => ∃ a, o = some a ∧ sK S a = mOwn M' + 1 ∧ wds r ≤ 8 ∧ cal M' (vR (some a) :: as) S (aft M pc k lv r)))) ∨
      (cres.lookup (1000 * mOwn M + ix) = some (6, 0) ∧ 2 ≤ d ∧ popR st (fun o r => ∃ a, o = some a ∧ sK S a = 28 ∧ wds r ≤ 8 ∧ k (pc + 3) lv (vR (some (sm S)) :: r) S)))
  | .invokespecial ix => len = 3 ∧ ix < 1000 ∧ ((∃ M' kd, cres.lookup (1000 * mOwn M + ix) = some (kd, M') ∧ (kd = 2 ∨ kd = 3) ∧ popN (mPar M') st (fun as r => popR r (fun o r => ∃ a, o = some a ∧ wds r ≤ 8 ∧ cal M' (vR (some a) :: as) S (aft0 pc k lv r)))) ∨
      (cres.lookup (1000 * mOwn M + ix) = some (4, 0) ∧ popR st (fun o r => ∃ a, o = some a ∧ wds r ≤ 8 ∧ k (pc + 3) lv r S)))
  | .ireturn => len = 1 ∧ popI st (fun x r => r = [] ∧ ((mI M).2.2.2.1 = some .int ∨ ((mI M).2.2.2.1 = some .boolean ∧ (x = 0 ∨ x = 1))) ∧ Q (.inl (some (vI x))) S)
  | .areturn => len = 1 ∧ popR st (fun o r => r = [] ∧ ((∃ n, (mI M).2.2.2.1 = some (.object n)) ∨ ∃ t, (mI M).2.2.2.1 = some (.array t)) ∧ Q (.inl (some (vR o))) S)
  | .return_ => len = 1 ∧ st = [] ∧ (mI M).2.2.2.1 = none ∧ Q (.inl none) S
  | _ => False
/-- the step at pc, its continuation P -/
noncomputable def nxt (d : Nat) (cal : Nat → List V_ → St → (Rs → St → Prop) → Prop) (M : Nat) (Q : Rs → St → Prop) (P : Nat → List (Option V_) → List V_ → St → Prop) (pc : Nat) (lv : List (Option V_)) (st : List V_) (S : St) : Prop := match cdT M pc with
  | some (i, len) => stp d cal M i len P Q pc lv st S
  | none => False
/-- from pc method M ends with Q: the least predicate that steps keep -/
def run (d : Nat) (cal : Nat → List V_ → St → (Rs → St → Prop) → Prop) (M : Nat) (Q : Rs → St → Prop) (pc : Nat) (lv : List (Option V_)) (st : List V_) (S : St) : Prop :=
  ∀ P : Nat → List (Option V_) → List V_ → St → Prop, (∀ pc lv st S, nxt d cal M Q P pc lv st S → P pc lv st S) → P pc lv st S
/-- a method's locals at its entry -/
noncomputable def ent (M : Nat) (as : List V_) : List (Option V_) := as.map some ++ List.replicate ((mI M).2.2.1 - as.length) none
/-- arguments of one word each, that fit the locals -/
noncomputable def okA (M : Nat) (as : List V_) : Prop := as.length ≤ (mI M).2.2.1 ∧ ∀ v ∈ as, (match v with | .inr (.inr _) => False | _ => True)
/-- method M, D frames at most, ends with Q -/
def Ev : Nat → Nat → List V_ → St → (Rs → St → Prop) → Prop
  | 0, _, _, _, _ => False
  | d + 1, M, as, S, Q => okA M as ∧ run d (Ev d) M Q 0 (ent M as) [] S
