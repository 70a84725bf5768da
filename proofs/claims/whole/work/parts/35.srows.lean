/-! ROWS laid on the meaning of one instruction. -/
def stops : List (List Nat) := [[], [], [], [], [], [], [], [], [], [], [], [], [], [], [], [], [], [], [], [], [], [], [], [], [], [], [], [], [], [], [], [], [], [], [], [2], [], [], [], [], [], [], [], [], [7], [], [], [10, 54], [10, 34], [], [], [], [10], [], [], [], [64], [4], [54], [], [], [4], [10], [], [10], [2], [], [], [], [], [13], [], [], [], [45], [], [71], [], [], [], [], [], [2], [4], [57], [], [49], [4], [], [72], [3], [], [], [21], [2], [], [17], [181, 214, 235], [], [4], [], [], [], [], [], [], [], [], [], [29, 68, 101, 109], [], [], [], [], [30], [], [43], [12, 43], [], [], [], [5, 58, 95, 123, 134, 178], [], [], [], [], [23], [], [], [], [], [], [], [], [], []]
theorem Six_ex : ∃ F : Nat → Nat → Instr → Nat → (Rs → St → Prop) → Nat → List (Option V_) → List V_ → St → Prop, ∀ d M i len Q pc lv st S, F d M i len Q pc lv st S = stp d (Ev d) M i len (Run d M Q) Q pc lv st S := ⟨fun d M i len Q pc lv st S => stp d (Ev d) M i len (Run d M Q) Q pc lv st S, fun _ _ _ _ _ _ _ _ _ => rfl⟩
/-- one instruction, not to be looked into -/
noncomputable def Six : Nat → Nat → Instr → Nat → (Rs → St → Prop) → Nat → List (Option V_) → List V_ → St → Prop := Classical.choose Six_ex
section SR
variable {d M : Nat} {Q : Rs → St → Prop} {pc : Nat} {lv : List (Option V_)} {st : List V_} {S : St}
theorem Six_of {i : Instr} {len : Nat} (h : stp d (Ev d) M i len (Run d M Q) Q pc lv st S) : Six d M i len Q pc lv st S := by
  unfold Six
  rw [Classical.choose_spec Six_ex]
  exact h
theorem Six_el {i : Instr} {len : Nat} (h : Six d M i len Q pc lv st S) : stp d (Ev d) M i len (Run d M Q) Q pc lv st S := by
  unfold Six at h
  rw [Classical.choose_spec Six_ex] at h
  exact h
theorem Run_i {i : Instr} {len : Nat} (hcd : cdT M pc = some (i, len)) (h : Six d M i len Q pc lv st S) : Run d M Q pc lv st S := Run_of hcd (Six_el h)
theorem Run_st {i : Instr} {len : Nat} (_hs : (stops.getD M []).contains pc = false) (hcd : cdT M pc = some (i, len)) (h : Six d M i len Q pc lv st S) : Run d M Q pc lv st S := Run_of hcd (Six_el h)
/-- a place of the code behind a jump -/
abbrev jp (pc : Nat) (off : Int) : Nat := ((pc : Int) + off).toNat
theorem jp_ok {pc : Nat} {off : Int} (h : 0 ≤ (pc : Int) + off) : (pc : Int) + off = ((jp pc off : Nat) : Int) := (Int.toNat_of_nonneg h).symm
theorem S_iconst {n : Int} (k : Run d M Q (pc + 1) lv (vI (ji n) :: st) S) : Six d M (.iconst n) 1 Q pc lv st S := Six_of ⟨rfl, k⟩
theorem S_bipush {n : Int} (h1 : -128 ≤ n) (h2 : n ≤ 127) (k : Run d M Q (pc + 2) lv (vI (ji n) :: st) S) : Six d M (.bipush n) 2 Q pc lv st S := Six_of ⟨rfl, by rw [ji_bip h1 h2]; exact k⟩
theorem S_lconst {n : Fin 2} (k : Run d M Q (pc + 1) lv (vL (Int64.ofNat n.val) :: st) S) : Six d M (.lconst n) 1 Q pc lv st S := Six_of ⟨rfl, k⟩
theorem S_null (k : Run d M Q (pc + 1) lv (vR none :: st) S) : Six d M .aconst_null 1 Q pc lv st S := Six_of ⟨rfl, k⟩
theorem S_iload_n {j : Fin 4} {x : Int32} (h : lv[j.val]? = some (some (vI x))) (k : Run d M Q (pc + 1) lv (vI x :: st) S) : Six d M (.iload_n j) 1 Q pc lv st S := Six_of ⟨rfl, ldI_in h k⟩
theorem S_iload {j : Nat} {x : Int32} (h : lv[j]? = some (some (vI x))) (k : Run d M Q (pc + 2) lv (vI x :: st) S) : Six d M (.iload j) 2 Q pc lv st S := Six_of ⟨rfl, ldI_in h k⟩
theorem S_aload_n {j : Fin 4} {x : Option Nat} (h : lv[j.val]? = some (some (vR x))) (k : Run d M Q (pc + 1) lv (vR x :: st) S) : Six d M (.aload_n j) 1 Q pc lv st S := Six_of ⟨rfl, ldR_in h k⟩
theorem S_aload {j : Nat} {x : Option Nat} (h : lv[j]? = some (some (vR x))) (k : Run d M Q (pc + 2) lv (vR x :: st) S) : Six d M (.aload j) 2 Q pc lv st S := Six_of ⟨rfl, ldR_in h k⟩
theorem S_istore_n {j : Fin 4} {x : Int32} (h : Nat.blt j.val lv.length = true) (k : Run d M Q (pc + 1) (lv.set j.val (some (vI x))) st S) : Six d M (.istore_n j) 1 Q pc lv (vI x :: st) S := Six_of ⟨rfl, Nat.le_of_ble_eq_true h, k⟩
theorem S_istore {j : Nat} {x : Int32} (h : Nat.blt j lv.length = true) (k : Run d M Q (pc + 2) (lv.set j (some (vI x))) st S) : Six d M (.istore j) 2 Q pc lv (vI x :: st) S := Six_of ⟨rfl, Nat.le_of_ble_eq_true h, k⟩
theorem S_astore_n {j : Fin 4} {x : Option Nat} (h : Nat.blt j.val lv.length = true) (k : Run d M Q (pc + 1) (lv.set j.val (some (vR x))) st S) : Six d M (.astore_n j) 1 Q pc lv (vR x :: st) S := Six_of ⟨rfl, Nat.le_of_ble_eq_true h, k⟩
theorem S_astore {j : Nat} {x : Option Nat} (h : Nat.blt j lv.length = true) (k : Run d M Q (pc + 2) (lv.set j (some (vR x))) st S) : Six d M (.astore j) 2 Q pc lv (vR x :: st) S := Six_of ⟨rfl, Nat.le_of_ble_eq_true h, k⟩
theorem S_iinc {j : Nat} {n a : Int} (h : lv[j]? = some (some (vI (ji a)))) (k : Run d M Q (pc + 3) (lv.set j (some (vI (ji (a + n))))) st S) : Six d M (.iinc j n) 3 Q pc lv st S := Six_of ⟨rfl, ldI_in h (by rw [show ji a + Int32.ofInt n = ji (a + n) from ji_add a n]; exact k)⟩
theorem S_iadd {a b : Int} (k : Run d M Q (pc + 1) lv (vI (ji (a + b)) :: st) S) : Six d M .iadd 1 Q pc lv (vI (ji b) :: vI (ji a) :: st) S := Six_of ⟨rfl, by rw [← ji_add] at k; exact k⟩
theorem S_isub {a b : Int} (k : Run d M Q (pc + 1) lv (vI (ji (a - b)) :: st) S) : Six d M .isub 1 Q pc lv (vI (ji b) :: vI (ji a) :: st) S := Six_of ⟨rfl, by rw [← ji_sub] at k; exact k⟩
theorem S_imul {a b : Int} (k : Run d M Q (pc + 1) lv (vI (ji (a * b)) :: st) S) : Six d M .imul 1 Q pc lv (vI (ji b) :: vI (ji a) :: st) S := Six_of ⟨rfl, by rw [← ji_mul] at k; exact k⟩
theorem ji_ne0 {b : Int} (hb : bd b) (h : ¬ b = 0) : ¬ ji b = 0 := by
  rw [show (0 : Int32) = ji 0 from rfl, ji_eq hb bd0]
  exact h
theorem S_idiv {a b : Int} (ha : bd a) (h0 : 0 ≤ a) (hb : bd b) (h1 : 0 < b) (k : Run d M Q (pc + 1) lv (vI (ji (a / b)) :: st) S) : Six d M .idiv 1 Q pc lv (vI (ji b) :: vI (ji a) :: st) S := Six_of ⟨rfl, ji_ne0 hb (by omega), by rw [← ji_div ha h0 hb h1] at k; exact k⟩
theorem S_irem {a b : Int} (ha : bd a) (h0 : 0 ≤ a) (hb : bd b) (h1 : 0 < b) (k : Run d M Q (pc + 1) lv (vI (ji (a % b)) :: st) S) : Six d M .irem 1 Q pc lv (vI (ji b) :: vI (ji a) :: st) S := Six_of ⟨rfl, ji_ne0 hb (by omega), by
  rw [ji_div ha h0 hb h1, ji_mul, ji_sub, show a - a / b * b = a % b from by rw [Int.mul_comm]; have := Int.mul_ediv_add_emod a b; omega]
  exact k⟩
theorem S_shr1 {a : Int} (ha : bd a) (h0 : 0 ≤ a) (k : Run d M Q (pc + 1) lv (vI (ji (a / 2)) :: st) S) : Six d M .ishr 1 Q pc lv (vI (ji 1) :: vI (ji a) :: st) S := Six_of ⟨rfl, by rw [← ji_shr ha h0] at k; exact k⟩
theorem S_iand {x y : Int32} (k : Run d M Q (pc + 1) lv (vI (x &&& y) :: st) S) : Six d M .iand 1 Q pc lv (vI y :: vI x :: st) S := Six_of ⟨rfl, k⟩
theorem S_i2l {x : Int32} (k : Run d M Q (pc + 1) lv (vL x.toInt64 :: st) S) : Six d M .i2l 1 Q pc lv (vI x :: st) S := Six_of ⟨rfl, k⟩
theorem S_lcmp {x y : Int64} (k : Run d M Q (pc + 1) lv (vI (lg_cmp x y) :: st) S) : Six d M .lcmp 1 Q pc lv (vL y :: vL x :: st) S := Six_of ⟨rfl, k⟩
theorem S_dupI {x : Int32} (k : Run d M Q (pc + 1) lv (vI x :: vI x :: st) S) : Six d M .dup 1 Q pc lv (vI x :: st) S := Six_of ⟨rfl, k⟩
theorem S_dupR {x : Option Nat} (k : Run d M Q (pc + 1) lv (vR x :: vR x :: st) S) : Six d M .dup 1 Q pc lv (vR x :: st) S := Six_of ⟨rfl, k⟩
theorem S_popI {x : Int32} (k : Run d M Q (pc + 1) lv st S) : Six d M .pop 1 Q pc lv (vI x :: st) S := Six_of ⟨rfl, k⟩
theorem S_popR {x : Option Nat} (k : Run d M Q (pc + 1) lv st S) : Six d M .pop 1 Q pc lv (vR x :: st) S := Six_of ⟨rfl, k⟩
theorem S_dup_x1 {a : Int32} {o : Option Nat} (k : Run d M Q (pc + 1) lv (vI a :: vR o :: vI a :: st) S) : Six d M .dup_x1 1 Q pc lv (vI a :: vR o :: st) S := Six_of ⟨rfl, k⟩
theorem S_dup_x1R {a o : Option Nat} (k : Run d M Q (pc + 1) lv (vR a :: vR o :: vR a :: st) S) : Six d M .dup_x1 1 Q pc lv (vR a :: vR o :: st) S := Six_of ⟨rfl, k⟩
theorem S_dup2 {a : Int32} {o : Option Nat} (k : Run d M Q (pc + 1) lv (vI a :: vR o :: vI a :: vR o :: st) S) : Six d M .dup2 1 Q pc lv (vI a :: vR o :: st) S := Six_of ⟨rfl, k⟩
theorem S_goto {off : Int} (h : 0 ≤ off) (k : Run d M Q (jp pc off) lv st S) : Six d M (.goto off) 3 Q pc lv st S := Six_of ⟨rfl, jp pc off, jp_ok (by omega), k⟩
theorem S_back {off : Int} (h : 0 ≤ (pc : Int) + off) (k : Run d M Q (jp pc off) lv st S) : Six d M (.goto off) 3 Q pc lv st S := Six_of ⟨rfl, jp pc off, jp_ok h, k⟩
/-- a branch on a number: split, taken, not taken -/
theorem S_if {cn : ClassFile.Cond} {off : Int} {x : Int32} (p : Prop) (h : 0 ≤ (pc : Int) + off) (hp : Op.ifCond.holds cn x = true ↔ p) (k1 : p → Run d M Q (jp pc off) lv st S) (k2 : ¬ p → Run d M Q (pc + 3) lv st S) : Six d M (.ifCond cn off) 3 Q pc lv (vI x :: st) S :=
  Six_of ⟨rfl, jp pc off, jp_ok h, fun h => k1 (hp.mp h), fun h => k2 (fun z => by rw [hp.mpr z] at h; cases h)⟩
theorem S_icmp {cn : ClassFile.Cond} {off : Int} {x y : Int32} (p : Prop) (h : 0 ≤ (pc : Int) + off) (hp : Op.if_icmp.holds cn x y = true ↔ p) (k1 : p → Run d M Q (jp pc off) lv st S) (k2 : ¬ p → Run d M Q (pc + 3) lv st S) : Six d M (.if_icmp cn off) 3 Q pc lv (vI y :: vI x :: st) S :=
  Six_of ⟨rfl, jp pc off, jp_ok h, fun h => k1 (hp.mp h), fun h => k2 (fun z => by rw [hp.mpr z] at h; cases h)⟩
/-- what a comparison says of numbers -/
def cnP : ClassFile.Cond → Int → Int → Prop
  | .eq, a, b => a = b
  | .ne, a, b => ¬ a = b
  | .lt, a, b => a < b
  | .ge, a, b => b ≤ a
  | .gt, a, b => b < a
  | .le, a, b => a ≤ b
theorem cn_i {cn : ClassFile.Cond} {a b : Int} (ha : bd a) (hb : bd b) : Op.if_icmp.holds cn (ji a) (ji b) = true ↔ cnP cn a b := by
  cases cn
  · exact (i_eq _ _).trans (ji_eq ha hb)
  · exact (i_ne _ _).trans (not_congr (ji_eq ha hb))
  · exact (i_lt _ _).trans (ji_lt ha hb)
  · exact (i_ge _ _).trans (ji_le hb ha)
  · exact (i_gt _ _).trans (ji_lt hb ha)
  · exact (i_le _ _).trans (ji_le ha hb)
theorem cn_h {cn : ClassFile.Cond} {a : Int} (ha : bd a) : Op.ifCond.holds cn (ji a) = true ↔ cnP cn a 0 := by
  have e : (0 : Int32) = ji 0 := rfl
  cases cn
  · exact (h_eq _).trans (by rw [e]; exact ji_eq ha bd0)
  · exact (h_ne _).trans (by rw [e]; exact not_congr (ji_eq ha bd0))
  · exact (h_lt _).trans (by rw [e]; exact ji_lt ha bd0)
  · exact (h_ge _).trans (by rw [e]; exact ji_le bd0 ha)
  · exact (h_gt _).trans (by rw [e]; exact ji_lt bd0 ha)
  · exact (h_le _).trans (by rw [e]; exact ji_le ha bd0)
theorem S_ic {cn : ClassFile.Cond} {off : Int} {a b : Int} (ha : bd a) (hb : bd b) (h : 0 ≤ (pc : Int) + off) (k1 : cnP cn a b → Run d M Q (jp pc off) lv st S) (k2 : ¬ cnP cn a b → Run d M Q (pc + 3) lv st S) : Six d M (.if_icmp cn off) 3 Q pc lv (vI (ji b) :: vI (ji a) :: st) S := S_icmp _ h (cn_i ha hb) k1 k2
theorem S_ict {cn : ClassFile.Cond} {off : Int} {a b : Int} (ha : bd a) (hb : bd b) (h : 0 ≤ (pc : Int) + off) (hp : cnP cn a b) (k : Run d M Q (jp pc off) lv st S) : Six d M (.if_icmp cn off) 3 Q pc lv (vI (ji b) :: vI (ji a) :: st) S := S_icmp _ h (cn_i ha hb) (fun _ => k) (fun z => absurd hp z)
theorem S_icf {cn : ClassFile.Cond} {off : Int} {a b : Int} (ha : bd a) (hb : bd b) (h : 0 ≤ (pc : Int) + off) (hp : ¬ cnP cn a b) (k : Run d M Q (pc + 3) lv st S) : Six d M (.if_icmp cn off) 3 Q pc lv (vI (ji b) :: vI (ji a) :: st) S := S_icmp _ h (cn_i ha hb) (fun z => absurd z hp) (fun _ => k)
theorem S_iz {cn : ClassFile.Cond} {off : Int} {a : Int} (ha : bd a) (h : 0 ≤ (pc : Int) + off) (k1 : cnP cn a 0 → Run d M Q (jp pc off) lv st S) (k2 : ¬ cnP cn a 0 → Run d M Q (pc + 3) lv st S) : Six d M (.ifCond cn off) 3 Q pc lv (vI (ji a) :: st) S := S_if _ h (cn_h ha) k1 k2
theorem S_izt {cn : ClassFile.Cond} {off : Int} {a : Int} (ha : bd a) (h : 0 ≤ (pc : Int) + off) (hp : cnP cn a 0) (k : Run d M Q (jp pc off) lv st S) : Six d M (.ifCond cn off) 3 Q pc lv (vI (ji a) :: st) S := S_if _ h (cn_h ha) (fun _ => k) (fun z => absurd hp z)
theorem S_izf {cn : ClassFile.Cond} {off : Int} {a : Int} (ha : bd a) (h : 0 ≤ (pc : Int) + off) (hp : ¬ cnP cn a 0) (k : Run d M Q (pc + 3) lv st S) : Six d M (.ifCond cn off) 3 Q pc lv (vI (ji a) :: st) S := S_if _ h (cn_h ha) (fun z => absurd z hp) (fun _ => k)
theorem S_aceq {off : Int} {x y : Option Nat} (h : 0 ≤ (pc : Int) + off) (k1 : x = y → Run d M Q (jp pc off) lv st S) (k2 : ¬ x = y → Run d M Q (pc + 3) lv st S) : Six d M (.if_acmp .eq off) 3 Q pc lv (vR y :: vR x :: st) S := Six_of ⟨rfl, jp pc off, jp_ok h, k1, k2⟩
theorem S_acne {off : Int} {x y : Option Nat} (h : 0 ≤ (pc : Int) + off) (k1 : ¬ x = y → Run d M Q (jp pc off) lv st S) (k2 : x = y → Run d M Q (pc + 3) lv st S) : Six d M (.if_acmp .ne off) 3 Q pc lv (vR y :: vR x :: st) S := Six_of ⟨rfl, jp pc off, jp_ok h, k1, k2⟩
theorem S_aceqt {off : Int} {x y : Option Nat} (h : 0 ≤ (pc : Int) + off) (hp : x = y) (k : Run d M Q (jp pc off) lv st S) : Six d M (.if_acmp .eq off) 3 Q pc lv (vR y :: vR x :: st) S := S_aceq h (fun _ => k) (fun z => absurd hp z)
theorem S_aceqf {off : Int} {x y : Option Nat} (h : 0 ≤ (pc : Int) + off) (hp : ¬ x = y) (k : Run d M Q (pc + 3) lv st S) : Six d M (.if_acmp .eq off) 3 Q pc lv (vR y :: vR x :: st) S := S_aceq h (fun z => absurd z hp) (fun _ => k)
theorem S_acnet {off : Int} {x y : Option Nat} (h : 0 ≤ (pc : Int) + off) (hp : ¬ x = y) (k : Run d M Q (jp pc off) lv st S) : Six d M (.if_acmp .ne off) 3 Q pc lv (vR y :: vR x :: st) S := S_acne h (fun _ => k) (fun z => absurd z hp)
theorem S_acnef {off : Int} {x y : Option Nat} (h : 0 ≤ (pc : Int) + off) (hp : x = y) (k : Run d M Q (pc + 3) lv st S) : Six d M (.if_acmp .ne off) 3 Q pc lv (vR y :: vR x :: st) S := S_acne h (fun z => absurd hp z) (fun _ => k)
theorem S_nulln {off : Int} (h : 0 ≤ (pc : Int) + off) (k : Run d M Q (jp pc off) lv st S) : Six d M (.ifnull off) 3 Q pc lv (vR none :: st) S := Six_of ⟨rfl, jp pc off, jp_ok h, fun _ => k, fun _ z => (Option.some_ne_none _ z.symm).elim⟩
theorem S_nulls {off : Int} {a : Nat} (h : 0 ≤ (pc : Int) + off) (k : Run d M Q (pc + 3) lv st S) : Six d M (.ifnull off) 3 Q pc lv (vR (some a) :: st) S := Six_of ⟨rfl, jp pc off, jp_ok h, fun z => (Option.some_ne_none _ z).elim, fun _ _ => k⟩
theorem S_nonn {off : Int} (h : 0 ≤ (pc : Int) + off) (k : Run d M Q (pc + 3) lv st S) : Six d M (.ifnonnull off) 3 Q pc lv (vR none :: st) S := Six_of ⟨rfl, jp pc off, jp_ok h, fun _ z => (Option.some_ne_none _ z.symm).elim, fun _ => k⟩
theorem S_nons {off : Int} {a : Nat} (h : 0 ≤ (pc : Int) + off) (k : Run d M Q (jp pc off) lv st S) : Six d M (.ifnonnull off) 3 Q pc lv (vR (some a) :: st) S := Six_of ⟨rfl, jp pc off, jp_ok h, fun _ _ => k, fun z => (Option.some_ne_none _ z).elim⟩
theorem S_tswd {df lo hi : Int} {offs : Array Int} {len : Nat} {a : Int} (ha : bd a) (hh : a < lo ∨ hi < a) (h : 0 ≤ (pc : Int) + df) (k : Run d M Q (jp pc df) lv st S) : Six d M (.tableswitch df lo hi offs) len Q pc lv (vI (ji a) :: st) S := Six_of ⟨fun _ => ⟨jp pc df, jp_ok h, k⟩, fun z1 z2 => by rw [ji_toInt ha] at z1 z2; exact absurd hh (fun z => z.elim z1 z2)⟩
theorem S_tsw {df lo hi off : Int} {offs : Array Int} {len : Nat} {a : Int} (ha : bd a) (h1 : lo ≤ a) (h2 : a ≤ hi) (ho : offs[(a - lo).toNat]? = some off) (h : 0 ≤ (pc : Int) + off) (k : Run d M Q (jp pc off) lv st S) : Six d M (.tableswitch df lo hi offs) len Q pc lv (vI (ji a) :: st) S := Six_of ⟨fun z => by rw [ji_toInt ha] at z; omega, fun _ _ => ⟨off, jp pc off, by rw [ji_toInt ha]; exact ho, jp_ok h, k⟩⟩
theorem S_getI {ix cl f a : Nat} {v : Int32} (hix : Nat.blt ix 1000 = true) (hf : fres.lookup (1000 * mOwn M + ix) = some (cl, f)) (hr : isRf cl f = false) (hk : sK S a = cl + 1) (hv : sI S (40 * cl + f) a = v) (k : Run d M Q (pc + 3) lv (vI v :: st) S) : Six d M (.getfield ix) 3 Q pc lv (vR (some a) :: st) S := Six_of ⟨rfl, Nat.le_of_ble_eq_true hix, cl, f, a, hf, rfl, hk, by rw [hr, hv]; exact k⟩
theorem S_getR {ix cl f a : Nat} {v : Option Nat} (hix : Nat.blt ix 1000 = true) (hf : fres.lookup (1000 * mOwn M + ix) = some (cl, f)) (hr : isRf cl f = true) (hk : sK S a = cl + 1) (hv : sP S (40 * cl + f) a = v) (k : Run d M Q (pc + 3) lv (vR v :: st) S) : Six d M (.getfield ix) 3 Q pc lv (vR (some a) :: st) S := Six_of ⟨rfl, Nat.le_of_ble_eq_true hix, cl, f, a, hf, rfl, hk, by rw [hr, hv]; exact k⟩
/-- a final field is written by its own constructors alone -/
def finOk (M cl f : Nat) : Bool := !isLf cl f || (mInit M && mOw.getD M 99 == cl)
theorem finOk_el {M cl f : Nat} (h : finOk M cl f = true) : isLf cl f = false ∨ (mInit M = true ∧ mOwn M = cl) := by
  unfold finOk at h
  cases hl : isLf cl f
  · exact Or.inl rfl
  · rw [hl] at h
    simp at h
    exact Or.inr ⟨h.1, h.2⟩
theorem S_putI {ix cl f a : Nat} {x : Int32} (hix : Nat.blt ix 1000 = true) (hf : fres.lookup (1000 * mOwn M + ix) = some (cl, f)) (hr : isRf cl f = false) (hz : isZf cl f = false) (hl : finOk M cl f = true) (hk : sK S a = cl + 1) (k : Run d M Q (pc + 3) lv st (setI S (40 * cl + f) a x)) : Six d M (.putfield ix) 3 Q pc lv (vI x :: vR (some a) :: st) S := Six_of ⟨rfl, Nat.le_of_ble_eq_true hix, cl, f, a, hf, rfl, hk, finOk_el hl, hr, fun z => Bool.noConfusion (hz.symm.trans z), k⟩
theorem S_putZ {ix cl f a : Nat} {x : Int} (hix : Nat.blt ix 1000 = true) (hf : fres.lookup (1000 * mOwn M + ix) = some (cl, f)) (hr : isRf cl f = false) (hl : finOk M cl f = true) (hk : sK S a = cl + 1) (hz : x = 0 ∨ x = 1) (k : Run d M Q (pc + 3) lv st (setI S (40 * cl + f) a (ji x))) : Six d M (.putfield ix) 3 Q pc lv (vI (ji x) :: vR (some a) :: st) S := Six_of ⟨rfl, Nat.le_of_ble_eq_true hix, cl, f, a, hf, rfl, hk, finOk_el hl, hr, fun _ => hz.elim (fun z => Or.inl (by rw [z]; rfl)) (fun z => Or.inr (by rw [z]; rfl)), k⟩
theorem S_putR {ix cl f a : Nat} {x : Option Nat} (hix : Nat.blt ix 1000 = true) (hf : fres.lookup (1000 * mOwn M + ix) = some (cl, f)) (hr : isRf cl f = true) (hl : finOk M cl f = true) (hk : sK S a = cl + 1) (k : Run d M Q (pc + 3) lv st (setP S (40 * cl + f) a x)) : Six d M (.putfield ix) 3 Q pc lv (vR x :: vR (some a) :: st) S := Six_of ⟨rfl, Nat.le_of_ble_eq_true hix, cl, f, a, hf, rfl, hk, finOk_el hl, hr, k⟩
theorem S_alen {a n : Nat} (hk : 21 ≤ sK S a) (hn : sN S a = n) (k : Run d M Q (pc + 1) lv (vI (ji (n : Int)) :: st) S) : Six d M .arraylength 1 Q pc lv (vR (some a) :: st) S := Six_of ⟨rfl, a, rfl, Or.inl ⟨hk, by rw [hn, ji_ofNat]; exact k⟩⟩
theorem S_elen {a : Nat} (ha : a = (se S).1) (k : Run d M Q (pc + 1) lv (vI (ji 0) :: st) S) : Six d M .arraylength 1 Q pc lv (vR (some a) :: st) S := Six_of ⟨rfl, a, rfl, Or.inr (Or.inl ⟨ha, k⟩)⟩
theorem S_slen {a : Nat} (ha : a = (se S).2.1) (k : Run d M Q (pc + 1) lv (vI (ji ((se S).2.2.1 : Int)) :: st) S) : Six d M .arraylength 1 Q pc lv (vR (some a) :: st) S := Six_of ⟨rfl, a, rfl, Or.inr (Or.inr ⟨ha, by rw [ji_ofNat]; exact k⟩)⟩
theorem S_sld {a : Nat} {i : Int} (ha : a = (se S).2.1) (h0 : 0 ≤ i) (h1 : i < (se S).2.2.1) (hb : bd i) (k : Run d M Q (pc + 1) lv (vI ((se S).2.2.2 i.toNat) :: st) S) : Six d M .iaload 1 Q pc lv (vI (ji i) :: vR (some a) :: st) S := Six_of ⟨rfl, a, rfl, Or.inr ⟨ha, in_ji h0 h1 hb, by rw [ji_nat hb]; exact k⟩⟩
theorem S_iaload {a n : Nat} {i : Int} {v : Int32} (hk : sK S a = 21) (hn : sN S a = n) (h0 : 0 ≤ i) (h1 : i < n) (hb : bd i) (hv : sA S a i.toNat = v) (k : Run d M Q (pc + 1) lv (vI v :: st) S) : Six d M .iaload 1 Q pc lv (vI (ji i) :: vR (some a) :: st) S := Six_of ⟨rfl, a, rfl, Or.inl ⟨hk, in_ji h0 (by rw [hn]; exact h1) hb, by rw [ji_nat hb, hv]; exact k⟩⟩
theorem S_baload {a n : Nat} {i : Int} {v : Int32} (hk : sK S a = 22) (hn : sN S a = n) (h0 : 0 ≤ i) (h1 : i < n) (hb : bd i) (hv : sA S a i.toNat = v) (k : Run d M Q (pc + 1) lv (vI v :: st) S) : Six d M .baload 1 Q pc lv (vI (ji i) :: vR (some a) :: st) S := Six_of ⟨rfl, a, rfl, hk, in_ji h0 (by rw [hn]; exact h1) hb, by rw [ji_nat hb, hv]; exact k⟩
theorem S_laload {a n : Nat} {i : Int} {v : Int64} (hk : sK S a = 23) (hn : sN S a = n) (h0 : 0 ≤ i) (h1 : i < n) (hb : bd i) (hv : sW S a i.toNat = v) (k : Run d M Q (pc + 1) lv (vL v :: st) S) : Six d M .laload 1 Q pc lv (vI (ji i) :: vR (some a) :: st) S := Six_of ⟨rfl, a, rfl, hk, in_ji h0 (by rw [hn]; exact h1) hb, by rw [ji_nat hb, hv]; exact k⟩
theorem S_aaload {a n : Nat} {i : Int} {v : Option Nat} (hk : 24 ≤ sK S a) (hn : sN S a = n) (h0 : 0 ≤ i) (h1 : i < n) (hb : bd i) (hv : sR S a i.toNat = v) (k : Run d M Q (pc + 1) lv (vR v :: st) S) : Six d M .aaload 1 Q pc lv (vI (ji i) :: vR (some a) :: st) S := Six_of ⟨rfl, a, rfl, hk, in_ji h0 (by rw [hn]; exact h1) hb, by rw [ji_nat hb, hv]; exact k⟩
theorem S_iastore {a n : Nat} {i : Int} {x : Int32} (hk : sK S a = 21) (hn : sN S a = n) (h0 : 0 ≤ i) (h1 : i < n) (hb : bd i) (k : Run d M Q (pc + 1) lv st (setA S a i.toNat x)) : Six d M .iastore 1 Q pc lv (vI x :: vI (ji i) :: vR (some a) :: st) S := Six_of ⟨rfl, a, rfl, hk, in_ji h0 (by rw [hn]; exact h1) hb, by rw [ji_nat hb]; exact k⟩
theorem S_bastore {a n : Nat} {i x : Int} (hk : sK S a = 22) (hn : sN S a = n) (h0 : 0 ≤ i) (h1 : i < n) (hb : bd i) (hx : x = 0 ∨ x = 1) (k : Run d M Q (pc + 1) lv st (setA S a i.toNat (ji x))) : Six d M .bastore 1 Q pc lv (vI (ji x) :: vI (ji i) :: vR (some a) :: st) S := Six_of ⟨rfl, a, rfl, hk, in_ji h0 (by rw [hn]; exact h1) hb, hx.elim (fun z => Or.inl (by rw [z]; rfl)) (fun z => Or.inr (by rw [z]; rfl)), by rw [ji_nat hb]; exact k⟩
theorem S_lastore {a n : Nat} {i : Int} {x : Int64} (hk : sK S a = 23) (hn : sN S a = n) (h0 : 0 ≤ i) (h1 : i < n) (hb : bd i) (k : Run d M Q (pc + 1) lv st (setW S a i.toNat x)) : Six d M .lastore 1 Q pc lv (vL x :: vI (ji i) :: vR (some a) :: st) S := Six_of ⟨rfl, a, rfl, hk, in_ji h0 (by rw [hn]; exact h1) hb, by rw [ji_nat hb]; exact k⟩
theorem S_aastore {a n : Nat} {i : Int} {v : Option Nat} (hk : 24 ≤ sK S a) (hn : sN S a = n) (h0 : 0 ≤ i) (h1 : i < n) (hb : bd i) (hv : okSt S (sK S a) v) (k : Run d M Q (pc + 1) lv st (setR S a i.toNat v)) : Six d M .aastore 1 Q pc lv (vR v :: vI (ji i) :: vR (some a) :: st) S := Six_of ⟨rfl, a, rfl, hk, in_ji h0 (by rw [hn]; exact h1) hb, hv, by rw [ji_nat hb]; exact k⟩
theorem ji_nneg {n : Int} (h0 : 0 ≤ n) (hb : bd n) : ¬ ji n < 0 := by
  rw [show (0 : Int32) = ji 0 from rfl, ji_lt hb bd0]
  omega
theorem S_newarray {t : ArrayType} {n : Int} (h0 : 0 ≤ n) (h1 : n ≤ 4000) (h3 : Nat.beq (kdOf t) 0 = false) (hr : room S n.toNat) (k : ∀ a, sK S a = 0 → a ≠ (se S).1 → a ≠ (se S).2.1 → Run d M Q (pc + 2) lv (vR (some a) :: st) (newR S a (kdOf t) n.toNat)) : Six d M (.newarray t) 2 Q pc lv (vI (ji n) :: st) S := by
  have hb : bd n := ⟨by omega, by omega⟩
  refine Six_of ⟨rfl, ji_nneg h0 hb, ?_, fun z => ?_, ?_, ?_⟩
  · rw [ji_nat hb]; omega
  · rw [z] at h3; cases h3
  · rw [ji_nat hb]; exact hr
  · rw [ji_nat hb]; exact k
theorem S_anewarray {ix q : Nat} {n : Int} (hix : Nat.blt ix 1000 = true) (hq : ares.lookup (1000 * mOwn M + ix) = some q) (h0 : 0 ≤ n) (h1 : n ≤ 4000) (hr : room S n.toNat) (k : ∀ a, sK S a = 0 → a ≠ (se S).1 → a ≠ (se S).2.1 → Run d M Q (pc + 3) lv (vR (some a) :: st) (newR S a q n.toNat)) : Six d M (.anewarray ix) 3 Q pc lv (vI (ji n) :: st) S := by
  have hb : bd n := ⟨by omega, by omega⟩
  refine Six_of ⟨rfl, Nat.le_of_ble_eq_true hix, q, hq, ji_nneg h0 hb, ?_, ?_, ?_⟩
  · rw [ji_nat hb]; omega
  · rw [ji_nat hb]; exact hr
  · rw [ji_nat hb]; exact k
theorem S_new {ix cl : Nat} (hix : Nat.blt ix 1000 = true) (ht : tres.lookup (2000 * M + pc) = none) (hq : nres.lookup (1000 * mOwn M + ix) = some cl) (hr : room S (nFd.getD cl 0)) (k : ∀ a, sK S a = 0 → a ≠ (se S).1 → a ≠ (se S).2.1 → Run d M Q (pc + 3) lv (vR (some a) :: st) (newO S a cl)) : Six d M (.new ix) 3 Q pc lv st S := Six_of ⟨rfl, Nat.le_of_ble_eq_true hix, by rw [ht]; exact ⟨cl, hq, hr, k⟩⟩
theorem S_throw {ix : Nat} {w : Nat × Nat × Nat × Nat} (hix : Nat.blt ix 1000 = true) (ht : tres.lookup (2000 * M + pc) = some w) (hp : Nat.blt pc 2000 = true) (hw : Nat.ble (wds st) 8 = true) (hd : 5 ≤ d) (hr : room S 6) (k : Q (.inr (exn.getD w.1 "")) (bump S 1 6)) : Six d M (.new ix) 3 Q pc lv st S := Six_of ⟨rfl, Nat.le_of_ble_eq_true hix, by rw [ht]; exact ⟨Nat.le_of_ble_eq_true hp, hd, Nat.le_of_ble_eq_true hw, hr, k⟩⟩
theorem S_castN {ix : Nat} (hix : Nat.blt ix 1000 = true) (k : Run d M Q (pc + 3) lv (vR none :: st) S) : Six d M (.checkcast ix) 3 Q pc lv (vR none :: st) S := Six_of ⟨rfl, Nat.le_of_ble_eq_true hix, Or.inl rfl, k⟩
theorem S_cast {ix cl a : Nat} (hix : Nat.blt ix 1000 = true) (hq : nres.lookup (1000 * mOwn M + ix) = some cl) (hk : sK S a = cl + 1) (k : Run d M Q (pc + 3) lv (vR (some a) :: st) S) : Six d M (.checkcast ix) 3 Q pc lv (vR (some a) :: st) S := Six_of ⟨rfl, Nat.le_of_ble_eq_true hix, Or.inr ⟨a, cl, rfl, Or.inl ⟨hq, hk⟩⟩, k⟩
theorem S_castA {ix a : Nat} (hix : Nat.blt ix 1000 = true) (hq : 1000 * mOwn M + ix = 18110) (hk : sK S a = 28) (k : Run d M Q (pc + 3) lv (vR (some a) :: st) S) : Six d M (.checkcast ix) 3 Q pc lv (vR (some a) :: st) S := Six_of ⟨rfl, Nat.le_of_ble_eq_true hix, Or.inr ⟨a, 0, rfl, Or.inr ⟨hq, hk⟩⟩, k⟩
theorem S_ldcA {ix : Nat} (hix : Nat.blt ix 1000 = true) (hq : 1000 * mOwn M + ix = 18110) (k : Run d M Q (pc + 2) lv (vR (some (sm S)) :: st) S) : Six d M (.ldc ix) 2 Q pc lv st S := Six_of ⟨rfl, Nat.le_of_ble_eq_true hix, Or.inl ⟨hq, k⟩⟩
theorem S_ldcM {ix : Nat} (hix : Nat.blt ix 1000 = true) (hq : 1000 * mOwn M + ix = 21200) (k : Run d M Q (pc + 2) lv (vI (ji 2147483639) :: st) S) : Six d M (.ldc ix) 2 Q pc lv st S := Six_of ⟨rfl, Nat.le_of_ble_eq_true hix, Or.inr ⟨hq, k⟩⟩
theorem S_gets {ix : Nat} (hix : Nat.blt ix 1000 = true) (hq : 1000 * mOwn M + ix = 39) (k : Run d M Q (pc + 3) lv (vR (some (se S).1) :: st) S) : Six d M (.getstatic ix) 3 Q pc lv st S := Six_of ⟨rfl, Nat.le_of_ble_eq_true hix, hq, k⟩
/-- calls, by how many values they take -/
theorem S_static {ix M' : Nat} (n : Nat) (hix : Nat.blt ix 1000 = true) (hq : cres.lookup (1000 * mOwn M + ix) = some (0, M')) (hp : mPar M' = n) (hn : Nat.ble n st.length = true) (hw : Nat.ble (wds (st.drop n)) 8 = true) (k : Ev d M' (st.take n).reverse S (aft M pc (Run d M Q) lv (st.drop n))) : Six d M (.invokestatic ix) 3 Q pc lv st S := Six_of ⟨rfl, Nat.le_of_ble_eq_true hix, Or.inl ⟨M', hq, by rw [hp]; exact ⟨Nat.le_of_ble_eq_true hn, Nat.le_of_ble_eq_true hw, k⟩⟩⟩
theorem S_v0 {ix M' a : Nat} (hix : Nat.blt ix 1000 = true) (hq : cres.lookup (1000 * mOwn M + ix) = some (1, M')) (hp : mPar M' = 0) (hw : Nat.ble (wds st) 8 = true) (hk : sK S a = mOwn M' + 1) (k : Ev d M' [vR (some a)] S (aft M pc (Run d M Q) lv st)) : Six d M (.invokevirtual ix) 3 Q pc lv (vR (some a) :: st) S := Six_of ⟨rfl, Nat.le_of_ble_eq_true hix, Or.inl ⟨M', hq, by rw [hp]; exact ⟨Nat.zero_le _, a, rfl, hk, Nat.le_of_ble_eq_true hw, k⟩⟩⟩
theorem S_v1 {ix M' a : Nat} {x : V_} (hix : Nat.blt ix 1000 = true) (hq : cres.lookup (1000 * mOwn M + ix) = some (1, M')) (hp : mPar M' = 1) (hw : Nat.ble (wds st) 8 = true) (hk : sK S a = mOwn M' + 1) (k : Ev d M' [vR (some a), x] S (aft M pc (Run d M Q) lv st)) : Six d M (.invokevirtual ix) 3 Q pc lv (x :: vR (some a) :: st) S := Six_of ⟨rfl, Nat.le_of_ble_eq_true hix, Or.inl ⟨M', hq, by rw [hp]; exact ⟨by simp, a, rfl, hk, Nat.le_of_ble_eq_true hw, k⟩⟩⟩
theorem S_v2 {ix M' a : Nat} {x y : V_} (hix : Nat.blt ix 1000 = true) (hq : cres.lookup (1000 * mOwn M + ix) = some (1, M')) (hp : mPar M' = 2) (hw : Nat.ble (wds st) 8 = true) (hk : sK S a = mOwn M' + 1) (k : Ev d M' [vR (some a), x, y] S (aft M pc (Run d M Q) lv st)) : Six d M (.invokevirtual ix) 3 Q pc lv (y :: x :: vR (some a) :: st) S := Six_of ⟨rfl, Nat.le_of_ble_eq_true hix, Or.inl ⟨M', hq, by rw [hp]; exact ⟨by simp, a, rfl, hk, Nat.le_of_ble_eq_true hw, k⟩⟩⟩
theorem S_v3 {ix M' a : Nat} {x y z : V_} (hix : Nat.blt ix 1000 = true) (hq : cres.lookup (1000 * mOwn M + ix) = some (1, M')) (hp : mPar M' = 3) (hw : Nat.ble (wds st) 8 = true) (hk : sK S a = mOwn M' + 1) (k : Ev d M' [vR (some a), x, y, z] S (aft M pc (Run d M Q) lv st)) : Six d M (.invokevirtual ix) 3 Q pc lv (z :: y :: x :: vR (some a) :: st) S := Six_of ⟨rfl, Nat.le_of_ble_eq_true hix, Or.inl ⟨M', hq, by rw [hp]; exact ⟨by simp, a, rfl, hk, Nat.le_of_ble_eq_true hw, k⟩⟩⟩
theorem S_v4 {ix M' a : Nat} {x y z u : V_} (hix : Nat.blt ix 1000 = true) (hq : cres.lookup (1000 * mOwn M + ix) = some (1, M')) (hp : mPar M' = 4) (hw : Nat.ble (wds st) 8 = true) (hk : sK S a = mOwn M' + 1) (k : Ev d M' [vR (some a), x, y, z, u] S (aft M pc (Run d M Q) lv st)) : Six d M (.invokevirtual ix) 3 Q pc lv (u :: z :: y :: x :: vR (some a) :: st) S := Six_of ⟨rfl, Nat.le_of_ble_eq_true hix, Or.inl ⟨M', hq, by rw [hp]; exact ⟨by simp, a, rfl, hk, Nat.le_of_ble_eq_true hw, k⟩⟩⟩
theorem S_v5 {ix M' a : Nat} {x y z u v : V_} (hix : Nat.blt ix 1000 = true) (hq : cres.lookup (1000 * mOwn M + ix) = some (1, M')) (hp : mPar M' = 5) (hw : Nat.ble (wds st) 8 = true) (hk : sK S a = mOwn M' + 1) (k : Ev d M' [vR (some a), x, y, z, u, v] S (aft M pc (Run d M Q) lv st)) : Six d M (.invokevirtual ix) 3 Q pc lv (v :: u :: z :: y :: x :: vR (some a) :: st) S := Six_of ⟨rfl, Nat.le_of_ble_eq_true hix, Or.inl ⟨M', hq, by rw [hp]; exact ⟨by simp, a, rfl, hk, Nat.le_of_ble_eq_true hw, k⟩⟩⟩
theorem S_obj {ix a : Nat} (hix : Nat.blt ix 1000 = true) (hq : cres.lookup (1000 * mOwn M + ix) = some (4, 0)) (hw : Nat.ble (wds st) 8 = true) (k : Run d M Q (pc + 3) lv st S) : Six d M (.invokespecial ix) 3 Q pc lv (vR (some a) :: st) S := Six_of ⟨rfl, Nat.le_of_ble_eq_true hix, Or.inr ⟨hq, a, rfl, Nat.le_of_ble_eq_true hw, k⟩⟩
def kd23 (kd : Nat) : Bool := kd == 2 || kd == 3
theorem kd23_el {kd : Nat} (h : kd23 kd = true) : kd = 2 ∨ kd = 3 := by
  unfold kd23 at h
  simp at h
  exact h
theorem S_c0 {ix M' a kd : Nat} (hix : Nat.blt ix 1000 = true) (hq : cres.lookup (1000 * mOwn M + ix) = some (kd, M')) (hkd : kd23 kd = true) (hp : mPar M' = 0) (hw : Nat.ble (wds st) 8 = true) (k : Ev d M' [vR (some a)] S (aft0 pc (Run d M Q) lv st)) : Six d M (.invokespecial ix) 3 Q pc lv (vR (some a) :: st) S := Six_of ⟨rfl, Nat.le_of_ble_eq_true hix, Or.inl ⟨M', kd, hq, kd23_el hkd, by rw [hp]; exact ⟨Nat.zero_le _, a, rfl, Nat.le_of_ble_eq_true hw, k⟩⟩⟩
theorem S_c1 {ix M' a kd : Nat} {x : V_} (hix : Nat.blt ix 1000 = true) (hq : cres.lookup (1000 * mOwn M + ix) = some (kd, M')) (hkd : kd23 kd = true) (hp : mPar M' = 1) (hw : Nat.ble (wds st) 8 = true) (k : Ev d M' [vR (some a), x] S (aft0 pc (Run d M Q) lv st)) : Six d M (.invokespecial ix) 3 Q pc lv (x :: vR (some a) :: st) S := Six_of ⟨rfl, Nat.le_of_ble_eq_true hix, Or.inl ⟨M', kd, hq, kd23_el hkd, by rw [hp]; exact ⟨by simp, a, rfl, Nat.le_of_ble_eq_true hw, k⟩⟩⟩
theorem S_c2 {ix M' a kd : Nat} {x y : V_} (hix : Nat.blt ix 1000 = true) (hq : cres.lookup (1000 * mOwn M + ix) = some (kd, M')) (hkd : kd23 kd = true) (hp : mPar M' = 2) (hw : Nat.ble (wds st) 8 = true) (k : Ev d M' [vR (some a), x, y] S (aft0 pc (Run d M Q) lv st)) : Six d M (.invokespecial ix) 3 Q pc lv (y :: x :: vR (some a) :: st) S := Six_of ⟨rfl, Nat.le_of_ble_eq_true hix, Or.inl ⟨M', kd, hq, kd23_el hkd, by rw [hp]; exact ⟨by simp, a, rfl, Nat.le_of_ble_eq_true hw, k⟩⟩⟩
theorem S_c3 {ix M' a kd : Nat} {x y z : V_} (hix : Nat.blt ix 1000 = true) (hq : cres.lookup (1000 * mOwn M + ix) = some (kd, M')) (hkd : kd23 kd = true) (hp : mPar M' = 3) (hw : Nat.ble (wds st) 8 = true) (k : Ev d M' [vR (some a), x, y, z] S (aft0 pc (Run d M Q) lv st)) : Six d M (.invokespecial ix) 3 Q pc lv (z :: y :: x :: vR (some a) :: st) S := Six_of ⟨rfl, Nat.le_of_ble_eq_true hix, Or.inl ⟨M', kd, hq, kd23_el hkd, by rw [hp]; exact ⟨by simp, a, rfl, Nat.le_of_ble_eq_true hw, k⟩⟩⟩
theorem S_c4 {ix M' a kd : Nat} {x y z u : V_} (hix : Nat.blt ix 1000 = true) (hq : cres.lookup (1000 * mOwn M + ix) = some (kd, M')) (hkd : kd23 kd = true) (hp : mPar M' = 4) (hw : Nat.ble (wds st) 8 = true) (k : Ev d M' [vR (some a), x, y, z, u] S (aft0 pc (Run d M Q) lv st)) : Six d M (.invokespecial ix) 3 Q pc lv (u :: z :: y :: x :: vR (some a) :: st) S := Six_of ⟨rfl, Nat.le_of_ble_eq_true hix, Or.inl ⟨M', kd, hq, kd23_el hkd, by rw [hp]; exact ⟨by simp, a, rfl, Nat.le_of_ble_eq_true hw, k⟩⟩⟩
theorem S_c5 {ix M' a kd : Nat} {x y z u v : V_} (hix : Nat.blt ix 1000 = true) (hq : cres.lookup (1000 * mOwn M + ix) = some (kd, M')) (hkd : kd23 kd = true) (hp : mPar M' = 5) (hw : Nat.ble (wds st) 8 = true) (k : Ev d M' [vR (some a), x, y, z, u, v] S (aft0 pc (Run d M Q) lv st)) : Six d M (.invokespecial ix) 3 Q pc lv (v :: u :: z :: y :: x :: vR (some a) :: st) S := Six_of ⟨rfl, Nat.le_of_ble_eq_true hix, Or.inl ⟨M', kd, hq, kd23_el hkd, by rw [hp]; exact ⟨by simp, a, rfl, Nat.le_of_ble_eq_true hw, k⟩⟩⟩
def isObj (t : Option FieldType) : Bool := match t with
  | some (.object _) => true
  | some (.array _) => true
  | _ => false
theorem isObj_el {t : Option FieldType} (h : isObj t = true) : (∃ n, t = some (.object n)) ∨ ∃ u, t = some (.array u) := by
  unfold isObj at h
  split at h
  · exact Or.inl ⟨_, rfl⟩
  · exact Or.inr ⟨_, rfl⟩
  · cases h
theorem S_ireturn {x : Int32} (hr : (mI M).2.2.2.1 = some .int) (k : Q (.inl (some (vI x))) S) : Six d M .ireturn 1 Q pc lv [vI x] S := Six_of ⟨rfl, rfl, Or.inl hr, k⟩
theorem S_zreturn {x : Int} (hr : (mI M).2.2.2.1 = some .boolean) (hx : x = 0 ∨ x = 1) (k : Q (.inl (some (vI (ji x)))) S) : Six d M .ireturn 1 Q pc lv [vI (ji x)] S := Six_of ⟨rfl, rfl, Or.inr ⟨hr, hx.elim (fun z => Or.inl (by rw [z]; rfl)) (fun z => Or.inr (by rw [z]; rfl))⟩, k⟩
theorem S_areturn {x : Option Nat} (hr : isObj (mI M).2.2.2.1 = true) (k : Q (.inl (some (vR x))) S) : Six d M .areturn 1 Q pc lv [vR x] S := Six_of ⟨rfl, rfl, isObj_el hr, k⟩
theorem S_return (hr : (mI M).2.2.2.1 = none) (k : Q (.inl none) S) : Six d M .return_ 1 Q pc lv [] S := Six_of ⟨rfl, rfl, hr, k⟩
theorem aft_v {v : V_} (k : Run d M Q (pc + 3) lv (v :: st) S) : aft M pc (Run d M Q) lv st (.inl (some v)) S := k
theorem aft_n (k : Run d M Q (pc + 3) lv st S) : aft M pc (Run d M Q) lv st (.inl none) S := k
theorem aft0_n (k : Run d M Q (pc + 3) lv st S) : aft0 pc (Run d M Q) lv st (.inl none) S := k
theorem aft_x {E : String} (t : Nat) (h : hdl M pc E = some t) (k : ∀ q, Run d M Q t lv [vR (some q)] S) : aft M pc (Run d M Q) lv st (.inr E) S := ⟨t, h, k⟩
end SR
/-- from the end downward -/
theorem dnw (P : Nat → Prop) (n : Nat) (h0 : P n) (hs : ∀ i, i < n → P (i + 1) → P i) : ∀ i, i ≤ n → P i := by
  have key : ∀ k, k ≤ n → P (n - k) := by
    intro k
    induction k with
    | zero => intro _; exact h0
    | succ k ih =>
      intro hk
      have e : n - (k + 1) + 1 = n - k := by omega
      exact hs _ (by omega) (by rw [e]; exact ih (by omega))
  intro i hi
  have e : n - (n - i) = i := by omega
  rw [← e]
  exact key _ (by omega)
