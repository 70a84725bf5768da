/-! THE REFERENCE'S OBJECT: its numbers as one function of field and place. -/
abbrev Mu : Type := Nat → Nat → Int
def mup (μ : Mu) (f i : Nat) (v : Int) : Mu := fun g j => if g = f ∧ j = i then v else μ g j
/-- the number that an int of 32 bits keeps of it -/
def wr (e : Int) : Int := (ji e).toInt
theorem wr_bd (e : Int) : bd (wr e) := bd_toInt _
theorem wr_id {e : Int} (h : bd e) : wr e = e := ji_toInt h
theorem ji_wr (e : Int) : ji (wr e) = ji e := (ji_of (ji e)).symm
/-- the quotient of ints -/
def dv (a b : Int) : Int := (ji a / ji b).toInt
theorem ji_dv (a b : Int) : ji a / ji b = ji (dv a b) := ji_of _
theorem dv_bd (a b : Int) : bd (dv a b) := bd_toInt _
def lnM : List Nat := [0, 0, 50, 50, 50, 50, 5, 12, 6, 6, 0, 0, 0, 40, 40, 40, 40, 40, 40, 40, 40, 40, 40, 40, 40, 20, 20]
def kdM (f : Nat) : Nat := if f = 5 ∨ f = 6 then 22 else 21
def RM (m : Nat) (A : Nat → Nat) (μ : Mu) (S : St) : Prop := sK S m = 10 ∧
  (∀ f, f < 32 → isRf 9 f = true → sP S (360 + f) m = some (A f) ∧ sK S (A f) = kdM f ∧ sN S (A f) = lnM.getD f 0 ∧ ∀ i, i < lnM.getD f 0 → sA S (A f) i = ji (μ f i)) ∧
  (∀ f, f < 32 → isRf 9 f = false → sI S (360 + f) m = ji (μ f 0)) ∧
  (∀ f g, f < 32 → g < 32 → isRf 9 f = true → isRf 9 g = true → A f = A g → f = g) ∧ ∀ f i, bd (μ f i)
def FM (S0 S : St) : Prop := sK S = sK S0 ∧ sP S = sP S0 ∧ sN S = sN S0 ∧ sR S = sR S0 ∧ sW S = sW S0 ∧ (∀ f a, f < 360 → sI S f a = sI S0 f a) ∧ sk S = sk S0 ∧ sn S = sn S0 ∧ se S = se S0 ∧ sm S = sm S0
theorem FM.rf (S : St) : FM S S := ⟨rfl, rfl, rfl, rfl, rfl, fun _ _ _ => rfl, rfl, rfl, rfl, rfl⟩
section MR
variable {m : Nat} {A : Nat → Nat} {μ : Mu} {S S0 : St}
theorem RM_bd (h : RM m A μ S) (f i : Nat) : bd (μ f i) := h.2.2.2.2 f i
theorem RM_b1 (h : RM m A μ S) (f i : Nat) : -2147483648 ≤ μ f i ∧ μ f i < 2147483648 := h.2.2.2.2 f i
theorem mup_eq (μ : Mu) (f i : Nat) (v : Int) : mup μ f i v f i = v := if_pos ⟨rfl, rfl⟩
theorem mup_bd {f i : Nat} {v : Int} (h : ∀ f i, bd (μ f i)) (hv : bd v) : ∀ g j, bd (mup μ f i v g j) := by
  intro g j
  unfold mup
  split
  · exact hv
  · exact h g j
theorem RM_setI {f : Nat} {e : Int} (h : RM m A μ S) (hf : f < 32) (hr : isRf 9 f = false) : RM m A (mup μ f 0 (wr e)) (setI S (360 + f) m (ji e)) := by
  refine ⟨h.1, fun g hg hq => ?_, fun g hg hq => ?_, h.2.2.2.1, mup_bd h.2.2.2.2 (wr_bd e)⟩
  · obtain ⟨a1, a2, a3, a4⟩ := h.2.1 g hg hq
    refine ⟨a1, a2, a3, fun i hi => ?_⟩
    rw [show mup μ f 0 (wr e) g i = μ g i from if_neg (fun z => by rw [z.1, hr] at hq; cases hq)]
    exact a4 i hi
  · by_cases hgf : g = f
    · rw [hgf, mup_eq, ji_wr]
      exact if_pos ⟨rfl, rfl⟩
    · rw [show mup μ f 0 (wr e) g 0 = μ g 0 from if_neg (fun z => hgf z.1)]
      refine Eq.trans (if_neg (fun z => ?_)) (h.2.2.1 g hg hq)
      have := z.1
      omega
theorem RM_setA {f i : Nat} {e : Int} (h : RM m A μ S) (hf : f < 32) (hr : isRf 9 f = true) : RM m A (mup μ f i (wr e)) (setA S (A f) i (ji e)) := by
  refine ⟨h.1, fun g hg hq => ?_, fun g hg hq => ?_, h.2.2.2.1, mup_bd h.2.2.2.2 (wr_bd e)⟩
  · obtain ⟨a1, a2, a3, a4⟩ := h.2.1 g hg hq
    refine ⟨a1, a2, a3, fun j hj => ?_⟩
    show (if A g = A f ∧ j = i then ji e else sA S (A g) j) = _
    unfold mup
    by_cases hc : g = f ∧ j = i
    · rw [if_pos hc, if_pos ⟨by rw [hc.1], hc.2⟩, ji_wr]
    · rw [if_neg hc, if_neg (fun z => hc ⟨h.2.2.2.1 g f hg hf hq hr z.1, z.2⟩)]
      exact a4 j hj
  · rw [show mup μ f i (wr e) g 0 = μ g 0 from if_neg (fun z => by rw [z.1, hr] at hq; cases hq)]
    exact h.2.2.1 g hg hq
theorem FM_setI {f a : Nat} {x : Int32} (h : FM S0 S) (hf : 360 ≤ f) : FM S0 (setI S f a x) := by
  obtain ⟨a1, a2, a3, a4, a5, a6, a7, a8, a9, a10⟩ := h
  refine ⟨a1, a2, a3, a4, a5, fun g b hg => ?_, a7, a8, a9, a10⟩
  exact Eq.trans (if_neg (fun z => by have := z.1; omega)) (a6 g b hg)
theorem FM_setA {a i : Nat} {x : Int32} (h : FM S0 S) : FM S0 (setA S a i x) := h
end MR
section TR
variable {d M : Nat} {Q : Rs → St → Prop} {pc : Nat} {lv : List (Option V_)} {st : List V_} {S S0 : St} {m : Nat} {A : Nat → Nat} {μ : Mu}
theorem T_getA {ix f : Nat} (hR : RM m A μ S) (hix : Nat.blt ix 1000 = true) (hf : fres.lookup (1000 * mOwn M + ix) = some (9, f)) (hr : isRf 9 f = true) (hl : Nat.blt f 32 = true) (k : Run d M Q (pc + 3) lv (vR (some (A f)) :: st) S) : Six d M (.getfield ix) 3 Q pc lv (vR (some m) :: st) S := S_getR hix hf hr hR.1 (hR.2.1 f (Nat.le_of_ble_eq_true hl) hr).1 k
theorem T_getI {ix f : Nat} (hR : RM m A μ S) (hix : Nat.blt ix 1000 = true) (hf : fres.lookup (1000 * mOwn M + ix) = some (9, f)) (hr : isRf 9 f = false) (hl : Nat.blt f 32 = true) (k : Run d M Q (pc + 3) lv (vI (ji (μ f 0)) :: st) S) : Six d M (.getfield ix) 3 Q pc lv (vR (some m) :: st) S := S_getI hix hf hr hR.1 (hR.2.2.1 f (Nat.le_of_ble_eq_true hl) hr) k
theorem kdM21 {f : Nat} (h : Nat.beq (kdM f) 21 = true) : kdM f = 21 := Nat.eq_of_beq_eq_true h
theorem T_ild {f n : Nat} (hR : RM m A μ S) (hr : isRf 9 f = true) (hl : Nat.blt f 32 = true) (hk : Nat.beq (kdM f) 21 = true) (hn : n < lnM.getD f 0) (k : Run d M Q (pc + 1) lv (vI (ji (μ f n)) :: st) S) : Six d M .iaload 1 Q pc lv (vI (ji (n : Int)) :: vR (some (A f)) :: st) S := by
  obtain ⟨a1, a2, a3, a4⟩ := hR.2.1 f (Nat.le_of_ble_eq_true hl) hr
  have hb : lnM.getD f 0 ≤ 50 := by
    have hf := Nat.le_of_ble_eq_true hl
    revert hf
    have : ∀ f, f < 32 → lnM.getD f 0 ≤ 50 := by decide
    exact this f
  exact S_iaload (a2.trans (kdM21 hk)) a3 (by omega) (by omega) ⟨by omega, by omega⟩ (a4 n hn) k
theorem T_ildI {f : Nat} {i : Int} (hR : RM m A μ S) (hr : isRf 9 f = true) (hl : Nat.blt f 32 = true) (hk : Nat.beq (kdM f) 21 = true) (h0 : 0 ≤ i) (hn : i < (lnM.getD f 0 : Nat)) (k : Run d M Q (pc + 1) lv (vI (ji (μ f i.toNat)) :: st) S) : Six d M .iaload 1 Q pc lv (vI (ji i) :: vR (some (A f)) :: st) S := by
  have e : i = (i.toNat : Int) := (Int.toNat_of_nonneg h0).symm
  rw [e]
  exact T_ild hR hr hl hk (by omega) k
theorem T_bldI {f : Nat} {i : Int} (hR : RM m A μ S) (hr : isRf 9 f = true) (hl : Nat.blt f 32 = true) (hk : Nat.beq (kdM f) 22 = true) (h0 : 0 ≤ i) (hn : i < (lnM.getD f 0 : Nat)) (k : Run d M Q (pc + 1) lv (vI (ji (μ f i.toNat)) :: st) S) : Six d M .baload 1 Q pc lv (vI (ji i) :: vR (some (A f)) :: st) S := by
  obtain ⟨a1, a2, a3, a4⟩ := hR.2.1 f (Nat.le_of_ble_eq_true hl) hr
  have hb : lnM.getD f 0 ≤ 50 := by
    have hf := Nat.le_of_ble_eq_true hl
    revert hf
    have : ∀ f, f < 32 → lnM.getD f 0 ≤ 50 := by decide
    exact this f
  exact S_baload (a2.trans (Nat.eq_of_beq_eq_true hk)) a3 h0 hn ⟨by omega, by omega⟩ (a4 _ (by omega)) k
theorem T_bld {f n : Nat} (hR : RM m A μ S) (hr : isRf 9 f = true) (hl : Nat.blt f 32 = true) (hk : Nat.beq (kdM f) 22 = true) (hn : n < lnM.getD f 0) (k : Run d M Q (pc + 1) lv (vI (ji (μ f n)) :: st) S) : Six d M .baload 1 Q pc lv (vI (ji (n : Int)) :: vR (some (A f)) :: st) S := T_bldI hR hr hl hk (by omega) (by omega) k
theorem T_istI {f : Nat} {i e : Int} (hR : RM m A μ S) (hF : FM S0 S) (hr : isRf 9 f = true) (hl : Nat.blt f 32 = true) (hk : Nat.beq (kdM f) 21 = true) (h0 : 0 ≤ i) (hn : i < (lnM.getD f 0 : Nat)) (k : ∀ S, RM m A (mup μ f i.toNat (wr e)) S → FM S0 S → Run d M Q (pc + 1) lv st S) : Six d M .iastore 1 Q pc lv (vI (ji e) :: vI (ji i) :: vR (some (A f)) :: st) S := by
  obtain ⟨a1, a2, a3, a4⟩ := hR.2.1 f (Nat.le_of_ble_eq_true hl) hr
  have hb : lnM.getD f 0 ≤ 50 := by
    have hf := Nat.le_of_ble_eq_true hl
    revert hf
    have : ∀ f, f < 32 → lnM.getD f 0 ≤ 50 := by decide
    exact this f
  exact S_iastore (a2.trans (Nat.eq_of_beq_eq_true hk)) a3 h0 hn ⟨by omega, by omega⟩ (k _ (RM_setA hR (Nat.le_of_ble_eq_true hl) hr) (FM_setA hF))
theorem T_ist {f n : Nat} {e : Int} (hR : RM m A μ S) (hF : FM S0 S) (hr : isRf 9 f = true) (hl : Nat.blt f 32 = true) (hk : Nat.beq (kdM f) 21 = true) (hn : n < lnM.getD f 0) (k : ∀ S, RM m A (mup μ f n (wr e)) S → FM S0 S → Run d M Q (pc + 1) lv st S) : Six d M .iastore 1 Q pc lv (vI (ji e) :: vI (ji (n : Int)) :: vR (some (A f)) :: st) S := T_istI hR hF hr hl hk (by omega) (by omega) k
theorem T_bstI {f : Nat} {i e : Int} (hR : RM m A μ S) (hF : FM S0 S) (hr : isRf 9 f = true) (hl : Nat.blt f 32 = true) (hk : Nat.beq (kdM f) 22 = true) (h0 : 0 ≤ i) (hn : i < (lnM.getD f 0 : Nat)) (he : e = 0 ∨ e = 1) (k : ∀ S, RM m A (mup μ f i.toNat (wr e)) S → FM S0 S → Run d M Q (pc + 1) lv st S) : Six d M .bastore 1 Q pc lv (vI (ji e) :: vI (ji i) :: vR (some (A f)) :: st) S := by
  obtain ⟨a1, a2, a3, a4⟩ := hR.2.1 f (Nat.le_of_ble_eq_true hl) hr
  have hb : lnM.getD f 0 ≤ 50 := by
    have hf := Nat.le_of_ble_eq_true hl
    revert hf
    have : ∀ f, f < 32 → lnM.getD f 0 ≤ 50 := by decide
    exact this f
  exact S_bastore (a2.trans (Nat.eq_of_beq_eq_true hk)) a3 h0 hn ⟨by omega, by omega⟩ he (k _ (RM_setA hR (Nat.le_of_ble_eq_true hl) hr) (FM_setA hF))
theorem T_putI {ix f : Nat} {e : Int} (hR : RM m A μ S) (hF : FM S0 S) (hix : Nat.blt ix 1000 = true) (hf : fres.lookup (1000 * mOwn M + ix) = some (9, f)) (hr : isRf 9 f = false) (hz : isZf 9 f = false) (hl : Nat.blt f 32 = true) (ho : finOk M 9 f = true) (k : ∀ S, RM m A (mup μ f 0 (wr e)) S → FM S0 S → Run d M Q (pc + 3) lv st S) : Six d M (.putfield ix) 3 Q pc lv (vI (ji e) :: vR (some m) :: st) S := S_putI hix hf hr hz ho hR.1 (k _ (RM_setI hR (Nat.le_of_ble_eq_true hl) hr) (FM_setI hF (by omega)))
theorem T_putZ {ix f : Nat} {e : Int} (hR : RM m A μ S) (hF : FM S0 S) (hix : Nat.blt ix 1000 = true) (hf : fres.lookup (1000 * mOwn M + ix) = some (9, f)) (hr : isRf 9 f = false) (hl : Nat.blt f 32 = true) (ho : finOk M 9 f = true) (he : e = 0 ∨ e = 1) (k : ∀ S, RM m A (mup μ f 0 (wr e)) S → FM S0 S → Run d M Q (pc + 3) lv st S) : Six d M (.putfield ix) 3 Q pc lv (vI (ji e) :: vR (some m) :: st) S := S_putZ hix hf hr ho hR.1 he (k _ (RM_setI hR (Nat.le_of_ble_eq_true hl) hr) (FM_setI hF (by omega)))
theorem S_idvG {a b : Int} (h : ¬ b = 0) (hb : bd b) (k : Run d M Q (pc + 1) lv (vI (ji (dv a b)) :: st) S) : Six d M .idiv 1 Q pc lv (vI (ji b) :: vI (ji a) :: st) S := Six_of ⟨rfl, ji_ne0 hb h, by rw [← ji_dv] at k; exact k⟩
end TR
