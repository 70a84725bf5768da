/-! THE CLASS'S OBJECTS: number i of class c lies at G c i, if it is there (L c i); field F = 40 * class + field holds ν F i; a reference is kept as the number of its object, -1 for null. Rows of references: kinds 24 to 27, their contents in the fields 524 to 527 of ν. -/
abbrev Ga : Type := Nat → Nat → Nat
abbrev Lv : Type := Nat → Nat → Prop
def kO (c : Nat) : Nat := if Nat.blt c 20 then c + 1 else c
def tgL : List (Nat × Nat) := [(41, 3), (42, 3), (81, 4), (82, 4), (87, 3), (88, 1), (89, 1), (90, 1), (91, 5), (120, 7), (122, 3), (161, 3), (200, 2), (201, 3), (202, 3), (203, 3), (241, 1), (242, 1), (281, 25), (282, 0), (283, 5), (320, 27), (321, 26), (322, 24), (323, 0), (324, 6)]
def tgt (F : Nat) : Nat := (tgL.lookup F).getD 99
def aln (c : Nat) : Nat := [6, 10, 12, 5].getD (c - 24) 0
def atg (c : Nat) : Nat := [1, 3, 4, 7].getD (c - 24) 0
def rf (G : Ga) (c : Nat) (x : Int) : Option Nat := if x < 0 then none else some (G c x.toNat)
theorem rf_n (G : Ga) (c j : Nat) : rf G c (j : Int) = some (G c j) := by
  unfold rf
  rw [if_neg (by omega), Int.toNat_natCast]
theorem rf_s {G : Ga} {c : Nat} {x : Int} (h : 0 ≤ x) : rf G c x = some (G c x.toNat) := by
  unfold rf
  rw [if_neg (by omega)]
theorem rf_m (G : Ga) (c : Nat) {x : Int} (h : x < 0) : rf G c x = none := if_pos h
def RC (G : Ga) (L : Lv) (ν : Mu) (S : St) : Prop := (∀ c i, L c i → sK S (G c i) = kO c) ∧ (∀ c i j, L c i → L c j → G c i = G c j → i = j) ∧
  (∀ c f i, 1 ≤ c → c < 9 → f < 40 → L c i → isRf c f = false → sI S (40 * c + f) (G c i) = ji (ν (40 * c + f) i)) ∧
  (∀ c f i, 1 ≤ c → c < 9 → f < 40 → L c i → isRf c f = true → sP S (40 * c + f) (G c i) = rf G (tgt (40 * c + f)) (ν (40 * c + f) i)) ∧
  (∀ c i, 24 ≤ c → c ≤ 27 → L c i → sN S (G c i) = aln c ∧ ∀ p, p < aln c → sR S (G c i) p = rf G (atg c) (ν (500 + c) (aln c * i + p))) ∧ ∀ f i, bd (ν f i)
/-- only fields of the class's objects have changed -/
def FQ (S0 S : St) : Prop := sK S = sK S0 ∧ sN S = sN S0 ∧ sA S = sA S0 ∧ sW S = sW S0 ∧ sR S = sR S0 ∧ (∀ f a, f < 40 ∨ 360 ≤ f → sI S f a = sI S0 f a ∧ sP S f a = sP S0 f a) ∧ sk S = sk S0 ∧ sn S = sn S0 ∧ se S = se S0 ∧ sm S = sm S0
theorem FQ.rf (S : St) : FQ S S := ⟨rfl, rfl, rfl, rfl, rfl, fun _ _ _ => ⟨rfl, rfl⟩, rfl, rfl, rfl, rfl⟩
theorem FQ_tr {S0 S1 S2 : St} (h : FQ S0 S1) (h' : FQ S1 S2) : FQ S0 S2 := by
  obtain ⟨a1, a2, a3, a4, a5, a6, a7, a8, a9, a10⟩ := h
  obtain ⟨b1, b2, b3, b4, b5, b6, b7, b8, b9, b10⟩ := h'
  exact ⟨b1.trans a1, b2.trans a2, b3.trans a3, b4.trans a4, b5.trans a5, fun f a hf => ⟨(b6 f a hf).1.trans (a6 f a hf).1, (b6 f a hf).2.trans (a6 f a hf).2⟩, b7.trans a7, b8.trans a8, b9.trans a9, b10.trans a10⟩
section CR
variable {d M : Nat} {Q : Rs → St → Prop} {pc : Nat} {lv : List (Option V_)} {st : List V_} {S S0 : St} {G : Ga} {L : Lv} {ν : Mu}
theorem RC_k {c i : Nat} (hC : RC G L ν S) (hL : L c i) : sK S (G c i) = kO c := hC.1 c i hL
theorem RC_ne {c i j : Nat} (hC : RC G L ν S) (hi : L c i) (hj : L c j) (h : ¬ i = j) : ¬ some (G c i) = some (G c j) := fun z => h (hC.2.1 c i j hi hj (Option.some.inj z))
theorem bN (hC : RC G L ν S) (f i : Nat) : bd (ν f i) := hC.2.2.2.2.2 f i
theorem bNo (hC : RC G L ν S) (f i : Nat) : -2147483648 ≤ ν f i ∧ ν f i < 2147483648 := hC.2.2.2.2.2 f i
theorem kO_inj {c c' : Nat} (h1 : c < 9) (h2 : c' < 9) (h : kO c = kO c') : c = c' := by
  have e : ∀ c, c < 9 → kO c = c + 1 := by decide
  rw [e c h1, e c' h2] at h
  omega
theorem RC_setI {c f i : Nat} {e : Int} (hC : RC G L ν S) (h1 : 1 ≤ c) (h2 : c < 9) (hf : f < 40) (hL : L c i) (hr : isRf c f = false) : RC G L (mup ν (40 * c + f) i (wr e)) (setI S (40 * c + f) (G c i) (ji e)) := by
  obtain ⟨a1, a2, a3, a4, a5, a6⟩ := hC
  refine ⟨a1, a2, fun c' f' j b1 b2 b3 b4 b5 => ?_, fun c' f' j b1 b2 b3 b4 b5 => ?_, fun c' j b1 b2 b3 => ⟨(a5 c' j b1 b2 b3).1, fun p hp => ?_⟩, mup_bd a6 (wr_bd e)⟩
  · by_cases hq : 40 * c' + f' = 40 * c + f ∧ j = i
    · have e1 : c' = c := by omega
      have e2 : f' = f := by omega
      rw [e1, e2, hq.2, mup_eq, ji_wr]
      exact if_pos ⟨rfl, rfl⟩
    · rw [mup_ne hq]
      refine Eq.trans (if_neg (fun z => hq ⟨z.1, ?_⟩)) (a3 c' f' j b1 b2 b3 b4 b5)
      have e1 : c' = c := by have := z.1; omega
      have z2 := z.2
      rw [e1] at z2 b4
      exact a2 c j i b4 hL z2
  · rw [mup_ne (fun z => by
      have e1 : c' = c := by have := z.1; omega
      have e2 : f' = f := by have := z.1; omega
      rw [e1, e2, hr] at b5
      cases b5)]
    exact a4 c' f' j b1 b2 b3 b4 b5
  · rw [mup_ne (by omega)]
    exact (a5 c' j b1 b2 b3).2 p hp
theorem RC_setP {c f i : Nat} {y : Int} (hC : RC G L ν S) (h1 : 1 ≤ c) (h2 : c < 9) (hf : f < 40) (hL : L c i) (hr : isRf c f = true) (hy : bd y) : RC G L (mup ν (40 * c + f) i y) (setP S (40 * c + f) (G c i) (rf G (tgt (40 * c + f)) y)) := by
  obtain ⟨a1, a2, a3, a4, a5, a6⟩ := hC
  refine ⟨a1, a2, fun c' f' j b1 b2 b3 b4 b5 => ?_, fun c' f' j b1 b2 b3 b4 b5 => ?_, fun c' j b1 b2 b3 => ⟨(a5 c' j b1 b2 b3).1, fun p hp => ?_⟩, mup_bd a6 hy⟩
  · rw [mup_ne (fun z => by
      have e1 : c' = c := by have := z.1; omega
      have e2 : f' = f := by have := z.1; omega
      rw [e1, e2, hr] at b5
      cases b5)]
    exact a3 c' f' j b1 b2 b3 b4 b5
  · by_cases hq : 40 * c' + f' = 40 * c + f ∧ j = i
    · have e1 : c' = c := by omega
      have e2 : f' = f := by omega
      rw [e1, e2, hq.2, mup_eq]
      exact if_pos ⟨rfl, rfl⟩
    · rw [mup_ne hq]
      refine Eq.trans (if_neg (fun z => hq ⟨z.1, ?_⟩)) (a4 c' f' j b1 b2 b3 b4 b5)
      have e1 : c' = c := by have := z.1; omega
      have z2 := z.2
      rw [e1] at z2 b4
      exact a2 c j i b4 hL z2
  · rw [mup_ne (by omega)]
    exact (a5 c' j b1 b2 b3).2 p hp
theorem FQ_setI {c f a : Nat} {x : Int32} (h : FQ S0 S) (h1 : 1 ≤ c) (h2 : c < 9) (hf : f < 40) : FQ S0 (setI S (40 * c + f) a x) := by
  obtain ⟨a1, a2, a3, a4, a5, a6, a7, a8, a9, a10⟩ := h
  refine ⟨a1, a2, a3, a4, a5, fun g b hg => ⟨?_, (a6 g b hg).2⟩, a7, a8, a9, a10⟩
  exact Eq.trans (if_neg (fun z => by have := z.1; omega)) (a6 g b hg).1
theorem FQ_setP {c f a : Nat} {x : Option Nat} (h : FQ S0 S) (h1 : 1 ≤ c) (h2 : c < 9) (hf : f < 40) : FQ S0 (setP S (40 * c + f) a x) := by
  obtain ⟨a1, a2, a3, a4, a5, a6, a7, a8, a9, a10⟩ := h
  refine ⟨a1, a2, a3, a4, a5, fun g b hg => ⟨(a6 g b hg).1, ?_⟩, a7, a8, a9, a10⟩
  exact Eq.trans (if_neg (fun z => by have := z.1; omega)) (a6 g b hg).2
def okF (c f : Nat) : Bool := Nat.ble 1 c && Nat.blt c 9 && Nat.blt f 40
theorem okF_el {c f : Nat} (h : okF c f = true) : 1 ≤ c ∧ c < 9 ∧ f < 40 := by
  unfold okF at h
  simp at h
  omega
theorem kO_9 {c f : Nat} (h : okF c f = true) : kO c = c + 1 := by
  have e : ∀ c, c < 9 → kO c = c + 1 := by decide
  exact e c (okF_el h).2.1
theorem C_getI {ix c f i : Nat} (hC : RC G L ν S) (hix : Nat.blt ix 1000 = true) (hf : fres.lookup (1000 * mOwn M + ix) = some (c, f)) (hr : isRf c f = false) (ho : okF c f = true) (hL : L c i) (k : Run d M Q (pc + 3) lv (vI (ji (ν (40 * c + f) i)) :: st) S) : Six d M (.getfield ix) 3 Q pc lv (vR (some (G c i)) :: st) S := S_getI hix hf hr ((RC_k hC hL).trans (kO_9 ho)) (hC.2.2.1 c f i (okF_el ho).1 (okF_el ho).2.1 (okF_el ho).2.2 hL hr) k
theorem C_getR {ix c f i : Nat} {v : Option Nat} (hC : RC G L ν S) (hix : Nat.blt ix 1000 = true) (hf : fres.lookup (1000 * mOwn M + ix) = some (c, f)) (hr : isRf c f = true) (ho : okF c f = true) (hL : L c i) (hv : rf G (tgt (40 * c + f)) (ν (40 * c + f) i) = v) (k : Run d M Q (pc + 3) lv (vR v :: st) S) : Six d M (.getfield ix) 3 Q pc lv (vR (some (G c i)) :: st) S := S_getR hix hf hr ((RC_k hC hL).trans (kO_9 ho)) ((hC.2.2.2.1 c f i (okF_el ho).1 (okF_el ho).2.1 (okF_el ho).2.2 hL hr).trans hv) k

theorem C_putI {ix c f i : Nat} {e : Int} (he : bd e) (hC : RC G L ν S) (hF : FQ S0 S) (hix : Nat.blt ix 1000 = true) (hf : fres.lookup (1000 * mOwn M + ix) = some (c, f)) (hr : isRf c f = false) (hz : isZf c f = false) (ho : okF c f = true) (hfi : finOk M c f = true) (hL : L c i) (k : ∀ S, RC G L (mup ν (40 * c + f) i e) S → FQ S0 S → Run d M Q (pc + 3) lv st S) : Six d M (.putfield ix) 3 Q pc lv (vI (ji e) :: vR (some (G c i)) :: st) S := S_putI hix hf hr hz hfi ((RC_k hC hL).trans (kO_9 ho)) (k _ (by have h9 := RC_setI (e := e) hC (okF_el ho).1 (okF_el ho).2.1 (okF_el ho).2.2 hL hr; rw [wr_id he] at h9; exact h9) (FQ_setI hF (okF_el ho).1 (okF_el ho).2.1 (okF_el ho).2.2))
theorem C_putW {ix c f i : Nat} {e : Int} (hC : RC G L ν S) (hF : FQ S0 S) (hix : Nat.blt ix 1000 = true) (hf : fres.lookup (1000 * mOwn M + ix) = some (c, f)) (hr : isRf c f = false) (hz : isZf c f = false) (ho : okF c f = true) (hfi : finOk M c f = true) (hL : L c i) (k : ∀ S, RC G L (mup ν (40 * c + f) i (wr e)) S → FQ S0 S → Run d M Q (pc + 3) lv st S) : Six d M (.putfield ix) 3 Q pc lv (vI (ji e) :: vR (some (G c i)) :: st) S := S_putI hix hf hr hz hfi ((RC_k hC hL).trans (kO_9 ho)) (k _ (RC_setI hC (okF_el ho).1 (okF_el ho).2.1 (okF_el ho).2.2 hL hr) (FQ_setI hF (okF_el ho).1 (okF_el ho).2.1 (okF_el ho).2.2))
theorem C_putZ {ix c f i : Nat} {e : Int} (hez : e = 0 ∨ e = 1) (hC : RC G L ν S) (hF : FQ S0 S) (hix : Nat.blt ix 1000 = true) (hf : fres.lookup (1000 * mOwn M + ix) = some (c, f)) (hr : isRf c f = false) (ho : okF c f = true) (hfi : finOk M c f = true) (hL : L c i) (k : ∀ S, RC G L (mup ν (40 * c + f) i e) S → FQ S0 S → Run d M Q (pc + 3) lv st S) : Six d M (.putfield ix) 3 Q pc lv (vI (ji e) :: vR (some (G c i)) :: st) S := S_putZ hix hf hr hfi ((RC_k hC hL).trans (kO_9 ho)) hez (k _ (by have h9 := RC_setI (e := e) hC (okF_el ho).1 (okF_el ho).2.1 (okF_el ho).2.2 hL hr; rw [wr_id (⟨by omega, by omega⟩ : bd e)] at h9; exact h9) (FQ_setI hF (okF_el ho).1 (okF_el ho).2.1 (okF_el ho).2.2))
theorem C_putN {ix c f i : Nat}  (hC : RC G L ν S) (hF : FQ S0 S) (hix : Nat.blt ix 1000 = true) (hf : fres.lookup (1000 * mOwn M + ix) = some (c, f)) (hr : isRf c f = true) (ho : okF c f = true) (hfi : finOk M c f = true) (hL : L c i) (k : ∀ S, RC G L (mup ν (40 * c + f) i (-1)) S → FQ S0 S → Run d M Q (pc + 3) lv st S) : Six d M (.putfield ix) 3 Q pc lv (vR none :: vR (some (G c i)) :: st) S := S_putR hix hf hr hfi ((RC_k hC hL).trans (kO_9 ho)) (k _ (RC_setP hC (okF_el ho).1 (okF_el ho).2.1 (okF_el ho).2.2 hL hr ⟨by omega, by omega⟩) (FQ_setP hF (okF_el ho).1 (okF_el ho).2.1 (okF_el ho).2.2))
theorem C_putS {ix c f i : Nat} {c2 j : Nat} (hj : (j : Int) < 100000) (hC : RC G L ν S) (hF : FQ S0 S) (hix : Nat.blt ix 1000 = true) (hf : fres.lookup (1000 * mOwn M + ix) = some (c, f)) (hr : isRf c f = true) (ht : tgt (40 * c + f) = c2) (ho : okF c f = true) (hfi : finOk M c f = true) (hL : L c i) (k : ∀ S, RC G L (mup ν (40 * c + f) i (j : Int)) S → FQ S0 S → Run d M Q (pc + 3) lv st S) : Six d M (.putfield ix) 3 Q pc lv (vR (some (G c2 j)) :: vR (some (G c i)) :: st) S := S_putR hix hf hr hfi ((RC_k hC hL).trans (kO_9 ho)) (k _ (by have h9 := RC_setP (y := (j : Int)) hC (okF_el ho).1 (okF_el ho).2.1 (okF_el ho).2.2 hL hr ⟨by omega, by omega⟩; rw [ht, rf_n] at h9; exact h9) (FQ_setP hF (okF_el ho).1 (okF_el ho).2.1 (okF_el ho).2.2))
theorem C_putR {ix c f i : Nat} {c2 : Nat} {y : Int} (hy : bd y) (hC : RC G L ν S) (hF : FQ S0 S) (hix : Nat.blt ix 1000 = true) (hf : fres.lookup (1000 * mOwn M + ix) = some (c, f)) (hr : isRf c f = true) (ht : tgt (40 * c + f) = c2) (ho : okF c f = true) (hfi : finOk M c f = true) (hL : L c i) (k : ∀ S, RC G L (mup ν (40 * c + f) i y) S → FQ S0 S → Run d M Q (pc + 3) lv st S) : Six d M (.putfield ix) 3 Q pc lv (vR (rf G c2 y) :: vR (some (G c i)) :: st) S := S_putR hix hf hr hfi ((RC_k hC hL).trans (kO_9 ho)) (k _ (by have h9 := RC_setP (y := y) hC (okF_el ho).1 (okF_el ho).2.1 (okF_el ho).2.2 hL hr hy; rw [ht] at h9; exact h9) (FQ_setP hF (okF_el ho).1 (okF_el ho).2.1 (okF_el ho).2.2))
def okR (c : Nat) : Bool := Nat.ble 24 c && Nat.ble c 27
theorem okR_el {c : Nat} (h : okR c = true) : 24 ≤ c ∧ c ≤ 27 := by
  unfold okR at h
  simp at h
  omega
theorem kO_r {c : Nat} (h : okR c = true) : kO c = c := by
  have e : ∀ c, c < 28 → 24 ≤ c → kO c = c := by decide
  exact e c (by have := okR_el h; omega) (okR_el h).1
theorem aln_12 {c : Nat} (h : okR c = true) : aln c ≤ 12 := by
  have e : ∀ c, c < 28 → 24 ≤ c → aln c ≤ 12 := by decide
  exact e c (by have := okR_el h; omega) (okR_el h).1
theorem C_aaldI {c i : Nat} {x : Int} {v : Option Nat} (hC : RC G L ν S) (ho : okR c = true) (hL : L c i) (h0 : 0 ≤ x) (h1 : x < (aln c : Nat)) (hv : rf G (atg c) (ν (500 + c) (aln c * i + x.toNat)) = v) (k : Run d M Q (pc + 1) lv (vR v :: st) S) : Six d M .aaload 1 Q pc lv (vI (ji x) :: vR (some (G c i)) :: st) S := by
  have h := hC.2.2.2.2.1 c i (okR_el ho).1 (okR_el ho).2 hL
  have h12 := aln_12 ho
  exact S_aaload (by rw [RC_k hC hL, kO_r ho]; exact (okR_el ho).1) h.1 h0 h1 ⟨by omega, by omega⟩ ((h.2 x.toNat (by omega)).trans hv) k
theorem C_aald {c i p : Nat} {v : Option Nat} (hC : RC G L ν S) (ho : okR c = true) (hL : L c i) (h1 : p < aln c) (hv : rf G (atg c) (ν (500 + c) (aln c * i + p)) = v) (k : Run d M Q (pc + 1) lv (vR v :: st) S) : Six d M .aaload 1 Q pc lv (vI (ji (p : Int)) :: vR (some (G c i)) :: st) S := C_aaldI hC ho hL (by omega) (by omega) hv k
theorem C_alen {c i : Nat} (hC : RC G L ν S) (ho : okR c = true) (hL : L c i) (k : Run d M Q (pc + 1) lv (vI (ji ((aln c : Nat) : Int)) :: st) S) : Six d M .arraylength 1 Q pc lv (vR (some (G c i)) :: st) S := by
  have h := hC.2.2.2.2.1 c i (okR_el ho).1 (okR_el ho).2 hL
  have h24 := (okR_el ho).1
  refine S_alen (by rw [RC_k hC hL, kO_r ho]; omega) h.1 ?_
  exact k

theorem C_aa24 {x : Int} {v : Option Nat} (hC : RC G L ν S) (hL : L 24 0) (h0 : 0 ≤ x) (h1 : x < 6) (hv : rf G 1 (ν 524 x.toNat) = v) (k : Run d M Q (pc + 1) lv (vR v :: st) S) : Six d M .aaload 1 Q pc lv (vI (ji x) :: vR (some (G 24 0)) :: st) S := C_aaldI hC rfl hL h0 h1 (by rw [show aln 24 * 0 + x.toNat = x.toNat from by rw [Nat.mul_zero, Nat.zero_add]]; exact hv) k
theorem C_ab24 {p : Nat} {v : Option Nat} (hC : RC G L ν S) (hL : L 24 0) (h1 : p < 6) (hv : rf G 1 (ν 524 p) = v) (k : Run d M Q (pc + 1) lv (vR v :: st) S) : Six d M .aaload 1 Q pc lv (vI (ji (p : Int)) :: vR (some (G 24 0)) :: st) S := C_aa24 hC hL (by omega) (by omega) (by rw [Int.toNat_natCast]; exact hv) k
theorem C_al24 (hC : RC G L ν S) (hL : L 24 0) (k : Run d M Q (pc + 1) lv (vI (ji 6) :: st) S) : Six d M .arraylength 1 Q pc lv (vR (some (G 24 0)) :: st) S := C_alen hC rfl hL k
theorem C_aa26 {x : Int} {v : Option Nat} (hC : RC G L ν S) (hL : L 26 0) (h0 : 0 ≤ x) (h1 : x < 12) (hv : rf G 4 (ν 526 x.toNat) = v) (k : Run d M Q (pc + 1) lv (vR v :: st) S) : Six d M .aaload 1 Q pc lv (vI (ji x) :: vR (some (G 26 0)) :: st) S := C_aaldI hC rfl hL h0 h1 (by rw [show aln 26 * 0 + x.toNat = x.toNat from by rw [Nat.mul_zero, Nat.zero_add]]; exact hv) k
theorem C_ab26 {p : Nat} {v : Option Nat} (hC : RC G L ν S) (hL : L 26 0) (h1 : p < 12) (hv : rf G 4 (ν 526 p) = v) (k : Run d M Q (pc + 1) lv (vR v :: st) S) : Six d M .aaload 1 Q pc lv (vI (ji (p : Int)) :: vR (some (G 26 0)) :: st) S := C_aa26 hC hL (by omega) (by omega) (by rw [Int.toNat_natCast]; exact hv) k
theorem C_al26 (hC : RC G L ν S) (hL : L 26 0) (k : Run d M Q (pc + 1) lv (vI (ji 12) :: st) S) : Six d M .arraylength 1 Q pc lv (vR (some (G 26 0)) :: st) S := C_alen hC rfl hL k
theorem C_aa27 {x : Int} {v : Option Nat} (hC : RC G L ν S) (hL : L 27 0) (h0 : 0 ≤ x) (h1 : x < 5) (hv : rf G 7 (ν 527 x.toNat) = v) (k : Run d M Q (pc + 1) lv (vR v :: st) S) : Six d M .aaload 1 Q pc lv (vI (ji x) :: vR (some (G 27 0)) :: st) S := C_aaldI hC rfl hL h0 h1 (by rw [show aln 27 * 0 + x.toNat = x.toNat from by rw [Nat.mul_zero, Nat.zero_add]]; exact hv) k
theorem C_ab27 {p : Nat} {v : Option Nat} (hC : RC G L ν S) (hL : L 27 0) (h1 : p < 5) (hv : rf G 7 (ν 527 p) = v) (k : Run d M Q (pc + 1) lv (vR v :: st) S) : Six d M .aaload 1 Q pc lv (vI (ji (p : Int)) :: vR (some (G 27 0)) :: st) S := C_aa27 hC hL (by omega) (by omega) (by rw [Int.toNat_natCast]; exact hv) k
theorem C_al27 (hC : RC G L ν S) (hL : L 27 0) (k : Run d M Q (pc + 1) lv (vI (ji 5) :: st) S) : Six d M .arraylength 1 Q pc lv (vR (some (G 27 0)) :: st) S := C_alen hC rfl hL k
theorem C_aa25 {z : Nat} {x : Int} {v : Option Nat} (hC : RC G L ν S) (hL : L 25 z) (h0 : 0 ≤ x) (h1 : x < 10) (hv : rf G 3 (ν 525 (10 * z + x.toNat)) = v) (k : Run d M Q (pc + 1) lv (vR v :: st) S) : Six d M .aaload 1 Q pc lv (vI (ji x) :: vR (some (G 25 z)) :: st) S := C_aaldI hC rfl hL h0 h1 hv k
end CR
