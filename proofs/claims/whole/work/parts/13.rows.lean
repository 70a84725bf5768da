def tyOf (q : Nat) : FieldType := match q with
  | 21 => .int
  | 22 => .boolean
  | 23 => .long
  | 24 => .object "TubeDesk$Bay"
  | 25 => .object "TubeDesk$Node"
  | 26 => .object "TubeDesk$Station"
  | 27 => .object "TubeDesk$Zone"
  | _ => .object "java/lang/Object"
theorem tyAt {γ : Gam} : ∀ q, 21 ≤ q → q ≤ 28 → (tyL γ)[q - 21]? = some (gy γ q, tyOf q) := by
  intro q h1 h2
  obtain ⟨j, rfl⟩ : ∃ j, q = 21 + j := ⟨q - 21, by omega⟩
  have hj : j < 8 := by omega
  match j, hj with
  | 0, _ => rfl
  | 1, _ => rfl
  | 2, _ => rfl
  | 3, _ => rfl
  | 4, _ => rfl
  | 5, _ => rfl
  | 6, _ => rfl
  | 7, _ => rfl
theorem cc_i {γ : Gam} {S : St} {a : Nat} (h : sK S a = 21 ∨ sK S a = 22) : ccell γ S a = .inl (gy γ (sK S a), sN S a, .inl (sA S a)) := by
  unfold ccell
  rw [if_neg (by omega), if_neg (by omega), if_pos (by omega)]
theorem cc_l {γ : Gam} {S : St} {a : Nat} (h : sK S a = 23) : ccell γ S a = .inl (gy γ 23, sN S a, .inr (.inl (sW S a))) := by
  unfold ccell
  rw [if_neg (by omega), if_pos h]
theorem cc_r {γ : Gam} {S : St} {a : Nat} (h : 24 ≤ sK S a) : ccell γ S a = .inl (gy γ (sK S a), sN S a, .inr (.inr (.inr (.inr (sR S a))))) := by
  unfold ccell
  rw [if_neg (by omega), if_neg (by omega), if_neg (by omega)]
theorem cc_setA {γ : Gam} {S : St} {a b i : Nat} {x : Int32} (h : b ≠ a) : ccell γ (setA S a i x) b = ccell γ S b := by
  have e : sA (setA S a i x) b = sA S b := by funext j; simp [sA, setA, h]
  simp only [ccell, e]
  rfl
theorem cc_setW {γ : Gam} {S : St} {a b i : Nat} {x : Int64} (h : b ≠ a) : ccell γ (setW S a i x) b = ccell γ S b := by
  have e : sW (setW S a i x) b = sW S b := by funext j; simp [sW, setW, h]
  simp only [ccell, e]
  rfl
theorem cc_setR {γ : Gam} {S : St} {a b i : Nat} {x : Option Nat} (h : b ≠ a) : ccell γ (setR S a i x) b = ccell γ S b := by
  have e : sR (setR S a i x) b = sR S b := by funext j; simp [sR, setR, h]
  simp only [ccell, e]
  rfl
theorem cc_setRr {γ : Gam} {S : St} {a b : Nat} {r : Nat → Option Nat} (h : b ≠ a) : ccell γ (setRr S a r) b = ccell γ S b := by
  have e : sR (setRr S a r) b = sR S b := by funext j; simp [sR, setRr, h]
  simp only [ccell, e]
  rfl
section JA
variable {γ : Gam} {p : Program} {l : Launch} {e : Env} {R : Room} {s : State} {m : MethodId} {args : Array Value} {below : List Frame} {meth : Method} {c : Code} {Qm : State → Prop} {M : Nat} {S0 : St} {pc : Nat} {lv : List (Option V_)} {st : List V_} {S : St}
theorem st_alen (hx : p.tables.exec = Jvm.exec) (hb : c.code = mC M) (hK : va_K (gD γ) cls10 (tyL γ) s) {a : Nat} (hd : decode (mC M) pc = .ok (.arraylength, 1)) (hk : 21 ≤ sK S a)
    (k : J γ p l e R s m args below meth c Qm M S0 (pc + 1) lv (vI (Int32.ofNat (sN S a)) :: st) S) : J γ p l e R s m args below meth c Qm M S0 pc lv (vR (some a) :: st) S := by
  intro H locs ls hl hP hS q1 q2 q3 q4
  obtain ⟨hkd, -, hat⟩ := hP a (by omega)
  have hq : sK S a ≤ 28 := by unfold kdOk at hkd; omega
  have k0 := k H locs ls hl hP hS q1 q2 q3 q4
  by_cases h1 : sK S a = 21 ∨ sK S a = 22
  · rw [cc_i h1] at hat
    exact va_alen hx hb hK (vP1 hat) 0 (sK S a - 21) rfl (tyAt _ hk hq) rfl hd k0
  · by_cases h2 : sK S a = 23
    · rw [cc_l h2] at hat
      exact va_alen hx hb hK (vP1 hat) 0 2 rfl rfl rfl hd k0
    · rw [cc_r (by omega)] at hat
      exact va_alen hx hb hK (vP1 hat) 0 (sK S a - 21) rfl (tyAt _ hk hq) rfl hd k0
theorem st_iaload (hx : p.tables.exec = Jvm.exec) (hb : c.code = mC M) (hK : va_K (gD γ) cls10 (tyL γ) s) {a : Nat} {i : Int32} (hd : decode (mC M) pc = .ok (.iaload, 1)) (hk : sK S a = 21) (hi : inR i (sN S a))
    (k : J γ p l e R s m args below meth c Qm M S0 (pc + 1) lv (vI (sA S a i.toNatClampNeg) :: st) S) : J γ p l e R s m args below meth c Qm M S0 pc lv (vI i :: vR (some a) :: st) S := by
  intro H locs ls hl hP hS q1 q2 q3 q4
  have hat := (hP a (by omega)).2.2
  rw [cc_i (Or.inl hk), hk] at hat
  exact va_iald hx hb hK (vP1 hat) 0 0 rfl rfl hi hd (k H locs ls hl hP hS q1 q2 q3 q4)
theorem st_baload (hx : p.tables.exec = Jvm.exec) (hb : c.code = mC M) (hK : va_K (gD γ) cls10 (tyL γ) s) {a : Nat} {i : Int32} (hd : decode (mC M) pc = .ok (.baload, 1)) (hk : sK S a = 22) (hi : inR i (sN S a))
    (k : J γ p l e R s m args below meth c Qm M S0 (pc + 1) lv (vI (sA S a i.toNatClampNeg) :: st) S) : J γ p l e R s m args below meth c Qm M S0 pc lv (vI i :: vR (some a) :: st) S := by
  intro H locs ls hl hP hS q1 q2 q3 q4
  have hat := (hP a (by omega)).2.2
  rw [cc_i (Or.inr hk), hk] at hat
  exact va_zald hx hb hK (vP1 hat) 0 1 rfl rfl hi hd (k H locs ls hl hP hS q1 q2 q3 q4)
theorem st_laload (hx : p.tables.exec = Jvm.exec) (hb : c.code = mC M) (hK : va_K (gD γ) cls10 (tyL γ) s) {a : Nat} {i : Int32} (hd : decode (mC M) pc = .ok (.laload, 1)) (hk : sK S a = 23) (hi : inR i (sN S a))
    (k : J γ p l e R s m args below meth c Qm M S0 (pc + 1) lv (vL (sW S a i.toNatClampNeg) :: st) S) : J γ p l e R s m args below meth c Qm M S0 pc lv (vI i :: vR (some a) :: st) S := by
  intro H locs ls hl hP hS q1 q2 q3 q4
  have hat := (hP a (by omega)).2.2
  rw [cc_l hk] at hat
  exact va_lald hx hb hK (vP1 hat) 0 2 rfl rfl hi hd (k H locs ls hl hP hS q1 q2 q3 q4)
theorem st_aaload (hx : p.tables.exec = Jvm.exec) (hb : c.code = mC M) (hK : va_K (gD γ) cls10 (tyL γ) s) {a : Nat} {i : Int32} (hd : decode (mC M) pc = .ok (.aaload, 1)) (hk : 24 ≤ sK S a) (hi : inR i (sN S a))
    (k : J γ p l e R s m args below meth c Qm M S0 (pc + 1) lv (vR (sR S a i.toNatClampNeg) :: st) S) : J γ p l e R s m args below meth c Qm M S0 pc lv (vI i :: vR (some a) :: st) S := by
  intro H locs ls hl hP hS q1 q2 q3 q4
  obtain ⟨hkd, -, hat⟩ := hP a (by omega)
  have hq : sK S a ≤ 28 := by unfold kdOk at hkd; omega
  rw [cc_r hk] at hat
  have ht := tyAt (γ := γ) _ (by omega : 21 ≤ sK S a) hq
  have hob : ∃ C, tyOf (sK S a) = .object C := by
    have : sK S a = 24 ∨ sK S a = 25 ∨ sK S a = 26 ∨ sK S a = 27 ∨ sK S a = 28 := by omega
    rcases this with h | h | h | h | h <;> rw [h] <;> exact ⟨_, rfl⟩
  obtain ⟨C, hC⟩ := hob
  rw [hC] at ht
  exact va_aldq hx hb hK (vP1 hat) 0 (sK S a - 21) rfl ht hi hd (k H locs ls hl hP hS q1 q2 q3 q4)
theorem inR_pos {i : Int32} {n : Nat} (h : inR i n) : 0 < n := by
  have := Nat.not_le.mp fun q => h (Or.inr q)
  omega
theorem rg {H : Heap} (hP : Wp γ S H) {a n : Nat} (h0 : sK S a ≠ 0) (hn : sN S a = n) (hp : 0 < n) : g0 γ ≤ a := by
  rcases (hP a h0).2.1 with h | h
  · exact h
  · omega
theorem st_iastore (hx : p.tables.exec = Jvm.exec) (hb : c.code = mC M) (hK : va_K (gD γ) cls10 (tyL γ) s) (h0 : g0 γ ≤ s.heap.size) {a : Nat} {i x : Int32} (hd : decode (mC M) pc = .ok (.iastore, 1)) (hk : sK S a = 21) (hi : inR i (sN S a))
    (k : J γ p l e R s m args below meth c Qm M S0 (pc + 1) lv st (setA S a i.toNatClampNeg x)) : J γ p l e R s m args below meth c Qm M S0 pc lv (vI x :: vI i :: vR (some a) :: st) S := by
  intro H locs ls hl hP hS q1 q2 q3 q4
  have hn : sK S a ≠ 0 := by omega
  obtain ⟨q0, hq0⟩ := Wp_get hP hn (rg hP hn rfl (inR_pos hi))
  have hq2 := hq0
  rw [cc_i (Or.inl hk), hk] at hq2
  refine va_iast hx hb hK (wl_P hP _) (wl_D _) hS q0 0 hq2 rfl hi hd (fun H1 locs1 hP1 hD1 hS1 => ?_)
  refine k H1 locs1 ls hl (Wp_write hP hS hS1 h0 hq0 hP1 rfl rfl ?_ (fun b hb => cc_setA hb)) hS1 q1 q2 q3 q4
  rw [cc_i (S := setA S a i.toNatClampNeg x) (Or.inl hk)]
  have : sA (setA S a i.toNatClampNeg x) a = upd (sA S a) i.toNatClampNeg x := by funext j; simp [sA, setA, upd]
  rw [this]
  show Sum.inl (gy γ (sK S a), sN S a, _) = _
  rw [hk]
theorem st_bastore (hx : p.tables.exec = Jvm.exec) (hb : c.code = mC M) (hK : va_K (gD γ) cls10 (tyL γ) s) (h0 : g0 γ ≤ s.heap.size) {a : Nat} {i x : Int32} (hd : decode (mC M) pc = .ok (.bastore, 1)) (hk : sK S a = 22) (hi : inR i (sN S a)) (hx1 : x = 0 ∨ x = 1)
    (k : J γ p l e R s m args below meth c Qm M S0 (pc + 1) lv st (setA S a i.toNatClampNeg x)) : J γ p l e R s m args below meth c Qm M S0 pc lv (vI x :: vI i :: vR (some a) :: st) S := by
  intro H locs ls hl hP hS q1 q2 q3 q4
  have hn : sK S a ≠ 0 := by omega
  obtain ⟨q0, hq0⟩ := Wp_get hP hn (rg hP hn rfl (inR_pos hi))
  have hq2 := hq0
  rw [cc_i (Or.inr hk), hk] at hq2
  have hz : vp_nar .boolean x = x := by rcases hx1 with rfl | rfl <;> decide
  refine va_zast hx hb hK (wl_P hP _) (wl_D _) hS q0 1 hq2 rfl hi hd (fun H1 locs1 hP1 hD1 hS1 => ?_)
  refine k H1 locs1 ls hl (Wp_write hP hS hS1 h0 hq0 hP1 rfl rfl ?_ (fun b hb => cc_setA hb)) hS1 q1 q2 q3 q4
  rw [cc_i (S := setA S a i.toNatClampNeg x) (Or.inr hk), hz]
  have : sA (setA S a i.toNatClampNeg x) a = upd (sA S a) i.toNatClampNeg x := by funext j; simp [sA, setA, upd]
  rw [this]
  show Sum.inl (gy γ (sK S a), sN S a, _) = _
  rw [hk]
theorem st_lastore (hx : p.tables.exec = Jvm.exec) (hb : c.code = mC M) (hK : va_K (gD γ) cls10 (tyL γ) s) (h0 : g0 γ ≤ s.heap.size) {a : Nat} {i : Int32} {x : Int64} (hd : decode (mC M) pc = .ok (.lastore, 1)) (hk : sK S a = 23) (hi : inR i (sN S a))
    (k : J γ p l e R s m args below meth c Qm M S0 (pc + 1) lv st (setW S a i.toNatClampNeg x)) : J γ p l e R s m args below meth c Qm M S0 pc lv (vL x :: vI i :: vR (some a) :: st) S := by
  intro H locs ls hl hP hS q1 q2 q3 q4
  have hn : sK S a ≠ 0 := by omega
  obtain ⟨q0, hq0⟩ := Wp_get hP hn (rg hP hn rfl (inR_pos hi))
  have hq2 := hq0
  rw [cc_l hk] at hq2
  refine va_last hx hb hK (wl_P hP _) (wl_D _) hS q0 2 hq2 rfl hi hd (fun H1 locs1 hP1 hD1 hS1 => ?_)
  refine k H1 locs1 ls hl (Wp_write hP hS hS1 h0 hq0 hP1 rfl rfl ?_ (fun b hb => cc_setW hb)) hS1 q1 q2 q3 q4
  rw [cc_l (S := setW S a i.toNatClampNeg x) hk]
  have : sW (setW S a i.toNatClampNeg x) a = vp_updL (sW S a) i.toNatClampNeg x := by funext j; simp [sW, setW, vp_updL]
  rw [this]
  rfl
end JA
