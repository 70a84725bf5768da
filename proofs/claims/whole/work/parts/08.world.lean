/-! THE WORLD: how the plain state lies in the machine's heap. -/
def vv (v : V_) : Value := match v with
  | .inl x => .int x
  | .inr (.inl o) => va_rf o
  | .inr (.inr w) => .long w
/-- classes by number, where each field lies, row classes by kind, the first address that is ours -/
abbrev Gam : Type := (Nat → ClassId) × (Nat → Nat → Nat) × (Nat → ClassId) × Nat
abbrev gD (γ : Gam) : va_G := (γ.1, γ.2.1)
abbrev gy (γ : Gam) : Nat → ClassId := γ.2.2.1
abbrev g0 (γ : Gam) : Nat := γ.2.2.2
abbrev gA (γ : Gam) : Nat → Prop := fun q => g0 γ ≤ q
def fcell (S : St) (c a : Nat) : List Value := (List.range (nFd.getD c 0)).map (fun f => if isRf c f then va_rf (sP S (40 * c + f) a) else .int (sI S (40 * c + f) a))
def ccell (γ : Gam) (S : St) (a : Nat) : va_E :=
  if sK S a ≤ 20 then .inr (sK S a - 1, fcell S (sK S a - 1) a)
  else if sK S a = 23 then .inl (gy γ 23, sN S a, .inr (.inl (sW S a)))
  else if sK S a ≤ 22 then .inl (gy γ (sK S a), sN S a, .inl (sA S a))
  else .inl (gy γ (sK S a), sN S a, .inr (.inr (.inr (.inr (sR S a)))))
abbrev tyL (γ : Gam) : List (ClassId × FieldType) := [(gy γ 21, .int), (gy γ 22, .boolean), (gy γ 23, .long), (gy γ 24, .object "TubeDesk$Bay"), (gy γ 25, .object "TubeDesk$Node"), (gy γ 26, .object "TubeDesk$Station"), (gy γ 27, .object "TubeDesk$Zone"), (gy γ 28, .object "java/lang/Object")]
def kdOk (q : Nat) : Prop := (1 ≤ q ∧ q ≤ 10) ∨ (21 ≤ q ∧ q ≤ 28)
/-- the heap holds the state -/
def Wp (γ : Gam) (S : St) (H : Heap) : Prop := ∀ a, sK S a ≠ 0 → kdOk (sK S a) ∧ (g0 γ ≤ a ∨ (sK S a = 28 ∧ sN S a = 0)) ∧ va_at (gD γ) cls10 (a, ccell γ S a) H
/-- the cells that are ours, as a list -/
def wl (γ : Gam) (S : St) (z : Nat) : va_W := ((List.range z).filter (fun a => decide (g0 γ ≤ a ∧ sK S a ≠ 0))).map (fun a => (a, ccell γ S a))
theorem wl_mem {γ : Gam} {S : St} {z : Nat} {q : Nat × va_E} (h : q ∈ wl γ S z) : q.1 < z ∧ g0 γ ≤ q.1 ∧ sK S q.1 ≠ 0 ∧ q.2 = ccell γ S q.1 := by
  unfold wl at h
  obtain ⟨a, ha, rfl⟩ := List.mem_map.mp h
  rw [List.mem_filter, List.mem_range, decide_eq_true_eq] at ha
  exact ⟨ha.1, ha.2.1, ha.2.2, rfl⟩
theorem wl_at {γ : Gam} {S : St} {z a : Nat} (hz : a < z) (hg : g0 γ ≤ a) (hk : sK S a ≠ 0) : ∃ k : Nat, (wl γ S z)[k]? = some (a, ccell γ S a) := by
  refine List.getElem?_of_mem ?_
  unfold wl
  refine List.mem_map.mpr ⟨a, ?_, rfl⟩
  rw [List.mem_filter, List.mem_range, decide_eq_true_eq]
  exact ⟨hz, hg, hk⟩
theorem wl_P {γ : Gam} {S : St} {H : Heap} (h : Wp γ S H) (z : Nat) : va_P (gD γ) cls10 (wl γ S z) H := by
  intro k q hq
  obtain ⟨-, -, h3, h4⟩ := wl_mem (List.mem_of_getElem? hq)
  have := (h q.1 h3).2.2
  rw [← h4] at this
  exact this
theorem wl_D {γ : Gam} {S : St} (z : Nat) : va_D (gA γ) (wl γ S z) := by
  refine ⟨fun i j p q hi hj hpq => ?_, fun k q hq => (wl_mem (List.mem_of_getElem? hq)).2.1⟩
  have hn : ((wl γ S z).map (fun q => q.1)).Nodup := by
    unfold wl
    rw [List.map_map]
    have : ((fun q : Nat × va_E => q.1) ∘ fun a => (a, ccell γ S a)) = id := rfl
    rw [this, List.map_id]
    exact List.Pairwise.filter _ List.nodup_range
  have hi' : ((wl γ S z).map (fun q => q.1))[i]? = some p.1 := by rw [List.getElem?_map, hi]; rfl
  have hj' : ((wl γ S z).map (fun q => q.1))[j]? = some p.1 := by rw [List.getElem?_map, hj, hpq]; rfl
  exact (List.getElem?_inj (List.getElem?_eq_some_iff.mp hi').1 hn).mp (hi'.trans hj'.symm)
theorem Wp_lt {γ : Gam} {S : St} {H : Heap} (h : Wp γ S H) {a : Nat} (hk : sK S a ≠ 0) : a < H.size := (h a hk).2.2.lt
theorem Wp_get {γ : Gam} {S : St} {H : Heap} (h : Wp γ S H) {a : Nat} (hk : sK S a ≠ 0) (hg : g0 γ ≤ a) : ∃ k : Nat, (wl γ S H.size)[k]? = some (a, ccell γ S a) := wl_at (Wp_lt h hk) hg hk
/-- behind a write at a: the list with one row changed, and the static part as it was -/
theorem Wp_write {γ : Gam} {S S' : St} {H H1 H0 : Heap} {locs locs1 : List Loc} (h : Wp γ S H) (hS : va_S (gA γ) H0 H locs) (hS1 : va_S (gA γ) H0 H1 locs1) (h0 : g0 γ ≤ H0.size) {k a : Nat} {e : va_E} (hk : (wl γ S H.size)[k]? = some (a, ccell γ S a))
    (hP : va_P (gD γ) cls10 ((wl γ S H.size).set k (a, e)) H1) (hK : sK S' = sK S) (hN : sN S' = sN S) (he : ccell γ S' a = e) (ho : ∀ b, b ≠ a → ccell γ S' b = ccell γ S b) : Wp γ S' H1 := by
  intro b hb
  rw [hK] at hb
  obtain ⟨w1, w2, w3⟩ := h b hb
  refine ⟨by rw [hK]; exact w1, by rw [hK, hN]; exact w2, ?_⟩
  by_cases hba : b = a
  · subst hba
    rw [he]
    exact hP k (b, e) (by rw [List.getElem?_set_self (List.getElem?_eq_some_iff.mp hk).1])
  · rw [ho b hba]
    by_cases hg : g0 γ ≤ b
    · obtain ⟨j, hj⟩ := Wp_get h hb hg
      have hjk : k ≠ j := fun e => hba (by subst e; rw [hk] at hj; exact (congrArg Prod.fst (Option.some.inj hj)).symm)
      exact hP j _ (by rw [List.getElem?_set_ne hjk]; exact hj)
    · refine w3.kept ?_
      have hb0 : b < H0.size := Nat.lt_of_lt_of_le (Nat.not_le.mp hg) h0
      show H1[b]? = H[b]?
      rw [hS1.2.1 b hb0 hg, hS.2.1 b hb0 hg]
/-- behind a cell that is made at the heap's end -/
theorem Wp_made {γ : Gam} {S S' : St} {H H1 H0 : Heap} {locs locs1 : List Loc} (h : Wp γ S H) (hS : va_S (gA γ) H0 H locs) (hS1 : va_S (gA γ) H0 H1 locs1) (h0 : g0 γ ≤ H0.size) {q : Nat} {e : va_E}
    (hP : va_P (gD γ) cls10 (wl γ S H.size ++ [(q, e)]) H1) (hq : g0 γ ≤ q) (hk : kdOk (sK S' q)) (hK : ∀ b, b ≠ q → sK S' b = sK S b) (hN : ∀ b, b ≠ q → sN S' b = sN S b) (he : ccell γ S' q = e) (ho : ∀ b, b ≠ q → ccell γ S' b = ccell γ S b) : Wp γ S' H1 := by
  intro b hb
  by_cases hbq : b = q
  · subst hbq
    refine ⟨hk, Or.inl hq, ?_⟩
    rw [he]
    exact hP (wl γ S H.size).length (b, e) (by rw [List.getElem?_append_right (Nat.le_refl _), Nat.sub_self]; rfl)
  · rw [hK b hbq] at hb
    obtain ⟨w1, w2, w3⟩ := h b hb
    refine ⟨by rw [hK b hbq]; exact w1, by rw [hK b hbq, hN b hbq]; exact w2, ?_⟩
    rw [ho b hbq]
    by_cases hg : g0 γ ≤ b
    · obtain ⟨j, hj⟩ := Wp_get h hb hg
      exact hP j _ (by rw [List.getElem?_append_left (List.getElem?_eq_some_iff.mp hj).1]; exact hj)
    · refine w3.kept ?_
      have hb0 : b < H0.size := Nat.lt_of_lt_of_le (Nat.not_le.mp hg) h0
      show H1[b]? = H[b]?
      rw [hS1.2.1 b hb0 hg, hS.2.1 b hb0 hg]
/-- the locals -/
def lvh (ls : Array Slot) (nL : Nat) (lv : List (Option V_)) : Prop := ls.size = nL ∧ lv_wf ls ∧ lv.length = nL ∧ ∀ (i : Nat) (v : V_), lv[i]? = some (some v) → ls[i]? = some (.val (vv v)) ∧ (vv v).category = 1
theorem lvh_get {ls : Array Slot} {nL : Nat} {lv : List (Option V_)} (h : lvh ls nL lv) {i : Nat} {v : V_} (hi : lv[i]? = some (some v)) : ls[i]? = some (.val (vv v)) := (h.2.2.2 i v hi).1
def lvL (lv : List (Option V_)) : List (Nat × Value) := (List.range lv.length).filterMap (fun i => (lv[i]?).join.map (fun v => (i, vv v)))
theorem lvL_mem {lv : List (Option V_)} {i : Nat} {w : Value} : (i, w) ∈ lvL lv ↔ ∃ v, lv[i]? = some (some v) ∧ vv v = w := by
  unfold lvL
  rw [List.mem_filterMap]
  constructor
  · rintro ⟨j, hj, h⟩
    cases hv : lv[j]? with
    | none => rw [hv] at h; cases h
    | some o =>
      cases o with
      | none => rw [hv] at h; cases h
      | some v =>
        rw [hv] at h
        have : (j, vv v) = (i, w) := Option.some.inj h
        cases this
        exact ⟨v, hv, rfl⟩
  · rintro ⟨v, hv, rfl⟩
    refine ⟨i, List.mem_range.mpr (List.getElem?_eq_some_iff.mp hv).1, ?_⟩
    rw [hv]
    rfl
theorem lvh_has {ls : Array Slot} {nL : Nat} {lv : List (Option V_)} (h : lvh ls nL lv) : lv_has ls nL (lvL lv) := by
  refine ⟨h.1, h.2.1, fun q hq => ?_⟩
  obtain ⟨v, hv, hw⟩ := lvL_mem.mp hq
  rw [← hw]
  exact lvh_get h hv
theorem lvh_set {ls ls' : Array Slot} {nL i : Nat} {lv : List (Option V_)} {v : V_} (h : lvh ls nL lv) (hc : (vv v).category = 1) (h' : lv_has ls' nL ((i, vv v) :: (lvL lv).filter (fun q => !(q.1 == i) && !(q.1 + 1 == i && q.2.category == 2)))) : lvh ls' nL (lv.set i (some v)) := by
  refine ⟨h'.1, h'.2.1, by rw [List.length_set]; exact h.2.2.1, fun j w hj => ?_⟩
  by_cases hij : i = j
  · subst hij
    have hl : i < lv.length := by
      have := (List.getElem?_eq_some_iff.mp hj).1
      rwa [List.length_set] at this
    rw [List.getElem?_set_self hl] at hj
    cases hj
    exact ⟨h'.2.2 _ List.mem_cons_self, hc⟩
  · rw [List.getElem?_set_ne hij] at hj
    have hw := (h.2.2.2 j w hj).2
    refine ⟨h'.2.2 (j, vv w) (List.mem_cons_of_mem _ (List.mem_filter.mpr ⟨lvL_mem.mpr ⟨w, hj, rfl⟩, ?_⟩)), hw⟩
    simp [hw]
    exact fun e => hij e.symm
