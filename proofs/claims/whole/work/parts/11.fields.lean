theorem lookup_mem {β : Type} {l : List (Nat × β)} {a : Nat} {b : β} (h : l.lookup a = some b) : (a, b) ∈ l := by
  induction l with
  | nil => cases h
  | cons q r ih =>
    obtain ⟨x, y⟩ := q
    rw [List.lookup_cons] at h
    by_cases hx : a = x
    · subst hx
      simp at h
      subst h
      exact List.mem_cons_self
    · have : (a == x) = false := by simpa using hx
      rw [this] at h
      exact List.mem_cons_of_mem _ (ih h)
theorem fres_at {o ix c f : Nat} (h : fres.lookup (1000 * o + ix) = some (c, f)) (hix : ix < 1000) : ∃ (C : String) (T : u_T) (N : Nat) (ref : String), cls10[c]? = some (C, T, N) ∧ f < N ∧ Cond.fieldLink (cnm.getD o "") ix ref (T f).2.1 (T f).2.2.1 ∈ tG ∧
    (ref = (T f).1 ∨ (ref = RJx4a65c ∧ (T f).1 = "java/util/AbstractList" ∧ (T f).2.1 = "modCount" ∧ (T f).2.2.1 = "I")) := by
  have h1 := List.all_eq_true.mp fres_ok _ (lookup_mem h)
  have ho : (1000 * o + ix) / 1000 = o := by omega
  have hi : (1000 * o + ix) % 1000 = ix := by omega
  unfold fchk at h1
  dsimp only at h1
  rw [ho, hi] at h1
  split at h1
  · rename_i C T N hc
    simp only [Bool.and_eq_true, decide_eq_true_eq] at h1
    obtain ⟨hf, h2⟩ := h1
    obtain ⟨w, hw, hg⟩ := List.any_eq_true.mp h2
    simp only [Bool.and_eq_true] at hg
    obtain ⟨hg1, hg2⟩ := hg
    unfold fwd at hg2
    split at hg2
    · rename_i o' i' r n d
      simp only [Bool.and_eq_true, Bool.or_eq_true, decide_eq_true_eq] at hg2
      obtain ⟨⟨⟨⟨rfl, rfl⟩, rfl⟩, rfl⟩, hr⟩ := hg2
      exact ⟨C, T, N, r, hc, hf, tG_of hw hg1, hr⟩
    · cases hg2
  · cases h1
def isObjTy (t : FieldType) : Bool := match t with
  | .object _ => true
  | .array _ => true
  | _ => false
/-- what is known of class c -/
def cOk (c : Nat) : Prop := ∃ (C : String) (T : u_T) (N : Nat) (ty : Nat → FieldType), cls10[c]? = some (C, T, N) ∧ N = nFd.getD c 0 ∧ (∀ w ∈ u_ws C T N, w ∈ tG) ∧ (∀ k, k < N → parseFieldDescriptor (T k).2.2.1 = some (ty k)) ∧ (∀ a, a < N → ∀ b, b < N → a ≠ b → (T a).2.1 ≠ (T b).2.1) ∧
  (∀ k, k < N → isLf c k = (T k).2.2.2 ∧ isRf c k = isObjTy (ty k) ∧ (isRf c k = false → (isZf c k = true ∧ ty k = .boolean) ∨ (isZf c k = false ∧ ty k = .int)) ∧ (isLf c k = true → (T k).1 = cnm.getD c ""))
set_option maxRecDepth 100000 in
theorem cin0 : ∀ w ∈ u_ws RJx4a65c TJx4a65c 3, w ∈ tG := by unfold tG; decide +kernel
set_option maxRecDepth 100000 in
theorem cfl0 : ∀ k, k < 3 → isLf 0 k = (TJx4a65c k).2.2.2 ∧ isRf 0 k = isObjTy (tyJx4a65c k) ∧ (isRf 0 k = false → (isZf 0 k = true ∧ tyJx4a65c k = .boolean) ∨ (isZf 0 k = false ∧ tyJx4a65c k = .int)) ∧ (isLf 0 k = true → (TJx4a65c k).1 = cnm.getD 0 "") := by decide +kernel
theorem cok0 : cOk 0 := ⟨RJx4a65c, TJx4a65c, 3, tyJx4a65c, rfl, rfl, cin0, tyJx4a65c_ok, nmJx4a65c, cfl0⟩
set_option maxRecDepth 100000 in
theorem cin1 : ∀ w ∈ u_ws RX0 TX0 4, w ∈ tG := by unfold tG; decide +kernel
set_option maxRecDepth 100000 in
theorem cfl1 : ∀ k, k < 4 → isLf 1 k = (TX0 k).2.2.2 ∧ isRf 1 k = isObjTy (tyX0 k) ∧ (isRf 1 k = false → (isZf 1 k = true ∧ tyX0 k = .boolean) ∨ (isZf 1 k = false ∧ tyX0 k = .int)) ∧ (isLf 1 k = true → (TX0 k).1 = cnm.getD 1 "") := by decide +kernel
theorem cok1 : cOk 1 := ⟨RX0, TX0, 4, tyX0, rfl, rfl, cin1, tyX0_ok, nmX0, cfl1⟩
set_option maxRecDepth 100000 in
theorem cin2 : ∀ w ∈ u_ws RX1 TX1 13, w ∈ tG := by unfold tG; decide +kernel
set_option maxRecDepth 100000 in
theorem cfl2 : ∀ k, k < 13 → isLf 2 k = (TX1 k).2.2.2 ∧ isRf 2 k = isObjTy (tyX1 k) ∧ (isRf 2 k = false → (isZf 2 k = true ∧ tyX1 k = .boolean) ∨ (isZf 2 k = false ∧ tyX1 k = .int)) ∧ (isLf 2 k = true → (TX1 k).1 = cnm.getD 2 "") := by decide +kernel
theorem cok2 : cOk 2 := ⟨RX1, TX1, 13, tyX1, rfl, rfl, cin2, tyX1_ok, nmX1, cfl2⟩
set_option maxRecDepth 100000 in
theorem cin3 : ∀ w ∈ u_ws RX2 TX2 8, w ∈ tG := by unfold tG; decide +kernel
set_option maxRecDepth 100000 in
theorem cfl3 : ∀ k, k < 8 → isLf 3 k = (TX2 k).2.2.2 ∧ isRf 3 k = isObjTy (tyX2 k) ∧ (isRf 3 k = false → (isZf 3 k = true ∧ tyX2 k = .boolean) ∨ (isZf 3 k = false ∧ tyX2 k = .int)) ∧ (isLf 3 k = true → (TX2 k).1 = cnm.getD 3 "") := by decide +kernel
theorem cok3 : cOk 3 := ⟨RX2, TX2, 8, tyX2, rfl, rfl, cin3, tyX2_ok, nmX2, cfl3⟩
set_option maxRecDepth 100000 in
theorem cin4 : ∀ w ∈ u_ws RX3 TX3 4, w ∈ tG := by unfold tG; decide +kernel
set_option maxRecDepth 100000 in
theorem cfl4 : ∀ k, k < 4 → isLf 4 k = (TX3 k).2.2.2 ∧ isRf 4 k = isObjTy (tyX3 k) ∧ (isRf 4 k = false → (isZf 4 k = true ∧ tyX3 k = .boolean) ∨ (isZf 4 k = false ∧ tyX3 k = .int)) ∧ (isLf 4 k = true → (TX3 k).1 = cnm.getD 4 "") := by decide +kernel
theorem cok4 : cOk 4 := ⟨RX3, TX3, 4, tyX3, rfl, rfl, cin4, tyX3_ok, nmX3, cfl4⟩
set_option maxRecDepth 100000 in
theorem cin5 : ∀ w ∈ u_ws RX4 TX4 6, w ∈ tG := by unfold tG; decide +kernel
set_option maxRecDepth 100000 in
theorem cfl5 : ∀ k, k < 6 → isLf 5 k = (TX4 k).2.2.2 ∧ isRf 5 k = isObjTy (tyX4 k) ∧ (isRf 5 k = false → (isZf 5 k = true ∧ tyX4 k = .boolean) ∨ (isZf 5 k = false ∧ tyX4 k = .int)) ∧ (isLf 5 k = true → (TX4 k).1 = cnm.getD 5 "") := by decide +kernel
theorem cok5 : cOk 5 := ⟨RX4, TX4, 6, tyX4, rfl, rfl, cin5, tyX4_ok, nmX4, cfl5⟩
set_option maxRecDepth 100000 in
theorem cin6 : ∀ w ∈ u_ws RX5 TX5 3, w ∈ tG := by unfold tG; decide +kernel
set_option maxRecDepth 100000 in
theorem cfl6 : ∀ k, k < 3 → isLf 6 k = (TX5 k).2.2.2 ∧ isRf 6 k = isObjTy (tyX5 k) ∧ (isRf 6 k = false → (isZf 6 k = true ∧ tyX5 k = .boolean) ∨ (isZf 6 k = false ∧ tyX5 k = .int)) ∧ (isLf 6 k = true → (TX5 k).1 = cnm.getD 6 "") := by decide +kernel
theorem cok6 : cOk 6 := ⟨RX5, TX5, 3, tyX5, rfl, rfl, cin6, tyX5_ok, nmX5, cfl6⟩
set_option maxRecDepth 100000 in
theorem cin7 : ∀ w ∈ u_ws RX6 TX6 5, w ∈ tG := by unfold tG; decide +kernel
set_option maxRecDepth 100000 in
theorem cfl7 : ∀ k, k < 5 → isLf 7 k = (TX6 k).2.2.2 ∧ isRf 7 k = isObjTy (tyX6 k) ∧ (isRf 7 k = false → (isZf 7 k = true ∧ tyX6 k = .boolean) ∨ (isZf 7 k = false ∧ tyX6 k = .int)) ∧ (isLf 7 k = true → (TX6 k).1 = cnm.getD 7 "") := by decide +kernel
theorem cok7 : cOk 7 := ⟨RX6, TX6, 5, tyX6, rfl, rfl, cin7, tyX6_ok, nmX6, cfl7⟩
set_option maxRecDepth 100000 in
theorem cin8 : ∀ w ∈ u_ws RX7 TX7 8, w ∈ tG := by unfold tG; decide +kernel
set_option maxRecDepth 100000 in
theorem cfl8 : ∀ k, k < 8 → isLf 8 k = (TX7 k).2.2.2 ∧ isRf 8 k = isObjTy (tyX7 k) ∧ (isRf 8 k = false → (isZf 8 k = true ∧ tyX7 k = .boolean) ∨ (isZf 8 k = false ∧ tyX7 k = .int)) ∧ (isLf 8 k = true → (TX7 k).1 = cnm.getD 8 "") := by decide +kernel
theorem cok8 : cOk 8 := ⟨RX7, TX7, 8, tyX7, rfl, rfl, cin8, tyX7_ok, nmX7, cfl8⟩
set_option maxRecDepth 100000 in
theorem cin9 : ∀ w ∈ u_ws RX8 TX8 32, w ∈ tG := by unfold tG; decide +kernel
set_option maxRecDepth 100000 in
theorem cfl9 : ∀ k, k < 32 → isLf 9 k = (TX8 k).2.2.2 ∧ isRf 9 k = isObjTy (tyX8 k) ∧ (isRf 9 k = false → (isZf 9 k = true ∧ tyX8 k = .boolean) ∨ (isZf 9 k = false ∧ tyX8 k = .int)) ∧ (isLf 9 k = true → (TX8 k).1 = cnm.getD 9 "") := by decide +kernel
theorem cok9 : cOk 9 := ⟨RX8, TX8, 32, tyX8, rfl, rfl, cin9, tyX8_ok, nmX8, cfl9⟩
theorem cOk_all : ∀ c, c < 10 → cOk c := fun c h => by
  match c, h with
  | 0, _ => exact cok0
  | 1, _ => exact cok1
  | 2, _ => exact cok2
  | 3, _ => exact cok3
  | 4, _ => exact cok4
  | 5, _ => exact cok5
  | 6, _ => exact cok6
  | 7, _ => exact cok7
  | 8, _ => exact cok8
  | 9, _ => exact cok9
