/-! the instruction tables are the code's -/
theorem chkF_at {c : ByteArray} : ∀ (bs : BL) (k0 b : Nat) (r : Nat) (q : Instr × Nat), chkF c k0 bs = true → (bs.getD b []).lookup r = some q → decode c (32 * (k0 + b) + r) = .ok q := by
  intro bs
  induction bs with
  | nil => intro k0 b r q _ h; simp at h
  | cons x t ih =>
    intro k0 b r q hc h
    simp only [chkF, Bool.and_eq_true] at hc
    cases b with
    | zero =>
      have hm := lookup_mem (show x.lookup r = some q from h)
      have := List.all_eq_true.mp hc.1 _ hm
      rw [Nat.add_zero]
      exact of_decide_eq_true this
    | succ b =>
      have := ih (k0 + 1) b r q hc.2 h
      rw [show k0 + (b + 1) = k0 + 1 + b by omega]
      exact this
theorem cb_len : cbs.length = 136 := by decide +kernel
theorem cbk_0 : ∀ M, 0 ≤ M → M < 8 → chkF (mC M) 0 (cbs.getD M []) = true := fun M h1 h2 => by
  obtain ⟨j, rfl⟩ : ∃ j, M = 0 + j := ⟨M - 0, by omega⟩
  have hj : j < 8 := by omega
  match j, hj with
  | 0, _ => exact chk0
  | 1, _ => exact chk1
  | 2, _ => exact chk2
  | 3, _ => exact chk3
  | 4, _ => exact chk4
  | 5, _ => exact chk5
  | 6, _ => exact chk6
  | 7, _ => exact chk7
theorem cbk_1 : ∀ M, 8 ≤ M → M < 16 → chkF (mC M) 0 (cbs.getD M []) = true := fun M h1 h2 => by
  obtain ⟨j, rfl⟩ : ∃ j, M = 8 + j := ⟨M - 8, by omega⟩
  have hj : j < 8 := by omega
  match j, hj with
  | 0, _ => exact chk8
  | 1, _ => exact chk9
  | 2, _ => exact chk10
  | 3, _ => exact chk11
  | 4, _ => exact chk12
  | 5, _ => exact chk13
  | 6, _ => exact chk14
  | 7, _ => exact chk15
theorem cbk_2 : ∀ M, 16 ≤ M → M < 24 → chkF (mC M) 0 (cbs.getD M []) = true := fun M h1 h2 => by
  obtain ⟨j, rfl⟩ : ∃ j, M = 16 + j := ⟨M - 16, by omega⟩
  have hj : j < 8 := by omega
  match j, hj with
  | 0, _ => exact chk16
  | 1, _ => exact chk17
  | 2, _ => exact chk18
  | 3, _ => exact chk19
  | 4, _ => exact chk20
  | 5, _ => exact chk21
  | 6, _ => exact chk22
  | 7, _ => exact chk23
theorem cbk_3 : ∀ M, 24 ≤ M → M < 32 → chkF (mC M) 0 (cbs.getD M []) = true := fun M h1 h2 => by
  obtain ⟨j, rfl⟩ : ∃ j, M = 24 + j := ⟨M - 24, by omega⟩
  have hj : j < 8 := by omega
  match j, hj with
  | 0, _ => exact chk24
  | 1, _ => exact chk25
  | 2, _ => exact chk26
  | 3, _ => exact chk27
  | 4, _ => exact chk28
  | 5, _ => exact chk29
  | 6, _ => exact chk30
  | 7, _ => exact chk31
theorem cbk_4 : ∀ M, 32 ≤ M → M < 40 → chkF (mC M) 0 (cbs.getD M []) = true := fun M h1 h2 => by
  obtain ⟨j, rfl⟩ : ∃ j, M = 32 + j := ⟨M - 32, by omega⟩
  have hj : j < 8 := by omega
  match j, hj with
  | 0, _ => exact chk32
  | 1, _ => exact chk33
  | 2, _ => exact chk34
  | 3, _ => exact chk35
  | 4, _ => exact chk36
  | 5, _ => exact chk37
  | 6, _ => exact chk38
  | 7, _ => exact chk39
theorem cbk_5 : ∀ M, 40 ≤ M → M < 48 → chkF (mC M) 0 (cbs.getD M []) = true := fun M h1 h2 => by
  obtain ⟨j, rfl⟩ : ∃ j, M = 40 + j := ⟨M - 40, by omega⟩
  have hj : j < 8 := by omega
  match j, hj with
  | 0, _ => exact chk40
  | 1, _ => exact chk41
  | 2, _ => exact chk42
  | 3, _ => exact chk43
  | 4, _ => exact chk44
  | 5, _ => exact chk45
  | 6, _ => exact chk46
  | 7, _ => exact chk47
theorem cbk_6 : ∀ M, 48 ≤ M → M < 56 → chkF (mC M) 0 (cbs.getD M []) = true := fun M h1 h2 => by
  obtain ⟨j, rfl⟩ : ∃ j, M = 48 + j := ⟨M - 48, by omega⟩
  have hj : j < 8 := by omega
  match j, hj with
  | 0, _ => exact chk48
  | 1, _ => exact chk49
  | 2, _ => exact chk50
  | 3, _ => exact chk51
  | 4, _ => exact chk52
  | 5, _ => exact chk53
  | 6, _ => exact chk54
  | 7, _ => exact chk55
theorem cbk_7 : ∀ M, 56 ≤ M → M < 64 → chkF (mC M) 0 (cbs.getD M []) = true := fun M h1 h2 => by
  obtain ⟨j, rfl⟩ : ∃ j, M = 56 + j := ⟨M - 56, by omega⟩
  have hj : j < 8 := by omega
  match j, hj with
  | 0, _ => exact chk56
  | 1, _ => exact chk57
  | 2, _ => exact chk58
  | 3, _ => exact chk59
  | 4, _ => exact chk60
  | 5, _ => exact chk61
  | 6, _ => exact chk62
  | 7, _ => exact chk63
theorem cbk_8 : ∀ M, 64 ≤ M → M < 72 → chkF (mC M) 0 (cbs.getD M []) = true := fun M h1 h2 => by
  obtain ⟨j, rfl⟩ : ∃ j, M = 64 + j := ⟨M - 64, by omega⟩
  have hj : j < 8 := by omega
  match j, hj with
  | 0, _ => exact chk64
  | 1, _ => exact chk65
  | 2, _ => exact chk66
  | 3, _ => exact chk67
  | 4, _ => exact chk68
  | 5, _ => exact chk69
  | 6, _ => exact chk70
  | 7, _ => exact chk71
theorem cbk_9 : ∀ M, 72 ≤ M → M < 80 → chkF (mC M) 0 (cbs.getD M []) = true := fun M h1 h2 => by
  obtain ⟨j, rfl⟩ : ∃ j, M = 72 + j := ⟨M - 72, by omega⟩
  have hj : j < 8 := by omega
  match j, hj with
  | 0, _ => exact chk72
  | 1, _ => exact chk73
  | 2, _ => exact chk74
  | 3, _ => exact chk75
  | 4, _ => exact chk76
  | 5, _ => exact chk77
  | 6, _ => exact chk78
  | 7, _ => exact chk79
theorem cbk_10 : ∀ M, 80 ≤ M → M < 88 → chkF (mC M) 0 (cbs.getD M []) = true := fun M h1 h2 => by
  obtain ⟨j, rfl⟩ : ∃ j, M = 80 + j := ⟨M - 80, by omega⟩
  have hj : j < 8 := by omega
  match j, hj with
  | 0, _ => exact chk80
  | 1, _ => exact chk81
  | 2, _ => exact chk82
  | 3, _ => exact chk83
  | 4, _ => exact chk84
  | 5, _ => exact chk85
  | 6, _ => exact chk86
  | 7, _ => exact chk87
theorem cbk_11 : ∀ M, 88 ≤ M → M < 96 → chkF (mC M) 0 (cbs.getD M []) = true := fun M h1 h2 => by
  obtain ⟨j, rfl⟩ : ∃ j, M = 88 + j := ⟨M - 88, by omega⟩
  have hj : j < 8 := by omega
  match j, hj with
  | 0, _ => exact chk88
  | 1, _ => exact chk89
  | 2, _ => exact chk90
  | 3, _ => exact chk91
  | 4, _ => exact chk92
  | 5, _ => exact chk93
  | 6, _ => exact chk94
  | 7, _ => exact chk95
theorem cbk_12 : ∀ M, 96 ≤ M → M < 104 → chkF (mC M) 0 (cbs.getD M []) = true := fun M h1 h2 => by
  obtain ⟨j, rfl⟩ : ∃ j, M = 96 + j := ⟨M - 96, by omega⟩
  have hj : j < 8 := by omega
  match j, hj with
  | 0, _ => exact chk96
  | 1, _ => exact chk97
  | 2, _ => exact chk98
  | 3, _ => exact chk99
  | 4, _ => exact chk100
  | 5, _ => exact chk101
  | 6, _ => exact chk102
  | 7, _ => exact chk103
theorem cbk_13 : ∀ M, 104 ≤ M → M < 112 → chkF (mC M) 0 (cbs.getD M []) = true := fun M h1 h2 => by
  obtain ⟨j, rfl⟩ : ∃ j, M = 104 + j := ⟨M - 104, by omega⟩
  have hj : j < 8 := by omega
  match j, hj with
  | 0, _ => exact chk104
  | 1, _ => exact chk105
  | 2, _ => exact chk106
  | 3, _ => exact chk107
  | 4, _ => exact chk108
  | 5, _ => exact chk109
  | 6, _ => exact chk110
  | 7, _ => exact chk111
theorem cbk_14 : ∀ M, 112 ≤ M → M < 120 → chkF (mC M) 0 (cbs.getD M []) = true := fun M h1 h2 => by
  obtain ⟨j, rfl⟩ : ∃ j, M = 112 + j := ⟨M - 112, by omega⟩
  have hj : j < 8 := by omega
  match j, hj with
  | 0, _ => exact chk112
  | 1, _ => exact chk113
  | 2, _ => exact chk114
  | 3, _ => exact chk115
  | 4, _ => exact chk116
  | 5, _ => exact chk117
  | 6, _ => exact chk118
  | 7, _ => exact chk119
theorem cbk_15 : ∀ M, 120 ≤ M → M < 128 → chkF (mC M) 0 (cbs.getD M []) = true := fun M h1 h2 => by
  obtain ⟨j, rfl⟩ : ∃ j, M = 120 + j := ⟨M - 120, by omega⟩
  have hj : j < 8 := by omega
  match j, hj with
  | 0, _ => exact chk120
  | 1, _ => exact chk121
  | 2, _ => exact chk122
  | 3, _ => exact chk123
  | 4, _ => exact chk124
  | 5, _ => exact chk125
  | 6, _ => exact chk126
  | 7, _ => exact chk127
theorem cbk_16 : ∀ M, 128 ≤ M → M < 136 → chkF (mC M) 0 (cbs.getD M []) = true := fun M h1 h2 => by
  obtain ⟨j, rfl⟩ : ∃ j, M = 128 + j := ⟨M - 128, by omega⟩
  have hj : j < 8 := by omega
  match j, hj with
  | 0, _ => exact chk128
  | 1, _ => exact chk129
  | 2, _ => exact chk130
  | 3, _ => exact chk131
  | 4, _ => exact chk132
  | 5, _ => exact chk133
  | 6, _ => exact chk134
  | 7, _ => exact chk135
theorem cbk_all (M : Nat) : chkF (mC M) 0 (cbs.getD M []) = true := by
  rcases Nat.lt_or_ge M 136 with h | h
  · have : (0 ≤ M ∧ M < 8) ∨ (8 ≤ M ∧ M < 16) ∨ (16 ≤ M ∧ M < 24) ∨ (24 ≤ M ∧ M < 32) ∨ (32 ≤ M ∧ M < 40) ∨ (40 ≤ M ∧ M < 48) ∨ (48 ≤ M ∧ M < 56) ∨ (56 ≤ M ∧ M < 64) ∨ (64 ≤ M ∧ M < 72) ∨ (72 ≤ M ∧ M < 80) ∨ (80 ≤ M ∧ M < 88) ∨ (88 ≤ M ∧ M < 96) ∨ (96 ≤ M ∧ M < 104) ∨ (104 ≤ M ∧ M < 112) ∨ (112 ≤ M ∧ M < 120) ∨ (120 ≤ M ∧ M < 128) ∨ (128 ≤ M ∧ M < 136) := by omega
    rcases this with ⟨h1, h2⟩ | ⟨h1, h2⟩ | ⟨h1, h2⟩ | ⟨h1, h2⟩ | ⟨h1, h2⟩ | ⟨h1, h2⟩ | ⟨h1, h2⟩ | ⟨h1, h2⟩ | ⟨h1, h2⟩ | ⟨h1, h2⟩ | ⟨h1, h2⟩ | ⟨h1, h2⟩ | ⟨h1, h2⟩ | ⟨h1, h2⟩ | ⟨h1, h2⟩ | ⟨h1, h2⟩ | ⟨h1, h2⟩
    · exact cbk_0 M h1 h2
    · exact cbk_1 M h1 h2
    · exact cbk_2 M h1 h2
    · exact cbk_3 M h1 h2
    · exact cbk_4 M h1 h2
    · exact cbk_5 M h1 h2
    · exact cbk_6 M h1 h2
    · exact cbk_7 M h1 h2
    · exact cbk_8 M h1 h2
    · exact cbk_9 M h1 h2
    · exact cbk_10 M h1 h2
    · exact cbk_11 M h1 h2
    · exact cbk_12 M h1 h2
    · exact cbk_13 M h1 h2
    · exact cbk_14 M h1 h2
    · exact cbk_15 M h1 h2
    · exact cbk_16 M h1 h2
  · have : cbs[M]? = none := List.getElem?_eq_none (by rw [cb_len]; exact h)
    have e : cbs.getD M [] = [] := by rw [List.getD_eq_getElem?_getD, this]; rfl
    rw [e]
    rfl
theorem cdT_ok {M pc : Nat} {i : Instr} {n : Nat} (h : cdT M pc = some (i, n)) : decode (mC M) pc = .ok (i, n) := by
  unfold cdT at h
  have := chkF_at _ 0 (pc / 32) (pc % 32) (i, n) (cbk_all M) h
  rw [show 32 * (0 + pc / 32) + pc % 32 = pc by omega] at this
  exact this
