/-! each method of the table -/
def mF (M : Nat) : Prop := plainFor (mI M).1 = true ∧ cnm.getD (mOwn M) "" = (mI M).1.cls ∧ (mInit M = true → (mI M).1.name = "<init>") ∧ ((mI M).2.2.2.2 = [] ∨ (mOwn M = 10 ∧ ∀ h ∈ (mI M).2.2.2.2, h.2.2.2 ∈ [13, 15, 37]))
set_option maxRecDepth 100000 in
theorem mf_0 : mF 0 := by unfold mF; decide +kernel
set_option maxRecDepth 100000 in
theorem mf_1 : mF 1 := by unfold mF; decide +kernel
set_option maxRecDepth 100000 in
theorem mf_2 : mF 2 := by unfold mF; decide +kernel
set_option maxRecDepth 100000 in
theorem mf_3 : mF 3 := by unfold mF; decide +kernel
set_option maxRecDepth 100000 in
theorem mf_4 : mF 4 := by unfold mF; decide +kernel
set_option maxRecDepth 100000 in
theorem mf_5 : mF 5 := by unfold mF; decide +kernel
set_option maxRecDepth 100000 in
theorem mf_6 : mF 6 := by unfold mF; decide +kernel
set_option maxRecDepth 100000 in
theorem mf_7 : mF 7 := by unfold mF; decide +kernel
set_option maxRecDepth 100000 in
theorem mf_8 : mF 8 := by unfold mF; decide +kernel
set_option maxRecDepth 100000 in
theorem mf_9 : mF 9 := by unfold mF; decide +kernel
set_option maxRecDepth 100000 in
theorem mf_10 : mF 10 := by unfold mF; decide +kernel
set_option maxRecDepth 100000 in
theorem mf_11 : mF 11 := by unfold mF; decide +kernel
set_option maxRecDepth 100000 in
theorem mf_12 : mF 12 := by unfold mF; decide +kernel
set_option maxRecDepth 100000 in
theorem mf_13 : mF 13 := by unfold mF; decide +kernel
set_option maxRecDepth 100000 in
theorem mf_14 : mF 14 := by unfold mF; decide +kernel
set_option maxRecDepth 100000 in
theorem mf_15 : mF 15 := by unfold mF; decide +kernel
set_option maxRecDepth 100000 in
theorem mf_16 : mF 16 := by unfold mF; decide +kernel
set_option maxRecDepth 100000 in
theorem mf_17 : mF 17 := by unfold mF; decide +kernel
set_option maxRecDepth 100000 in
theorem mf_18 : mF 18 := by unfold mF; decide +kernel
set_option maxRecDepth 100000 in
theorem mf_19 : mF 19 := by unfold mF; decide +kernel
set_option maxRecDepth 100000 in
theorem mf_20 : mF 20 := by unfold mF; decide +kernel
set_option maxRecDepth 100000 in
theorem mf_21 : mF 21 := by unfold mF; decide +kernel
set_option maxRecDepth 100000 in
theorem mf_22 : mF 22 := by unfold mF; decide +kernel
set_option maxRecDepth 100000 in
theorem mf_23 : mF 23 := by unfold mF; decide +kernel
set_option maxRecDepth 100000 in
theorem mf_24 : mF 24 := by unfold mF; decide +kernel
set_option maxRecDepth 100000 in
theorem mf_25 : mF 25 := by unfold mF; decide +kernel
set_option maxRecDepth 100000 in
theorem mf_26 : mF 26 := by unfold mF; decide +kernel
set_option maxRecDepth 100000 in
theorem mf_27 : mF 27 := by unfold mF; decide +kernel
set_option maxRecDepth 100000 in
theorem mf_28 : mF 28 := by unfold mF; decide +kernel
set_option maxRecDepth 100000 in
theorem mf_29 : mF 29 := by unfold mF; decide +kernel
set_option maxRecDepth 100000 in
theorem mf_30 : mF 30 := by unfold mF; decide +kernel
set_option maxRecDepth 100000 in
theorem mf_31 : mF 31 := by unfold mF; decide +kernel
set_option maxRecDepth 100000 in
theorem mf_32 : mF 32 := by unfold mF; decide +kernel
set_option maxRecDepth 100000 in
theorem mf_33 : mF 33 := by unfold mF; decide +kernel
set_option maxRecDepth 100000 in
theorem mf_34 : mF 34 := by unfold mF; decide +kernel
set_option maxRecDepth 100000 in
theorem mf_35 : mF 35 := by unfold mF; decide +kernel
set_option maxRecDepth 100000 in
theorem mf_36 : mF 36 := by unfold mF; decide +kernel
set_option maxRecDepth 100000 in
theorem mf_37 : mF 37 := by unfold mF; decide +kernel
set_option maxRecDepth 100000 in
theorem mf_38 : mF 38 := by unfold mF; decide +kernel
set_option maxRecDepth 100000 in
theorem mf_39 : mF 39 := by unfold mF; decide +kernel
set_option maxRecDepth 100000 in
theorem mf_40 : mF 40 := by unfold mF; decide +kernel
set_option maxRecDepth 100000 in
theorem mf_41 : mF 41 := by unfold mF; decide +kernel
set_option maxRecDepth 100000 in
theorem mf_42 : mF 42 := by unfold mF; decide +kernel
set_option maxRecDepth 100000 in
theorem mf_43 : mF 43 := by unfold mF; decide +kernel
set_option maxRecDepth 100000 in
theorem mf_44 : mF 44 := by unfold mF; decide +kernel
set_option maxRecDepth 100000 in
theorem mf_45 : mF 45 := by unfold mF; decide +kernel
set_option maxRecDepth 100000 in
theorem mf_46 : mF 46 := by unfold mF; decide +kernel
set_option maxRecDepth 100000 in
theorem mf_47 : mF 47 := by unfold mF; decide +kernel
set_option maxRecDepth 100000 in
theorem mf_48 : mF 48 := by unfold mF; decide +kernel
set_option maxRecDepth 100000 in
theorem mf_49 : mF 49 := by unfold mF; decide +kernel
set_option maxRecDepth 100000 in
theorem mf_50 : mF 50 := by unfold mF; decide +kernel
set_option maxRecDepth 100000 in
theorem mf_51 : mF 51 := by unfold mF; decide +kernel
set_option maxRecDepth 100000 in
theorem mf_52 : mF 52 := by unfold mF; decide +kernel
set_option maxRecDepth 100000 in
theorem mf_53 : mF 53 := by unfold mF; decide +kernel
set_option maxRecDepth 100000 in
theorem mf_54 : mF 54 := by unfold mF; decide +kernel
set_option maxRecDepth 100000 in
theorem mf_55 : mF 55 := by unfold mF; decide +kernel
set_option maxRecDepth 100000 in
theorem mf_56 : mF 56 := by unfold mF; decide +kernel
set_option maxRecDepth 100000 in
theorem mf_57 : mF 57 := by unfold mF; decide +kernel
set_option maxRecDepth 100000 in
theorem mf_58 : mF 58 := by unfold mF; decide +kernel
set_option maxRecDepth 100000 in
theorem mf_59 : mF 59 := by unfold mF; decide +kernel
set_option maxRecDepth 100000 in
theorem mf_60 : mF 60 := by unfold mF; decide +kernel
set_option maxRecDepth 100000 in
theorem mf_61 : mF 61 := by unfold mF; decide +kernel
set_option maxRecDepth 100000 in
theorem mf_62 : mF 62 := by unfold mF; decide +kernel
set_option maxRecDepth 100000 in
theorem mf_63 : mF 63 := by unfold mF; decide +kernel
set_option maxRecDepth 100000 in
theorem mf_64 : mF 64 := by unfold mF; decide +kernel
set_option maxRecDepth 100000 in
theorem mf_65 : mF 65 := by unfold mF; decide +kernel
set_option maxRecDepth 100000 in
theorem mf_66 : mF 66 := by unfold mF; decide +kernel
set_option maxRecDepth 100000 in
theorem mf_67 : mF 67 := by unfold mF; decide +kernel
set_option maxRecDepth 100000 in
theorem mf_68 : mF 68 := by unfold mF; decide +kernel
set_option maxRecDepth 100000 in
theorem mf_69 : mF 69 := by unfold mF; decide +kernel
set_option maxRecDepth 100000 in
theorem mf_70 : mF 70 := by unfold mF; decide +kernel
set_option maxRecDepth 100000 in
theorem mf_71 : mF 71 := by unfold mF; decide +kernel
set_option maxRecDepth 100000 in
theorem mf_72 : mF 72 := by unfold mF; decide +kernel
set_option maxRecDepth 100000 in
theorem mf_73 : mF 73 := by unfold mF; decide +kernel
set_option maxRecDepth 100000 in
theorem mf_74 : mF 74 := by unfold mF; decide +kernel
set_option maxRecDepth 100000 in
theorem mf_75 : mF 75 := by unfold mF; decide +kernel
set_option maxRecDepth 100000 in
theorem mf_76 : mF 76 := by unfold mF; decide +kernel
set_option maxRecDepth 100000 in
theorem mf_77 : mF 77 := by unfold mF; decide +kernel
set_option maxRecDepth 100000 in
theorem mf_78 : mF 78 := by unfold mF; decide +kernel
set_option maxRecDepth 100000 in
theorem mf_79 : mF 79 := by unfold mF; decide +kernel
set_option maxRecDepth 100000 in
theorem mf_80 : mF 80 := by unfold mF; decide +kernel
set_option maxRecDepth 100000 in
theorem mf_81 : mF 81 := by unfold mF; decide +kernel
set_option maxRecDepth 100000 in
theorem mf_82 : mF 82 := by unfold mF; decide +kernel
set_option maxRecDepth 100000 in
theorem mf_83 : mF 83 := by unfold mF; decide +kernel
set_option maxRecDepth 100000 in
theorem mf_84 : mF 84 := by unfold mF; decide +kernel
set_option maxRecDepth 100000 in
theorem mf_85 : mF 85 := by unfold mF; decide +kernel
set_option maxRecDepth 100000 in
theorem mf_86 : mF 86 := by unfold mF; decide +kernel
set_option maxRecDepth 100000 in
theorem mf_87 : mF 87 := by unfold mF; decide +kernel
set_option maxRecDepth 100000 in
theorem mf_88 : mF 88 := by unfold mF; decide +kernel
set_option maxRecDepth 100000 in
theorem mf_89 : mF 89 := by unfold mF; decide +kernel
set_option maxRecDepth 100000 in
theorem mf_90 : mF 90 := by unfold mF; decide +kernel
set_option maxRecDepth 100000 in
theorem mf_91 : mF 91 := by unfold mF; decide +kernel
set_option maxRecDepth 100000 in
theorem mf_92 : mF 92 := by unfold mF; decide +kernel
set_option maxRecDepth 100000 in
theorem mf_93 : mF 93 := by unfold mF; decide +kernel
set_option maxRecDepth 100000 in
theorem mf_94 : mF 94 := by unfold mF; decide +kernel
set_option maxRecDepth 100000 in
theorem mf_95 : mF 95 := by unfold mF; decide +kernel
set_option maxRecDepth 100000 in
theorem mf_96 : mF 96 := by unfold mF; decide +kernel
set_option maxRecDepth 100000 in
theorem mf_97 : mF 97 := by unfold mF; decide +kernel
set_option maxRecDepth 100000 in
theorem mf_98 : mF 98 := by unfold mF; decide +kernel
set_option maxRecDepth 100000 in
theorem mf_99 : mF 99 := by unfold mF; decide +kernel
set_option maxRecDepth 100000 in
theorem mf_100 : mF 100 := by unfold mF; decide +kernel
set_option maxRecDepth 100000 in
theorem mf_101 : mF 101 := by unfold mF; decide +kernel
set_option maxRecDepth 100000 in
theorem mf_102 : mF 102 := by unfold mF; decide +kernel
set_option maxRecDepth 100000 in
theorem mf_103 : mF 103 := by unfold mF; decide +kernel
set_option maxRecDepth 100000 in
theorem mf_104 : mF 104 := by unfold mF; decide +kernel
set_option maxRecDepth 100000 in
theorem mf_105 : mF 105 := by unfold mF; decide +kernel
set_option maxRecDepth 100000 in
theorem mf_106 : mF 106 := by unfold mF; decide +kernel
set_option maxRecDepth 100000 in
theorem mf_107 : mF 107 := by unfold mF; decide +kernel
set_option maxRecDepth 100000 in
theorem mf_108 : mF 108 := by unfold mF; decide +kernel
set_option maxRecDepth 100000 in
theorem mf_109 : mF 109 := by unfold mF; decide +kernel
set_option maxRecDepth 100000 in
theorem mf_110 : mF 110 := by unfold mF; decide +kernel
set_option maxRecDepth 100000 in
theorem mf_111 : mF 111 := by unfold mF; decide +kernel
set_option maxRecDepth 100000 in
theorem mf_112 : mF 112 := by unfold mF; decide +kernel
set_option maxRecDepth 100000 in
theorem mf_113 : mF 113 := by unfold mF; decide +kernel
set_option maxRecDepth 100000 in
theorem mf_114 : mF 114 := by unfold mF; decide +kernel
set_option maxRecDepth 100000 in
theorem mf_115 : mF 115 := by unfold mF; decide +kernel
set_option maxRecDepth 100000 in
theorem mf_116 : mF 116 := by unfold mF; decide +kernel
set_option maxRecDepth 100000 in
theorem mf_117 : mF 117 := by unfold mF; decide +kernel
set_option maxRecDepth 100000 in
theorem mf_118 : mF 118 := by unfold mF; decide +kernel
set_option maxRecDepth 100000 in
theorem mf_119 : mF 119 := by unfold mF; decide +kernel
set_option maxRecDepth 100000 in
theorem mf_120 : mF 120 := by unfold mF; decide +kernel
set_option maxRecDepth 100000 in
theorem mf_121 : mF 121 := by unfold mF; decide +kernel
set_option maxRecDepth 100000 in
theorem mf_122 : mF 122 := by unfold mF; decide +kernel
set_option maxRecDepth 100000 in
theorem mf_123 : mF 123 := by unfold mF; decide +kernel
set_option maxRecDepth 100000 in
theorem mf_124 : mF 124 := by unfold mF; decide +kernel
set_option maxRecDepth 100000 in
theorem mf_125 : mF 125 := by unfold mF; decide +kernel
set_option maxRecDepth 100000 in
theorem mf_126 : mF 126 := by unfold mF; decide +kernel
set_option maxRecDepth 100000 in
theorem mf_127 : mF 127 := by unfold mF; decide +kernel
set_option maxRecDepth 100000 in
theorem mf_128 : mF 128 := by unfold mF; decide +kernel
set_option maxRecDepth 100000 in
theorem mf_129 : mF 129 := by unfold mF; decide +kernel
set_option maxRecDepth 100000 in
theorem mf_130 : mF 130 := by unfold mF; decide +kernel
set_option maxRecDepth 100000 in
theorem mf_131 : mF 131 := by unfold mF; decide +kernel
set_option maxRecDepth 100000 in
theorem mf_132 : mF 132 := by unfold mF; decide +kernel
set_option maxRecDepth 100000 in
theorem mf_133 : mF 133 := by unfold mF; decide +kernel
set_option maxRecDepth 100000 in
theorem mf_134 : mF 134 := by unfold mF; decide +kernel
set_option maxRecDepth 100000 in
theorem mf_135 : mF 135 := by unfold mF; decide +kernel
theorem mfg_0 : ∀ M, 0 ≤ M → M < 8 → mF M := fun M h1 h2 => by
  obtain ⟨j, rfl⟩ : ∃ j, M = 0 + j := ⟨M - 0, by omega⟩
  have hj : j < 8 := by omega
  match j, hj with
  | 0, _ => exact mf_0
  | 1, _ => exact mf_1
  | 2, _ => exact mf_2
  | 3, _ => exact mf_3
  | 4, _ => exact mf_4
  | 5, _ => exact mf_5
  | 6, _ => exact mf_6
  | 7, _ => exact mf_7
theorem mfg_1 : ∀ M, 8 ≤ M → M < 16 → mF M := fun M h1 h2 => by
  obtain ⟨j, rfl⟩ : ∃ j, M = 8 + j := ⟨M - 8, by omega⟩
  have hj : j < 8 := by omega
  match j, hj with
  | 0, _ => exact mf_8
  | 1, _ => exact mf_9
  | 2, _ => exact mf_10
  | 3, _ => exact mf_11
  | 4, _ => exact mf_12
  | 5, _ => exact mf_13
  | 6, _ => exact mf_14
  | 7, _ => exact mf_15
theorem mfg_2 : ∀ M, 16 ≤ M → M < 24 → mF M := fun M h1 h2 => by
  obtain ⟨j, rfl⟩ : ∃ j, M = 16 + j := ⟨M - 16, by omega⟩
  have hj : j < 8 := by omega
  match j, hj with
  | 0, _ => exact mf_16
  | 1, _ => exact mf_17
  | 2, _ => exact mf_18
  | 3, _ => exact mf_19
  | 4, _ => exact mf_20
  | 5, _ => exact mf_21
  | 6, _ => exact mf_22
  | 7, _ => exact mf_23
theorem mfg_3 : ∀ M, 24 ≤ M → M < 32 → mF M := fun M h1 h2 => by
  obtain ⟨j, rfl⟩ : ∃ j, M = 24 + j := ⟨M - 24, by omega⟩
  have hj : j < 8 := by omega
  match j, hj with
  | 0, _ => exact mf_24
  | 1, _ => exact mf_25
  | 2, _ => exact mf_26
  | 3, _ => exact mf_27
  | 4, _ => exact mf_28
  | 5, _ => exact mf_29
  | 6, _ => exact mf_30
  | 7, _ => exact mf_31
theorem mfg_4 : ∀ M, 32 ≤ M → M < 40 → mF M := fun M h1 h2 => by
  obtain ⟨j, rfl⟩ : ∃ j, M = 32 + j := ⟨M - 32, by omega⟩
  have hj : j < 8 := by omega
  match j, hj with
  | 0, _ => exact mf_32
  | 1, _ => exact mf_33
  | 2, _ => exact mf_34
  | 3, _ => exact mf_35
  | 4, _ => exact mf_36
  | 5, _ => exact mf_37
  | 6, _ => exact mf_38
  | 7, _ => exact mf_39
theorem mfg_5 : ∀ M, 40 ≤ M → M < 48 → mF M := fun M h1 h2 => by
  obtain ⟨j, rfl⟩ : ∃ j, M = 40 + j := ⟨M - 40, by omega⟩
  have hj : j < 8 := by omega
  match j, hj with
  | 0, _ => exact mf_40
  | 1, _ => exact mf_41
  | 2, _ => exact mf_42
  | 3, _ => exact mf_43
  | 4, _ => exact mf_44
  | 5, _ => exact mf_45
  | 6, _ => exact mf_46
  | 7, _ => exact mf_47
theorem mfg_6 : ∀ M, 48 ≤ M → M < 56 → mF M := fun M h1 h2 => by
  obtain ⟨j, rfl⟩ : ∃ j, M = 48 + j := ⟨M - 48, by omega⟩
  have hj : j < 8 := by omega
  match j, hj with
  | 0, _ => exact mf_48
  | 1, _ => exact mf_49
  | 2, _ => exact mf_50
  | 3, _ => exact mf_51
  | 4, _ => exact mf_52
  | 5, _ => exact mf_53
  | 6, _ => exact mf_54
  | 7, _ => exact mf_55
theorem mfg_7 : ∀ M, 56 ≤ M → M < 64 → mF M := fun M h1 h2 => by
  obtain ⟨j, rfl⟩ : ∃ j, M = 56 + j := ⟨M - 56, by omega⟩
  have hj : j < 8 := by omega
  match j, hj with
  | 0, _ => exact mf_56
  | 1, _ => exact mf_57
  | 2, _ => exact mf_58
  | 3, _ => exact mf_59
  | 4, _ => exact mf_60
  | 5, _ => exact mf_61
  | 6, _ => exact mf_62
  | 7, _ => exact mf_63
theorem mfg_8 : ∀ M, 64 ≤ M → M < 72 → mF M := fun M h1 h2 => by
  obtain ⟨j, rfl⟩ : ∃ j, M = 64 + j := ⟨M - 64, by omega⟩
  have hj : j < 8 := by omega
  match j, hj with
  | 0, _ => exact mf_64
  | 1, _ => exact mf_65
  | 2, _ => exact mf_66
  | 3, _ => exact mf_67
  | 4, _ => exact mf_68
  | 5, _ => exact mf_69
  | 6, _ => exact mf_70
  | 7, _ => exact mf_71
theorem mfg_9 : ∀ M, 72 ≤ M → M < 80 → mF M := fun M h1 h2 => by
  obtain ⟨j, rfl⟩ : ∃ j, M = 72 + j := ⟨M - 72, by omega⟩
  have hj : j < 8 := by omega
  match j, hj with
  | 0, _ => exact mf_72
  | 1, _ => exact mf_73
  | 2, _ => exact mf_74
  | 3, _ => exact mf_75
  | 4, _ => exact mf_76
  | 5, _ => exact mf_77
  | 6, _ => exact mf_78
  | 7, _ => exact mf_79
theorem mfg_10 : ∀ M, 80 ≤ M → M < 88 → mF M := fun M h1 h2 => by
  obtain ⟨j, rfl⟩ : ∃ j, M = 80 + j := ⟨M - 80, by omega⟩
  have hj : j < 8 := by omega
  match j, hj with
  | 0, _ => exact mf_80
  | 1, _ => exact mf_81
  | 2, _ => exact mf_82
  | 3, _ => exact mf_83
  | 4, _ => exact mf_84
  | 5, _ => exact mf_85
  | 6, _ => exact mf_86
  | 7, _ => exact mf_87
theorem mfg_11 : ∀ M, 88 ≤ M → M < 96 → mF M := fun M h1 h2 => by
  obtain ⟨j, rfl⟩ : ∃ j, M = 88 + j := ⟨M - 88, by omega⟩
  have hj : j < 8 := by omega
  match j, hj with
  | 0, _ => exact mf_88
  | 1, _ => exact mf_89
  | 2, _ => exact mf_90
  | 3, _ => exact mf_91
  | 4, _ => exact mf_92
  | 5, _ => exact mf_93
  | 6, _ => exact mf_94
  | 7, _ => exact mf_95
theorem mfg_12 : ∀ M, 96 ≤ M → M < 104 → mF M := fun M h1 h2 => by
  obtain ⟨j, rfl⟩ : ∃ j, M = 96 + j := ⟨M - 96, by omega⟩
  have hj : j < 8 := by omega
  match j, hj with
  | 0, _ => exact mf_96
  | 1, _ => exact mf_97
  | 2, _ => exact mf_98
  | 3, _ => exact mf_99
  | 4, _ => exact mf_100
  | 5, _ => exact mf_101
  | 6, _ => exact mf_102
  | 7, _ => exact mf_103
theorem mfg_13 : ∀ M, 104 ≤ M → M < 112 → mF M := fun M h1 h2 => by
  obtain ⟨j, rfl⟩ : ∃ j, M = 104 + j := ⟨M - 104, by omega⟩
  have hj : j < 8 := by omega
  match j, hj with
  | 0, _ => exact mf_104
  | 1, _ => exact mf_105
  | 2, _ => exact mf_106
  | 3, _ => exact mf_107
  | 4, _ => exact mf_108
  | 5, _ => exact mf_109
  | 6, _ => exact mf_110
  | 7, _ => exact mf_111
theorem mfg_14 : ∀ M, 112 ≤ M → M < 120 → mF M := fun M h1 h2 => by
  obtain ⟨j, rfl⟩ : ∃ j, M = 112 + j := ⟨M - 112, by omega⟩
  have hj : j < 8 := by omega
  match j, hj with
  | 0, _ => exact mf_112
  | 1, _ => exact mf_113
  | 2, _ => exact mf_114
  | 3, _ => exact mf_115
  | 4, _ => exact mf_116
  | 5, _ => exact mf_117
  | 6, _ => exact mf_118
  | 7, _ => exact mf_119
theorem mfg_15 : ∀ M, 120 ≤ M → M < 128 → mF M := fun M h1 h2 => by
  obtain ⟨j, rfl⟩ : ∃ j, M = 120 + j := ⟨M - 120, by omega⟩
  have hj : j < 8 := by omega
  match j, hj with
  | 0, _ => exact mf_120
  | 1, _ => exact mf_121
  | 2, _ => exact mf_122
  | 3, _ => exact mf_123
  | 4, _ => exact mf_124
  | 5, _ => exact mf_125
  | 6, _ => exact mf_126
  | 7, _ => exact mf_127
theorem mfg_16 : ∀ M, 128 ≤ M → M < 136 → mF M := fun M h1 h2 => by
  obtain ⟨j, rfl⟩ : ∃ j, M = 128 + j := ⟨M - 128, by omega⟩
  have hj : j < 8 := by omega
  match j, hj with
  | 0, _ => exact mf_128
  | 1, _ => exact mf_129
  | 2, _ => exact mf_130
  | 3, _ => exact mf_131
  | 4, _ => exact mf_132
  | 5, _ => exact mf_133
  | 6, _ => exact mf_134
  | 7, _ => exact mf_135
theorem mf_all (M : Nat) (h : M < 136) : mF M := by
  have : (0 ≤ M ∧ M < 8) ∨ (8 ≤ M ∧ M < 16) ∨ (16 ≤ M ∧ M < 24) ∨ (24 ≤ M ∧ M < 32) ∨ (32 ≤ M ∧ M < 40) ∨ (40 ≤ M ∧ M < 48) ∨ (48 ≤ M ∧ M < 56) ∨ (56 ≤ M ∧ M < 64) ∨ (64 ≤ M ∧ M < 72) ∨ (72 ≤ M ∧ M < 80) ∨ (80 ≤ M ∧ M < 88) ∨ (88 ≤ M ∧ M < 96) ∨ (96 ≤ M ∧ M < 104) ∨ (104 ≤ M ∧ M < 112) ∨ (112 ≤ M ∧ M < 120) ∨ (120 ≤ M ∧ M < 128) ∨ (128 ≤ M ∧ M < 136) := by omega
  rcases this with ⟨h1, h2⟩ | ⟨h1, h2⟩ | ⟨h1, h2⟩ | ⟨h1, h2⟩ | ⟨h1, h2⟩ | ⟨h1, h2⟩ | ⟨h1, h2⟩ | ⟨h1, h2⟩ | ⟨h1, h2⟩ | ⟨h1, h2⟩ | ⟨h1, h2⟩ | ⟨h1, h2⟩ | ⟨h1, h2⟩ | ⟨h1, h2⟩ | ⟨h1, h2⟩ | ⟨h1, h2⟩ | ⟨h1, h2⟩
  · exact mfg_0 M h1 h2
  · exact mfg_1 M h1 h2
  · exact mfg_2 M h1 h2
  · exact mfg_3 M h1 h2
  · exact mfg_4 M h1 h2
  · exact mfg_5 M h1 h2
  · exact mfg_6 M h1 h2
  · exact mfg_7 M h1 h2
  · exact mfg_8 M h1 h2
  · exact mfg_9 M h1 h2
  · exact mfg_10 M h1 h2
  · exact mfg_11 M h1 h2
  · exact mfg_12 M h1 h2
  · exact mfg_13 M h1 h2
  · exact mfg_14 M h1 h2
  · exact mfg_15 M h1 h2
  · exact mfg_16 M h1 h2
set_option maxRecDepth 100000 in
theorem hx_in : ∀ t ∈ [13, 15, 37], t ≠ 0 ∧ (xres.lookup (1000 * 10 + t)).isSome = true ∧ inT (.classLink (cnm.getD 10 "") t (exn.getD ((xres.lookup (1000 * 10 + t)).getD 0) "")) = true ∧ exn.getD ((xres.lookup (1000 * 10 + t)).getD 0) "" ∈ exn := by decide +kernel
theorem hOk_of {M : Nat} (h : mF M) : hOk M := by
  obtain ⟨-, -, -, h⟩ := h
  intro t ht
  rcases h with h | ⟨h1, h2⟩
  · rw [h] at ht; cases ht
  · obtain ⟨k1, k2, k3, k4⟩ := hx_in _ (h2 t ht)
    obtain ⟨x, hx⟩ := Option.isSome_iff_exists.mp k2
    rw [hx] at k3 k4
    rw [h1]
    exact ⟨k1, x, hx, inT_G k3, k4⟩
