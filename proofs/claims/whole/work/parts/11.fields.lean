/-! numbers of the cells, their kinds and lengths; rows for the fields -/
theorem gk_0 : gK 0 = 8 := by decide +kernel
theorem gk_1 : gK 1 = 12 := by decide +kernel
theorem gl_1 : gL 1 = 8 := by decide +kernel
theorem gk_2 : gK 2 = 6 := by decide +kernel
theorem gk_3 : gK 3 = 10 := by decide +kernel
theorem gl_3 : gL 3 = 120 := by decide +kernel
theorem gk_4 : gK 4 = 2 := by decide +kernel
theorem gk_5 : gK 5 = 7 := by decide +kernel
theorem gk_6 : gK 6 = 10 := by decide +kernel
theorem gl_6 : gL 6 = 5 := by decide +kernel
theorem gk_7 : gK 7 = 10 := by decide +kernel
theorem gl_7 : gL 7 = 5 := by decide +kernel
theorem gk_8 : gK 8 = 10 := by decide +kernel
theorem gl_8 : gL 8 = 6 := by decide +kernel
theorem gk_9 : gK 9 = 10 := by decide +kernel
theorem gl_9 : gL 9 = 6 := by decide +kernel
theorem gk_10 : gK 10 = 10 := by decide +kernel
theorem gl_10 : gL 10 = 6 := by decide +kernel
theorem gk_11 : gK 11 = 3 := by decide +kernel
theorem gk_12 : gK 12 = 10 := by decide +kernel
theorem gl_12 : gL 12 = 6 := by decide +kernel
theorem gk_13 : gK 13 = 10 := by decide +kernel
theorem gl_13 : gL 13 = 5 := by decide +kernel
theorem gk_14 : gK 14 = 2 := by decide +kernel
theorem gk_15 : gK 15 = 7 := by decide +kernel
theorem gk_16 : gK 16 = 10 := by decide +kernel
theorem gl_16 : gL 16 = 5 := by decide +kernel
theorem gk_17 : gK 17 = 10 := by decide +kernel
theorem gl_17 : gL 17 = 5 := by decide +kernel
theorem gk_18 : gK 18 = 10 := by decide +kernel
theorem gl_18 : gL 18 = 6 := by decide +kernel
theorem gk_19 : gK 19 = 10 := by decide +kernel
theorem gl_19 : gL 19 = 6 := by decide +kernel
theorem gk_20 : gK 20 = 10 := by decide +kernel
theorem gl_20 : gL 20 = 6 := by decide +kernel
theorem gk_21 : gK 21 = 3 := by decide +kernel
theorem gk_22 : gK 22 = 10 := by decide +kernel
theorem gl_22 : gL 22 = 6 := by decide +kernel
theorem gk_23 : gK 23 = 10 := by decide +kernel
theorem gl_23 : gL 23 = 5 := by decide +kernel
theorem gk_24 : gK 24 = 13 := by decide +kernel
theorem gl_24 : gL 24 = 2 := by decide +kernel
theorem gk_25 : gK 25 = 0 := by decide +kernel
theorem gk_26 : gK 26 = 14 := by decide +kernel
theorem gl_26 : gL 26 = 24 := by decide +kernel
theorem gk_27 : gK 27 = 3 := by decide +kernel
theorem gk_28 : gK 28 = 10 := by decide +kernel
theorem gl_28 : gL 28 = 6 := by decide +kernel
theorem gk_29 : gK 29 = 10 := by decide +kernel
theorem gl_29 : gL 29 = 5 := by decide +kernel
theorem gk_30 : gK 30 = 3 := by decide +kernel
theorem gk_31 : gK 31 = 10 := by decide +kernel
theorem gl_31 : gL 31 = 6 := by decide +kernel
theorem gk_32 : gK 32 = 10 := by decide +kernel
theorem gl_32 : gL 32 = 5 := by decide +kernel
theorem gk_33 : gK 33 = 3 := by decide +kernel
theorem gk_34 : gK 34 = 10 := by decide +kernel
theorem gl_34 : gL 34 = 6 := by decide +kernel
theorem gk_35 : gK 35 = 10 := by decide +kernel
theorem gl_35 : gL 35 = 5 := by decide +kernel
theorem gk_36 : gK 36 = 3 := by decide +kernel
theorem gk_37 : gK 37 = 10 := by decide +kernel
theorem gl_37 : gL 37 = 6 := by decide +kernel
theorem gk_38 : gK 38 = 10 := by decide +kernel
theorem gl_38 : gL 38 = 5 := by decide +kernel
theorem gk_39 : gK 39 = 3 := by decide +kernel
theorem gk_40 : gK 40 = 10 := by decide +kernel
theorem gl_40 : gL 40 = 6 := by decide +kernel
theorem gk_41 : gK 41 = 10 := by decide +kernel
theorem gl_41 : gL 41 = 5 := by decide +kernel
theorem gk_42 : gK 42 = 3 := by decide +kernel
theorem gk_43 : gK 43 = 10 := by decide +kernel
theorem gl_43 : gL 43 = 6 := by decide +kernel
theorem gk_44 : gK 44 = 10 := by decide +kernel
theorem gl_44 : gL 44 = 5 := by decide +kernel
theorem gk_45 : gK 45 = 3 := by decide +kernel
theorem gk_46 : gK 46 = 10 := by decide +kernel
theorem gl_46 : gL 46 = 6 := by decide +kernel
theorem gk_47 : gK 47 = 10 := by decide +kernel
theorem gl_47 : gL 47 = 5 := by decide +kernel
theorem gk_48 : gK 48 = 3 := by decide +kernel
theorem gk_49 : gK 49 = 10 := by decide +kernel
theorem gl_49 : gL 49 = 6 := by decide +kernel
theorem gk_50 : gK 50 = 10 := by decide +kernel
theorem gl_50 : gL 50 = 5 := by decide +kernel
theorem gk_51 : gK 51 = 3 := by decide +kernel
theorem gk_52 : gK 52 = 10 := by decide +kernel
theorem gl_52 : gL 52 = 6 := by decide +kernel
theorem gk_53 : gK 53 = 10 := by decide +kernel
theorem gl_53 : gL 53 = 5 := by decide +kernel
theorem gk_54 : gK 54 = 3 := by decide +kernel
theorem gk_55 : gK 55 = 10 := by decide +kernel
theorem gl_55 : gL 55 = 6 := by decide +kernel
theorem gk_56 : gK 56 = 10 := by decide +kernel
theorem gl_56 : gL 56 = 5 := by decide +kernel
theorem gk_57 : gK 57 = 3 := by decide +kernel
theorem gk_58 : gK 58 = 10 := by decide +kernel
theorem gl_58 : gL 58 = 6 := by decide +kernel
theorem gk_59 : gK 59 = 10 := by decide +kernel
theorem gl_59 : gL 59 = 5 := by decide +kernel
theorem gk_60 : gK 60 = 3 := by decide +kernel
theorem gk_61 : gK 61 = 10 := by decide +kernel
theorem gl_61 : gL 61 = 6 := by decide +kernel
theorem gk_62 : gK 62 = 10 := by decide +kernel
theorem gl_62 : gL 62 = 5 := by decide +kernel
theorem gk_63 : gK 63 = 3 := by decide +kernel
theorem gk_64 : gK 64 = 10 := by decide +kernel
theorem gl_64 : gL 64 = 6 := by decide +kernel
theorem gk_65 : gK 65 = 10 := by decide +kernel
theorem gl_65 : gL 65 = 5 := by decide +kernel
theorem gk_66 : gK 66 = 3 := by decide +kernel
theorem gk_67 : gK 67 = 10 := by decide +kernel
theorem gl_67 : gL 67 = 6 := by decide +kernel
theorem gk_68 : gK 68 = 10 := by decide +kernel
theorem gl_68 : gL 68 = 5 := by decide +kernel
theorem gk_69 : gK 69 = 3 := by decide +kernel
theorem gk_70 : gK 70 = 10 := by decide +kernel
theorem gl_70 : gL 70 = 6 := by decide +kernel
theorem gk_71 : gK 71 = 10 := by decide +kernel
theorem gl_71 : gL 71 = 5 := by decide +kernel
theorem gk_72 : gK 72 = 3 := by decide +kernel
theorem gk_73 : gK 73 = 10 := by decide +kernel
theorem gl_73 : gL 73 = 6 := by decide +kernel
theorem gk_74 : gK 74 = 10 := by decide +kernel
theorem gl_74 : gL 74 = 5 := by decide +kernel
theorem gk_75 : gK 75 = 3 := by decide +kernel
theorem gk_76 : gK 76 = 10 := by decide +kernel
theorem gl_76 : gL 76 = 6 := by decide +kernel
theorem gk_77 : gK 77 = 10 := by decide +kernel
theorem gl_77 : gL 77 = 5 := by decide +kernel
theorem gk_78 : gK 78 = 3 := by decide +kernel
theorem gk_79 : gK 79 = 10 := by decide +kernel
theorem gl_79 : gL 79 = 6 := by decide +kernel
theorem gk_80 : gK 80 = 10 := by decide +kernel
theorem gl_80 : gL 80 = 5 := by decide +kernel
theorem gk_81 : gK 81 = 3 := by decide +kernel
theorem gk_82 : gK 82 = 10 := by decide +kernel
theorem gl_82 : gL 82 = 6 := by decide +kernel
theorem gk_83 : gK 83 = 10 := by decide +kernel
theorem gl_83 : gL 83 = 5 := by decide +kernel
theorem gk_84 : gK 84 = 3 := by decide +kernel
theorem gk_85 : gK 85 = 10 := by decide +kernel
theorem gl_85 : gL 85 = 6 := by decide +kernel
theorem gk_86 : gK 86 = 10 := by decide +kernel
theorem gl_86 : gL 86 = 5 := by decide +kernel
theorem gk_87 : gK 87 = 3 := by decide +kernel
theorem gk_88 : gK 88 = 10 := by decide +kernel
theorem gl_88 : gL 88 = 6 := by decide +kernel
theorem gk_89 : gK 89 = 10 := by decide +kernel
theorem gl_89 : gL 89 = 5 := by decide +kernel
theorem gk_90 : gK 90 = 3 := by decide +kernel
theorem gk_91 : gK 91 = 10 := by decide +kernel
theorem gl_91 : gL 91 = 6 := by decide +kernel
theorem gk_92 : gK 92 = 10 := by decide +kernel
theorem gl_92 : gL 92 = 5 := by decide +kernel
theorem gk_93 : gK 93 = 3 := by decide +kernel
theorem gk_94 : gK 94 = 10 := by decide +kernel
theorem gl_94 : gL 94 = 6 := by decide +kernel
theorem gk_95 : gK 95 = 10 := by decide +kernel
theorem gl_95 : gL 95 = 5 := by decide +kernel
theorem gk_96 : gK 96 = 3 := by decide +kernel
theorem gk_97 : gK 97 = 10 := by decide +kernel
theorem gl_97 : gL 97 = 6 := by decide +kernel
theorem gk_98 : gK 98 = 10 := by decide +kernel
theorem gl_98 : gL 98 = 5 := by decide +kernel
theorem gk_99 : gK 99 = 4 := by decide +kernel
theorem gk_100 : gK 100 = 10 := by decide +kernel
theorem gl_100 : gL 100 = 5 := by decide +kernel
theorem gk_101 : gK 101 = 10 := by decide +kernel
theorem gl_101 : gL 101 = 5 := by decide +kernel
theorem gk_102 : gK 102 = 1 := by decide +kernel
theorem gk_103 : gK 103 = 10 := by decide +kernel
theorem gl_103 : gL 103 = 16 := by decide +kernel
theorem gk_104 : gK 104 = 5 := by decide +kernel
theorem gk_105 : gK 105 = 10 := by decide +kernel
theorem gl_105 : gL 105 = 40 := by decide +kernel
theorem gk_106 : gK 106 = 5 := by decide +kernel
theorem gk_107 : gK 107 = 10 := by decide +kernel
theorem gl_107 : gL 107 = 40 := by decide +kernel
theorem gk_108 : gK 108 = 5 := by decide +kernel
theorem gk_109 : gK 109 = 10 := by decide +kernel
theorem gl_109 : gL 109 = 40 := by decide +kernel
theorem gk_110 : gK 110 = 5 := by decide +kernel
theorem gk_111 : gK 111 = 10 := by decide +kernel
theorem gl_111 : gL 111 = 40 := by decide +kernel
theorem gk_112 : gK 112 = 5 := by decide +kernel
theorem gk_113 : gK 113 = 10 := by decide +kernel
theorem gl_113 : gL 113 = 40 := by decide +kernel
theorem gk_114 : gK 114 = 5 := by decide +kernel
theorem gk_115 : gK 115 = 10 := by decide +kernel
theorem gl_115 : gL 115 = 40 := by decide +kernel
theorem gk_116 : gK 116 = 5 := by decide +kernel
theorem gk_117 : gK 117 = 10 := by decide +kernel
theorem gl_117 : gL 117 = 40 := by decide +kernel
theorem gk_118 : gK 118 = 5 := by decide +kernel
theorem gk_119 : gK 119 = 10 := by decide +kernel
theorem gl_119 : gL 119 = 40 := by decide +kernel
theorem gk_120 : gK 120 = 2 := by decide +kernel
theorem gk_121 : gK 121 = 7 := by decide +kernel
theorem gk_122 : gK 122 = 10 := by decide +kernel
theorem gl_122 : gL 122 = 5 := by decide +kernel
theorem gk_123 : gK 123 = 10 := by decide +kernel
theorem gl_123 : gL 123 = 5 := by decide +kernel
theorem gk_124 : gK 124 = 10 := by decide +kernel
theorem gl_124 : gL 124 = 6 := by decide +kernel
theorem gk_125 : gK 125 = 10 := by decide +kernel
theorem gl_125 : gL 125 = 6 := by decide +kernel
theorem gk_126 : gK 126 = 10 := by decide +kernel
theorem gl_126 : gL 126 = 6 := by decide +kernel
theorem gk_127 : gK 127 = 3 := by decide +kernel
theorem gk_128 : gK 128 = 10 := by decide +kernel
theorem gl_128 : gL 128 = 6 := by decide +kernel
theorem gk_129 : gK 129 = 10 := by decide +kernel
theorem gl_129 : gL 129 = 5 := by decide +kernel
theorem gk_130 : gK 130 = 2 := by decide +kernel
theorem gk_131 : gK 131 = 7 := by decide +kernel
theorem gk_132 : gK 132 = 10 := by decide +kernel
theorem gl_132 : gL 132 = 5 := by decide +kernel
theorem gk_133 : gK 133 = 10 := by decide +kernel
theorem gl_133 : gL 133 = 5 := by decide +kernel
theorem gk_134 : gK 134 = 10 := by decide +kernel
theorem gl_134 : gL 134 = 6 := by decide +kernel
theorem gk_135 : gK 135 = 10 := by decide +kernel
theorem gl_135 : gL 135 = 6 := by decide +kernel
theorem gk_136 : gK 136 = 10 := by decide +kernel
theorem gl_136 : gL 136 = 6 := by decide +kernel
theorem gk_137 : gK 137 = 3 := by decide +kernel
theorem gk_138 : gK 138 = 10 := by decide +kernel
theorem gl_138 : gL 138 = 6 := by decide +kernel
theorem gk_139 : gK 139 = 10 := by decide +kernel
theorem gl_139 : gL 139 = 5 := by decide +kernel
theorem gk_140 : gK 140 = 9 := by decide +kernel
theorem gk_141 : gK 141 = 10 := by decide +kernel
theorem gl_141 : gL 141 = 8 := by decide +kernel
theorem gk_142 : gK 142 = 10 := by decide +kernel
theorem gl_142 : gL 142 = 8 := by decide +kernel
theorem gk_143 : gK 143 = 10 := by decide +kernel
theorem gl_143 : gL 143 = 320 := by decide +kernel
theorem gk_144 : gK 144 = 10 := by decide +kernel
theorem gl_144 : gL 144 = 40 := by decide +kernel
theorem gk_145 : gK 145 = 10 := by decide +kernel
theorem gl_145 : gL 145 = 120 := by decide +kernel
theorem gk_146 : gK 146 = 10 := by decide +kernel
theorem gl_146 : gL 146 = 57 := by decide +kernel
theorem gk_147 : gK 147 = 10 := by decide +kernel
theorem gl_147 : gL 147 = 57 := by decide +kernel
theorem gk_148 : gK 148 = 10 := by decide +kernel
theorem gl_148 : gL 148 = 57 := by decide +kernel
theorem gk_149 : gK 149 = 10 := by decide +kernel
theorem gl_149 : gL 149 = 1368 := by decide +kernel
theorem gk_150 : gK 150 = 10 := by decide +kernel
theorem gl_150 : gL 150 = 114 := by decide +kernel
theorem gk_151 : gK 151 = 11 := by decide +kernel
theorem gl_151 : gL 151 = 2 := by decide +kernel
theorem gk_152 : gK 152 = 10 := by decide +kernel
theorem gl_152 : gL 152 = 5 := by decide +kernel
theorem gk_153 : gK 153 = 10 := by decide +kernel
theorem gl_153 : gL 153 = 5 := by decide +kernel
theorem gk_154 : gK 154 = 10 := by decide +kernel
theorem gl_154 : gL 154 = 16 := by decide +kernel
theorem gk_X2_told {i : Nat} (h : gK i = 2) : gK (i + 1) = 7 := by
  have hl := gK_lt h (by decide)
  exact (by decide +kernel : ∀ i, i < 155 → gK i = 2 → gK (i + 1) = 7) i hl h
theorem gk_X2_moment {i : Nat} (h : gK i = 2) : gK (i + 7) = 3 := by
  have hl := gK_lt h (by decide)
  exact (by decide +kernel : ∀ i, i < 155 → gK i = 2 → gK (i + 7) = 3) i hl h
theorem gk_X3_strong {i : Nat} (h : gK i = 3) : gK (i + 1) = 10 := by
  have hl := gK_lt h (by decide)
  exact (by decide +kernel : ∀ i, i < 155 → gK i = 3 → gK (i + 1) = 10) i hl h
theorem gl_X3_strong {i : Nat} (h : gK i = 3) : gL (i + 1) = 6 := by
  have hl := gK_lt h (by decide)
  exact (by decide +kernel : ∀ i, i < 155 → gK i = 3 → gL (i + 1) = 6) i hl h
theorem gk_X3_line {i : Nat} (h : gK i = 3) : gK (i + 2) = 10 := by
  have hl := gK_lt h (by decide)
  exact (by decide +kernel : ∀ i, i < 155 → gK i = 3 → gK (i + 2) = 10) i hl h
theorem gl_X3_line {i : Nat} (h : gK i = 3) : gL (i + 2) = 5 := by
  have hl := gK_lt h (by decide)
  exact (by decide +kernel : ∀ i, i < 155 → gK i = 3 → gL (i + 2) = 5) i hl h
theorem gk_X5_items {i : Nat} (h : gK i = 5) : gK (i + 1) = 10 := by
  have hl := gK_lt h (by decide)
  exact (by decide +kernel : ∀ i, i < 155 → gK i = 5 → gK (i + 1) = 10) i hl h
theorem gl_X5_items {i : Nat} (h : gK i = 5) : gL (i + 1) = 40 := by
  have hl := gK_lt h (by decide)
  exact (by decide +kernel : ∀ i, i < 155 → gK i = 5 → gL (i + 1) = 40) i hl h
theorem gk_X7_asks {i : Nat} (h : gK i = 7) : gK (i + 1) = 10 := by
  have hl := gK_lt h (by decide)
  exact (by decide +kernel : ∀ i, i < 155 → gK i = 7 → gK (i + 1) = 10) i hl h
theorem gl_X7_asks {i : Nat} (h : gK i = 7) : gL (i + 1) = 5 := by
  have hl := gK_lt h (by decide)
  exact (by decide +kernel : ∀ i, i < 155 → gK i = 7 → gL (i + 1) = 5) i hl h
theorem gk_X7_losses {i : Nat} (h : gK i = 7) : gK (i + 2) = 10 := by
  have hl := gK_lt h (by decide)
  exact (by decide +kernel : ∀ i, i < 155 → gK i = 7 → gK (i + 2) = 10) i hl h
theorem gl_X7_losses {i : Nat} (h : gK i = 7) : gL (i + 2) = 5 := by
  have hl := gK_lt h (by decide)
  exact (by decide +kernel : ∀ i, i < 155 → gK i = 7 → gL (i + 2) = 5) i hl h
theorem gk_X7_kinds {i : Nat} (h : gK i = 7) : gK (i + 3) = 10 := by
  have hl := gK_lt h (by decide)
  exact (by decide +kernel : ∀ i, i < 155 → gK i = 7 → gK (i + 3) = 10) i hl h
theorem gl_X7_kinds {i : Nat} (h : gK i = 7) : gL (i + 3) = 6 := by
  have hl := gK_lt h (by decide)
  exact (by decide +kernel : ∀ i, i < 155 → gK i = 7 → gL (i + 3) = 6) i hl h
theorem gk_X7_leaves {i : Nat} (h : gK i = 7) : gK (i + 4) = 10 := by
  have hl := gK_lt h (by decide)
  exact (by decide +kernel : ∀ i, i < 155 → gK i = 7 → gK (i + 4) = 10) i hl h
theorem gl_X7_leaves {i : Nat} (h : gK i = 7) : gL (i + 4) = 6 := by
  have hl := gK_lt h (by decide)
  exact (by decide +kernel : ∀ i, i < 155 → gK i = 7 → gL (i + 4) = 6) i hl h
theorem gk_X7_loves {i : Nat} (h : gK i = 7) : gK (i + 5) = 10 := by
  have hl := gK_lt h (by decide)
  exact (by decide +kernel : ∀ i, i < 155 → gK i = 7 → gK (i + 5) = 10) i hl h
theorem gl_X7_loves {i : Nat} (h : gK i = 7) : gL (i + 5) = 6 := by
  have hl := gK_lt h (by decide)
  exact (by decide +kernel : ∀ i, i < 155 → gK i = 7 → gL (i + 5) = 6) i hl h
theorem gk_row {i : Int32} (h : vp_in i 8) : gK (104 + 2 * i.toNatClampNeg) = 5 := by
  have hl : i.toNatClampNeg < 8 := Nat.not_le.mp fun q => h (Or.inr q)
  generalize i.toNatClampNeg = j at hl ⊢
  exact (by decide +kernel : ∀ j, j < 8 → gK (104 + 2 * j) = 5) j hl
theorem gk_img {i : Int32} (h : vp_in i 2) : gK (120 + 10 * i.toNatClampNeg) = 2 := by
  have hl : i.toNatClampNeg < 2 := Nat.not_le.mp fun q => h (Or.inr q)
  generalize i.toNatClampNeg = j at hl ⊢
  exact (by decide +kernel : ∀ j, j < 2 → gK (120 + 10 * j) = 2) j hl
theorem gk_ahe {i : Int32} (h : vp_in i 24) : gK (27 + 3 * i.toNatClampNeg) = 3 := by
  have hl : i.toNatClampNeg < 24 := Nat.not_le.mp fun q => h (Or.inr q)
  generalize i.toNatClampNeg = j at hl ⊢
  exact (by decide +kernel : ∀ j, j < 24 → gK (27 + 3 * j) = 3) j hl
theorem gR_0 {i : Nat} (h : gK i = 0) : gR i RX0 := ⟨_, by rw [h]; decide, by rw [h]; rfl, rfl⟩
theorem gR_1 {i : Nat} (h : gK i = 1) : gR i RX1 := ⟨_, by rw [h]; decide, by rw [h]; rfl, rfl⟩
theorem gR_2 {i : Nat} (h : gK i = 2) : gR i RX2 := ⟨_, by rw [h]; decide, by rw [h]; rfl, rfl⟩
theorem gR_3 {i : Nat} (h : gK i = 3) : gR i RX3 := ⟨_, by rw [h]; decide, by rw [h]; rfl, rfl⟩
theorem gR_4 {i : Nat} (h : gK i = 4) : gR i RX4 := ⟨_, by rw [h]; decide, by rw [h]; rfl, rfl⟩
theorem gR_5 {i : Nat} (h : gK i = 5) : gR i RX5 := ⟨_, by rw [h]; decide, by rw [h]; rfl, rfl⟩
theorem gR_6 {i : Nat} (h : gK i = 6) : gR i RX6 := ⟨_, by rw [h]; decide, by rw [h]; rfl, rfl⟩
theorem gR_7 {i : Nat} (h : gK i = 7) : gR i RX7 := ⟨_, by rw [h]; decide, by rw [h]; rfl, rfl⟩
theorem gR_8 {i : Nat} (h : gK i = 8) : gR i RX8 := ⟨_, by rw [h]; decide, by rw [h]; rfl, rfl⟩
theorem gR_9 {i : Nat} (h : gK i = 9) : gR i RX9 := ⟨_, by rw [h]; decide, by rw [h]; rfl, rfl⟩
section GF
variable {p : Program} {l : Launch} {e : Env} {R : Room} {s : State} {m : MethodId} {args : Array Value} {below : List Frame} {meth : Method} {c : Code} {H : Heap} {locs : List Loc} {cells slots : Nat} {Q : State → Prop}
variable {D : va_G} {cs : Nat → ClassId} {ad : Nat → Nat} {M : Mem} {cc : ByteArray} {nL pc : Nat} {own : String} {ls : Array Slot} {rest : List Value}
theorem nmg {X : Mem} (h : GH D cs ad s X H locs) : ∃ Y, Y = X ∧ GH D cs ad s Y H locs := ⟨X, rfl, h⟩
theorem ixl {i : Int32} {n : Nat} (h : ixb i n = true) : vp_in i n := ixb_iff.mp h
theorem g_al (C : GC p s m args c D cs ad cc nL own) (hG : GH D cs ad s M H locs) {a n j : Nat} (ha : gK a = 10) (hn : gL a = n) {i : Int32} (hin : vp_in i n) (hj : i.toNatClampNeg = j) (hdg : decode cc pc = .ok (.iaload, 1))
    (kk : W p l e R s m args below meth c H locs cells slots Q (F0 m (pc + 1) ls (.int (M a j) :: rest))) : W p l e R s m args below meth c H locs cells slots Q (F0 m pc ls (.int i :: .ref (ad a) :: rest)) := by
  subst hj
  exact g_ald C hG ha hn hin hdg kk
theorem g_as (C : GC p s m args c D cs ad cc nL own) (hG : GH D cs ad s M H locs) {a n j : Nat} (ha : gK a = 10) (hn : gL a = n) {i x : Int32} (hin : vp_in i n) (hj : i.toNatClampNeg = j) (hdg : decode cc pc = .ok (.iastore, 1))
    (kk : ∀ (M1 : Mem), M1 = st M a j x → ∀ (H1 : Heap) (locs1 : List Loc), GH D cs ad s M1 H1 locs1 → W p l e R s m args below meth c H1 locs1 cells slots Q (F0 m (pc + 1) ls rest)) : W p l e R s m args below meth c H locs cells slots Q (F0 m pc ls (.int x :: .int i :: .ref (ad a) :: rest)) := by
  subst hj
  exact g_ast C hG ha hn hin hdg kk
def tsOff (dflt lo hi : Int) (offs : Array Int) (x : Int) : Option Int := if x < lo ∨ hi < x then some dflt else offs[(x - lo).toNat]?
theorem g_tsw (hx : p.tables.exec = Jvm.exec) (hb : c.code = cc) {dflt lo hi : Int} {offs : Array Int} {len : Nat} {x : Int32} {off : Int} {tgt : Nat} (hdg : decode cc pc = .ok (.tableswitch dflt lo hi offs, len)) (ho : tsOff dflt lo hi offs x.toInt = some off) (ht : (pc : Int) + off = (tgt : Int))
    (k : W p l e R s m args below meth c H locs cells slots Q (F0 m tgt ls rest)) : W p l e R s m args below meth c H locs cells slots Q (F0 m pc ls (.int x :: rest)) := by
  unfold tsOff at ho
  by_cases q : x.toInt < lo ∨ hi < x.toInt
  · rw [if_pos q] at ho
    cases ho
    exact lv_tableOut hx hb hdg q ht k
  · rw [if_neg q] at ho
    exact lv_tableIn hx hb hdg (fun h => q (Or.inl h)) (fun h => q (Or.inr h)) ho ht k
theorem i32_ne {x k : Int32} {j : Int} (h : ¬ x = k) (hk : k.toInt = j) : x.toInt ≠ j := fun q => h (Int32.toInt_inj.mp (q.trans hk.symm))
theorem gE_0 {i : Nat} (h : gK i = 0) : gE cs ad M i = .inr (0, [.ref (ad (i + 1)), .int (M i 1), .int (M i 2)]) := by unfold gE; rw [h]; rfl
theorem gE_1 {i : Nat} (h : gK i = 1) : gE cs ad M i = .inr (1, [.ref (ad (i + 1)), .int (M i 1), .int (M i 2), .int (M i 3), .int (M i 4), .int (M i 5)]) := by unfold gE; rw [h]; rfl
theorem gE_2 {i : Nat} (h : gK i = 2) : gE cs ad M i = .inr (2, [.ref (ad (i + 1)), .ref (ad (i + 7))]) := by unfold gE; rw [h]; rfl
theorem gE_3 {i : Nat} (h : gK i = 3) : gE cs ad M i = .inr (3, [.int (M i 0), .int (M i 1), .int (M i 2), .int (M i 3), .ref (ad (i + 1)), .ref (ad (i + 2))]) := by unfold gE; rw [h]; rfl
theorem gE_4 {i : Nat} (h : gK i = 4) : gE cs ad M i = .inr (4, [.ref (ad (i + 1)), .ref (ad (i + 2)), .int (M i 2), .int (M i 3)]) := by unfold gE; rw [h]; rfl
theorem gE_5 {i : Nat} (h : gK i = 5) : gE cs ad M i = .inr (5, [.int (M i 0), .int (M i 1), .int (M i 2), .ref (ad (i + 1))]) := by unfold gE; rw [h]; rfl
theorem gE_6 {i : Nat} (h : gK i = 6) : gE cs ad M i = .inr (6, [.ref (ad (i + 1)), .int (M i 1), .int (M i 2), .int (M i 3), .int (M i 4), .int (M i 5)]) := by unfold gE; rw [h]; rfl
theorem gE_7 {i : Nat} (h : gK i = 7) : gE cs ad M i = .inr (7, [.int (M i 0), .int (M i 1), .int (M i 2), .ref (ad (i + 1)), .ref (ad (i + 2)), .ref (ad (i + 3)), .ref (ad (i + 4)), .ref (ad (i + 5))]) := by unfold gE; rw [h]; rfl
theorem gE_8 {i : Nat} (h : gK i = 8) : gE cs ad M i = .inr (8, [.ref (ad 1), .ref (ad 2), .ref (ad 4), .ref (ad 14), .ref (ad 24), .ref (ad 25), .ref (ad 99), .ref (ad 102), .int (M i 8)]) := by unfold gE; rw [h]; rfl
theorem gE_9 {i : Nat} (h : gK i = 9) : gE cs ad M i = .inr (9, [.ref (ad 141), .ref (ad 142), .ref (ad 143), .ref (ad 144), .int (M i 4), .ref (ad 145), .int (M i 6), .int (M i 7), .int (M i 8), .int (M i 9), .int (M i 10), .int (M i 11), .int (M i 12), .ref (ad 146), .ref (ad 147), .ref (ad 148), .ref (ad 149), .int (M i 17), .ref (ad 150), .ref (ad 151), .ref (ad 152), .ref (ad 153), .ref (ad 154), .int (M i 23)]) := by unfold gE; rw [h]; rfl
theorem gf_X0_ahead (C : GC p s m args c D cs ad cc nL own) (hG : GH D cs ad s M H locs) {i j index : Nat} (hi : gK i = 0) (hj : i + 1 = j) (hlink : Cond.fieldLink own index "ThirtyBirds$Acts" "ahead" "[LThirtyBirds$Moment;" ∈ gtbl) (hdg : decode cc pc = .ok (.getfield index, 3)) (kk : W p l e R s m args below meth c H locs cells slots Q (F0 m (pc + 3) ls (.ref (ad j) :: rest))) : W p l e R s m args below meth c H locs cells slots Q (F0 m pc ls (.ref (ad i) :: rest)) := by
  subst hj
  exact g_get C hG (gK_lt hi (by decide)) (gE_0 hi) rfl gn_X0 0 (by decide) hlink rfl hdg kk
theorem gf_X0_next (C : GC p s m args c D cs ad cc nL own) (hG : GH D cs ad s M H locs) {i index : Nat} (hi : gK i = 0) (hlink : Cond.fieldLink own index "ThirtyBirds$Acts" "next" "I" ∈ gtbl) (hdg : decode cc pc = .ok (.getfield index, 3)) (kk : W p l e R s m args below meth c H locs cells slots Q (F0 m (pc + 3) ls (.int (M i 1) :: rest))) : W p l e R s m args below meth c H locs cells slots Q (F0 m pc ls (.ref (ad i) :: rest)) :=
  g_get C hG (gK_lt hi (by decide)) (gE_0 hi) rfl gn_X0 1 (by decide) hlink rfl hdg kk
theorem gp_X0_next (C : GC p s m args c D cs ad cc nL own) (hG : GH D cs ad s M H locs) {i index : Nat} {x : Int32} (hi : gK i = 0) (hlink : Cond.fieldLink own index "ThirtyBirds$Acts" "next" "I" ∈ gtbl) (hdg : decode cc pc = .ok (.putfield index, 3)) (kk : ∀ (M1 : Mem), M1 = st M i 1 x → ∀ (H1 : Heap) (locs1 : List Loc), GH D cs ad s M1 H1 locs1 → W p l e R s m args below meth c H1 locs1 cells slots Q (F0 m (pc + 3) ls rest)) : W p l e R s m args below meth c H locs cells slots Q (F0 m pc ls (.int x :: .ref (ad i) :: rest)) :=
  g_put (ty := .int) C hG (gK_lt hi (by decide)) (gE_0 hi) rfl gn_X0 tyX0 tyX0_ok nmX0 1 (by decide) (by show 1 < 3; decide) rfl (by decide +kernel) (by rw [gE_0 hi, st_i]; rfl) rfl rfl hlink hdg kk
theorem gf_X0_length (C : GC p s m args c D cs ad cc nL own) (hG : GH D cs ad s M H locs) {i index : Nat} (hi : gK i = 0) (hlink : Cond.fieldLink own index "ThirtyBirds$Acts" "length" "I" ∈ gtbl) (hdg : decode cc pc = .ok (.getfield index, 3)) (kk : W p l e R s m args below meth c H locs cells slots Q (F0 m (pc + 3) ls (.int (M i 2) :: rest))) : W p l e R s m args below meth c H locs cells slots Q (F0 m pc ls (.ref (ad i) :: rest)) :=
  g_get C hG (gK_lt hi (by decide)) (gE_0 hi) rfl gn_X0 2 (by decide) hlink rfl hdg kk
theorem gp_X0_length (C : GC p s m args c D cs ad cc nL own) (hG : GH D cs ad s M H locs) {i index : Nat} {x : Int32} (hi : gK i = 0) (hlink : Cond.fieldLink own index "ThirtyBirds$Acts" "length" "I" ∈ gtbl) (hdg : decode cc pc = .ok (.putfield index, 3)) (kk : ∀ (M1 : Mem), M1 = st M i 2 x → ∀ (H1 : Heap) (locs1 : List Loc), GH D cs ad s M1 H1 locs1 → W p l e R s m args below meth c H1 locs1 cells slots Q (F0 m (pc + 3) ls rest)) : W p l e R s m args below meth c H locs cells slots Q (F0 m pc ls (.int x :: .ref (ad i) :: rest)) :=
  g_put (ty := .int) C hG (gK_lt hi (by decide)) (gE_0 hi) rfl gn_X0 tyX0 tyX0_ok nmX0 2 (by decide) (by show 2 < 3; decide) rfl (by decide +kernel) (by rw [gE_0 hi, st_i]; rfl) rfl rfl hlink hdg kk
theorem gf_X1_bodies (C : GC p s m args c D cs ad cc nL own) (hG : GH D cs ad s M H locs) {i j index : Nat} (hi : gK i = 1) (hj : i + 1 = j) (hlink : Cond.fieldLink own index "ThirtyBirds$Asks" "bodies" "[I" ∈ gtbl) (hdg : decode cc pc = .ok (.getfield index, 3)) (kk : W p l e R s m args below meth c H locs cells slots Q (F0 m (pc + 3) ls (.ref (ad j) :: rest))) : W p l e R s m args below meth c H locs cells slots Q (F0 m pc ls (.ref (ad i) :: rest)) := by
  subst hj
  exact g_get C hG (gK_lt hi (by decide)) (gE_1 hi) rfl gn_X1 0 (by decide) hlink rfl hdg kk
theorem gf_X1_length (C : GC p s m args c D cs ad cc nL own) (hG : GH D cs ad s M H locs) {i index : Nat} (hi : gK i = 1) (hlink : Cond.fieldLink own index "ThirtyBirds$Asks" "length" "I" ∈ gtbl) (hdg : decode cc pc = .ok (.getfield index, 3)) (kk : W p l e R s m args below meth c H locs cells slots Q (F0 m (pc + 3) ls (.int (M i 1) :: rest))) : W p l e R s m args below meth c H locs cells slots Q (F0 m pc ls (.ref (ad i) :: rest)) :=
  g_get C hG (gK_lt hi (by decide)) (gE_1 hi) rfl gn_X1 1 (by decide) hlink rfl hdg kk
theorem gp_X1_length (C : GC p s m args c D cs ad cc nL own) (hG : GH D cs ad s M H locs) {i index : Nat} {x : Int32} (hi : gK i = 1) (hlink : Cond.fieldLink own index "ThirtyBirds$Asks" "length" "I" ∈ gtbl) (hdg : decode cc pc = .ok (.putfield index, 3)) (kk : ∀ (M1 : Mem), M1 = st M i 1 x → ∀ (H1 : Heap) (locs1 : List Loc), GH D cs ad s M1 H1 locs1 → W p l e R s m args below meth c H1 locs1 cells slots Q (F0 m (pc + 3) ls rest)) : W p l e R s m args below meth c H locs cells slots Q (F0 m pc ls (.int x :: .ref (ad i) :: rest)) :=
  g_put (ty := .int) C hG (gK_lt hi (by decide)) (gE_1 hi) rfl gn_X1 tyX1 tyX1_ok nmX1 1 (by decide) (by show 1 < 6; decide) rfl (by decide +kernel) (by rw [gE_1 hi, st_i]; rfl) rfl rfl hlink hdg kk
theorem gf_X1_number (C : GC p s m args c D cs ad cc nL own) (hG : GH D cs ad s M H locs) {i index : Nat} (hi : gK i = 1) (hlink : Cond.fieldLink own index "ThirtyBirds$Asks" "number" "I" ∈ gtbl) (hdg : decode cc pc = .ok (.getfield index, 3)) (kk : W p l e R s m args below meth c H locs cells slots Q (F0 m (pc + 3) ls (.int (M i 2) :: rest))) : W p l e R s m args below meth c H locs cells slots Q (F0 m pc ls (.ref (ad i) :: rest)) :=
  g_get C hG (gK_lt hi (by decide)) (gE_1 hi) rfl gn_X1 2 (by decide) hlink rfl hdg kk
theorem gp_X1_number (C : GC p s m args c D cs ad cc nL own) (hG : GH D cs ad s M H locs) {i index : Nat} {x : Int32} (hi : gK i = 1) (hlink : Cond.fieldLink own index "ThirtyBirds$Asks" "number" "I" ∈ gtbl) (hdg : decode cc pc = .ok (.putfield index, 3)) (kk : ∀ (M1 : Mem), M1 = st M i 2 x → ∀ (H1 : Heap) (locs1 : List Loc), GH D cs ad s M1 H1 locs1 → W p l e R s m args below meth c H1 locs1 cells slots Q (F0 m (pc + 3) ls rest)) : W p l e R s m args below meth c H locs cells slots Q (F0 m pc ls (.int x :: .ref (ad i) :: rest)) :=
  g_put (ty := .int) C hG (gK_lt hi (by decide)) (gE_1 hi) rfl gn_X1 tyX1 tyX1_ok nmX1 2 (by decide) (by show 2 < 6; decide) rfl (by decide +kernel) (by rw [gE_1 hi, st_i]; rfl) rfl rfl hlink hdg kk
theorem gf_X1_kind (C : GC p s m args c D cs ad cc nL own) (hG : GH D cs ad s M H locs) {i index : Nat} (hi : gK i = 1) (hlink : Cond.fieldLink own index "ThirtyBirds$Asks" "kind" "I" ∈ gtbl) (hdg : decode cc pc = .ok (.getfield index, 3)) (kk : W p l e R s m args below meth c H locs cells slots Q (F0 m (pc + 3) ls (.int (M i 3) :: rest))) : W p l e R s m args below meth c H locs cells slots Q (F0 m pc ls (.ref (ad i) :: rest)) :=
  g_get C hG (gK_lt hi (by decide)) (gE_1 hi) rfl gn_X1 3 (by decide) hlink rfl hdg kk
theorem gp_X1_kind (C : GC p s m args c D cs ad cc nL own) (hG : GH D cs ad s M H locs) {i index : Nat} {x : Int32} (hi : gK i = 1) (hlink : Cond.fieldLink own index "ThirtyBirds$Asks" "kind" "I" ∈ gtbl) (hdg : decode cc pc = .ok (.putfield index, 3)) (kk : ∀ (M1 : Mem), M1 = st M i 3 x → ∀ (H1 : Heap) (locs1 : List Loc), GH D cs ad s M1 H1 locs1 → W p l e R s m args below meth c H1 locs1 cells slots Q (F0 m (pc + 3) ls rest)) : W p l e R s m args below meth c H locs cells slots Q (F0 m pc ls (.int x :: .ref (ad i) :: rest)) :=
  g_put (ty := .int) C hG (gK_lt hi (by decide)) (gE_1 hi) rfl gn_X1 tyX1 tyX1_ok nmX1 3 (by decide) (by show 3 < 6; decide) rfl (by decide +kernel) (by rw [gE_1 hi, st_i]; rfl) rfl rfl hlink hdg kk
theorem gf_X1_strong (C : GC p s m args c D cs ad cc nL own) (hG : GH D cs ad s M H locs) {i index : Nat} (hi : gK i = 1) (hlink : Cond.fieldLink own index "ThirtyBirds$Asks" "strong" "I" ∈ gtbl) (hdg : decode cc pc = .ok (.getfield index, 3)) (kk : W p l e R s m args below meth c H locs cells slots Q (F0 m (pc + 3) ls (.int (M i 4) :: rest))) : W p l e R s m args below meth c H locs cells slots Q (F0 m pc ls (.ref (ad i) :: rest)) :=
  g_get C hG (gK_lt hi (by decide)) (gE_1 hi) rfl gn_X1 4 (by decide) hlink rfl hdg kk
theorem gp_X1_strong (C : GC p s m args c D cs ad cc nL own) (hG : GH D cs ad s M H locs) {i index : Nat} {x : Int32} (hi : gK i = 1) (hlink : Cond.fieldLink own index "ThirtyBirds$Asks" "strong" "I" ∈ gtbl) (hdg : decode cc pc = .ok (.putfield index, 3)) (kk : ∀ (M1 : Mem), M1 = st M i 4 x → ∀ (H1 : Heap) (locs1 : List Loc), GH D cs ad s M1 H1 locs1 → W p l e R s m args below meth c H1 locs1 cells slots Q (F0 m (pc + 3) ls rest)) : W p l e R s m args below meth c H locs cells slots Q (F0 m pc ls (.int x :: .ref (ad i) :: rest)) :=
  g_put (ty := .int) C hG (gK_lt hi (by decide)) (gE_1 hi) rfl gn_X1 tyX1 tyX1_ok nmX1 4 (by decide) (by show 4 < 6; decide) rfl (by decide +kernel) (by rw [gE_1 hi, st_i]; rfl) rfl rfl hlink hdg kk
theorem gf_X1_leaves (C : GC p s m args c D cs ad cc nL own) (hG : GH D cs ad s M H locs) {i index : Nat} (hi : gK i = 1) (hlink : Cond.fieldLink own index "ThirtyBirds$Asks" "leaves" "I" ∈ gtbl) (hdg : decode cc pc = .ok (.getfield index, 3)) (kk : W p l e R s m args below meth c H locs cells slots Q (F0 m (pc + 3) ls (.int (M i 5) :: rest))) : W p l e R s m args below meth c H locs cells slots Q (F0 m pc ls (.ref (ad i) :: rest)) :=
  g_get C hG (gK_lt hi (by decide)) (gE_1 hi) rfl gn_X1 5 (by decide) hlink rfl hdg kk
theorem gp_X1_leaves (C : GC p s m args c D cs ad cc nL own) (hG : GH D cs ad s M H locs) {i index : Nat} {x : Int32} (hi : gK i = 1) (hlink : Cond.fieldLink own index "ThirtyBirds$Asks" "leaves" "I" ∈ gtbl) (hdg : decode cc pc = .ok (.putfield index, 3)) (kk : ∀ (M1 : Mem), M1 = st M i 5 x → ∀ (H1 : Heap) (locs1 : List Loc), GH D cs ad s M1 H1 locs1 → W p l e R s m args below meth c H1 locs1 cells slots Q (F0 m (pc + 3) ls rest)) : W p l e R s m args below meth c H locs cells slots Q (F0 m pc ls (.int x :: .ref (ad i) :: rest)) :=
  g_put (ty := .int) C hG (gK_lt hi (by decide)) (gE_1 hi) rfl gn_X1 tyX1 tyX1_ok nmX1 5 (by decide) (by show 5 < 6; decide) rfl (by decide +kernel) (by rw [gE_1 hi, st_i]; rfl) rfl rfl hlink hdg kk
theorem gf_X2_told (C : GC p s m args c D cs ad cc nL own) (hG : GH D cs ad s M H locs) {i j index : Nat} (hi : gK i = 2) (hj : i + 1 = j) (hlink : Cond.fieldLink own index "ThirtyBirds$Flight" "told" "LThirtyBirds$Told;" ∈ gtbl) (hdg : decode cc pc = .ok (.getfield index, 3)) (kk : W p l e R s m args below meth c H locs cells slots Q (F0 m (pc + 3) ls (.ref (ad j) :: rest))) : W p l e R s m args below meth c H locs cells slots Q (F0 m pc ls (.ref (ad i) :: rest)) := by
  subst hj
  exact g_get C hG (gK_lt hi (by decide)) (gE_2 hi) rfl gn_X2 0 (by decide) hlink rfl hdg kk
theorem gf_X2_moment (C : GC p s m args c D cs ad cc nL own) (hG : GH D cs ad s M H locs) {i j index : Nat} (hi : gK i = 2) (hj : i + 7 = j) (hlink : Cond.fieldLink own index "ThirtyBirds$Flight" "moment" "LThirtyBirds$Moment;" ∈ gtbl) (hdg : decode cc pc = .ok (.getfield index, 3)) (kk : W p l e R s m args below meth c H locs cells slots Q (F0 m (pc + 3) ls (.ref (ad j) :: rest))) : W p l e R s m args below meth c H locs cells slots Q (F0 m pc ls (.ref (ad i) :: rest)) := by
  subst hj
  exact g_get C hG (gK_lt hi (by decide)) (gE_2 hi) rfl gn_X2 1 (by decide) hlink rfl hdg kk
theorem gf_X3_flying (C : GC p s m args c D cs ad cc nL own) (hG : GH D cs ad s M H locs) {i index : Nat} (hi : gK i = 3) (hlink : Cond.fieldLink own index "ThirtyBirds$Moment" "flying" "I" ∈ gtbl) (hdg : decode cc pc = .ok (.getfield index, 3)) (kk : W p l e R s m args below meth c H locs cells slots Q (F0 m (pc + 3) ls (.int (M i 0) :: rest))) : W p l e R s m args below meth c H locs cells slots Q (F0 m pc ls (.ref (ad i) :: rest)) :=
  g_get C hG (gK_lt hi (by decide)) (gE_3 hi) rfl gn_X3 0 (by decide) hlink rfl hdg kk
theorem gp_X3_flying (C : GC p s m args c D cs ad cc nL own) (hG : GH D cs ad s M H locs) {i index : Nat} {x : Int32} (hi : gK i = 3) (hlink : Cond.fieldLink own index "ThirtyBirds$Moment" "flying" "I" ∈ gtbl) (hdg : decode cc pc = .ok (.putfield index, 3)) (kk : ∀ (M1 : Mem), M1 = st M i 0 x → ∀ (H1 : Heap) (locs1 : List Loc), GH D cs ad s M1 H1 locs1 → W p l e R s m args below meth c H1 locs1 cells slots Q (F0 m (pc + 3) ls rest)) : W p l e R s m args below meth c H locs cells slots Q (F0 m pc ls (.int x :: .ref (ad i) :: rest)) :=
  g_put (ty := .int) C hG (gK_lt hi (by decide)) (gE_3 hi) rfl gn_X3 tyX3 tyX3_ok nmX3 0 (by decide) (by show 0 < 6; decide) rfl (by decide +kernel) (by rw [gE_3 hi, st_i]; rfl) rfl rfl hlink hdg kk
theorem gf_X3_kept (C : GC p s m args c D cs ad cc nL own) (hG : GH D cs ad s M H locs) {i index : Nat} (hi : gK i = 3) (hlink : Cond.fieldLink own index "ThirtyBirds$Moment" "kept" "I" ∈ gtbl) (hdg : decode cc pc = .ok (.getfield index, 3)) (kk : W p l e R s m args below meth c H locs cells slots Q (F0 m (pc + 3) ls (.int (M i 1) :: rest))) : W p l e R s m args below meth c H locs cells slots Q (F0 m pc ls (.ref (ad i) :: rest)) :=
  g_get C hG (gK_lt hi (by decide)) (gE_3 hi) rfl gn_X3 1 (by decide) hlink rfl hdg kk
theorem gp_X3_kept (C : GC p s m args c D cs ad cc nL own) (hG : GH D cs ad s M H locs) {i index : Nat} {x : Int32} (hi : gK i = 3) (hlink : Cond.fieldLink own index "ThirtyBirds$Moment" "kept" "I" ∈ gtbl) (hdg : decode cc pc = .ok (.putfield index, 3)) (kk : ∀ (M1 : Mem), M1 = st M i 1 x → ∀ (H1 : Heap) (locs1 : List Loc), GH D cs ad s M1 H1 locs1 → W p l e R s m args below meth c H1 locs1 cells slots Q (F0 m (pc + 3) ls rest)) : W p l e R s m args below meth c H locs cells slots Q (F0 m pc ls (.int x :: .ref (ad i) :: rest)) :=
  g_put (ty := .int) C hG (gK_lt hi (by decide)) (gE_3 hi) rfl gn_X3 tyX3 tyX3_ok nmX3 1 (by decide) (by show 1 < 6; decide) rfl (by decide +kernel) (by rw [gE_3 hi, st_i]; rfl) rfl rfl hlink hdg kk
theorem gf_X3_turned (C : GC p s m args c D cs ad cc nL own) (hG : GH D cs ad s M H locs) {i index : Nat} (hi : gK i = 3) (hlink : Cond.fieldLink own index "ThirtyBirds$Moment" "turned" "I" ∈ gtbl) (hdg : decode cc pc = .ok (.getfield index, 3)) (kk : W p l e R s m args below meth c H locs cells slots Q (F0 m (pc + 3) ls (.int (M i 2) :: rest))) : W p l e R s m args below meth c H locs cells slots Q (F0 m pc ls (.ref (ad i) :: rest)) :=
  g_get C hG (gK_lt hi (by decide)) (gE_3 hi) rfl gn_X3 2 (by decide) hlink rfl hdg kk
theorem gp_X3_turned (C : GC p s m args c D cs ad cc nL own) (hG : GH D cs ad s M H locs) {i index : Nat} {x : Int32} (hi : gK i = 3) (hlink : Cond.fieldLink own index "ThirtyBirds$Moment" "turned" "I" ∈ gtbl) (hdg : decode cc pc = .ok (.putfield index, 3)) (kk : ∀ (M1 : Mem), M1 = st M i 2 x → ∀ (H1 : Heap) (locs1 : List Loc), GH D cs ad s M1 H1 locs1 → W p l e R s m args below meth c H1 locs1 cells slots Q (F0 m (pc + 3) ls rest)) : W p l e R s m args below meth c H locs cells slots Q (F0 m pc ls (.int x :: .ref (ad i) :: rest)) :=
  g_put (ty := .int) C hG (gK_lt hi (by decide)) (gE_3 hi) rfl gn_X3 tyX3 tyX3_ok nmX3 2 (by decide) (by show 2 < 6; decide) rfl (by decide +kernel) (by rw [gE_3 hi, st_i]; rfl) rfl rfl hlink hdg kk
theorem gf_X3_through (C : GC p s m args c D cs ad cc nL own) (hG : GH D cs ad s M H locs) {i index : Nat} (hi : gK i = 3) (hlink : Cond.fieldLink own index "ThirtyBirds$Moment" "through" "I" ∈ gtbl) (hdg : decode cc pc = .ok (.getfield index, 3)) (kk : W p l e R s m args below meth c H locs cells slots Q (F0 m (pc + 3) ls (.int (M i 3) :: rest))) : W p l e R s m args below meth c H locs cells slots Q (F0 m pc ls (.ref (ad i) :: rest)) :=
  g_get C hG (gK_lt hi (by decide)) (gE_3 hi) rfl gn_X3 3 (by decide) hlink rfl hdg kk
theorem gp_X3_through (C : GC p s m args c D cs ad cc nL own) (hG : GH D cs ad s M H locs) {i index : Nat} {x : Int32} (hi : gK i = 3) (hlink : Cond.fieldLink own index "ThirtyBirds$Moment" "through" "I" ∈ gtbl) (hdg : decode cc pc = .ok (.putfield index, 3)) (kk : ∀ (M1 : Mem), M1 = st M i 3 x → ∀ (H1 : Heap) (locs1 : List Loc), GH D cs ad s M1 H1 locs1 → W p l e R s m args below meth c H1 locs1 cells slots Q (F0 m (pc + 3) ls rest)) : W p l e R s m args below meth c H locs cells slots Q (F0 m pc ls (.int x :: .ref (ad i) :: rest)) :=
  g_put (ty := .int) C hG (gK_lt hi (by decide)) (gE_3 hi) rfl gn_X3 tyX3 tyX3_ok nmX3 3 (by decide) (by show 3 < 6; decide) rfl (by decide +kernel) (by rw [gE_3 hi, st_i]; rfl) rfl rfl hlink hdg kk
theorem gf_X3_strong (C : GC p s m args c D cs ad cc nL own) (hG : GH D cs ad s M H locs) {i j index : Nat} (hi : gK i = 3) (hj : i + 1 = j) (hlink : Cond.fieldLink own index "ThirtyBirds$Moment" "strong" "[I" ∈ gtbl) (hdg : decode cc pc = .ok (.getfield index, 3)) (kk : W p l e R s m args below meth c H locs cells slots Q (F0 m (pc + 3) ls (.ref (ad j) :: rest))) : W p l e R s m args below meth c H locs cells slots Q (F0 m pc ls (.ref (ad i) :: rest)) := by
  subst hj
  exact g_get C hG (gK_lt hi (by decide)) (gE_3 hi) rfl gn_X3 4 (by decide) hlink rfl hdg kk
theorem gf_X3_line (C : GC p s m args c D cs ad cc nL own) (hG : GH D cs ad s M H locs) {i j index : Nat} (hi : gK i = 3) (hj : i + 2 = j) (hlink : Cond.fieldLink own index "ThirtyBirds$Moment" "line" "[I" ∈ gtbl) (hdg : decode cc pc = .ok (.getfield index, 3)) (kk : W p l e R s m args below meth c H locs cells slots Q (F0 m (pc + 3) ls (.ref (ad j) :: rest))) : W p l e R s m args below meth c H locs cells slots Q (F0 m pc ls (.ref (ad i) :: rest)) := by
  subst hj
  exact g_get C hG (gK_lt hi (by decide)) (gE_3 hi) rfl gn_X3 5 (by decide) hlink rfl hdg kk
theorem gf_X4_tried (C : GC p s m args c D cs ad cc nL own) (hG : GH D cs ad s M H locs) {i j index : Nat} (hi : gK i = 4) (hj : i + 1 = j) (hlink : Cond.fieldLink own index "ThirtyBirds$Orders" "tried" "[I" ∈ gtbl) (hdg : decode cc pc = .ok (.getfield index, 3)) (kk : W p l e R s m args below meth c H locs cells slots Q (F0 m (pc + 3) ls (.ref (ad j) :: rest))) : W p l e R s m args below meth c H locs cells slots Q (F0 m pc ls (.ref (ad i) :: rest)) := by
  subst hj
  exact g_get C hG (gK_lt hi (by decide)) (gE_4 hi) rfl gn_X4 0 (by decide) hlink rfl hdg kk
theorem gf_X4_best (C : GC p s m args c D cs ad cc nL own) (hG : GH D cs ad s M H locs) {i j index : Nat} (hi : gK i = 4) (hj : i + 2 = j) (hlink : Cond.fieldLink own index "ThirtyBirds$Orders" "best" "[I" ∈ gtbl) (hdg : decode cc pc = .ok (.getfield index, 3)) (kk : W p l e R s m args below meth c H locs cells slots Q (F0 m (pc + 3) ls (.ref (ad j) :: rest))) : W p l e R s m args below meth c H locs cells slots Q (F0 m pc ls (.ref (ad i) :: rest)) := by
  subst hj
  exact g_get C hG (gK_lt hi (by decide)) (gE_4 hi) rfl gn_X4 1 (by decide) hlink rfl hdg kk
theorem gf_X4_length (C : GC p s m args c D cs ad cc nL own) (hG : GH D cs ad s M H locs) {i index : Nat} (hi : gK i = 4) (hlink : Cond.fieldLink own index "ThirtyBirds$Orders" "length" "I" ∈ gtbl) (hdg : decode cc pc = .ok (.getfield index, 3)) (kk : W p l e R s m args below meth c H locs cells slots Q (F0 m (pc + 3) ls (.int (M i 2) :: rest))) : W p l e R s m args below meth c H locs cells slots Q (F0 m pc ls (.ref (ad i) :: rest)) :=
  g_get C hG (gK_lt hi (by decide)) (gE_4 hi) rfl gn_X4 2 (by decide) hlink rfl hdg kk
theorem gp_X4_length (C : GC p s m args c D cs ad cc nL own) (hG : GH D cs ad s M H locs) {i index : Nat} {x : Int32} (hi : gK i = 4) (hlink : Cond.fieldLink own index "ThirtyBirds$Orders" "length" "I" ∈ gtbl) (hdg : decode cc pc = .ok (.putfield index, 3)) (kk : ∀ (M1 : Mem), M1 = st M i 2 x → ∀ (H1 : Heap) (locs1 : List Loc), GH D cs ad s M1 H1 locs1 → W p l e R s m args below meth c H1 locs1 cells slots Q (F0 m (pc + 3) ls rest)) : W p l e R s m args below meth c H locs cells slots Q (F0 m pc ls (.int x :: .ref (ad i) :: rest)) :=
  g_put (ty := .int) C hG (gK_lt hi (by decide)) (gE_4 hi) rfl gn_X4 tyX4 tyX4_ok nmX4 2 (by decide) (by show 2 < 4; decide) rfl (by decide +kernel) (by rw [gE_4 hi, st_i]; rfl) rfl rfl hlink hdg kk
theorem gf_X4_most (C : GC p s m args c D cs ad cc nL own) (hG : GH D cs ad s M H locs) {i index : Nat} (hi : gK i = 4) (hlink : Cond.fieldLink own index "ThirtyBirds$Orders" "most" "I" ∈ gtbl) (hdg : decode cc pc = .ok (.getfield index, 3)) (kk : W p l e R s m args below meth c H locs cells slots Q (F0 m (pc + 3) ls (.int (M i 3) :: rest))) : W p l e R s m args below meth c H locs cells slots Q (F0 m pc ls (.ref (ad i) :: rest)) :=
  g_get C hG (gK_lt hi (by decide)) (gE_4 hi) rfl gn_X4 3 (by decide) hlink rfl hdg kk
theorem gp_X4_most (C : GC p s m args c D cs ad cc nL own) (hG : GH D cs ad s M H locs) {i index : Nat} {x : Int32} (hi : gK i = 4) (hlink : Cond.fieldLink own index "ThirtyBirds$Orders" "most" "I" ∈ gtbl) (hdg : decode cc pc = .ok (.putfield index, 3)) (kk : ∀ (M1 : Mem), M1 = st M i 3 x → ∀ (H1 : Heap) (locs1 : List Loc), GH D cs ad s M1 H1 locs1 → W p l e R s m args below meth c H1 locs1 cells slots Q (F0 m (pc + 3) ls rest)) : W p l e R s m args below meth c H locs cells slots Q (F0 m pc ls (.int x :: .ref (ad i) :: rest)) :=
  g_put (ty := .int) C hG (gK_lt hi (by decide)) (gE_4 hi) rfl gn_X4 tyX4 tyX4_ok nmX4 3 (by decide) (by show 3 < 4; decide) rfl (by decide +kernel) (by rw [gE_4 hi, st_i]; rfl) rfl rfl hlink hdg kk
theorem gf_X5_there (C : GC p s m args c D cs ad cc nL own) (hG : GH D cs ad s M H locs) {i index : Nat} (hi : gK i = 5) (hlink : Cond.fieldLink own index "ThirtyBirds$Row" "there" "Z" ∈ gtbl) (hdg : decode cc pc = .ok (.getfield index, 3)) (kk : W p l e R s m args below meth c H locs cells slots Q (F0 m (pc + 3) ls (.int (M i 0) :: rest))) : W p l e R s m args below meth c H locs cells slots Q (F0 m pc ls (.ref (ad i) :: rest)) :=
  g_get C hG (gK_lt hi (by decide)) (gE_5 hi) rfl gn_X5 0 (by decide) hlink rfl hdg kk
theorem gp_X5_there (C : GC p s m args c D cs ad cc nL own) (hG : GH D cs ad s M H locs) {i index : Nat} {x : Int32} (hi : gK i = 5) (hz : narrow .boolean (.int x) = .int x) (hz2 : fits .boolean (.int x) = true) (hlink : Cond.fieldLink own index "ThirtyBirds$Row" "there" "Z" ∈ gtbl) (hdg : decode cc pc = .ok (.putfield index, 3)) (kk : ∀ (M1 : Mem), M1 = st M i 0 x → ∀ (H1 : Heap) (locs1 : List Loc), GH D cs ad s M1 H1 locs1 → W p l e R s m args below meth c H1 locs1 cells slots Q (F0 m (pc + 3) ls rest)) : W p l e R s m args below meth c H locs cells slots Q (F0 m pc ls (.int x :: .ref (ad i) :: rest)) :=
  g_put (ty := .boolean) C hG (gK_lt hi (by decide)) (gE_5 hi) rfl gn_X5 tyX5 tyX5_ok nmX5 0 (by decide) (by show 0 < 4; decide) rfl (by decide +kernel) (by rw [gE_5 hi, st_i]; rfl) hz hz2 hlink hdg kk
theorem gf_X5_lane (C : GC p s m args c D cs ad cc nL own) (hG : GH D cs ad s M H locs) {i index : Nat} (hi : gK i = 5) (hlink : Cond.fieldLink own index "ThirtyBirds$Row" "lane" "I" ∈ gtbl) (hdg : decode cc pc = .ok (.getfield index, 3)) (kk : W p l e R s m args below meth c H locs cells slots Q (F0 m (pc + 3) ls (.int (M i 1) :: rest))) : W p l e R s m args below meth c H locs cells slots Q (F0 m pc ls (.ref (ad i) :: rest)) :=
  g_get C hG (gK_lt hi (by decide)) (gE_5 hi) rfl gn_X5 1 (by decide) hlink rfl hdg kk
theorem gp_X5_lane (C : GC p s m args c D cs ad cc nL own) (hG : GH D cs ad s M H locs) {i index : Nat} {x : Int32} (hi : gK i = 5) (hlink : Cond.fieldLink own index "ThirtyBirds$Row" "lane" "I" ∈ gtbl) (hdg : decode cc pc = .ok (.putfield index, 3)) (kk : ∀ (M1 : Mem), M1 = st M i 1 x → ∀ (H1 : Heap) (locs1 : List Loc), GH D cs ad s M1 H1 locs1 → W p l e R s m args below meth c H1 locs1 cells slots Q (F0 m (pc + 3) ls rest)) : W p l e R s m args below meth c H locs cells slots Q (F0 m pc ls (.int x :: .ref (ad i) :: rest)) :=
  g_put (ty := .int) C hG (gK_lt hi (by decide)) (gE_5 hi) rfl gn_X5 tyX5 tyX5_ok nmX5 1 (by decide) (by show 1 < 4; decide) rfl (by decide +kernel) (by rw [gE_5 hi, st_i]; rfl) rfl rfl hlink hdg kk
theorem gf_X5_length (C : GC p s m args c D cs ad cc nL own) (hG : GH D cs ad s M H locs) {i index : Nat} (hi : gK i = 5) (hlink : Cond.fieldLink own index "ThirtyBirds$Row" "length" "I" ∈ gtbl) (hdg : decode cc pc = .ok (.getfield index, 3)) (kk : W p l e R s m args below meth c H locs cells slots Q (F0 m (pc + 3) ls (.int (M i 2) :: rest))) : W p l e R s m args below meth c H locs cells slots Q (F0 m pc ls (.ref (ad i) :: rest)) :=
  g_get C hG (gK_lt hi (by decide)) (gE_5 hi) rfl gn_X5 2 (by decide) hlink rfl hdg kk
theorem gp_X5_length (C : GC p s m args c D cs ad cc nL own) (hG : GH D cs ad s M H locs) {i index : Nat} {x : Int32} (hi : gK i = 5) (hlink : Cond.fieldLink own index "ThirtyBirds$Row" "length" "I" ∈ gtbl) (hdg : decode cc pc = .ok (.putfield index, 3)) (kk : ∀ (M1 : Mem), M1 = st M i 2 x → ∀ (H1 : Heap) (locs1 : List Loc), GH D cs ad s M1 H1 locs1 → W p l e R s m args below meth c H1 locs1 cells slots Q (F0 m (pc + 3) ls rest)) : W p l e R s m args below meth c H locs cells slots Q (F0 m pc ls (.int x :: .ref (ad i) :: rest)) :=
  g_put (ty := .int) C hG (gK_lt hi (by decide)) (gE_5 hi) rfl gn_X5 tyX5 tyX5_ok nmX5 2 (by decide) (by show 2 < 4; decide) rfl (by decide +kernel) (by rw [gE_5 hi, st_i]; rfl) rfl rfl hlink hdg kk
theorem gf_X5_items (C : GC p s m args c D cs ad cc nL own) (hG : GH D cs ad s M H locs) {i j index : Nat} (hi : gK i = 5) (hj : i + 1 = j) (hlink : Cond.fieldLink own index "ThirtyBirds$Row" "items" "[I" ∈ gtbl) (hdg : decode cc pc = .ok (.getfield index, 3)) (kk : W p l e R s m args below meth c H locs cells slots Q (F0 m (pc + 3) ls (.ref (ad j) :: rest))) : W p l e R s m args below meth c H locs cells slots Q (F0 m pc ls (.ref (ad i) :: rest)) := by
  subst hj
  exact g_get C hG (gK_lt hi (by decide)) (gE_5 hi) rfl gn_X5 3 (by decide) hlink rfl hdg kk
theorem gf_X6_letters (C : GC p s m args c D cs ad cc nL own) (hG : GH D cs ad s M H locs) {i j index : Nat} (hi : gK i = 6) (hj : i + 1 = j) (hlink : Cond.fieldLink own index "ThirtyBirds$Tape" "letters" "[I" ∈ gtbl) (hdg : decode cc pc = .ok (.getfield index, 3)) (kk : W p l e R s m args below meth c H locs cells slots Q (F0 m (pc + 3) ls (.ref (ad j) :: rest))) : W p l e R s m args below meth c H locs cells slots Q (F0 m pc ls (.ref (ad i) :: rest)) := by
  subst hj
  exact g_get C hG (gK_lt hi (by decide)) (gE_6 hi) rfl gn_X6 0 (by decide) hlink rfl hdg kk
theorem gf_X6_length (C : GC p s m args c D cs ad cc nL own) (hG : GH D cs ad s M H locs) {i index : Nat} (hi : gK i = 6) (hlink : Cond.fieldLink own index "ThirtyBirds$Tape" "length" "I" ∈ gtbl) (hdg : decode cc pc = .ok (.getfield index, 3)) (kk : W p l e R s m args below meth c H locs cells slots Q (F0 m (pc + 3) ls (.int (M i 1) :: rest))) : W p l e R s m args below meth c H locs cells slots Q (F0 m pc ls (.ref (ad i) :: rest)) :=
  g_get C hG (gK_lt hi (by decide)) (gE_6 hi) rfl gn_X6 1 (by decide) hlink rfl hdg kk
theorem gp_X6_length (C : GC p s m args c D cs ad cc nL own) (hG : GH D cs ad s M H locs) {i index : Nat} {x : Int32} (hi : gK i = 6) (hlink : Cond.fieldLink own index "ThirtyBirds$Tape" "length" "I" ∈ gtbl) (hdg : decode cc pc = .ok (.putfield index, 3)) (kk : ∀ (M1 : Mem), M1 = st M i 1 x → ∀ (H1 : Heap) (locs1 : List Loc), GH D cs ad s M1 H1 locs1 → W p l e R s m args below meth c H1 locs1 cells slots Q (F0 m (pc + 3) ls rest)) : W p l e R s m args below meth c H locs cells slots Q (F0 m pc ls (.int x :: .ref (ad i) :: rest)) :=
  g_put (ty := .int) C hG (gK_lt hi (by decide)) (gE_6 hi) rfl gn_X6 tyX6 tyX6_ok nmX6 1 (by decide) (by show 1 < 6; decide) rfl (by decide +kernel) (by rw [gE_6 hi, st_i]; rfl) rfl rfl hlink hdg kk
theorem gf_X6_faultNumber (C : GC p s m args c D cs ad cc nL own) (hG : GH D cs ad s M H locs) {i index : Nat} (hi : gK i = 6) (hlink : Cond.fieldLink own index "ThirtyBirds$Tape" "faultNumber" "I" ∈ gtbl) (hdg : decode cc pc = .ok (.getfield index, 3)) (kk : W p l e R s m args below meth c H locs cells slots Q (F0 m (pc + 3) ls (.int (M i 2) :: rest))) : W p l e R s m args below meth c H locs cells slots Q (F0 m pc ls (.ref (ad i) :: rest)) :=
  g_get C hG (gK_lt hi (by decide)) (gE_6 hi) rfl gn_X6 2 (by decide) hlink rfl hdg kk
theorem gp_X6_faultNumber (C : GC p s m args c D cs ad cc nL own) (hG : GH D cs ad s M H locs) {i index : Nat} {x : Int32} (hi : gK i = 6) (hlink : Cond.fieldLink own index "ThirtyBirds$Tape" "faultNumber" "I" ∈ gtbl) (hdg : decode cc pc = .ok (.putfield index, 3)) (kk : ∀ (M1 : Mem), M1 = st M i 2 x → ∀ (H1 : Heap) (locs1 : List Loc), GH D cs ad s M1 H1 locs1 → W p l e R s m args below meth c H1 locs1 cells slots Q (F0 m (pc + 3) ls rest)) : W p l e R s m args below meth c H locs cells slots Q (F0 m pc ls (.int x :: .ref (ad i) :: rest)) :=
  g_put (ty := .int) C hG (gK_lt hi (by decide)) (gE_6 hi) rfl gn_X6 tyX6 tyX6_ok nmX6 2 (by decide) (by show 2 < 6; decide) rfl (by decide +kernel) (by rw [gE_6 hi, st_i]; rfl) rfl rfl hlink hdg kk
theorem gf_X6_faultPlace (C : GC p s m args c D cs ad cc nL own) (hG : GH D cs ad s M H locs) {i index : Nat} (hi : gK i = 6) (hlink : Cond.fieldLink own index "ThirtyBirds$Tape" "faultPlace" "I" ∈ gtbl) (hdg : decode cc pc = .ok (.getfield index, 3)) (kk : W p l e R s m args below meth c H locs cells slots Q (F0 m (pc + 3) ls (.int (M i 3) :: rest))) : W p l e R s m args below meth c H locs cells slots Q (F0 m pc ls (.ref (ad i) :: rest)) :=
  g_get C hG (gK_lt hi (by decide)) (gE_6 hi) rfl gn_X6 3 (by decide) hlink rfl hdg kk
theorem gp_X6_faultPlace (C : GC p s m args c D cs ad cc nL own) (hG : GH D cs ad s M H locs) {i index : Nat} {x : Int32} (hi : gK i = 6) (hlink : Cond.fieldLink own index "ThirtyBirds$Tape" "faultPlace" "I" ∈ gtbl) (hdg : decode cc pc = .ok (.putfield index, 3)) (kk : ∀ (M1 : Mem), M1 = st M i 3 x → ∀ (H1 : Heap) (locs1 : List Loc), GH D cs ad s M1 H1 locs1 → W p l e R s m args below meth c H1 locs1 cells slots Q (F0 m (pc + 3) ls rest)) : W p l e R s m args below meth c H locs cells slots Q (F0 m pc ls (.int x :: .ref (ad i) :: rest)) :=
  g_put (ty := .int) C hG (gK_lt hi (by decide)) (gE_6 hi) rfl gn_X6 tyX6 tyX6_ok nmX6 3 (by decide) (by show 3 < 6; decide) rfl (by decide +kernel) (by rw [gE_6 hi, st_i]; rfl) rfl rfl hlink hdg kk
theorem gf_X6_at (C : GC p s m args c D cs ad cc nL own) (hG : GH D cs ad s M H locs) {i index : Nat} (hi : gK i = 6) (hlink : Cond.fieldLink own index "ThirtyBirds$Tape" "at" "I" ∈ gtbl) (hdg : decode cc pc = .ok (.getfield index, 3)) (kk : W p l e R s m args below meth c H locs cells slots Q (F0 m (pc + 3) ls (.int (M i 4) :: rest))) : W p l e R s m args below meth c H locs cells slots Q (F0 m pc ls (.ref (ad i) :: rest)) :=
  g_get C hG (gK_lt hi (by decide)) (gE_6 hi) rfl gn_X6 4 (by decide) hlink rfl hdg kk
theorem gp_X6_at (C : GC p s m args c D cs ad cc nL own) (hG : GH D cs ad s M H locs) {i index : Nat} {x : Int32} (hi : gK i = 6) (hlink : Cond.fieldLink own index "ThirtyBirds$Tape" "at" "I" ∈ gtbl) (hdg : decode cc pc = .ok (.putfield index, 3)) (kk : ∀ (M1 : Mem), M1 = st M i 4 x → ∀ (H1 : Heap) (locs1 : List Loc), GH D cs ad s M1 H1 locs1 → W p l e R s m args below meth c H1 locs1 cells slots Q (F0 m (pc + 3) ls rest)) : W p l e R s m args below meth c H locs cells slots Q (F0 m pc ls (.int x :: .ref (ad i) :: rest)) :=
  g_put (ty := .int) C hG (gK_lt hi (by decide)) (gE_6 hi) rfl gn_X6 tyX6 tyX6_ok nmX6 4 (by decide) (by show 4 < 6; decide) rfl (by decide +kernel) (by rw [gE_6 hi, st_i]; rfl) rfl rfl hlink hdg kk
theorem gf_X6_isFaulty (C : GC p s m args c D cs ad cc nL own) (hG : GH D cs ad s M H locs) {i index : Nat} (hi : gK i = 6) (hlink : Cond.fieldLink own index "ThirtyBirds$Tape" "isFaulty" "Z" ∈ gtbl) (hdg : decode cc pc = .ok (.getfield index, 3)) (kk : W p l e R s m args below meth c H locs cells slots Q (F0 m (pc + 3) ls (.int (M i 5) :: rest))) : W p l e R s m args below meth c H locs cells slots Q (F0 m pc ls (.ref (ad i) :: rest)) :=
  g_get C hG (gK_lt hi (by decide)) (gE_6 hi) rfl gn_X6 5 (by decide) hlink rfl hdg kk
theorem gp_X6_isFaulty (C : GC p s m args c D cs ad cc nL own) (hG : GH D cs ad s M H locs) {i index : Nat} {x : Int32} (hi : gK i = 6) (hz : narrow .boolean (.int x) = .int x) (hz2 : fits .boolean (.int x) = true) (hlink : Cond.fieldLink own index "ThirtyBirds$Tape" "isFaulty" "Z" ∈ gtbl) (hdg : decode cc pc = .ok (.putfield index, 3)) (kk : ∀ (M1 : Mem), M1 = st M i 5 x → ∀ (H1 : Heap) (locs1 : List Loc), GH D cs ad s M1 H1 locs1 → W p l e R s m args below meth c H1 locs1 cells slots Q (F0 m (pc + 3) ls rest)) : W p l e R s m args below meth c H locs cells slots Q (F0 m pc ls (.int x :: .ref (ad i) :: rest)) :=
  g_put (ty := .boolean) C hG (gK_lt hi (by decide)) (gE_6 hi) rfl gn_X6 tyX6 tyX6_ok nmX6 5 (by decide) (by show 5 < 6; decide) rfl (by decide +kernel) (by rw [gE_6 hi, st_i]; rfl) hz hz2 hlink hdg kk
theorem gf_X7_lawOfFeed (C : GC p s m args c D cs ad cc nL own) (hG : GH D cs ad s M H locs) {i index : Nat} (hi : gK i = 7) (hlink : Cond.fieldLink own index "ThirtyBirds$Told" "lawOfFeed" "I" ∈ gtbl) (hdg : decode cc pc = .ok (.getfield index, 3)) (kk : W p l e R s m args below meth c H locs cells slots Q (F0 m (pc + 3) ls (.int (M i 0) :: rest))) : W p l e R s m args below meth c H locs cells slots Q (F0 m pc ls (.ref (ad i) :: rest)) :=
  g_get C hG (gK_lt hi (by decide)) (gE_7 hi) rfl gn_X7 0 (by decide) hlink rfl hdg kk
theorem gp_X7_lawOfFeed (C : GC p s m args c D cs ad cc nL own) (hG : GH D cs ad s M H locs) {i index : Nat} {x : Int32} (hi : gK i = 7) (hlink : Cond.fieldLink own index "ThirtyBirds$Told" "lawOfFeed" "I" ∈ gtbl) (hdg : decode cc pc = .ok (.putfield index, 3)) (kk : ∀ (M1 : Mem), M1 = st M i 0 x → ∀ (H1 : Heap) (locs1 : List Loc), GH D cs ad s M1 H1 locs1 → W p l e R s m args below meth c H1 locs1 cells slots Q (F0 m (pc + 3) ls rest)) : W p l e R s m args below meth c H locs cells slots Q (F0 m pc ls (.int x :: .ref (ad i) :: rest)) :=
  g_put (ty := .int) C hG (gK_lt hi (by decide)) (gE_7 hi) rfl gn_X7 tyX7 tyX7_ok nmX7 0 (by decide) (by show 0 < 8; decide) rfl (by decide +kernel) (by rw [gE_7 hi, st_i]; rfl) rfl rfl hlink hdg kk
theorem gf_X7_valleys (C : GC p s m args c D cs ad cc nL own) (hG : GH D cs ad s M H locs) {i index : Nat} (hi : gK i = 7) (hlink : Cond.fieldLink own index "ThirtyBirds$Told" "valleys" "I" ∈ gtbl) (hdg : decode cc pc = .ok (.getfield index, 3)) (kk : W p l e R s m args below meth c H locs cells slots Q (F0 m (pc + 3) ls (.int (M i 1) :: rest))) : W p l e R s m args below meth c H locs cells slots Q (F0 m pc ls (.ref (ad i) :: rest)) :=
  g_get C hG (gK_lt hi (by decide)) (gE_7 hi) rfl gn_X7 1 (by decide) hlink rfl hdg kk
theorem gp_X7_valleys (C : GC p s m args c D cs ad cc nL own) (hG : GH D cs ad s M H locs) {i index : Nat} {x : Int32} (hi : gK i = 7) (hlink : Cond.fieldLink own index "ThirtyBirds$Told" "valleys" "I" ∈ gtbl) (hdg : decode cc pc = .ok (.putfield index, 3)) (kk : ∀ (M1 : Mem), M1 = st M i 1 x → ∀ (H1 : Heap) (locs1 : List Loc), GH D cs ad s M1 H1 locs1 → W p l e R s m args below meth c H1 locs1 cells slots Q (F0 m (pc + 3) ls rest)) : W p l e R s m args below meth c H locs cells slots Q (F0 m pc ls (.int x :: .ref (ad i) :: rest)) :=
  g_put (ty := .int) C hG (gK_lt hi (by decide)) (gE_7 hi) rfl gn_X7 tyX7 tyX7_ok nmX7 1 (by decide) (by show 1 < 8; decide) rfl (by decide +kernel) (by rw [gE_7 hi, st_i]; rfl) rfl rfl hlink hdg kk
theorem gf_X7_birds (C : GC p s m args c D cs ad cc nL own) (hG : GH D cs ad s M H locs) {i index : Nat} (hi : gK i = 7) (hlink : Cond.fieldLink own index "ThirtyBirds$Told" "birds" "I" ∈ gtbl) (hdg : decode cc pc = .ok (.getfield index, 3)) (kk : W p l e R s m args below meth c H locs cells slots Q (F0 m (pc + 3) ls (.int (M i 2) :: rest))) : W p l e R s m args below meth c H locs cells slots Q (F0 m pc ls (.ref (ad i) :: rest)) :=
  g_get C hG (gK_lt hi (by decide)) (gE_7 hi) rfl gn_X7 2 (by decide) hlink rfl hdg kk
theorem gp_X7_birds (C : GC p s m args c D cs ad cc nL own) (hG : GH D cs ad s M H locs) {i index : Nat} {x : Int32} (hi : gK i = 7) (hlink : Cond.fieldLink own index "ThirtyBirds$Told" "birds" "I" ∈ gtbl) (hdg : decode cc pc = .ok (.putfield index, 3)) (kk : ∀ (M1 : Mem), M1 = st M i 2 x → ∀ (H1 : Heap) (locs1 : List Loc), GH D cs ad s M1 H1 locs1 → W p l e R s m args below meth c H1 locs1 cells slots Q (F0 m (pc + 3) ls rest)) : W p l e R s m args below meth c H locs cells slots Q (F0 m pc ls (.int x :: .ref (ad i) :: rest)) :=
  g_put (ty := .int) C hG (gK_lt hi (by decide)) (gE_7 hi) rfl gn_X7 tyX7 tyX7_ok nmX7 2 (by decide) (by show 2 < 8; decide) rfl (by decide +kernel) (by rw [gE_7 hi, st_i]; rfl) rfl rfl hlink hdg kk
theorem gf_X7_asks (C : GC p s m args c D cs ad cc nL own) (hG : GH D cs ad s M H locs) {i j index : Nat} (hi : gK i = 7) (hj : i + 1 = j) (hlink : Cond.fieldLink own index "ThirtyBirds$Told" "asks" "[I" ∈ gtbl) (hdg : decode cc pc = .ok (.getfield index, 3)) (kk : W p l e R s m args below meth c H locs cells slots Q (F0 m (pc + 3) ls (.ref (ad j) :: rest))) : W p l e R s m args below meth c H locs cells slots Q (F0 m pc ls (.ref (ad i) :: rest)) := by
  subst hj
  exact g_get C hG (gK_lt hi (by decide)) (gE_7 hi) rfl gn_X7 3 (by decide) hlink rfl hdg kk
theorem gf_X7_losses (C : GC p s m args c D cs ad cc nL own) (hG : GH D cs ad s M H locs) {i j index : Nat} (hi : gK i = 7) (hj : i + 2 = j) (hlink : Cond.fieldLink own index "ThirtyBirds$Told" "losses" "[I" ∈ gtbl) (hdg : decode cc pc = .ok (.getfield index, 3)) (kk : W p l e R s m args below meth c H locs cells slots Q (F0 m (pc + 3) ls (.ref (ad j) :: rest))) : W p l e R s m args below meth c H locs cells slots Q (F0 m pc ls (.ref (ad i) :: rest)) := by
  subst hj
  exact g_get C hG (gK_lt hi (by decide)) (gE_7 hi) rfl gn_X7 4 (by decide) hlink rfl hdg kk
theorem gf_X7_kinds (C : GC p s m args c D cs ad cc nL own) (hG : GH D cs ad s M H locs) {i j index : Nat} (hi : gK i = 7) (hj : i + 3 = j) (hlink : Cond.fieldLink own index "ThirtyBirds$Told" "kinds" "[I" ∈ gtbl) (hdg : decode cc pc = .ok (.getfield index, 3)) (kk : W p l e R s m args below meth c H locs cells slots Q (F0 m (pc + 3) ls (.ref (ad j) :: rest))) : W p l e R s m args below meth c H locs cells slots Q (F0 m pc ls (.ref (ad i) :: rest)) := by
  subst hj
  exact g_get C hG (gK_lt hi (by decide)) (gE_7 hi) rfl gn_X7 5 (by decide) hlink rfl hdg kk
theorem gf_X7_leaves (C : GC p s m args c D cs ad cc nL own) (hG : GH D cs ad s M H locs) {i j index : Nat} (hi : gK i = 7) (hj : i + 4 = j) (hlink : Cond.fieldLink own index "ThirtyBirds$Told" "leaves" "[I" ∈ gtbl) (hdg : decode cc pc = .ok (.getfield index, 3)) (kk : W p l e R s m args below meth c H locs cells slots Q (F0 m (pc + 3) ls (.ref (ad j) :: rest))) : W p l e R s m args below meth c H locs cells slots Q (F0 m pc ls (.ref (ad i) :: rest)) := by
  subst hj
  exact g_get C hG (gK_lt hi (by decide)) (gE_7 hi) rfl gn_X7 6 (by decide) hlink rfl hdg kk
theorem gf_X7_loves (C : GC p s m args c D cs ad cc nL own) (hG : GH D cs ad s M H locs) {i j index : Nat} (hi : gK i = 7) (hj : i + 5 = j) (hlink : Cond.fieldLink own index "ThirtyBirds$Told" "loves" "[I" ∈ gtbl) (hdg : decode cc pc = .ok (.getfield index, 3)) (kk : W p l e R s m args below meth c H locs cells slots Q (F0 m (pc + 3) ls (.ref (ad j) :: rest))) : W p l e R s m args below meth c H locs cells slots Q (F0 m pc ls (.ref (ad i) :: rest)) := by
  subst hj
  exact g_get C hG (gK_lt hi (by decide)) (gE_7 hi) rfl gn_X7 7 (by decide) hlink rfl hdg kk
theorem gf_X8_rows (C : GC p s m args c D cs ad cc nL own) (hG : GH D cs ad s M H locs) {i index : Nat} (hi : gK i = 8) (hlink : Cond.fieldLink own index "ThirtyBirds" "rows" "[LThirtyBirds$Row;" ∈ gtbl) (hdg : decode cc pc = .ok (.getfield index, 3)) (kk : W p l e R s m args below meth c H locs cells slots Q (F0 m (pc + 3) ls (.ref (ad 1) :: rest))) : W p l e R s m args below meth c H locs cells slots Q (F0 m pc ls (.ref (ad i) :: rest)) :=
  g_get C hG (gK_lt hi (by decide)) (gE_8 hi) rfl gn_X8 0 (by decide) hlink rfl hdg kk
theorem gf_X8_tape (C : GC p s m args c D cs ad cc nL own) (hG : GH D cs ad s M H locs) {i index : Nat} (hi : gK i = 8) (hlink : Cond.fieldLink own index "ThirtyBirds" "tape" "LThirtyBirds$Tape;" ∈ gtbl) (hdg : decode cc pc = .ok (.getfield index, 3)) (kk : W p l e R s m args below meth c H locs cells slots Q (F0 m (pc + 3) ls (.ref (ad 2) :: rest))) : W p l e R s m args below meth c H locs cells slots Q (F0 m pc ls (.ref (ad i) :: rest)) :=
  g_get C hG (gK_lt hi (by decide)) (gE_8 hi) rfl gn_X8 1 (by decide) hlink rfl hdg kk
theorem gf_X8_now (C : GC p s m args c D cs ad cc nL own) (hG : GH D cs ad s M H locs) {i index : Nat} (hi : gK i = 8) (hlink : Cond.fieldLink own index "ThirtyBirds" "now" "LThirtyBirds$Flight;" ∈ gtbl) (hdg : decode cc pc = .ok (.getfield index, 3)) (kk : W p l e R s m args below meth c H locs cells slots Q (F0 m (pc + 3) ls (.ref (ad 4) :: rest))) : W p l e R s m args below meth c H locs cells slots Q (F0 m pc ls (.ref (ad i) :: rest)) :=
  g_get C hG (gK_lt hi (by decide)) (gE_8 hi) rfl gn_X8 2 (by decide) hlink rfl hdg kk
theorem gf_X8_trial (C : GC p s m args c D cs ad cc nL own) (hG : GH D cs ad s M H locs) {i index : Nat} (hi : gK i = 8) (hlink : Cond.fieldLink own index "ThirtyBirds" "trial" "LThirtyBirds$Flight;" ∈ gtbl) (hdg : decode cc pc = .ok (.getfield index, 3)) (kk : W p l e R s m args below meth c H locs cells slots Q (F0 m (pc + 3) ls (.ref (ad 14) :: rest))) : W p l e R s m args below meth c H locs cells slots Q (F0 m pc ls (.ref (ad i) :: rest)) :=
  g_get C hG (gK_lt hi (by decide)) (gE_8 hi) rfl gn_X8 3 (by decide) hlink rfl hdg kk
theorem gf_X8_images (C : GC p s m args c D cs ad cc nL own) (hG : GH D cs ad s M H locs) {i index : Nat} (hi : gK i = 8) (hlink : Cond.fieldLink own index "ThirtyBirds" "images" "[LThirtyBirds$Flight;" ∈ gtbl) (hdg : decode cc pc = .ok (.getfield index, 3)) (kk : W p l e R s m args below meth c H locs cells slots Q (F0 m (pc + 3) ls (.ref (ad 24) :: rest))) : W p l e R s m args below meth c H locs cells slots Q (F0 m pc ls (.ref (ad i) :: rest)) :=
  g_get C hG (gK_lt hi (by decide)) (gE_8 hi) rfl gn_X8 4 (by decide) hlink rfl hdg kk
theorem gf_X8_acts (C : GC p s m args c D cs ad cc nL own) (hG : GH D cs ad s M H locs) {i index : Nat} (hi : gK i = 8) (hlink : Cond.fieldLink own index "ThirtyBirds" "acts" "LThirtyBirds$Acts;" ∈ gtbl) (hdg : decode cc pc = .ok (.getfield index, 3)) (kk : W p l e R s m args below meth c H locs cells slots Q (F0 m (pc + 3) ls (.ref (ad 25) :: rest))) : W p l e R s m args below meth c H locs cells slots Q (F0 m pc ls (.ref (ad i) :: rest)) :=
  g_get C hG (gK_lt hi (by decide)) (gE_8 hi) rfl gn_X8 5 (by decide) hlink rfl hdg kk
theorem gf_X8_orders (C : GC p s m args c D cs ad cc nL own) (hG : GH D cs ad s M H locs) {i index : Nat} (hi : gK i = 8) (hlink : Cond.fieldLink own index "ThirtyBirds" "orders" "LThirtyBirds$Orders;" ∈ gtbl) (hdg : decode cc pc = .ok (.getfield index, 3)) (kk : W p l e R s m args below meth c H locs cells slots Q (F0 m (pc + 3) ls (.ref (ad 99) :: rest))) : W p l e R s m args below meth c H locs cells slots Q (F0 m pc ls (.ref (ad i) :: rest)) :=
  g_get C hG (gK_lt hi (by decide)) (gE_8 hi) rfl gn_X8 6 (by decide) hlink rfl hdg kk
theorem gf_X8_asks (C : GC p s m args c D cs ad cc nL own) (hG : GH D cs ad s M H locs) {i index : Nat} (hi : gK i = 8) (hlink : Cond.fieldLink own index "ThirtyBirds" "asks" "LThirtyBirds$Asks;" ∈ gtbl) (hdg : decode cc pc = .ok (.getfield index, 3)) (kk : W p l e R s m args below meth c H locs cells slots Q (F0 m (pc + 3) ls (.ref (ad 102) :: rest))) : W p l e R s m args below meth c H locs cells slots Q (F0 m pc ls (.ref (ad i) :: rest)) :=
  g_get C hG (gK_lt hi (by decide)) (gE_8 hi) rfl gn_X8 7 (by decide) hlink rfl hdg kk
theorem gf_X8_finding (C : GC p s m args c D cs ad cc nL own) (hG : GH D cs ad s M H locs) {i index : Nat} (hi : gK i = 8) (hlink : Cond.fieldLink own index "ThirtyBirds" "finding" "I" ∈ gtbl) (hdg : decode cc pc = .ok (.getfield index, 3)) (kk : W p l e R s m args below meth c H locs cells slots Q (F0 m (pc + 3) ls (.int (M i 8) :: rest))) : W p l e R s m args below meth c H locs cells slots Q (F0 m pc ls (.ref (ad i) :: rest)) :=
  g_get C hG (gK_lt hi (by decide)) (gE_8 hi) rfl gn_X8 8 (by decide) hlink rfl hdg kk
theorem gp_X8_finding (C : GC p s m args c D cs ad cc nL own) (hG : GH D cs ad s M H locs) {i index : Nat} {x : Int32} (hi : gK i = 8) (hlink : Cond.fieldLink own index "ThirtyBirds" "finding" "I" ∈ gtbl) (hdg : decode cc pc = .ok (.putfield index, 3)) (kk : ∀ (M1 : Mem), M1 = st M i 8 x → ∀ (H1 : Heap) (locs1 : List Loc), GH D cs ad s M1 H1 locs1 → W p l e R s m args below meth c H1 locs1 cells slots Q (F0 m (pc + 3) ls rest)) : W p l e R s m args below meth c H locs cells slots Q (F0 m pc ls (.int x :: .ref (ad i) :: rest)) :=
  g_put (ty := .int) C hG (gK_lt hi (by decide)) (gE_8 hi) rfl gn_X8 tyX8 tyX8_ok nmX8 8 (by decide) (by show 8 < 9; decide) rfl (by decide +kernel) (by rw [gE_8 hi, st_i]; rfl) rfl rfl hlink hdg kk
theorem gf_X9_lane (C : GC p s m args c D cs ad cc nL own) (hG : GH D cs ad s M H locs) {i index : Nat} (hi : gK i = 9) (hlink : Cond.fieldLink own index "ThirtyBirdsModel" "lane" "[I" ∈ gtbl) (hdg : decode cc pc = .ok (.getfield index, 3)) (kk : W p l e R s m args below meth c H locs cells slots Q (F0 m (pc + 3) ls (.ref (ad 141) :: rest))) : W p l e R s m args below meth c H locs cells slots Q (F0 m pc ls (.ref (ad i) :: rest)) :=
  g_get C hG (gK_lt hi (by decide)) (gE_9 hi) rfl gn_X9 0 (by decide) hlink rfl hdg kk
theorem gf_X9_many (C : GC p s m args c D cs ad cc nL own) (hG : GH D cs ad s M H locs) {i index : Nat} (hi : gK i = 9) (hlink : Cond.fieldLink own index "ThirtyBirdsModel" "many" "[I" ∈ gtbl) (hdg : decode cc pc = .ok (.getfield index, 3)) (kk : W p l e R s m args below meth c H locs cells slots Q (F0 m (pc + 3) ls (.ref (ad 142) :: rest))) : W p l e R s m args below meth c H locs cells slots Q (F0 m pc ls (.ref (ad i) :: rest)) :=
  g_get C hG (gK_lt hi (by decide)) (gE_9 hi) rfl gn_X9 1 (by decide) hlink rfl hdg kk
theorem gf_X9_items (C : GC p s m args c D cs ad cc nL own) (hG : GH D cs ad s M H locs) {i index : Nat} (hi : gK i = 9) (hlink : Cond.fieldLink own index "ThirtyBirdsModel" "items" "[I" ∈ gtbl) (hdg : decode cc pc = .ok (.getfield index, 3)) (kk : W p l e R s m args below meth c H locs cells slots Q (F0 m (pc + 3) ls (.ref (ad 143) :: rest))) : W p l e R s m args below meth c H locs cells slots Q (F0 m pc ls (.ref (ad i) :: rest)) :=
  g_get C hG (gK_lt hi (by decide)) (gE_9 hi) rfl gn_X9 2 (by decide) hlink rfl hdg kk
theorem gf_X9_spare (C : GC p s m args c D cs ad cc nL own) (hG : GH D cs ad s M H locs) {i index : Nat} (hi : gK i = 9) (hlink : Cond.fieldLink own index "ThirtyBirdsModel" "spare" "[I" ∈ gtbl) (hdg : decode cc pc = .ok (.getfield index, 3)) (kk : W p l e R s m args below meth c H locs cells slots Q (F0 m (pc + 3) ls (.ref (ad 144) :: rest))) : W p l e R s m args below meth c H locs cells slots Q (F0 m pc ls (.ref (ad i) :: rest)) :=
  g_get C hG (gK_lt hi (by decide)) (gE_9 hi) rfl gn_X9 3 (by decide) hlink rfl hdg kk
theorem gf_X9_status (C : GC p s m args c D cs ad cc nL own) (hG : GH D cs ad s M H locs) {i index : Nat} (hi : gK i = 9) (hlink : Cond.fieldLink own index "ThirtyBirdsModel" "status" "I" ∈ gtbl) (hdg : decode cc pc = .ok (.getfield index, 3)) (kk : W p l e R s m args below meth c H locs cells slots Q (F0 m (pc + 3) ls (.int (M i 4) :: rest))) : W p l e R s m args below meth c H locs cells slots Q (F0 m pc ls (.ref (ad i) :: rest)) :=
  g_get C hG (gK_lt hi (by decide)) (gE_9 hi) rfl gn_X9 4 (by decide) hlink rfl hdg kk
theorem gp_X9_status (C : GC p s m args c D cs ad cc nL own) (hG : GH D cs ad s M H locs) {i index : Nat} {x : Int32} (hi : gK i = 9) (hlink : Cond.fieldLink own index "ThirtyBirdsModel" "status" "I" ∈ gtbl) (hdg : decode cc pc = .ok (.putfield index, 3)) (kk : ∀ (M1 : Mem), M1 = st M i 4 x → ∀ (H1 : Heap) (locs1 : List Loc), GH D cs ad s M1 H1 locs1 → W p l e R s m args below meth c H1 locs1 cells slots Q (F0 m (pc + 3) ls rest)) : W p l e R s m args below meth c H locs cells slots Q (F0 m pc ls (.int x :: .ref (ad i) :: rest)) :=
  g_put (ty := .int) C hG (gK_lt hi (by decide)) (gE_9 hi) rfl gn_X9 tyX9 tyX9_ok nmX9 4 (by decide) (by show 4 < 24; decide) rfl (by decide +kernel) (by rw [gE_9 hi, st_i]; rfl) rfl rfl hlink hdg kk
theorem gf_X9_tape (C : GC p s m args c D cs ad cc nL own) (hG : GH D cs ad s M H locs) {i index : Nat} (hi : gK i = 9) (hlink : Cond.fieldLink own index "ThirtyBirdsModel" "tape" "[I" ∈ gtbl) (hdg : decode cc pc = .ok (.getfield index, 3)) (kk : W p l e R s m args below meth c H locs cells slots Q (F0 m (pc + 3) ls (.ref (ad 145) :: rest))) : W p l e R s m args below meth c H locs cells slots Q (F0 m pc ls (.ref (ad i) :: rest)) :=
  g_get C hG (gK_lt hi (by decide)) (gE_9 hi) rfl gn_X9 5 (by decide) hlink rfl hdg kk
theorem gf_X9_taped (C : GC p s m args c D cs ad cc nL own) (hG : GH D cs ad s M H locs) {i index : Nat} (hi : gK i = 9) (hlink : Cond.fieldLink own index "ThirtyBirdsModel" "taped" "I" ∈ gtbl) (hdg : decode cc pc = .ok (.getfield index, 3)) (kk : W p l e R s m args below meth c H locs cells slots Q (F0 m (pc + 3) ls (.int (M i 6) :: rest))) : W p l e R s m args below meth c H locs cells slots Q (F0 m pc ls (.ref (ad i) :: rest)) :=
  g_get C hG (gK_lt hi (by decide)) (gE_9 hi) rfl gn_X9 6 (by decide) hlink rfl hdg kk
theorem gp_X9_taped (C : GC p s m args c D cs ad cc nL own) (hG : GH D cs ad s M H locs) {i index : Nat} {x : Int32} (hi : gK i = 9) (hlink : Cond.fieldLink own index "ThirtyBirdsModel" "taped" "I" ∈ gtbl) (hdg : decode cc pc = .ok (.putfield index, 3)) (kk : ∀ (M1 : Mem), M1 = st M i 6 x → ∀ (H1 : Heap) (locs1 : List Loc), GH D cs ad s M1 H1 locs1 → W p l e R s m args below meth c H1 locs1 cells slots Q (F0 m (pc + 3) ls rest)) : W p l e R s m args below meth c H locs cells slots Q (F0 m pc ls (.int x :: .ref (ad i) :: rest)) :=
  g_put (ty := .int) C hG (gK_lt hi (by decide)) (gE_9 hi) rfl gn_X9 tyX9 tyX9_ok nmX9 6 (by decide) (by show 6 < 24; decide) rfl (by decide +kernel) (by rw [gE_9 hi, st_i]; rfl) rfl rfl hlink hdg kk
theorem gf_X9_faultKind (C : GC p s m args c D cs ad cc nL own) (hG : GH D cs ad s M H locs) {i index : Nat} (hi : gK i = 9) (hlink : Cond.fieldLink own index "ThirtyBirdsModel" "faultKind" "I" ∈ gtbl) (hdg : decode cc pc = .ok (.getfield index, 3)) (kk : W p l e R s m args below meth c H locs cells slots Q (F0 m (pc + 3) ls (.int (M i 7) :: rest))) : W p l e R s m args below meth c H locs cells slots Q (F0 m pc ls (.ref (ad i) :: rest)) :=
  g_get C hG (gK_lt hi (by decide)) (gE_9 hi) rfl gn_X9 7 (by decide) hlink rfl hdg kk
theorem gp_X9_faultKind (C : GC p s m args c D cs ad cc nL own) (hG : GH D cs ad s M H locs) {i index : Nat} {x : Int32} (hi : gK i = 9) (hlink : Cond.fieldLink own index "ThirtyBirdsModel" "faultKind" "I" ∈ gtbl) (hdg : decode cc pc = .ok (.putfield index, 3)) (kk : ∀ (M1 : Mem), M1 = st M i 7 x → ∀ (H1 : Heap) (locs1 : List Loc), GH D cs ad s M1 H1 locs1 → W p l e R s m args below meth c H1 locs1 cells slots Q (F0 m (pc + 3) ls rest)) : W p l e R s m args below meth c H locs cells slots Q (F0 m pc ls (.int x :: .ref (ad i) :: rest)) :=
  g_put (ty := .int) C hG (gK_lt hi (by decide)) (gE_9 hi) rfl gn_X9 tyX9 tyX9_ok nmX9 7 (by decide) (by show 7 < 24; decide) rfl (by decide +kernel) (by rw [gE_9 hi, st_i]; rfl) rfl rfl hlink hdg kk
theorem gf_X9_faultPlace (C : GC p s m args c D cs ad cc nL own) (hG : GH D cs ad s M H locs) {i index : Nat} (hi : gK i = 9) (hlink : Cond.fieldLink own index "ThirtyBirdsModel" "faultPlace" "I" ∈ gtbl) (hdg : decode cc pc = .ok (.getfield index, 3)) (kk : W p l e R s m args below meth c H locs cells slots Q (F0 m (pc + 3) ls (.int (M i 8) :: rest))) : W p l e R s m args below meth c H locs cells slots Q (F0 m pc ls (.ref (ad i) :: rest)) :=
  g_get C hG (gK_lt hi (by decide)) (gE_9 hi) rfl gn_X9 8 (by decide) hlink rfl hdg kk
theorem gp_X9_faultPlace (C : GC p s m args c D cs ad cc nL own) (hG : GH D cs ad s M H locs) {i index : Nat} {x : Int32} (hi : gK i = 9) (hlink : Cond.fieldLink own index "ThirtyBirdsModel" "faultPlace" "I" ∈ gtbl) (hdg : decode cc pc = .ok (.putfield index, 3)) (kk : ∀ (M1 : Mem), M1 = st M i 8 x → ∀ (H1 : Heap) (locs1 : List Loc), GH D cs ad s M1 H1 locs1 → W p l e R s m args below meth c H1 locs1 cells slots Q (F0 m (pc + 3) ls rest)) : W p l e R s m args below meth c H locs cells slots Q (F0 m pc ls (.int x :: .ref (ad i) :: rest)) :=
  g_put (ty := .int) C hG (gK_lt hi (by decide)) (gE_9 hi) rfl gn_X9 tyX9 tyX9_ok nmX9 8 (by decide) (by show 8 < 24; decide) rfl (by decide +kernel) (by rw [gE_9 hi, st_i]; rfl) rfl rfl hlink hdg kk
theorem gf_X9_at (C : GC p s m args c D cs ad cc nL own) (hG : GH D cs ad s M H locs) {i index : Nat} (hi : gK i = 9) (hlink : Cond.fieldLink own index "ThirtyBirdsModel" "at" "I" ∈ gtbl) (hdg : decode cc pc = .ok (.getfield index, 3)) (kk : W p l e R s m args below meth c H locs cells slots Q (F0 m (pc + 3) ls (.int (M i 9) :: rest))) : W p l e R s m args below meth c H locs cells slots Q (F0 m pc ls (.ref (ad i) :: rest)) :=
  g_get C hG (gK_lt hi (by decide)) (gE_9 hi) rfl gn_X9 9 (by decide) hlink rfl hdg kk
theorem gp_X9_at (C : GC p s m args c D cs ad cc nL own) (hG : GH D cs ad s M H locs) {i index : Nat} {x : Int32} (hi : gK i = 9) (hlink : Cond.fieldLink own index "ThirtyBirdsModel" "at" "I" ∈ gtbl) (hdg : decode cc pc = .ok (.putfield index, 3)) (kk : ∀ (M1 : Mem), M1 = st M i 9 x → ∀ (H1 : Heap) (locs1 : List Loc), GH D cs ad s M1 H1 locs1 → W p l e R s m args below meth c H1 locs1 cells slots Q (F0 m (pc + 3) ls rest)) : W p l e R s m args below meth c H locs cells slots Q (F0 m pc ls (.int x :: .ref (ad i) :: rest)) :=
  g_put (ty := .int) C hG (gK_lt hi (by decide)) (gE_9 hi) rfl gn_X9 tyX9 tyX9_ok nmX9 9 (by decide) (by show 9 < 24; decide) rfl (by decide +kernel) (by rw [gE_9 hi, st_i]; rfl) rfl rfl hlink hdg kk
theorem gf_X9_start (C : GC p s m args c D cs ad cc nL own) (hG : GH D cs ad s M H locs) {i index : Nat} (hi : gK i = 9) (hlink : Cond.fieldLink own index "ThirtyBirdsModel" "start" "I" ∈ gtbl) (hdg : decode cc pc = .ok (.getfield index, 3)) (kk : W p l e R s m args below meth c H locs cells slots Q (F0 m (pc + 3) ls (.int (M i 10) :: rest))) : W p l e R s m args below meth c H locs cells slots Q (F0 m pc ls (.ref (ad i) :: rest)) :=
  g_get C hG (gK_lt hi (by decide)) (gE_9 hi) rfl gn_X9 10 (by decide) hlink rfl hdg kk
theorem gp_X9_start (C : GC p s m args c D cs ad cc nL own) (hG : GH D cs ad s M H locs) {i index : Nat} {x : Int32} (hi : gK i = 9) (hlink : Cond.fieldLink own index "ThirtyBirdsModel" "start" "I" ∈ gtbl) (hdg : decode cc pc = .ok (.putfield index, 3)) (kk : ∀ (M1 : Mem), M1 = st M i 10 x → ∀ (H1 : Heap) (locs1 : List Loc), GH D cs ad s M1 H1 locs1 → W p l e R s m args below meth c H1 locs1 cells slots Q (F0 m (pc + 3) ls rest)) : W p l e R s m args below meth c H locs cells slots Q (F0 m pc ls (.int x :: .ref (ad i) :: rest)) :=
  g_put (ty := .int) C hG (gK_lt hi (by decide)) (gE_9 hi) rfl gn_X9 tyX9 tyX9_ok nmX9 10 (by decide) (by show 10 < 24; decide) rfl (by decide +kernel) (by rw [gE_9 hi, st_i]; rfl) rfl rfl hlink hdg kk
theorem gf_X9_token (C : GC p s m args c D cs ad cc nL own) (hG : GH D cs ad s M H locs) {i index : Nat} (hi : gK i = 9) (hlink : Cond.fieldLink own index "ThirtyBirdsModel" "token" "I" ∈ gtbl) (hdg : decode cc pc = .ok (.getfield index, 3)) (kk : W p l e R s m args below meth c H locs cells slots Q (F0 m (pc + 3) ls (.int (M i 11) :: rest))) : W p l e R s m args below meth c H locs cells slots Q (F0 m pc ls (.ref (ad i) :: rest)) :=
  g_get C hG (gK_lt hi (by decide)) (gE_9 hi) rfl gn_X9 11 (by decide) hlink rfl hdg kk
theorem gp_X9_token (C : GC p s m args c D cs ad cc nL own) (hG : GH D cs ad s M H locs) {i index : Nat} {x : Int32} (hi : gK i = 9) (hlink : Cond.fieldLink own index "ThirtyBirdsModel" "token" "I" ∈ gtbl) (hdg : decode cc pc = .ok (.putfield index, 3)) (kk : ∀ (M1 : Mem), M1 = st M i 11 x → ∀ (H1 : Heap) (locs1 : List Loc), GH D cs ad s M1 H1 locs1 → W p l e R s m args below meth c H1 locs1 cells slots Q (F0 m (pc + 3) ls rest)) : W p l e R s m args below meth c H locs cells slots Q (F0 m pc ls (.int x :: .ref (ad i) :: rest)) :=
  g_put (ty := .int) C hG (gK_lt hi (by decide)) (gE_9 hi) rfl gn_X9 tyX9 tyX9_ok nmX9 11 (by decide) (by show 11 < 24; decide) rfl (by decide +kernel) (by rw [gE_9 hi, st_i]; rfl) rfl rfl hlink hdg kk
theorem gf_X9_value (C : GC p s m args c D cs ad cc nL own) (hG : GH D cs ad s M H locs) {i index : Nat} (hi : gK i = 9) (hlink : Cond.fieldLink own index "ThirtyBirdsModel" "value" "I" ∈ gtbl) (hdg : decode cc pc = .ok (.getfield index, 3)) (kk : W p l e R s m args below meth c H locs cells slots Q (F0 m (pc + 3) ls (.int (M i 12) :: rest))) : W p l e R s m args below meth c H locs cells slots Q (F0 m pc ls (.ref (ad i) :: rest)) :=
  g_get C hG (gK_lt hi (by decide)) (gE_9 hi) rfl gn_X9 12 (by decide) hlink rfl hdg kk
theorem gp_X9_value (C : GC p s m args c D cs ad cc nL own) (hG : GH D cs ad s M H locs) {i index : Nat} {x : Int32} (hi : gK i = 9) (hlink : Cond.fieldLink own index "ThirtyBirdsModel" "value" "I" ∈ gtbl) (hdg : decode cc pc = .ok (.putfield index, 3)) (kk : ∀ (M1 : Mem), M1 = st M i 12 x → ∀ (H1 : Heap) (locs1 : List Loc), GH D cs ad s M1 H1 locs1 → W p l e R s m args below meth c H1 locs1 cells slots Q (F0 m (pc + 3) ls rest)) : W p l e R s m args below meth c H locs cells slots Q (F0 m pc ls (.int x :: .ref (ad i) :: rest)) :=
  g_put (ty := .int) C hG (gK_lt hi (by decide)) (gE_9 hi) rfl gn_X9 tyX9 tyX9_ok nmX9 12 (by decide) (by show 12 < 24; decide) rfl (by decide +kernel) (by rw [gE_9 hi, st_i]; rfl) rfl rfl hlink hdg kk
theorem gf_X9_now (C : GC p s m args c D cs ad cc nL own) (hG : GH D cs ad s M H locs) {i index : Nat} (hi : gK i = 9) (hlink : Cond.fieldLink own index "ThirtyBirdsModel" "now" "[I" ∈ gtbl) (hdg : decode cc pc = .ok (.getfield index, 3)) (kk : W p l e R s m args below meth c H locs cells slots Q (F0 m (pc + 3) ls (.ref (ad 146) :: rest))) : W p l e R s m args below meth c H locs cells slots Q (F0 m pc ls (.ref (ad i) :: rest)) :=
  g_get C hG (gK_lt hi (by decide)) (gE_9 hi) rfl gn_X9 13 (by decide) hlink rfl hdg kk
theorem gf_X9_draft (C : GC p s m args c D cs ad cc nL own) (hG : GH D cs ad s M H locs) {i index : Nat} (hi : gK i = 9) (hlink : Cond.fieldLink own index "ThirtyBirdsModel" "draft" "[I" ∈ gtbl) (hdg : decode cc pc = .ok (.getfield index, 3)) (kk : W p l e R s m args below meth c H locs cells slots Q (F0 m (pc + 3) ls (.ref (ad 147) :: rest))) : W p l e R s m args below meth c H locs cells slots Q (F0 m pc ls (.ref (ad i) :: rest)) :=
  g_get C hG (gK_lt hi (by decide)) (gE_9 hi) rfl gn_X9 14 (by decide) hlink rfl hdg kk
theorem gf_X9_tried (C : GC p s m args c D cs ad cc nL own) (hG : GH D cs ad s M H locs) {i index : Nat} (hi : gK i = 9) (hlink : Cond.fieldLink own index "ThirtyBirdsModel" "tried" "[I" ∈ gtbl) (hdg : decode cc pc = .ok (.getfield index, 3)) (kk : W p l e R s m args below meth c H locs cells slots Q (F0 m (pc + 3) ls (.ref (ad 148) :: rest))) : W p l e R s m args below meth c H locs cells slots Q (F0 m pc ls (.ref (ad i) :: rest)) :=
  g_get C hG (gK_lt hi (by decide)) (gE_9 hi) rfl gn_X9 15 (by decide) hlink rfl hdg kk
theorem gf_X9_past (C : GC p s m args c D cs ad cc nL own) (hG : GH D cs ad s M H locs) {i index : Nat} (hi : gK i = 9) (hlink : Cond.fieldLink own index "ThirtyBirdsModel" "past" "[I" ∈ gtbl) (hdg : decode cc pc = .ok (.getfield index, 3)) (kk : W p l e R s m args below meth c H locs cells slots Q (F0 m (pc + 3) ls (.ref (ad 149) :: rest))) : W p l e R s m args below meth c H locs cells slots Q (F0 m pc ls (.ref (ad i) :: rest)) :=
  g_get C hG (gK_lt hi (by decide)) (gE_9 hi) rfl gn_X9 16 (by decide) hlink rfl hdg kk
theorem gf_X9_acts (C : GC p s m args c D cs ad cc nL own) (hG : GH D cs ad s M H locs) {i index : Nat} (hi : gK i = 9) (hlink : Cond.fieldLink own index "ThirtyBirdsModel" "acts" "I" ∈ gtbl) (hdg : decode cc pc = .ok (.getfield index, 3)) (kk : W p l e R s m args below meth c H locs cells slots Q (F0 m (pc + 3) ls (.int (M i 17) :: rest))) : W p l e R s m args below meth c H locs cells slots Q (F0 m pc ls (.ref (ad i) :: rest)) :=
  g_get C hG (gK_lt hi (by decide)) (gE_9 hi) rfl gn_X9 17 (by decide) hlink rfl hdg kk
theorem gp_X9_acts (C : GC p s m args c D cs ad cc nL own) (hG : GH D cs ad s M H locs) {i index : Nat} {x : Int32} (hi : gK i = 9) (hlink : Cond.fieldLink own index "ThirtyBirdsModel" "acts" "I" ∈ gtbl) (hdg : decode cc pc = .ok (.putfield index, 3)) (kk : ∀ (M1 : Mem), M1 = st M i 17 x → ∀ (H1 : Heap) (locs1 : List Loc), GH D cs ad s M1 H1 locs1 → W p l e R s m args below meth c H1 locs1 cells slots Q (F0 m (pc + 3) ls rest)) : W p l e R s m args below meth c H locs cells slots Q (F0 m pc ls (.int x :: .ref (ad i) :: rest)) :=
  g_put (ty := .int) C hG (gK_lt hi (by decide)) (gE_9 hi) rfl gn_X9 tyX9 tyX9_ok nmX9 17 (by decide) (by show 17 < 24; decide) rfl (by decide +kernel) (by rw [gE_9 hi, st_i]; rfl) rfl rfl hlink hdg kk
theorem gf_X9_images (C : GC p s m args c D cs ad cc nL own) (hG : GH D cs ad s M H locs) {i index : Nat} (hi : gK i = 9) (hlink : Cond.fieldLink own index "ThirtyBirdsModel" "images" "[I" ∈ gtbl) (hdg : decode cc pc = .ok (.getfield index, 3)) (kk : W p l e R s m args below meth c H locs cells slots Q (F0 m (pc + 3) ls (.ref (ad 150) :: rest))) : W p l e R s m args below meth c H locs cells slots Q (F0 m pc ls (.ref (ad i) :: rest)) :=
  g_get C hG (gK_lt hi (by decide)) (gE_9 hi) rfl gn_X9 18 (by decide) hlink rfl hdg kk
theorem gf_X9_kept (C : GC p s m args c D cs ad cc nL own) (hG : GH D cs ad s M H locs) {i index : Nat} (hi : gK i = 9) (hlink : Cond.fieldLink own index "ThirtyBirdsModel" "kept" "[Z" ∈ gtbl) (hdg : decode cc pc = .ok (.getfield index, 3)) (kk : W p l e R s m args below meth c H locs cells slots Q (F0 m (pc + 3) ls (.ref (ad 151) :: rest))) : W p l e R s m args below meth c H locs cells slots Q (F0 m pc ls (.ref (ad i) :: rest)) :=
  g_get C hG (gK_lt hi (by decide)) (gE_9 hi) rfl gn_X9 19 (by decide) hlink rfl hdg kk
theorem gf_X9_order (C : GC p s m args c D cs ad cc nL own) (hG : GH D cs ad s M H locs) {i index : Nat} (hi : gK i = 9) (hlink : Cond.fieldLink own index "ThirtyBirdsModel" "order" "[I" ∈ gtbl) (hdg : decode cc pc = .ok (.getfield index, 3)) (kk : W p l e R s m args below meth c H locs cells slots Q (F0 m (pc + 3) ls (.ref (ad 152) :: rest))) : W p l e R s m args below meth c H locs cells slots Q (F0 m pc ls (.ref (ad i) :: rest)) :=
  g_get C hG (gK_lt hi (by decide)) (gE_9 hi) rfl gn_X9 20 (by decide) hlink rfl hdg kk
theorem gf_X9_best (C : GC p s m args c D cs ad cc nL own) (hG : GH D cs ad s M H locs) {i index : Nat} (hi : gK i = 9) (hlink : Cond.fieldLink own index "ThirtyBirdsModel" "best" "[I" ∈ gtbl) (hdg : decode cc pc = .ok (.getfield index, 3)) (kk : W p l e R s m args below meth c H locs cells slots Q (F0 m (pc + 3) ls (.ref (ad 153) :: rest))) : W p l e R s m args below meth c H locs cells slots Q (F0 m pc ls (.ref (ad i) :: rest)) :=
  g_get C hG (gK_lt hi (by decide)) (gE_9 hi) rfl gn_X9 21 (by decide) hlink rfl hdg kk
theorem gf_X9_trace (C : GC p s m args c D cs ad cc nL own) (hG : GH D cs ad s M H locs) {i index : Nat} (hi : gK i = 9) (hlink : Cond.fieldLink own index "ThirtyBirdsModel" "trace" "[I" ∈ gtbl) (hdg : decode cc pc = .ok (.getfield index, 3)) (kk : W p l e R s m args below meth c H locs cells slots Q (F0 m (pc + 3) ls (.ref (ad 154) :: rest))) : W p l e R s m args below meth c H locs cells slots Q (F0 m pc ls (.ref (ad i) :: rest)) :=
  g_get C hG (gK_lt hi (by decide)) (gE_9 hi) rfl gn_X9 22 (by decide) hlink rfl hdg kk
theorem gf_X9_traced (C : GC p s m args c D cs ad cc nL own) (hG : GH D cs ad s M H locs) {i index : Nat} (hi : gK i = 9) (hlink : Cond.fieldLink own index "ThirtyBirdsModel" "traced" "I" ∈ gtbl) (hdg : decode cc pc = .ok (.getfield index, 3)) (kk : W p l e R s m args below meth c H locs cells slots Q (F0 m (pc + 3) ls (.int (M i 23) :: rest))) : W p l e R s m args below meth c H locs cells slots Q (F0 m pc ls (.ref (ad i) :: rest)) :=
  g_get C hG (gK_lt hi (by decide)) (gE_9 hi) rfl gn_X9 23 (by decide) hlink rfl hdg kk
theorem gp_X9_traced (C : GC p s m args c D cs ad cc nL own) (hG : GH D cs ad s M H locs) {i index : Nat} {x : Int32} (hi : gK i = 9) (hlink : Cond.fieldLink own index "ThirtyBirdsModel" "traced" "I" ∈ gtbl) (hdg : decode cc pc = .ok (.putfield index, 3)) (kk : ∀ (M1 : Mem), M1 = st M i 23 x → ∀ (H1 : Heap) (locs1 : List Loc), GH D cs ad s M1 H1 locs1 → W p l e R s m args below meth c H1 locs1 cells slots Q (F0 m (pc + 3) ls rest)) : W p l e R s m args below meth c H locs cells slots Q (F0 m pc ls (.int x :: .ref (ad i) :: rest)) :=
  g_put (ty := .int) C hG (gK_lt hi (by decide)) (gE_9 hi) rfl gn_X9 tyX9 tyX9_ok nmX9 23 (by decide) (by show 23 < 24; decide) rfl (by decide +kernel) (by rw [gE_9 hi, st_i]; rfl) rfl rfl hlink hdg kk
end GF
