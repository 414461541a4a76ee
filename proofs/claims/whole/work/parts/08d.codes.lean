set_option maxRecDepth 100000 in
theorem vm_cd_0 : vm_cdP 0 := rfl
set_option maxRecDepth 100000 in
theorem vm_cd_1 : vm_cdP 1 := rfl
set_option maxRecDepth 100000 in
theorem vm_cd_2 : vm_cdP 2 := rfl
set_option maxRecDepth 100000 in
theorem vm_cd_3 : vm_cdP 3 := rfl
set_option maxRecDepth 100000 in
theorem vm_cd_4 : vm_cdP 4 := rfl
set_option maxRecDepth 100000 in
theorem vm_cd_5 : vm_cdP 5 := rfl
set_option maxRecDepth 100000 in
theorem vm_cd_6 : vm_cdP 6 := rfl
set_option maxRecDepth 100000 in
theorem vm_cd_7 : vm_cdP 7 := rfl
set_option maxRecDepth 100000 in
theorem vm_cd_8 : vm_cdP 8 := rfl
set_option maxRecDepth 100000 in
theorem vm_cd_9 : vm_cdP 9 := rfl
set_option maxRecDepth 100000 in
theorem vm_cd_10 : vm_cdP 10 := rfl
set_option maxRecDepth 100000 in
theorem vm_cd_11 : vm_cdP 11 := rfl
set_option maxRecDepth 100000 in
theorem vm_cd_12 : vm_cdP 12 := rfl
set_option maxRecDepth 100000 in
theorem vm_cd_13 : vm_cdP 13 := rfl
set_option maxRecDepth 100000 in
theorem vm_cd_14 : vm_cdP 14 := rfl
set_option maxRecDepth 100000 in
theorem vm_cd_15 : vm_cdP 15 := rfl
set_option maxRecDepth 100000 in
theorem vm_cd_16 : vm_cdP 16 := rfl
set_option maxRecDepth 100000 in
theorem vm_cd_17 : vm_cdP 17 := rfl
set_option maxRecDepth 100000 in
theorem vm_cd_18 : vm_cdP 18 := rfl
set_option maxRecDepth 100000 in
theorem vm_cd_19 : vm_cdP 19 := rfl
set_option maxRecDepth 100000 in
theorem vm_cd_20 : vm_cdP 20 := rfl
set_option maxRecDepth 100000 in
theorem vm_cd_21 : vm_cdP 21 := rfl
set_option maxRecDepth 100000 in
theorem vm_cd_22 : vm_cdP 22 := rfl
set_option maxRecDepth 100000 in
theorem vm_cd_23 : vm_cdP 23 := rfl
set_option maxRecDepth 100000 in
theorem vm_cd_24 : vm_cdP 24 := rfl
set_option maxRecDepth 100000 in
theorem vm_cd_25 : vm_cdP 25 := rfl
set_option maxRecDepth 100000 in
theorem vm_cd_26 : vm_cdP 26 := rfl
set_option maxRecDepth 100000 in
theorem vm_cd_27 : vm_cdP 27 := rfl
set_option maxRecDepth 100000 in
theorem vm_cd_28 : vm_cdP 28 := rfl
set_option maxRecDepth 100000 in
theorem vm_cd_29 : vm_cdP 29 := rfl
set_option maxRecDepth 100000 in
theorem vm_cd_30 : vm_cdP 30 := rfl
set_option maxRecDepth 100000 in
theorem vm_cd_31 : vm_cdP 31 := rfl
set_option maxRecDepth 100000 in
theorem vm_cd_32 : vm_cdP 32 := rfl
set_option maxRecDepth 100000 in
theorem vm_cd_33 : vm_cdP 33 := rfl
set_option maxRecDepth 100000 in
theorem vm_cd_34 : vm_cdP 34 := rfl
set_option maxRecDepth 100000 in
theorem vm_cd_35 : vm_cdP 35 := rfl
set_option maxRecDepth 100000 in
theorem vm_cd_36 : vm_cdP 36 := rfl
set_option maxRecDepth 100000 in
theorem vm_cd_37 : vm_cdP 37 := rfl
set_option maxRecDepth 100000 in
theorem vm_cd_38 : vm_cdP 38 := rfl
set_option maxRecDepth 100000 in
theorem vm_cd_39 : vm_cdP 39 := rfl
set_option maxRecDepth 100000 in
theorem vm_cd_40 : vm_cdP 40 := rfl
set_option maxRecDepth 100000 in
theorem vm_cd_41 : vm_cdP 41 := rfl
set_option maxRecDepth 100000 in
theorem vm_cd_42 : vm_cdP 42 := rfl
set_option maxRecDepth 100000 in
theorem vm_cd_43 : vm_cdP 43 := rfl
set_option maxRecDepth 100000 in
theorem vm_cd_44 : vm_cdP 44 := rfl
set_option maxRecDepth 100000 in
theorem vm_cd_45 : vm_cdP 45 := rfl
set_option maxRecDepth 100000 in
theorem vm_cd_46 : vm_cdP 46 := rfl
set_option maxRecDepth 100000 in
theorem vm_cd_47 : vm_cdP 47 := rfl
set_option maxRecDepth 100000 in
theorem vm_cd_48 : vm_cdP 48 := rfl
set_option maxRecDepth 100000 in
theorem vm_cd_49 : vm_cdP 49 := rfl
set_option maxRecDepth 100000 in
theorem vm_cd_50 : vm_cdP 50 := rfl
set_option maxRecDepth 100000 in
theorem vm_cd_51 : vm_cdP 51 := rfl
set_option maxRecDepth 100000 in
theorem vm_cd_52 : vm_cdP 52 := rfl
set_option maxRecDepth 100000 in
theorem vm_cd_53 : vm_cdP 53 := rfl
set_option maxRecDepth 100000 in
theorem vm_cd_54 : vm_cdP 54 := rfl
set_option maxRecDepth 100000 in
theorem vm_cd_55 : vm_cdP 55 := rfl
set_option maxRecDepth 100000 in
theorem vm_cd_56 : vm_cdP 56 := rfl
set_option maxRecDepth 100000 in
theorem vm_cd_57 : vm_cdP 57 := rfl
set_option maxRecDepth 100000 in
theorem vm_cd_58 : vm_cdP 58 := rfl
set_option maxRecDepth 100000 in
theorem vm_cd_59 : vm_cdP 59 := rfl
set_option maxRecDepth 100000 in
theorem vm_cd_60 : vm_cdP 60 := rfl
set_option maxRecDepth 100000 in
theorem vm_cd_61 : vm_cdP 61 := rfl
set_option maxRecDepth 100000 in
theorem vm_cd_62 : vm_cdP 62 := rfl
set_option maxRecDepth 100000 in
theorem vm_cd_63 : vm_cdP 63 := rfl
set_option maxRecDepth 100000 in
theorem vm_cd_64 : vm_cdP 64 := rfl
set_option maxRecDepth 100000 in
theorem vm_cd_65 : vm_cdP 65 := rfl
set_option maxRecDepth 100000 in
theorem vm_cd_66 : vm_cdP 66 := rfl
set_option maxRecDepth 100000 in
theorem vm_cd_67 : vm_cdP 67 := rfl
set_option maxRecDepth 100000 in
theorem vm_cd_68 : vm_cdP 68 := rfl
set_option maxRecDepth 100000 in
theorem vm_cd_69 : vm_cdP 69 := rfl
set_option maxRecDepth 100000 in
theorem vm_cd_70 : vm_cdP 70 := rfl
set_option maxRecDepth 100000 in
theorem vm_cd_71 : vm_cdP 71 := rfl
set_option maxRecDepth 100000 in
theorem vm_cd_72 : vm_cdP 72 := rfl
set_option maxRecDepth 100000 in
theorem vm_cd_73 : vm_cdP 73 := rfl
set_option maxRecDepth 100000 in
theorem vm_cd_74 : vm_cdP 74 := rfl
set_option maxRecDepth 100000 in
theorem vm_cd_75 : vm_cdP 75 := rfl
set_option maxRecDepth 100000 in
theorem vm_cd_76 : vm_cdP 76 := rfl
set_option maxRecDepth 100000 in
theorem vm_cd_77 : vm_cdP 77 := rfl
set_option maxRecDepth 100000 in
theorem vm_cd_78 : vm_cdP 78 := rfl
set_option maxRecDepth 100000 in
theorem vm_cd_79 : vm_cdP 79 := rfl
set_option maxRecDepth 100000 in
theorem vm_cd_80 : vm_cdP 80 := rfl
set_option maxRecDepth 100000 in
theorem vm_cd_81 : vm_cdP 81 := rfl
set_option maxRecDepth 100000 in
theorem vm_cd_82 : vm_cdP 82 := rfl
set_option maxRecDepth 100000 in
theorem vm_cd_83 : vm_cdP 83 := rfl
set_option maxRecDepth 100000 in
theorem vm_cd_84 : vm_cdP 84 := rfl
set_option maxRecDepth 100000 in
theorem vm_cd_85 : vm_cdP 85 := rfl
set_option maxRecDepth 100000 in
theorem vm_cd_86 : vm_cdP 86 := rfl
set_option maxRecDepth 100000 in
theorem vm_cd_87 : vm_cdP 87 := rfl
set_option maxRecDepth 100000 in
theorem vm_cd_88 : vm_cdP 88 := rfl
set_option maxRecDepth 100000 in
theorem vm_cd_89 : vm_cdP 89 := rfl
set_option maxRecDepth 100000 in
theorem vm_cd_90 : vm_cdP 90 := rfl
set_option maxRecDepth 100000 in
theorem vm_cd_91 : vm_cdP 91 := rfl
set_option maxRecDepth 100000 in
theorem vm_cd_92 : vm_cdP 92 := rfl
set_option maxRecDepth 100000 in
theorem vm_cd_93 : vm_cdP 93 := rfl
set_option maxRecDepth 100000 in
theorem vm_cd_94 : vm_cdP 94 := rfl
set_option maxRecDepth 100000 in
theorem vm_cd_95 : vm_cdP 95 := rfl
set_option maxRecDepth 100000 in
theorem vm_cd_96 : vm_cdP 96 := rfl
set_option maxRecDepth 100000 in
theorem vm_cd_97 : vm_cdP 97 := rfl
set_option maxRecDepth 100000 in
theorem vm_cd_98 : vm_cdP 98 := rfl
set_option maxRecDepth 100000 in
theorem vm_cd_99 : vm_cdP 99 := rfl
set_option maxRecDepth 100000 in
theorem vm_cd_100 : vm_cdP 100 := rfl
set_option maxRecDepth 100000 in
theorem vm_cd_101 : vm_cdP 101 := rfl
set_option maxRecDepth 100000 in
theorem vm_cd_102 : vm_cdP 102 := rfl
set_option maxRecDepth 100000 in
theorem vm_cd_103 : vm_cdP 103 := rfl
set_option maxRecDepth 100000 in
theorem vm_cd_104 : vm_cdP 104 := rfl
set_option maxRecDepth 100000 in
theorem vm_cd_105 : vm_cdP 105 := rfl
set_option maxRecDepth 100000 in
theorem vm_cd_106 : vm_cdP 106 := rfl
set_option maxRecDepth 100000 in
theorem vm_cd_107 : vm_cdP 107 := rfl
set_option maxRecDepth 100000 in
theorem vm_cd_108 : vm_cdP 108 := rfl
set_option maxRecDepth 100000 in
theorem vm_cd_109 : vm_cdP 109 := rfl
set_option maxRecDepth 100000 in
theorem vm_cd_110 : vm_cdP 110 := rfl
set_option maxRecDepth 100000 in
theorem vm_cd_111 : vm_cdP 111 := rfl
set_option maxRecDepth 100000 in
theorem vm_cd_112 : vm_cdP 112 := rfl
set_option maxRecDepth 100000 in
theorem vm_cd_113 : vm_cdP 113 := rfl
set_option maxRecDepth 100000 in
theorem vm_cd_114 : vm_cdP 114 := rfl
set_option maxRecDepth 100000 in
theorem vm_cd_115 : vm_cdP 115 := rfl
set_option maxRecDepth 100000 in
theorem vm_cd_116 : vm_cdP 116 := rfl
set_option maxRecDepth 100000 in
theorem vm_cd_117 : vm_cdP 117 := rfl
set_option maxRecDepth 100000 in
theorem vm_cd_118 : vm_cdP 118 := rfl
set_option maxRecDepth 100000 in
theorem vm_cd_119 : vm_cdP 119 := rfl
set_option maxRecDepth 100000 in
theorem vm_cd_120 : vm_cdP 120 := rfl
set_option maxRecDepth 100000 in
theorem vm_cd_121 : vm_cdP 121 := rfl
set_option maxRecDepth 100000 in
theorem vm_cd_122 : vm_cdP 122 := rfl
set_option maxRecDepth 100000 in
theorem vm_cd_123 : vm_cdP 123 := rfl
set_option maxRecDepth 100000 in
theorem vm_cd_124 : vm_cdP 124 := rfl
set_option maxRecDepth 100000 in
theorem vm_cd_125 : vm_cdP 125 := rfl
set_option maxRecDepth 100000 in
theorem vm_cd_126 : vm_cdP 126 := rfl
set_option maxRecDepth 100000 in
theorem vm_cd_127 : vm_cdP 127 := rfl
set_option maxRecDepth 100000 in
theorem vm_cd_128 : vm_cdP 128 := rfl
set_option maxRecDepth 100000 in
theorem vm_cd_129 : vm_cdP 129 := rfl
set_option maxRecDepth 100000 in
theorem vm_cd_130 : vm_cdP 130 := rfl
set_option maxRecDepth 100000 in
theorem vm_cd_131 : vm_cdP 131 := rfl
set_option maxRecDepth 100000 in
theorem vm_cd_132 : vm_cdP 132 := rfl
set_option maxRecDepth 100000 in
theorem vm_cd_133 : vm_cdP 133 := rfl
set_option maxRecDepth 100000 in
theorem vm_cd_134 : vm_cdP 134 := rfl
set_option maxRecDepth 100000 in
theorem vm_cd_135 : vm_cdP 135 := rfl
set_option maxRecDepth 100000 in
theorem vm_cd_136 : vm_cdP 136 := rfl
set_option maxRecDepth 100000 in
theorem vm_cd_137 : vm_cdP 137 := rfl
set_option maxRecDepth 100000 in
theorem vm_cd_138 : vm_cdP 138 := rfl
set_option maxRecDepth 100000 in
theorem vm_cd_139 : vm_cdP 139 := rfl
set_option maxRecDepth 100000 in
theorem vm_cd_140 : vm_cdP 140 := rfl
set_option maxRecDepth 100000 in
theorem vm_cd_141 : vm_cdP 141 := rfl
set_option maxRecDepth 100000 in
theorem vm_cd_142 : vm_cdP 142 := rfl
set_option maxRecDepth 100000 in
theorem vm_cd_143 : vm_cdP 143 := rfl
set_option maxRecDepth 100000 in
theorem vm_cd_144 : vm_cdP 144 := rfl
set_option maxRecDepth 100000 in
theorem vm_cd_145 : vm_cdP 145 := rfl
set_option maxRecDepth 100000 in
theorem vm_cd_146 : vm_cdP 146 := rfl
set_option maxRecDepth 100000 in
theorem vm_cd_147 : vm_cdP 147 := rfl
set_option maxRecDepth 100000 in
theorem vm_cd_148 : vm_cdP 148 := rfl
set_option maxRecDepth 100000 in
theorem vm_cd_149 : vm_cdP 149 := rfl
set_option maxRecDepth 100000 in
theorem vm_cd_150 : vm_cdP 150 := rfl
set_option maxRecDepth 100000 in
theorem vm_cd_151 : vm_cdP 151 := rfl
set_option maxRecDepth 100000 in
theorem vm_cd_152 : vm_cdP 152 := rfl
set_option maxRecDepth 100000 in
theorem vm_cd_153 : vm_cdP 153 := rfl
set_option maxRecDepth 100000 in
theorem vm_cd_154 : vm_cdP 154 := rfl
set_option maxRecDepth 100000 in
theorem vm_cd_155 : vm_cdP 155 := rfl
set_option maxRecDepth 100000 in
theorem vm_cd_156 : vm_cdP 156 := rfl
set_option maxRecDepth 100000 in
theorem vm_cd_157 : vm_cdP 157 := rfl
set_option maxRecDepth 100000 in
theorem vm_cd_158 : vm_cdP 158 := rfl
set_option maxRecDepth 100000 in
theorem vm_cd_159 : vm_cdP 159 := rfl
set_option maxRecDepth 100000 in
theorem vm_cd_160 : vm_cdP 160 := rfl
set_option maxRecDepth 100000 in
theorem vm_cd_161 : vm_cdP 161 := rfl
set_option maxRecDepth 100000 in
theorem vm_cd_162 : vm_cdP 162 := rfl
set_option maxRecDepth 100000 in
theorem vm_cd_163 : vm_cdP 163 := rfl
set_option maxRecDepth 100000 in
theorem vm_cd_164 : vm_cdP 164 := rfl
set_option maxRecDepth 100000 in
theorem vm_cd_165 : vm_cdP 165 := rfl
set_option maxRecDepth 100000 in
theorem vm_cd_166 : vm_cdP 166 := rfl
set_option maxRecDepth 100000 in
theorem vm_cd_167 : vm_cdP 167 := rfl
set_option maxRecDepth 100000 in
theorem vm_cd_168 : vm_cdP 168 := rfl
set_option maxRecDepth 100000 in
theorem vm_cd_169 : vm_cdP 169 := rfl
set_option maxRecDepth 100000 in
theorem vm_cd_170 : vm_cdP 170 := rfl
set_option maxRecDepth 100000 in
theorem vm_cd_171 : vm_cdP 171 := rfl
set_option maxRecDepth 100000 in
theorem vm_cd_172 : vm_cdP 172 := rfl
set_option maxRecDepth 100000 in
theorem vm_cd_173 : vm_cdP 173 := rfl
set_option maxRecDepth 100000 in
theorem vm_cd_174 : vm_cdP 174 := rfl
set_option maxRecDepth 100000 in
theorem vm_cd_175 : vm_cdP 175 := rfl
set_option maxRecDepth 100000 in
theorem vm_cd_176 : vm_cdP 176 := rfl
set_option maxRecDepth 100000 in
theorem vm_cd_177 : vm_cdP 177 := rfl
set_option maxRecDepth 100000 in
theorem vm_cd_178 : vm_cdP 178 := rfl
set_option maxRecDepth 100000 in
theorem vm_cd_179 : vm_cdP 179 := rfl
theorem vm_cd_all {k : Nat} (hk : k < 180) : vm_cdP k := by
  by_cases h0 : k < 20
  · rcases (show k = 0 ∨ k = 1 ∨ k = 2 ∨ k = 3 ∨ k = 4 ∨ k = 5 ∨ k = 6 ∨ k = 7 ∨ k = 8 ∨ k = 9 ∨ k = 10 ∨ k = 11 ∨ k = 12 ∨ k = 13 ∨ k = 14 ∨ k = 15 ∨ k = 16 ∨ k = 17 ∨ k = 18 ∨ k = 19 by omega) with rfl | rfl | rfl | rfl | rfl | rfl | rfl | rfl | rfl | rfl | rfl | rfl | rfl | rfl | rfl | rfl | rfl | rfl | rfl | rfl
    · exact vm_cd_0
    · exact vm_cd_1
    · exact vm_cd_2
    · exact vm_cd_3
    · exact vm_cd_4
    · exact vm_cd_5
    · exact vm_cd_6
    · exact vm_cd_7
    · exact vm_cd_8
    · exact vm_cd_9
    · exact vm_cd_10
    · exact vm_cd_11
    · exact vm_cd_12
    · exact vm_cd_13
    · exact vm_cd_14
    · exact vm_cd_15
    · exact vm_cd_16
    · exact vm_cd_17
    · exact vm_cd_18
    · exact vm_cd_19
  by_cases h1 : k < 40
  · rcases (show k = 20 ∨ k = 21 ∨ k = 22 ∨ k = 23 ∨ k = 24 ∨ k = 25 ∨ k = 26 ∨ k = 27 ∨ k = 28 ∨ k = 29 ∨ k = 30 ∨ k = 31 ∨ k = 32 ∨ k = 33 ∨ k = 34 ∨ k = 35 ∨ k = 36 ∨ k = 37 ∨ k = 38 ∨ k = 39 by omega) with rfl | rfl | rfl | rfl | rfl | rfl | rfl | rfl | rfl | rfl | rfl | rfl | rfl | rfl | rfl | rfl | rfl | rfl | rfl | rfl
    · exact vm_cd_20
    · exact vm_cd_21
    · exact vm_cd_22
    · exact vm_cd_23
    · exact vm_cd_24
    · exact vm_cd_25
    · exact vm_cd_26
    · exact vm_cd_27
    · exact vm_cd_28
    · exact vm_cd_29
    · exact vm_cd_30
    · exact vm_cd_31
    · exact vm_cd_32
    · exact vm_cd_33
    · exact vm_cd_34
    · exact vm_cd_35
    · exact vm_cd_36
    · exact vm_cd_37
    · exact vm_cd_38
    · exact vm_cd_39
  by_cases h2 : k < 60
  · rcases (show k = 40 ∨ k = 41 ∨ k = 42 ∨ k = 43 ∨ k = 44 ∨ k = 45 ∨ k = 46 ∨ k = 47 ∨ k = 48 ∨ k = 49 ∨ k = 50 ∨ k = 51 ∨ k = 52 ∨ k = 53 ∨ k = 54 ∨ k = 55 ∨ k = 56 ∨ k = 57 ∨ k = 58 ∨ k = 59 by omega) with rfl | rfl | rfl | rfl | rfl | rfl | rfl | rfl | rfl | rfl | rfl | rfl | rfl | rfl | rfl | rfl | rfl | rfl | rfl | rfl
    · exact vm_cd_40
    · exact vm_cd_41
    · exact vm_cd_42
    · exact vm_cd_43
    · exact vm_cd_44
    · exact vm_cd_45
    · exact vm_cd_46
    · exact vm_cd_47
    · exact vm_cd_48
    · exact vm_cd_49
    · exact vm_cd_50
    · exact vm_cd_51
    · exact vm_cd_52
    · exact vm_cd_53
    · exact vm_cd_54
    · exact vm_cd_55
    · exact vm_cd_56
    · exact vm_cd_57
    · exact vm_cd_58
    · exact vm_cd_59
  by_cases h3 : k < 80
  · rcases (show k = 60 ∨ k = 61 ∨ k = 62 ∨ k = 63 ∨ k = 64 ∨ k = 65 ∨ k = 66 ∨ k = 67 ∨ k = 68 ∨ k = 69 ∨ k = 70 ∨ k = 71 ∨ k = 72 ∨ k = 73 ∨ k = 74 ∨ k = 75 ∨ k = 76 ∨ k = 77 ∨ k = 78 ∨ k = 79 by omega) with rfl | rfl | rfl | rfl | rfl | rfl | rfl | rfl | rfl | rfl | rfl | rfl | rfl | rfl | rfl | rfl | rfl | rfl | rfl | rfl
    · exact vm_cd_60
    · exact vm_cd_61
    · exact vm_cd_62
    · exact vm_cd_63
    · exact vm_cd_64
    · exact vm_cd_65
    · exact vm_cd_66
    · exact vm_cd_67
    · exact vm_cd_68
    · exact vm_cd_69
    · exact vm_cd_70
    · exact vm_cd_71
    · exact vm_cd_72
    · exact vm_cd_73
    · exact vm_cd_74
    · exact vm_cd_75
    · exact vm_cd_76
    · exact vm_cd_77
    · exact vm_cd_78
    · exact vm_cd_79
  by_cases h4 : k < 100
  · rcases (show k = 80 ∨ k = 81 ∨ k = 82 ∨ k = 83 ∨ k = 84 ∨ k = 85 ∨ k = 86 ∨ k = 87 ∨ k = 88 ∨ k = 89 ∨ k = 90 ∨ k = 91 ∨ k = 92 ∨ k = 93 ∨ k = 94 ∨ k = 95 ∨ k = 96 ∨ k = 97 ∨ k = 98 ∨ k = 99 by omega) with rfl | rfl | rfl | rfl | rfl | rfl | rfl | rfl | rfl | rfl | rfl | rfl | rfl | rfl | rfl | rfl | rfl | rfl | rfl | rfl
    · exact vm_cd_80
    · exact vm_cd_81
    · exact vm_cd_82
    · exact vm_cd_83
    · exact vm_cd_84
    · exact vm_cd_85
    · exact vm_cd_86
    · exact vm_cd_87
    · exact vm_cd_88
    · exact vm_cd_89
    · exact vm_cd_90
    · exact vm_cd_91
    · exact vm_cd_92
    · exact vm_cd_93
    · exact vm_cd_94
    · exact vm_cd_95
    · exact vm_cd_96
    · exact vm_cd_97
    · exact vm_cd_98
    · exact vm_cd_99
  by_cases h5 : k < 120
  · rcases (show k = 100 ∨ k = 101 ∨ k = 102 ∨ k = 103 ∨ k = 104 ∨ k = 105 ∨ k = 106 ∨ k = 107 ∨ k = 108 ∨ k = 109 ∨ k = 110 ∨ k = 111 ∨ k = 112 ∨ k = 113 ∨ k = 114 ∨ k = 115 ∨ k = 116 ∨ k = 117 ∨ k = 118 ∨ k = 119 by omega) with rfl | rfl | rfl | rfl | rfl | rfl | rfl | rfl | rfl | rfl | rfl | rfl | rfl | rfl | rfl | rfl | rfl | rfl | rfl | rfl
    · exact vm_cd_100
    · exact vm_cd_101
    · exact vm_cd_102
    · exact vm_cd_103
    · exact vm_cd_104
    · exact vm_cd_105
    · exact vm_cd_106
    · exact vm_cd_107
    · exact vm_cd_108
    · exact vm_cd_109
    · exact vm_cd_110
    · exact vm_cd_111
    · exact vm_cd_112
    · exact vm_cd_113
    · exact vm_cd_114
    · exact vm_cd_115
    · exact vm_cd_116
    · exact vm_cd_117
    · exact vm_cd_118
    · exact vm_cd_119
  by_cases h6 : k < 140
  · rcases (show k = 120 ∨ k = 121 ∨ k = 122 ∨ k = 123 ∨ k = 124 ∨ k = 125 ∨ k = 126 ∨ k = 127 ∨ k = 128 ∨ k = 129 ∨ k = 130 ∨ k = 131 ∨ k = 132 ∨ k = 133 ∨ k = 134 ∨ k = 135 ∨ k = 136 ∨ k = 137 ∨ k = 138 ∨ k = 139 by omega) with rfl | rfl | rfl | rfl | rfl | rfl | rfl | rfl | rfl | rfl | rfl | rfl | rfl | rfl | rfl | rfl | rfl | rfl | rfl | rfl
    · exact vm_cd_120
    · exact vm_cd_121
    · exact vm_cd_122
    · exact vm_cd_123
    · exact vm_cd_124
    · exact vm_cd_125
    · exact vm_cd_126
    · exact vm_cd_127
    · exact vm_cd_128
    · exact vm_cd_129
    · exact vm_cd_130
    · exact vm_cd_131
    · exact vm_cd_132
    · exact vm_cd_133
    · exact vm_cd_134
    · exact vm_cd_135
    · exact vm_cd_136
    · exact vm_cd_137
    · exact vm_cd_138
    · exact vm_cd_139
  by_cases h7 : k < 160
  · rcases (show k = 140 ∨ k = 141 ∨ k = 142 ∨ k = 143 ∨ k = 144 ∨ k = 145 ∨ k = 146 ∨ k = 147 ∨ k = 148 ∨ k = 149 ∨ k = 150 ∨ k = 151 ∨ k = 152 ∨ k = 153 ∨ k = 154 ∨ k = 155 ∨ k = 156 ∨ k = 157 ∨ k = 158 ∨ k = 159 by omega) with rfl | rfl | rfl | rfl | rfl | rfl | rfl | rfl | rfl | rfl | rfl | rfl | rfl | rfl | rfl | rfl | rfl | rfl | rfl | rfl
    · exact vm_cd_140
    · exact vm_cd_141
    · exact vm_cd_142
    · exact vm_cd_143
    · exact vm_cd_144
    · exact vm_cd_145
    · exact vm_cd_146
    · exact vm_cd_147
    · exact vm_cd_148
    · exact vm_cd_149
    · exact vm_cd_150
    · exact vm_cd_151
    · exact vm_cd_152
    · exact vm_cd_153
    · exact vm_cd_154
    · exact vm_cd_155
    · exact vm_cd_156
    · exact vm_cd_157
    · exact vm_cd_158
    · exact vm_cd_159
  by_cases h8 : k < 180
  · rcases (show k = 160 ∨ k = 161 ∨ k = 162 ∨ k = 163 ∨ k = 164 ∨ k = 165 ∨ k = 166 ∨ k = 167 ∨ k = 168 ∨ k = 169 ∨ k = 170 ∨ k = 171 ∨ k = 172 ∨ k = 173 ∨ k = 174 ∨ k = 175 ∨ k = 176 ∨ k = 177 ∨ k = 178 ∨ k = 179 by omega) with rfl | rfl | rfl | rfl | rfl | rfl | rfl | rfl | rfl | rfl | rfl | rfl | rfl | rfl | rfl | rfl | rfl | rfl | rfl | rfl
    · exact vm_cd_160
    · exact vm_cd_161
    · exact vm_cd_162
    · exact vm_cd_163
    · exact vm_cd_164
    · exact vm_cd_165
    · exact vm_cd_166
    · exact vm_cd_167
    · exact vm_cd_168
    · exact vm_cd_169
    · exact vm_cd_170
    · exact vm_cd_171
    · exact vm_cd_172
    · exact vm_cd_173
    · exact vm_cd_174
    · exact vm_cd_175
    · exact vm_cd_176
    · exact vm_cd_177
    · exact vm_cd_178
    · exact vm_cd_179
  omega
