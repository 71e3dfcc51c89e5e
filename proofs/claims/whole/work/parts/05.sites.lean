theorem ow_0 : mj_own 0 = 8 := by decide +kernel
theorem rt_0 : mj_rt 0 = 1 := by decide +kernel
theorem ow_1 : mj_own 1 = 8 := by decide +kernel
theorem rt_1 : mj_rt 1 = 1 := by decide +kernel
theorem ow_2 : mj_own 2 = 8 := by decide +kernel
theorem rt_2 : mj_rt 2 = 1 := by decide +kernel
theorem ow_3 : mj_own 3 = 8 := by decide +kernel
theorem rt_3 : mj_rt 3 = 1 := by decide +kernel
theorem ow_4 : mj_own 4 = 0 := by decide +kernel
theorem rt_4 : mj_rt 4 = 0 := by decide +kernel
theorem ow_5 : mj_own 5 = 0 := by decide +kernel
theorem rt_5 : mj_rt 5 = 2 := by decide +kernel
theorem ow_6 : mj_own 6 = 0 := by decide +kernel
theorem rt_6 : mj_rt 6 = 0 := by decide +kernel
theorem ow_7 : mj_own 7 = 0 := by decide +kernel
theorem rt_7 : mj_rt 7 = 0 := by decide +kernel
theorem ow_8 : mj_own 8 = 0 := by decide +kernel
theorem rt_8 : mj_rt 8 = 1 := by decide +kernel
theorem ow_9 : mj_own 9 = 0 := by decide +kernel
theorem rt_9 : mj_rt 9 = 1 := by decide +kernel
theorem ow_10 : mj_own 10 = 0 := by decide +kernel
theorem rt_10 : mj_rt 10 = 1 := by decide +kernel
theorem ow_11 : mj_own 11 = 0 := by decide +kernel
theorem rt_11 : mj_rt 11 = 0 := by decide +kernel
theorem ow_12 : mj_own 12 = 0 := by decide +kernel
theorem rt_12 : mj_rt 12 = 2 := by decide +kernel
theorem ow_13 : mj_own 13 = 0 := by decide +kernel
theorem rt_13 : mj_rt 13 = 1 := by decide +kernel
theorem ow_14 : mj_own 14 = 0 := by decide +kernel
theorem rt_14 : mj_rt 14 = 0 := by decide +kernel
theorem ow_15 : mj_own 15 = 0 := by decide +kernel
theorem rt_15 : mj_rt 15 = 0 := by decide +kernel
theorem ow_16 : mj_own 16 = 0 := by decide +kernel
theorem rt_16 : mj_rt 16 = 0 := by decide +kernel
theorem ow_17 : mj_own 17 = 0 := by decide +kernel
theorem rt_17 : mj_rt 17 = 0 := by decide +kernel
theorem ow_18 : mj_own 18 = 0 := by decide +kernel
theorem rt_18 : mj_rt 18 = 0 := by decide +kernel
theorem ow_19 : mj_own 19 = 0 := by decide +kernel
theorem rt_19 : mj_rt 19 = 1 := by decide +kernel
theorem ow_20 : mj_own 20 = 9 := by decide +kernel
theorem rt_20 : mj_rt 20 = 2 := by decide +kernel
theorem ow_21 : mj_own 21 = 9 := by decide +kernel
theorem rt_21 : mj_rt 21 = 1 := by decide +kernel
theorem ow_22 : mj_own 22 = 9 := by decide +kernel
theorem rt_22 : mj_rt 22 = 1 := by decide +kernel
theorem ow_23 : mj_own 23 = 9 := by decide +kernel
theorem rt_23 : mj_rt 23 = 1 := by decide +kernel
theorem ow_24 : mj_own 24 = 9 := by decide +kernel
theorem rt_24 : mj_rt 24 = 1 := by decide +kernel
theorem ow_25 : mj_own 25 = 9 := by decide +kernel
theorem rt_25 : mj_rt 25 = 1 := by decide +kernel
theorem ow_26 : mj_own 26 = 9 := by decide +kernel
theorem rt_26 : mj_rt 26 = 1 := by decide +kernel
theorem ow_27 : mj_own 27 = 9 := by decide +kernel
theorem rt_27 : mj_rt 27 = 1 := by decide +kernel
theorem ow_28 : mj_own 28 = 9 := by decide +kernel
theorem rt_28 : mj_rt 28 = 1 := by decide +kernel
theorem ow_29 : mj_own 29 = 9 := by decide +kernel
theorem rt_29 : mj_rt 29 = 1 := by decide +kernel
theorem ow_30 : mj_own 30 = 9 := by decide +kernel
theorem rt_30 : mj_rt 30 = 1 := by decide +kernel
theorem ow_31 : mj_own 31 = 9 := by decide +kernel
theorem rt_31 : mj_rt 31 = 1 := by decide +kernel
theorem ow_32 : mj_own 32 = 9 := by decide +kernel
theorem rt_32 : mj_rt 32 = 1 := by decide +kernel
theorem ow_33 : mj_own 33 = 9 := by decide +kernel
theorem rt_33 : mj_rt 33 = 1 := by decide +kernel
theorem ow_34 : mj_own 34 = 1 := by decide +kernel
theorem rt_34 : mj_rt 34 = 0 := by decide +kernel
theorem ow_35 : mj_own 35 = 1 := by decide +kernel
theorem rt_35 : mj_rt 35 = 0 := by decide +kernel
theorem ow_36 : mj_own 36 = 1 := by decide +kernel
theorem rt_36 : mj_rt 36 = 0 := by decide +kernel
theorem ow_37 : mj_own 37 = 1 := by decide +kernel
theorem rt_37 : mj_rt 37 = 1 := by decide +kernel
theorem ow_38 : mj_own 38 = 1 := by decide +kernel
theorem rt_38 : mj_rt 38 = 2 := by decide +kernel
theorem ow_39 : mj_own 39 = 1 := by decide +kernel
theorem rt_39 : mj_rt 39 = 1 := by decide +kernel
theorem ow_40 : mj_own 40 = 1 := by decide +kernel
theorem rt_40 : mj_rt 40 = 1 := by decide +kernel
theorem ow_41 : mj_own 41 = 1 := by decide +kernel
theorem rt_41 : mj_rt 41 = 0 := by decide +kernel
theorem ow_42 : mj_own 42 = 1 := by decide +kernel
theorem rt_42 : mj_rt 42 = 0 := by decide +kernel
theorem ow_43 : mj_own 43 = 1 := by decide +kernel
theorem rt_43 : mj_rt 43 = 1 := by decide +kernel
theorem ow_44 : mj_own 44 = 1 := by decide +kernel
theorem rt_44 : mj_rt 44 = 0 := by decide +kernel
theorem ow_45 : mj_own 45 = 1 := by decide +kernel
theorem rt_45 : mj_rt 45 = 0 := by decide +kernel
theorem ow_46 : mj_own 46 = 2 := by decide +kernel
theorem rt_46 : mj_rt 46 = 3 := by decide +kernel
theorem ow_47 : mj_own 47 = 2 := by decide +kernel
theorem rt_47 : mj_rt 47 = 1 := by decide +kernel
theorem ow_48 : mj_own 48 = 2 := by decide +kernel
theorem rt_48 : mj_rt 48 = 1 := by decide +kernel
theorem ow_49 : mj_own 49 = 2 := by decide +kernel
theorem rt_49 : mj_rt 49 = 2 := by decide +kernel
theorem ow_50 : mj_own 50 = 2 := by decide +kernel
theorem rt_50 : mj_rt 50 = 0 := by decide +kernel
theorem ow_51 : mj_own 51 = 2 := by decide +kernel
theorem rt_51 : mj_rt 51 = 0 := by decide +kernel
theorem ow_52 : mj_own 52 = 2 := by decide +kernel
theorem rt_52 : mj_rt 52 = 2 := by decide +kernel
theorem ow_53 : mj_own 53 = 2 := by decide +kernel
theorem rt_53 : mj_rt 53 = 0 := by decide +kernel
theorem ow_54 : mj_own 54 = 2 := by decide +kernel
theorem rt_54 : mj_rt 54 = 0 := by decide +kernel
theorem ow_55 : mj_own 55 = 2 := by decide +kernel
theorem rt_55 : mj_rt 55 = 0 := by decide +kernel
theorem ow_56 : mj_own 56 = 2 := by decide +kernel
theorem rt_56 : mj_rt 56 = 0 := by decide +kernel
theorem ow_57 : mj_own 57 = 2 := by decide +kernel
theorem rt_57 : mj_rt 57 = 0 := by decide +kernel
theorem ow_58 : mj_own 58 = 2 := by decide +kernel
theorem rt_58 : mj_rt 58 = 0 := by decide +kernel
theorem ow_59 : mj_own 59 = 2 := by decide +kernel
theorem rt_59 : mj_rt 59 = 0 := by decide +kernel
theorem ow_60 : mj_own 60 = 2 := by decide +kernel
theorem rt_60 : mj_rt 60 = 0 := by decide +kernel
theorem ow_61 : mj_own 61 = 2 := by decide +kernel
theorem rt_61 : mj_rt 61 = 2 := by decide +kernel
theorem ow_62 : mj_own 62 = 3 := by decide +kernel
theorem rt_62 : mj_rt 62 = 2 := by decide +kernel
theorem ow_63 : mj_own 63 = 3 := by decide +kernel
theorem rt_63 : mj_rt 63 = 0 := by decide +kernel
theorem ow_64 : mj_own 64 = 3 := by decide +kernel
theorem rt_64 : mj_rt 64 = 1 := by decide +kernel
theorem ow_65 : mj_own 65 = 3 := by decide +kernel
theorem rt_65 : mj_rt 65 = 1 := by decide +kernel
theorem ow_66 : mj_own 66 = 3 := by decide +kernel
theorem rt_66 : mj_rt 66 = 1 := by decide +kernel
theorem ow_67 : mj_own 67 = 4 := by decide +kernel
theorem rt_67 : mj_rt 67 = 1 := by decide +kernel
theorem ow_68 : mj_own 68 = 4 := by decide +kernel
theorem rt_68 : mj_rt 68 = 1 := by decide +kernel
theorem ow_69 : mj_own 69 = 4 := by decide +kernel
theorem rt_69 : mj_rt 69 = 1 := by decide +kernel
theorem ow_70 : mj_own 70 = 4 := by decide +kernel
theorem rt_70 : mj_rt 70 = 1 := by decide +kernel
theorem ow_71 : mj_own 71 = 4 := by decide +kernel
theorem rt_71 : mj_rt 71 = 1 := by decide +kernel
theorem ow_72 : mj_own 72 = 4 := by decide +kernel
theorem rt_72 : mj_rt 72 = 1 := by decide +kernel
theorem ow_73 : mj_own 73 = 5 := by decide +kernel
theorem rt_73 : mj_rt 73 = 2 := by decide +kernel
theorem ow_74 : mj_own 74 = 5 := by decide +kernel
theorem rt_74 : mj_rt 74 = 0 := by decide +kernel
theorem ow_75 : mj_own 75 = 5 := by decide +kernel
theorem rt_75 : mj_rt 75 = 2 := by decide +kernel
theorem ow_76 : mj_own 76 = 5 := by decide +kernel
theorem rt_76 : mj_rt 76 = 1 := by decide +kernel
theorem ow_77 : mj_own 77 = 5 := by decide +kernel
theorem rt_77 : mj_rt 77 = 1 := by decide +kernel
theorem ow_78 : mj_own 78 = 6 := by decide +kernel
theorem rt_78 : mj_rt 78 = 2 := by decide +kernel
theorem ow_79 : mj_own 79 = 6 := by decide +kernel
theorem rt_79 : mj_rt 79 = 2 := by decide +kernel
theorem ow_80 : mj_own 80 = 6 := by decide +kernel
theorem rt_80 : mj_rt 80 = 2 := by decide +kernel
theorem ow_81 : mj_own 81 = 6 := by decide +kernel
theorem rt_81 : mj_rt 81 = 1 := by decide +kernel
theorem ow_82 : mj_own 82 = 6 := by decide +kernel
theorem rt_82 : mj_rt 82 = 1 := by decide +kernel
theorem ow_83 : mj_own 83 = 6 := by decide +kernel
theorem rt_83 : mj_rt 83 = 1 := by decide +kernel
theorem ow_84 : mj_own 84 = 6 := by decide +kernel
theorem rt_84 : mj_rt 84 = 1 := by decide +kernel
theorem ow_85 : mj_own 85 = 6 := by decide +kernel
theorem rt_85 : mj_rt 85 = 1 := by decide +kernel
theorem ow_86 : mj_own 86 = 6 := by decide +kernel
theorem rt_86 : mj_rt 86 = 1 := by decide +kernel
theorem ow_87 : mj_own 87 = 6 := by decide +kernel
theorem rt_87 : mj_rt 87 = 2 := by decide +kernel
theorem ow_88 : mj_own 88 = 6 := by decide +kernel
theorem rt_88 : mj_rt 88 = 1 := by decide +kernel
theorem ow_89 : mj_own 89 = 6 := by decide +kernel
theorem rt_89 : mj_rt 89 = 1 := by decide +kernel
theorem ow_90 : mj_own 90 = 6 := by decide +kernel
theorem rt_90 : mj_rt 90 = 1 := by decide +kernel
theorem ow_91 : mj_own 91 = 6 := by decide +kernel
theorem rt_91 : mj_rt 91 = 1 := by decide +kernel
theorem ow_92 : mj_own 92 = 6 := by decide +kernel
theorem rt_92 : mj_rt 92 = 1 := by decide +kernel
theorem ow_93 : mj_own 93 = 6 := by decide +kernel
theorem rt_93 : mj_rt 93 = 1 := by decide +kernel
theorem ow_94 : mj_own 94 = 6 := by decide +kernel
theorem rt_94 : mj_rt 94 = 1 := by decide +kernel
theorem ow_95 : mj_own 95 = 6 := by decide +kernel
theorem rt_95 : mj_rt 95 = 1 := by decide +kernel
theorem ow_96 : mj_own 96 = 6 := by decide +kernel
theorem rt_96 : mj_rt 96 = 1 := by decide +kernel
theorem ow_97 : mj_own 97 = 6 := by decide +kernel
theorem rt_97 : mj_rt 97 = 1 := by decide +kernel
theorem ow_98 : mj_own 98 = 6 := by decide +kernel
theorem rt_98 : mj_rt 98 = 1 := by decide +kernel
theorem ow_99 : mj_own 99 = 6 := by decide +kernel
theorem rt_99 : mj_rt 99 = 1 := by decide +kernel
theorem ow_100 : mj_own 100 = 6 := by decide +kernel
theorem rt_100 : mj_rt 100 = 1 := by decide +kernel
theorem ow_101 : mj_own 101 = 6 := by decide +kernel
theorem rt_101 : mj_rt 101 = 1 := by decide +kernel
theorem ow_102 : mj_own 102 = 6 := by decide +kernel
theorem rt_102 : mj_rt 102 = 1 := by decide +kernel
theorem ow_103 : mj_own 103 = 6 := by decide +kernel
theorem rt_103 : mj_rt 103 = 1 := by decide +kernel
theorem ow_104 : mj_own 104 = 6 := by decide +kernel
theorem rt_104 : mj_rt 104 = 1 := by decide +kernel
theorem ow_105 : mj_own 105 = 6 := by decide +kernel
theorem rt_105 : mj_rt 105 = 1 := by decide +kernel
theorem ow_106 : mj_own 106 = 6 := by decide +kernel
theorem rt_106 : mj_rt 106 = 1 := by decide +kernel
theorem ow_107 : mj_own 107 = 6 := by decide +kernel
theorem rt_107 : mj_rt 107 = 1 := by decide +kernel
theorem ow_108 : mj_own 108 = 6 := by decide +kernel
theorem rt_108 : mj_rt 108 = 1 := by decide +kernel
theorem ow_109 : mj_own 109 = 6 := by decide +kernel
theorem rt_109 : mj_rt 109 = 0 := by decide +kernel
theorem ow_110 : mj_own 110 = 6 := by decide +kernel
theorem rt_110 : mj_rt 110 = 1 := by decide +kernel
theorem ow_111 : mj_own 111 = 6 := by decide +kernel
theorem rt_111 : mj_rt 111 = 1 := by decide +kernel
theorem ow_112 : mj_own 112 = 6 := by decide +kernel
theorem rt_112 : mj_rt 112 = 1 := by decide +kernel
theorem ow_113 : mj_own 113 = 6 := by decide +kernel
theorem rt_113 : mj_rt 113 = 1 := by decide +kernel
theorem ow_114 : mj_own 114 = 6 := by decide +kernel
theorem rt_114 : mj_rt 114 = 1 := by decide +kernel
theorem ow_115 : mj_own 115 = 6 := by decide +kernel
theorem rt_115 : mj_rt 115 = 1 := by decide +kernel
theorem ow_116 : mj_own 116 = 6 := by decide +kernel
theorem rt_116 : mj_rt 116 = 1 := by decide +kernel
theorem ow_117 : mj_own 117 = 6 := by decide +kernel
theorem rt_117 : mj_rt 117 = 1 := by decide +kernel
theorem ow_118 : mj_own 118 = 6 := by decide +kernel
theorem rt_118 : mj_rt 118 = 2 := by decide +kernel
theorem ow_119 : mj_own 119 = 6 := by decide +kernel
theorem rt_119 : mj_rt 119 = 1 := by decide +kernel
theorem ow_120 : mj_own 120 = 6 := by decide +kernel
theorem rt_120 : mj_rt 120 = 2 := by decide +kernel
theorem ow_121 : mj_own 121 = 6 := by decide +kernel
theorem rt_121 : mj_rt 121 = 1 := by decide +kernel
theorem ow_122 : mj_own 122 = 6 := by decide +kernel
theorem rt_122 : mj_rt 122 = 1 := by decide +kernel
theorem ow_123 : mj_own 123 = 6 := by decide +kernel
theorem rt_123 : mj_rt 123 = 1 := by decide +kernel
theorem ow_124 : mj_own 124 = 7 := by decide +kernel
theorem rt_124 : mj_rt 124 = 2 := by decide +kernel
theorem ow_125 : mj_own 125 = 7 := by decide +kernel
theorem rt_125 : mj_rt 125 = 1 := by decide +kernel
theorem ow_126 : mj_own 126 = 7 := by decide +kernel
theorem rt_126 : mj_rt 126 = 1 := by decide +kernel
theorem ow_127 : mj_own 127 = 7 := by decide +kernel
theorem rt_127 : mj_rt 127 = 2 := by decide +kernel
theorem ow_128 : mj_own 128 = 7 := by decide +kernel
theorem rt_128 : mj_rt 128 = 1 := by decide +kernel
theorem ow_129 : mj_own 129 = 7 := by decide +kernel
theorem rt_129 : mj_rt 129 = 0 := by decide +kernel
theorem ow_130 : mj_own 130 = 7 := by decide +kernel
theorem rt_130 : mj_rt 130 = 2 := by decide +kernel
theorem ow_131 : mj_own 131 = 7 := by decide +kernel
theorem rt_131 : mj_rt 131 = 2 := by decide +kernel
theorem ow_132 : mj_own 132 = 7 := by decide +kernel
theorem rt_132 : mj_rt 132 = 2 := by decide +kernel
theorem ow_133 : mj_own 133 = 7 := by decide +kernel
theorem rt_133 : mj_rt 133 = 1 := by decide +kernel
theorem ow_134 : mj_own 134 = 7 := by decide +kernel
theorem rt_134 : mj_rt 134 = 1 := by decide +kernel
theorem ow_135 : mj_own 135 = 7 := by decide +kernel
theorem rt_135 : mj_rt 135 = 1 := by decide +kernel
theorem ow_136 : mj_own 136 = 7 := by decide +kernel
theorem rt_136 : mj_rt 136 = 1 := by decide +kernel
theorem ow_137 : mj_own 137 = 7 := by decide +kernel
theorem rt_137 : mj_rt 137 = 1 := by decide +kernel
theorem ow_138 : mj_own 138 = 7 := by decide +kernel
theorem rt_138 : mj_rt 138 = 2 := by decide +kernel
theorem ow_139 : mj_own 139 = 7 := by decide +kernel
theorem rt_139 : mj_rt 139 = 1 := by decide +kernel
theorem ow_140 : mj_own 140 = 7 := by decide +kernel
theorem rt_140 : mj_rt 140 = 1 := by decide +kernel
theorem ow_141 : mj_own 141 = 7 := by decide +kernel
theorem rt_141 : mj_rt 141 = 2 := by decide +kernel
theorem ow_142 : mj_own 142 = 7 := by decide +kernel
theorem rt_142 : mj_rt 142 = 2 := by decide +kernel
theorem ow_143 : mj_own 143 = 7 := by decide +kernel
theorem rt_143 : mj_rt 143 = 2 := by decide +kernel
theorem ow_144 : mj_own 144 = 7 := by decide +kernel
theorem rt_144 : mj_rt 144 = 0 := by decide +kernel
theorem ow_145 : mj_own 145 = 7 := by decide +kernel
theorem rt_145 : mj_rt 145 = 1 := by decide +kernel
theorem ow_146 : mj_own 146 = 7 := by decide +kernel
theorem rt_146 : mj_rt 146 = 1 := by decide +kernel
theorem ow_147 : mj_own 147 = 7 := by decide +kernel
theorem rt_147 : mj_rt 147 = 1 := by decide +kernel
theorem ow_148 : mj_own 148 = 7 := by decide +kernel
theorem rt_148 : mj_rt 148 = 2 := by decide +kernel
theorem ow_149 : mj_own 149 = 7 := by decide +kernel
theorem rt_149 : mj_rt 149 = 2 := by decide +kernel
theorem ow_150 : mj_own 150 = 7 := by decide +kernel
theorem rt_150 : mj_rt 150 = 2 := by decide +kernel
theorem ow_151 : mj_own 151 = 7 := by decide +kernel
theorem rt_151 : mj_rt 151 = 2 := by decide +kernel
theorem ow_152 : mj_own 152 = 7 := by decide +kernel
theorem rt_152 : mj_rt 152 = 0 := by decide +kernel
theorem ow_153 : mj_own 153 = 7 := by decide +kernel
theorem rt_153 : mj_rt 153 = 2 := by decide +kernel
theorem ow_154 : mj_own 154 = 7 := by decide +kernel
theorem rt_154 : mj_rt 154 = 1 := by decide +kernel
theorem ow_155 : mj_own 155 = 7 := by decide +kernel
theorem rt_155 : mj_rt 155 = 1 := by decide +kernel
theorem ow_156 : mj_own 156 = 7 := by decide +kernel
theorem rt_156 : mj_rt 156 = 1 := by decide +kernel
theorem ow_157 : mj_own 157 = 7 := by decide +kernel
theorem rt_157 : mj_rt 157 = 0 := by decide +kernel
theorem ow_158 : mj_own 158 = 7 := by decide +kernel
theorem rt_158 : mj_rt 158 = 2 := by decide +kernel
theorem ow_159 : mj_own 159 = 7 := by decide +kernel
theorem rt_159 : mj_rt 159 = 2 := by decide +kernel
theorem ow_160 : mj_own 160 = 7 := by decide +kernel
theorem rt_160 : mj_rt 160 = 2 := by decide +kernel
theorem ow_161 : mj_own 161 = 7 := by decide +kernel
theorem rt_161 : mj_rt 161 = 0 := by decide +kernel
theorem ow_162 : mj_own 162 = 7 := by decide +kernel
theorem rt_162 : mj_rt 162 = 0 := by decide +kernel
theorem ow_163 : mj_own 163 = 7 := by decide +kernel
theorem rt_163 : mj_rt 163 = 0 := by decide +kernel
theorem ow_164 : mj_own 164 = 7 := by decide +kernel
theorem rt_164 : mj_rt 164 = 2 := by decide +kernel
theorem ow_165 : mj_own 165 = 7 := by decide +kernel
theorem rt_165 : mj_rt 165 = 2 := by decide +kernel
theorem ow_166 : mj_own 166 = 7 := by decide +kernel
theorem rt_166 : mj_rt 166 = 2 := by decide +kernel
theorem ow_167 : mj_own 167 = 7 := by decide +kernel
theorem rt_167 : mj_rt 167 = 0 := by decide +kernel
theorem ow_168 : mj_own 168 = 7 := by decide +kernel
theorem rt_168 : mj_rt 168 = 1 := by decide +kernel
theorem ow_169 : mj_own 169 = 7 := by decide +kernel
theorem rt_169 : mj_rt 169 = 1 := by decide +kernel
theorem ow_170 : mj_own 170 = 7 := by decide +kernel
theorem rt_170 : mj_rt 170 = 1 := by decide +kernel
theorem ow_171 : mj_own 171 = 7 := by decide +kernel
theorem rt_171 : mj_rt 171 = 1 := by decide +kernel
theorem ow_172 : mj_own 172 = 7 := by decide +kernel
theorem rt_172 : mj_rt 172 = 2 := by decide +kernel
theorem ow_173 : mj_own 173 = 7 := by decide +kernel
theorem rt_173 : mj_rt 173 = 1 := by decide +kernel
theorem ow_174 : mj_own 174 = 7 := by decide +kernel
theorem rt_174 : mj_rt 174 = 2 := by decide +kernel
theorem ow_175 : mj_own 175 = 7 := by decide +kernel
theorem rt_175 : mj_rt 175 = 2 := by decide +kernel
theorem ow_176 : mj_own 176 = 7 := by decide +kernel
theorem rt_176 : mj_rt 176 = 1 := by decide +kernel
theorem ow_177 : mj_own 177 = 7 := by decide +kernel
theorem rt_177 : mj_rt 177 = 1 := by decide +kernel
theorem ow_178 : mj_own 178 = 7 := by decide +kernel
theorem rt_178 : mj_rt 178 = 1 := by decide +kernel
theorem ow_179 : mj_own 179 = 7 := by decide +kernel
theorem rt_179 : mj_rt 179 = 1 := by decide +kernel
theorem ow_180 : mj_own 180 = 7 := by decide +kernel
theorem rt_180 : mj_rt 180 = 1 := by decide +kernel
theorem ow_181 : mj_own 181 = 7 := by decide +kernel
theorem rt_181 : mj_rt 181 = 1 := by decide +kernel
theorem ow_182 : mj_own 182 = 7 := by decide +kernel
theorem rt_182 : mj_rt 182 = 2 := by decide +kernel
theorem ow_183 : mj_own 183 = 7 := by decide +kernel
theorem rt_183 : mj_rt 183 = 2 := by decide +kernel
theorem ow_184 : mj_own 184 = 7 := by decide +kernel
theorem rt_184 : mj_rt 184 = 1 := by decide +kernel
theorem ow_185 : mj_own 185 = 7 := by decide +kernel
theorem rt_185 : mj_rt 185 = 1 := by decide +kernel
theorem ow_186 : mj_own 186 = 7 := by decide +kernel
theorem rt_186 : mj_rt 186 = 0 := by decide +kernel
theorem ow_187 : mj_own 187 = 7 := by decide +kernel
theorem rt_187 : mj_rt 187 = 0 := by decide +kernel
theorem ow_188 : mj_own 188 = 7 := by decide +kernel
theorem rt_188 : mj_rt 188 = 0 := by decide +kernel
theorem ow_189 : mj_own 189 = 7 := by decide +kernel
theorem rt_189 : mj_rt 189 = 0 := by decide +kernel
theorem ow_190 : mj_own 190 = 7 := by decide +kernel
theorem rt_190 : mj_rt 190 = 1 := by decide +kernel
theorem ow_191 : mj_own 191 = 7 := by decide +kernel
theorem rt_191 : mj_rt 191 = 1 := by decide +kernel
theorem ow_192 : mj_own 192 = 7 := by decide +kernel
theorem rt_192 : mj_rt 192 = 1 := by decide +kernel
theorem ow_193 : mj_own 193 = 7 := by decide +kernel
theorem rt_193 : mj_rt 193 = 1 := by decide +kernel
theorem ow_194 : mj_own 194 = 7 := by decide +kernel
theorem rt_194 : mj_rt 194 = 1 := by decide +kernel
theorem ow_195 : mj_own 195 = 7 := by decide +kernel
theorem rt_195 : mj_rt 195 = 1 := by decide +kernel
theorem ow_196 : mj_own 196 = 7 := by decide +kernel
theorem rt_196 : mj_rt 196 = 1 := by decide +kernel
theorem ow_197 : mj_own 197 = 7 := by decide +kernel
theorem rt_197 : mj_rt 197 = 1 := by decide +kernel
theorem ow_198 : mj_own 198 = 7 := by decide +kernel
theorem rt_198 : mj_rt 198 = 1 := by decide +kernel
theorem ow_199 : mj_own 199 = 7 := by decide +kernel
theorem rt_199 : mj_rt 199 = 1 := by decide +kernel
theorem ow_200 : mj_own 200 = 7 := by decide +kernel
theorem rt_200 : mj_rt 200 = 0 := by decide +kernel
theorem ow_201 : mj_own 201 = 7 := by decide +kernel
theorem rt_201 : mj_rt 201 = 1 := by decide +kernel
theorem ow_202 : mj_own 202 = 7 := by decide +kernel
theorem rt_202 : mj_rt 202 = 2 := by decide +kernel
theorem ow_203 : mj_own 203 = 7 := by decide +kernel
theorem rt_203 : mj_rt 203 = 1 := by decide +kernel
theorem ow_204 : mj_own 204 = 7 := by decide +kernel
theorem rt_204 : mj_rt 204 = 1 := by decide +kernel
theorem ow_205 : mj_own 205 = 7 := by decide +kernel
theorem rt_205 : mj_rt 205 = 1 := by decide +kernel
theorem ow_206 : mj_own 206 = 7 := by decide +kernel
theorem rt_206 : mj_rt 206 = 1 := by decide +kernel
theorem ow_207 : mj_own 207 = 7 := by decide +kernel
theorem rt_207 : mj_rt 207 = 1 := by decide +kernel
theorem ow_208 : mj_own 208 = 7 := by decide +kernel
theorem rt_208 : mj_rt 208 = 1 := by decide +kernel
theorem ow_209 : mj_own 209 = 7 := by decide +kernel
theorem rt_209 : mj_rt 209 = 1 := by decide +kernel
theorem ow_210 : mj_own 210 = 7 := by decide +kernel
theorem rt_210 : mj_rt 210 = 1 := by decide +kernel
theorem ow_211 : mj_own 211 = 7 := by decide +kernel
theorem rt_211 : mj_rt 211 = 1 := by decide +kernel
theorem ow_212 : mj_own 212 = 7 := by decide +kernel
theorem rt_212 : mj_rt 212 = 2 := by decide +kernel
theorem ow_213 : mj_own 213 = 7 := by decide +kernel
theorem rt_213 : mj_rt 213 = 2 := by decide +kernel
theorem ow_214 : mj_own 214 = 7 := by decide +kernel
theorem rt_214 : mj_rt 214 = 1 := by decide +kernel
theorem ow_215 : mj_own 215 = 7 := by decide +kernel
theorem rt_215 : mj_rt 215 = 1 := by decide +kernel
theorem ow_216 : mj_own 216 = 7 := by decide +kernel
theorem rt_216 : mj_rt 216 = 2 := by decide +kernel
theorem ow_217 : mj_own 217 = 7 := by decide +kernel
theorem rt_217 : mj_rt 217 = 1 := by decide +kernel
theorem ow_218 : mj_own 218 = 7 := by decide +kernel
theorem rt_218 : mj_rt 218 = 1 := by decide +kernel
theorem ow_219 : mj_own 219 = 7 := by decide +kernel
theorem rt_219 : mj_rt 219 = 1 := by decide +kernel
theorem ow_220 : mj_own 220 = 7 := by decide +kernel
theorem rt_220 : mj_rt 220 = 1 := by decide +kernel
theorem ow_221 : mj_own 221 = 7 := by decide +kernel
theorem rt_221 : mj_rt 221 = 1 := by decide +kernel
theorem ow_222 : mj_own 222 = 7 := by decide +kernel
theorem rt_222 : mj_rt 222 = 1 := by decide +kernel
theorem ow_223 : mj_own 223 = 7 := by decide +kernel
theorem rt_223 : mj_rt 223 = 1 := by decide +kernel
theorem ow_224 : mj_own 224 = 7 := by decide +kernel
theorem rt_224 : mj_rt 224 = 2 := by decide +kernel
theorem ow_225 : mj_own 225 = 7 := by decide +kernel
theorem rt_225 : mj_rt 225 = 1 := by decide +kernel
theorem ow_226 : mj_own 226 = 7 := by decide +kernel
theorem rt_226 : mj_rt 226 = 2 := by decide +kernel
theorem ow_227 : mj_own 227 = 7 := by decide +kernel
theorem rt_227 : mj_rt 227 = 1 := by decide +kernel
theorem ow_228 : mj_own 228 = 7 := by decide +kernel
theorem rt_228 : mj_rt 228 = 1 := by decide +kernel
theorem ow_229 : mj_own 229 = 11 := by decide +kernel
theorem rt_229 : mj_rt 229 = 1 := by decide +kernel
theorem ow_230 : mj_own 230 = 13 := by decide +kernel
theorem rt_230 : mj_rt 230 = 0 := by decide +kernel
theorem ow_231 : mj_own 231 = 13 := by decide +kernel
theorem rt_231 : mj_rt 231 = 0 := by decide +kernel
theorem ow_232 : mj_own 232 = 10 := by decide +kernel
theorem rt_232 : mj_rt 232 = 2 := by decide +kernel
theorem ow_233 : mj_own 233 = 14 := by decide +kernel
theorem rt_233 : mj_rt 233 = 1 := by decide +kernel
theorem ow_234 : mj_own 234 = 14 := by decide +kernel
theorem rt_234 : mj_rt 234 = 1 := by decide +kernel
theorem ow_235 : mj_own 235 = 14 := by decide +kernel
theorem rt_235 : mj_rt 235 = 1 := by decide +kernel
theorem ow_236 : mj_own 236 = 14 := by decide +kernel
theorem rt_236 : mj_rt 236 = 4 := by decide +kernel
theorem ow_237 : mj_own 237 = 14 := by decide +kernel
theorem rt_237 : mj_rt 237 = 2 := by decide +kernel
theorem ow_238 : mj_own 238 = 15 := by decide +kernel
theorem rt_238 : mj_rt 238 = 2 := by decide +kernel
theorem ow_239 : mj_own 239 = 15 := by decide +kernel
theorem rt_239 : mj_rt 239 = 1 := by decide +kernel
theorem ow_240 : mj_own 240 = 15 := by decide +kernel
theorem rt_240 : mj_rt 240 = 1 := by decide +kernel
theorem cx_10_13 : mj_cs 10 13 = some (0, 78, 2, 6, 1) := by decide +kernel
theorem cx_6_72 : mj_cs 6 72 = some (1, 20, 1, 100, 1) := by decide +kernel
theorem cx_6_78 : mj_cs 6 78 = some (0, 63, 2, 3, 0) := by decide +kernel
theorem cx_10_18 : mj_cs 10 18 = some (0, 79, 3, 6, 1) := by decide +kernel
theorem cx_6_82 : mj_cs 6 82 = some (0, 6, 3, 0, 0) := by decide +kernel
theorem cx_0_53 : mj_cs 0 53 = some (1, 231, 4, 100, 0) := by decide +kernel
theorem cx_13_13 : mj_cs 13 13 = some (1, 230, 3, 100, 0) := by decide +kernel
theorem cx_10_23 : mj_cs 10 23 = some (0, 80, 3, 6, 1) := by decide +kernel
theorem cx_6_85 : mj_cs 6 85 = some (0, 5, 1, 0, 1) := by decide +kernel
theorem cx_6_88 : mj_cs 6 88 = some (0, 62, 1, 3, 1) := by decide +kernel
theorem cx_6_89 : mj_cs 6 89 = some (0, 7, 3, 0, 0) := by decide +kernel
theorem cx_10_27 : mj_cs 10 27 = some (0, 81, 5, 6, 1) := by decide +kernel
theorem cx_6_92 : mj_cs 6 92 = some (0, 73, 0, 5, 1) := by decide +kernel
theorem cx_6_96 : mj_cs 6 96 = some (0, 74, 1, 5, 0) := by decide +kernel
theorem cx_10_32 : mj_cs 10 32 = some (0, 82, 1, 6, 1) := by decide +kernel
theorem cx_6_104 : mj_cs 6 104 = some (0, 75, 3, 5, 1) := by decide +kernel
theorem cx_6_107 : mj_cs 6 107 = some (0, 47, 1, 2, 1) := by decide +kernel
theorem cx_2_32 : mj_cs 2 32 = some (0, 41, 0, 1, 0) := by decide +kernel
theorem cx_2_35 : mj_cs 2 35 = some (0, 53, 0, 2, 0) := by decide +kernel
theorem cx_2_51 : mj_cs 2 51 = some (0, 48, 0, 2, 1) := by decide +kernel
theorem cx_2_45 : mj_cs 2 45 = some (0, 76, 1, 5, 1) := by decide +kernel
theorem cx_2_59 : mj_cs 2 59 = some (0, 50, 1, 2, 0) := by decide +kernel
theorem cx_2_55 : mj_cs 2 55 = some (2, 123, 2, 100, 1) := by decide +kernel
theorem cx_2_65 : mj_cs 2 65 = some (0, 57, 1, 2, 0) := by decide +kernel
theorem cx_2_98 : mj_cs 2 98 = some (0, 58, 1, 2, 0) := by decide +kernel
theorem cx_2_101 : mj_cs 2 101 = some (0, 59, 1, 2, 0) := by decide +kernel
theorem cx_2_106 : mj_cs 2 106 = some (0, 234, 1, 14, 1) := by decide +kernel
theorem cx_14_633 : mj_cs 14 633 = some (0, 235, 2, 14, 1) := by decide +kernel
theorem cx_14_492 : mj_cs 14 492 = some (0, 237, 0, 14, 1) := by decide +kernel
theorem cx_14_505 : mj_cs 14 505 = some (0, 233, 0, 14, 1) := by decide +kernel
theorem cx_14_335 : mj_cs 14 335 = some (0, 236, 0, 14, 1) := by decide +kernel
theorem cx_14_637 : mj_cs 14 637 = some (1, 239, 4, 100, 1) := by decide +kernel
theorem cx_15_88 : mj_cs 15 88 = some (1, 238, 1, 100, 1) := by decide +kernel
theorem cx5_15_92 : mj_cT 15 92 = some (5, 0) := by decide +kernel
theorem cx6_15_38 : mj_cT 15 38 = some (6, 0) := by decide +kernel
theorem cx_15_95 : mj_cs 15 95 = some (1, 240, 4, 100, 1) := by decide +kernel
theorem cx_2_94 : mj_cs 2 94 = some (0, 52, 1, 2, 1) := by decide +kernel
theorem cx_2_41 : mj_cs 2 41 = some (0, 51, 1, 2, 0) := by decide +kernel
theorem cx_2_111 : mj_cs 2 111 = some (1, 61, 1, 100, 1) := by decide +kernel
theorem cx_2_114 : mj_cs 2 114 = some (0, 60, 0, 2, 0) := by decide +kernel
theorem cx_2_68 : mj_cs 2 68 = some (0, 42, 1, 1, 0) := by decide +kernel
theorem cx_2_81 : mj_cs 2 81 = some (0, 49, 2, 2, 1) := by decide +kernel
theorem cx_2_71 : mj_cs 2 71 = some (0, 54, 1, 2, 0) := by decide +kernel
theorem cx_2_78 : mj_cs 2 78 = some (0, 55, 1, 2, 0) := by decide +kernel
theorem cx_2_91 : mj_cs 2 91 = some (0, 56, 1, 2, 0) := by decide +kernel
theorem cx_2_85 : mj_cs 2 85 = some (0, 43, 1, 1, 1) := by decide +kernel
theorem cx_1_54 : mj_cs 1 54 = some (0, 42, 1, 1, 0) := by decide +kernel
theorem cx_2_88 : mj_cs 2 88 = some (0, 44, 1, 1, 0) := by decide +kernel
theorem cx_2_74 : mj_cs 2 74 = some (0, 45, 3, 1, 0) := by decide +kernel
theorem cx_6_111 : mj_cs 6 111 = some (0, 46, 1, 2, 2) := by decide +kernel
theorem cx_10_37 : mj_cs 10 37 = some (0, 83, 1, 6, 1) := by decide +kernel
theorem cx_6_115 : mj_cs 6 115 = some (0, 67, 2, 4, 1) := by decide +kernel
theorem cx_4_31 : mj_cs 4 31 = some (0, 76, 1, 5, 1) := by decide +kernel
theorem cx_4_37 : mj_cs 4 37 = some (1, 72, 3, 100, 1) := by decide +kernel
theorem cx_4_41 : mj_cs 4 41 = some (0, 68, 1, 4, 1) := by decide +kernel
theorem cx_4_52 : mj_cs 4 52 = some (2, 123, 2, 100, 1) := by decide +kernel
theorem cx_4_44 : mj_cs 4 44 = some (0, 69, 2, 4, 1) := by decide +kernel
theorem cx_4_64 : mj_cs 4 64 = some (0, 71, 3, 4, 1) := by decide +kernel
theorem cx_4_48 : mj_cs 4 48 = some (0, 70, 3, 4, 1) := by decide +kernel
theorem cx3_4_55 : mj_cT 4 55 = some (3, 0) := by decide +kernel
theorem cx_10_41 : mj_cs 10 41 = some (0, 84, 1, 6, 1) := by decide +kernel
theorem cx_6_119 : mj_cs 6 119 = some (0, 4, 1, 0, 0) := by decide +kernel
theorem cx3_0_41 : mj_cT 0 41 = some (3, 0) := by decide +kernel
theorem cx_6_123 : mj_cs 6 123 = some (1, 0, 3, 100, 1) := by decide +kernel
theorem cx_8_11 : mj_cs 8 11 = some (1, 1, 5, 100, 1) := by decide +kernel
theorem cx_8_15 : mj_cs 8 15 = some (0, 76, 1, 5, 1) := by decide +kernel
theorem cx_8_25 : mj_cs 8 25 = some (2, 123, 2, 100, 1) := by decide +kernel
theorem cx_8_42 : mj_cs 8 42 = some (0, 5, 1, 0, 1) := by decide +kernel
theorem cx_8_50 : mj_cs 8 50 = some (0, 62, 1, 3, 1) := by decide +kernel
theorem cx_8_21 : mj_cs 8 21 = some (1, 2, 3, 100, 1) := by decide +kernel
theorem cx_8_29 : mj_cs 8 29 = some (0, 8, 2, 0, 1) := by decide +kernel
theorem cx_8_34 : mj_cs 8 34 = some (1, 3, 4, 100, 1) := by decide +kernel
theorem cx_8_56 : mj_cs 8 56 = some (1, 22, 1, 100, 1) := by decide +kernel
theorem cx_8_59 : mj_cs 8 59 = some (1, 23, 1, 100, 1) := by decide +kernel
theorem cx_8_62 : mj_cs 8 62 = some (1, 26, 1, 100, 1) := by decide +kernel
theorem cx_8_38 : mj_cs 8 38 = some (0, 7, 3, 0, 0) := by decide +kernel
theorem cx_10_45 : mj_cs 10 45 = some (0, 85, 1, 6, 1) := by decide +kernel
theorem cx_6_129 : mj_cs 6 129 = some (0, 14, 2, 0, 0) := by decide +kernel
theorem cx_0_100 : mj_cs 0 100 = some (0, 15, 1, 0, 0) := by decide +kernel
theorem cx_0_88 : mj_cs 0 88 = some (0, 11, 0, 0, 0) := by decide +kernel
theorem cx_0_80 : mj_cs 0 80 = some (0, 9, 1, 0, 1) := by decide +kernel
theorem cx_0_61 : mj_cs 0 61 = some (1, 229, 1, 100, 1) := by decide +kernel
theorem cx_0_83 : mj_cs 0 83 = some (0, 5, 1, 0, 1) := by decide +kernel
theorem cx_0_84 : mj_cs 0 84 = some (0, 12, 2, 0, 1) := by decide +kernel
theorem cx_0_104 : mj_cs 0 104 = some (0, 16, 2, 0, 0) := by decide +kernel
theorem cx_0_113 : mj_cs 0 113 = some (0, 34, 4, 1, 0) := by decide +kernel
theorem cx_0_119 : mj_cs 0 119 = some (0, 35, 2, 1, 0) := by decide +kernel
theorem cx_0_123 : mj_cs 0 123 = some (0, 36, 3, 1, 0) := by decide +kernel
theorem cx_0_127 : mj_cs 0 127 = some (0, 37, 2, 1, 1) := by decide +kernel
theorem cx_1_34 : mj_cs 1 34 = some (0, 39, 1, 1, 1) := by decide +kernel
theorem cx_1_50 : mj_cs 1 50 = some (1, 40, 3, 100, 1) := by decide +kernel
theorem cx6_1_38 : mj_cT 1 38 = some (6, 0) := by decide +kernel
theorem cx5_1_44 : mj_cT 1 44 = some (5, 0) := by decide +kernel
theorem cx6_0_108 : mj_cT 0 108 = some (6, 0) := by decide +kernel
theorem cx_0_67 : mj_cs 0 67 = some (0, 62, 1, 3, 1) := by decide +kernel
theorem cx_0_130 : mj_cs 0 130 = some (0, 17, 3, 0, 0) := by decide +kernel
theorem cx_0_71 : mj_cs 0 71 = some (0, 8, 2, 0, 1) := by decide +kernel
theorem cx_0_134 : mj_cs 0 134 = some (0, 38, 0, 1, 1) := by decide +kernel
theorem cx_0_138 : mj_cs 0 138 = some (0, 19, 0, 0, 1) := by decide +kernel
theorem cx_0_142 : mj_cs 0 142 = some (0, 18, 2, 0, 0) := by decide +kernel
theorem cx_0_145 : mj_cs 0 145 = some (0, 7, 3, 0, 0) := by decide +kernel
theorem cx_10_49 : mj_cs 10 49 = some (0, 86, 2, 6, 1) := by decide +kernel
theorem cx_6_136 : mj_cs 6 136 = some (0, 87, 1, 6, 1) := by decide +kernel
theorem cx_6_145 : mj_cs 6 145 = some (0, 13, 0, 0, 1) := by decide +kernel
theorem cx_6_149 : mj_cs 6 149 = some (0, 88, 2, 6, 1) := by decide +kernel
theorem cx_6_153 : mj_cs 6 153 = some (0, 9, 1, 0, 1) := by decide +kernel
theorem cx_6_156 : mj_cs 6 156 = some (0, 11, 0, 0, 0) := by decide +kernel
theorem cx_10_54 : mj_cs 10 54 = some (0, 89, 2, 6, 1) := by decide +kernel
theorem cx_6_168 : mj_cs 6 168 = some (0, 90, 2, 6, 1) := by decide +kernel
theorem cx_6_172 : mj_cs 6 172 = some (0, 8, 2, 0, 1) := by decide +kernel
theorem cx_6_175 : mj_cs 6 175 = some (0, 64, 1, 3, 1) := by decide +kernel
theorem cx_3_22 : mj_cs 3 22 = some (1, 229, 1, 100, 1) := by decide +kernel
theorem cx_10_58 : mj_cs 10 58 = some (0, 91, 2, 6, 1) := by decide +kernel
theorem cx_10_62 : mj_cs 10 62 = some (0, 92, 1, 6, 1) := by decide +kernel
theorem cx_10_66 : mj_cs 10 66 = some (0, 93, 1, 6, 1) := by decide +kernel
theorem cx_10_70 : mj_cs 10 70 = some (0, 94, 2, 6, 1) := by decide +kernel
theorem cx_6_181 : mj_cs 6 181 = some (1, 21, 2, 100, 1) := by decide +kernel
theorem cx_9_12 : mj_cs 9 12 = some (1, 229, 1, 100, 1) := by decide +kernel
theorem cx_10_74 : mj_cs 10 74 = some (0, 95, 2, 6, 1) := by decide +kernel
theorem cx_6_184 : mj_cs 6 184 = some (0, 97, 1, 6, 1) := by decide +kernel
theorem cx_6_195 : mj_cs 6 195 = some (1, 229, 1, 100, 1) := by decide +kernel
theorem cx_6_191 : mj_cs 6 191 = some (0, 96, 3, 6, 1) := by decide +kernel
theorem cx_10_78 : mj_cs 10 78 = some (0, 98, 2, 6, 1) := by decide +kernel
theorem cx_6_200 : mj_cs 6 200 = some (0, 76, 1, 5, 1) := by decide +kernel
theorem cx_6_203 : mj_cs 6 203 = some (0, 99, 1, 6, 1) := by decide +kernel
theorem cx3_6_209 : mj_cT 6 209 = some (3, 0) := by decide +kernel
theorem cx_6_206 : mj_cs 6 206 = some (0, 100, 1, 6, 1) := by decide +kernel
theorem cx_10_82 : mj_cs 10 82 = some (0, 101, 3, 6, 1) := by decide +kernel
theorem cx_6_215 : mj_cs 6 215 = some (0, 102, 2, 6, 1) := by decide +kernel
theorem cx_6_218 : mj_cs 6 218 = some (0, 65, 2, 3, 1) := by decide +kernel
theorem cx_3_28 : mj_cs 3 28 = some (0, 62, 1, 3, 1) := by decide +kernel
theorem cx_3_32 : mj_cs 3 32 = some (1, 21, 2, 100, 1) := by decide +kernel
theorem cx6_3_36 : mj_cT 3 36 = some (6, 0) := by decide +kernel
theorem cx_6_221 : mj_cs 6 221 = some (0, 103, 3, 6, 1) := by decide +kernel
theorem cx_10_87 : mj_cs 10 87 = some (0, 104, 2, 6, 1) := by decide +kernel
theorem cx_6_228 : mj_cs 6 228 = some (0, 77, 1, 5, 1) := by decide +kernel
theorem cx_5_19 : mj_cs 5 19 = some (0, 76, 1, 5, 1) := by decide +kernel
theorem cx_6_231 : mj_cs 6 231 = some (0, 105, 2, 6, 1) := by decide +kernel
theorem cx_6_235 : mj_cs 6 235 = some (0, 106, 2, 6, 1) := by decide +kernel
theorem cx_10_91 : mj_cs 10 91 = some (0, 107, 2, 6, 1) := by decide +kernel
theorem cx_6_238 : mj_cs 6 238 = some (0, 10, 2, 0, 1) := by decide +kernel
theorem cx_0_75 : mj_cs 0 75 = some (1, 21, 2, 100, 1) := by decide +kernel
theorem cx_10_95 : mj_cs 10 95 = some (0, 108, 2, 6, 1) := by decide +kernel
theorem cx_6_241 : mj_cs 6 241 = some (0, 109, 1, 6, 0) := by decide +kernel
theorem cx_6_244 : mj_cs 6 244 = some (0, 110, 0, 6, 1) := by decide +kernel
theorem cx_6_247 : mj_cs 6 247 = some (0, 111, 1, 6, 1) := by decide +kernel
theorem cx_10_99 : mj_cs 10 99 = some (0, 112, 2, 6, 1) := by decide +kernel
theorem cx_10_103 : mj_cs 10 103 = some (0, 113, 0, 6, 1) := by decide +kernel
theorem cx_10_108 : mj_cs 10 108 = some (0, 114, 2, 6, 1) := by decide +kernel
theorem cx_10_112 : mj_cs 10 112 = some (0, 115, 2, 6, 1) := by decide +kernel
theorem cx_6_250 : mj_cs 6 250 = some (1, 30, 1, 100, 1) := by decide +kernel
theorem cx_9_43 : mj_cs 9 43 = some (1, 29, 2, 100, 1) := by decide +kernel
theorem cx_9_31 : mj_cs 9 31 = some (1, 22, 1, 100, 1) := by decide +kernel
theorem cx_9_34 : mj_cs 9 34 = some (1, 23, 1, 100, 1) := by decide +kernel
theorem cx_9_37 : mj_cs 9 37 = some (1, 24, 1, 100, 1) := by decide +kernel
theorem cx_9_40 : mj_cs 9 40 = some (1, 25, 1, 100, 1) := by decide +kernel
theorem cx_6_253 : mj_cs 6 253 = some (1, 31, 1, 100, 1) := by decide +kernel
theorem cx_6_256 : mj_cs 6 256 = some (1, 32, 1, 100, 1) := by decide +kernel
theorem cx_6_259 : mj_cs 6 259 = some (1, 26, 1, 100, 1) := by decide +kernel
theorem cx_6_262 : mj_cs 6 262 = some (1, 27, 1, 100, 1) := by decide +kernel
theorem cx_6_265 : mj_cs 6 265 = some (1, 33, 1, 100, 1) := by decide +kernel
theorem cx5_9_48 : mj_cT 9 48 = some (5, 0) := by decide +kernel
theorem cx_10_116 : mj_cs 10 116 = some (0, 116, 2, 6, 1) := by decide +kernel
theorem cx_6_268 : mj_cs 6 268 = some (1, 28, 2, 100, 1) := by decide +kernel
theorem cx_9_25 : mj_cs 9 25 = some (1, 26, 1, 100, 1) := by decide +kernel
theorem cx_9_28 : mj_cs 9 28 = some (1, 27, 1, 100, 1) := by decide +kernel
theorem cx_10_120 : mj_cs 10 120 = some (0, 117, 2, 6, 1) := by decide +kernel
theorem cx_6_271 : mj_cs 6 271 = some (0, 66, 1, 3, 1) := by decide +kernel
theorem cx_10_124 : mj_cs 10 124 = some (0, 118, 1, 6, 1) := by decide +kernel
theorem cx_10_129 : mj_cs 10 129 = some (0, 119, 0, 6, 1) := by decide +kernel
theorem cx_10_133 : mj_cs 10 133 = some (0, 120, 0, 6, 1) := by decide +kernel
theorem cx_10_138 : mj_cs 10 138 = some (0, 121, 1, 6, 1) := by decide +kernel
theorem cx_10_142 : mj_cs 10 142 = some (0, 122, 1, 6, 1) := by decide +kernel
theorem cx_10_17 : mj_cs 10 17 = some (0, 141, 2, 7, 1) := by decide +kernel
theorem cx_7_90 : mj_cs 7 90 = some (1, 124, 3, 100, 1) := by decide +kernel
theorem cx_7_120 : mj_cs 7 120 = some (1, 130, 1, 100, 1) := by decide +kernel
theorem cx_10_22 : mj_cs 10 22 = some (0, 142, 3, 7, 1) := by decide +kernel
theorem cx_7_101 : mj_cs 7 101 = some (1, 135, 2, 100, 1) := by decide +kernel
theorem cx_10_26 : mj_cs 10 26 = some (0, 143, 3, 7, 1) := by decide +kernel
theorem cx_7_98 : mj_cs 7 98 = some (0, 132, 1, 7, 1) := by decide +kernel
theorem cx_7_94 : mj_cs 7 94 = some (0, 131, 1, 7, 1) := by decide +kernel
theorem cx_10_31 : mj_cs 10 31 = some (0, 145, 5, 7, 1) := by decide +kernel
theorem cx_7_127 : mj_cs 7 127 = some (0, 144, 1, 7, 0) := by decide +kernel
theorem cx_10_36 : mj_cs 10 36 = some (0, 168, 1, 7, 1) := by decide +kernel
theorem cx_7_214 : mj_cs 7 214 = some (0, 167, 1, 7, 0) := by decide +kernel
theorem cx_7_217 : mj_cs 7 217 = some (0, 166, 0, 7, 1) := by decide +kernel
theorem cx_7_137 : mj_cs 7 137 = some (0, 147, 0, 7, 1) := by decide +kernel
theorem cx_7_144 : mj_cs 7 144 = some (0, 149, 2, 7, 1) := by decide +kernel
theorem cx_7_193 : mj_cs 7 193 = some (0, 160, 0, 7, 1) := by decide +kernel
theorem cx_7_180 : mj_cs 7 180 = some (0, 158, 0, 7, 1) := by decide +kernel
theorem cx_7_171 : mj_cs 7 171 = some (0, 153, 1, 7, 1) := by decide +kernel
theorem cx_7_150 : mj_cs 7 150 = some (0, 148, 0, 7, 1) := by decide +kernel
theorem cx_7_174 : mj_cs 7 174 = some (0, 151, 0, 7, 1) := by decide +kernel
theorem cx_7_167 : mj_cs 7 167 = some (0, 152, 2, 7, 0) := by decide +kernel
theorem cx_7_177 : mj_cs 7 177 = some (1, 155, 1, 100, 1) := by decide +kernel
theorem cx_7_183 : mj_cs 7 183 = some (1, 156, 1, 100, 1) := by decide +kernel
theorem cx_7_186 : mj_cs 7 186 = some (0, 157, 1, 7, 0) := by decide +kernel
theorem cx_7_164 : mj_cs 7 164 = some (0, 154, 0, 7, 1) := by decide +kernel
theorem cx_7_190 : mj_cs 7 190 = some (0, 159, 1, 7, 1) := by decide +kernel
theorem cx_7_211 : mj_cs 7 211 = some (0, 165, 0, 7, 1) := by decide +kernel
theorem cx_7_199 : mj_cs 7 199 = some (0, 164, 0, 7, 1) := by decide +kernel
theorem cx_7_196 : mj_cs 7 196 = some (0, 161, 0, 7, 0) := by decide +kernel
theorem cx_7_202 : mj_cs 7 202 = some (0, 162, 1, 7, 0) := by decide +kernel
theorem cx_7_205 : mj_cs 7 205 = some (0, 163, 1, 7, 0) := by decide +kernel
theorem cx_7_220 : mj_cs 7 220 = some (0, 150, 1, 7, 1) := by decide +kernel
theorem cx_10_40 : mj_cs 10 40 = some (0, 176, 1, 7, 1) := by decide +kernel
theorem cx_7_248 : mj_cs 7 248 = some (0, 175, 0, 7, 1) := by decide +kernel
theorem cx_7_242 : mj_cs 7 242 = some (0, 173, 0, 7, 1) := by decide +kernel
theorem cx_7_233 : mj_cs 7 233 = some (0, 146, 1, 7, 1) := by decide +kernel
theorem cx_7_245 : mj_cs 7 245 = some (0, 174, 3, 7, 1) := by decide +kernel
theorem cx_10_44 : mj_cs 10 44 = some (0, 184, 1, 7, 1) := by decide +kernel
theorem cx_7_275 : mj_cs 7 275 = some (1, 129, 2, 100, 0) := by decide +kernel
theorem cx_7_279 : mj_cs 7 279 = some (0, 183, 0, 7, 1) := by decide +kernel
theorem cx_7_105 : mj_cs 7 105 = some (0, 136, 2, 7, 1) := by decide +kernel
theorem cx_7_269 : mj_cs 7 269 = some (1, 182, 1, 100, 1) := by decide +kernel
theorem cx_7_272 : mj_cs 7 272 = some (1, 181, 2, 100, 1) := by decide +kernel
theorem cx_7_260 : mj_cs 7 260 = some (1, 180, 2, 100, 1) := by decide +kernel
theorem cx_7_254 : mj_cs 7 254 = some (1, 127, 2, 100, 1) := by decide +kernel
theorem cx_7_263 : mj_cs 7 263 = some (1, 178, 1, 100, 1) := by decide +kernel
theorem cx_7_257 : mj_cs 7 257 = some (1, 177, 2, 100, 1) := by decide +kernel
theorem cx_10_48 : mj_cs 10 48 = some (0, 190, 1, 7, 1) := by decide +kernel
theorem cx_7_317 : mj_cs 7 317 = some (0, 189, 1, 7, 0) := by decide +kernel
theorem cx_7_314 : mj_cs 7 314 = some (0, 188, 0, 7, 0) := by decide +kernel
theorem cx_7_305 : mj_cs 7 305 = some (0, 139, 1, 7, 1) := by decide +kernel
theorem cx_7_115 : mj_cs 7 115 = some (0, 138, 2, 7, 1) := by decide +kernel
theorem cx_7_112 : mj_cs 7 112 = some (0, 137, 1, 7, 1) := by decide +kernel
theorem cx_7_108 : mj_cs 7 108 = some (1, 128, 1, 100, 1) := by decide +kernel
theorem cx_7_283 : mj_cs 7 283 = some (0, 186, 4, 7, 0) := by decide +kernel
theorem cx_7_290 : mj_cs 7 290 = some (0, 171, 2, 7, 1) := by decide +kernel
theorem cx_7_230 : mj_cs 7 230 = some (0, 170, 2, 7, 1) := by decide +kernel
theorem cx_7_226 : mj_cs 7 226 = some (1, 169, 3, 100, 1) := by decide +kernel
theorem cx_7_308 : mj_cs 7 308 = some (1, 125, 2, 100, 1) := by decide +kernel
theorem cx_7_311 : mj_cs 7 311 = some (0, 187, 2, 7, 0) := by decide +kernel
theorem cx_7_287 : mj_cs 7 287 = some (0, 172, 1, 7, 1) := by decide +kernel
theorem cx_7_296 : mj_cs 7 296 = some (0, 185, 0, 7, 1) := by decide +kernel
theorem cx_10_53 : mj_cs 10 53 = some (0, 192, 2, 7, 1) := by decide +kernel
theorem cx_7_320 : mj_cs 7 320 = some (0, 191, 0, 7, 1) := by decide +kernel
theorem cx_10_57 : mj_cs 10 57 = some (0, 193, 2, 7, 1) := by decide +kernel
theorem cx_7_323 : mj_cs 7 323 = some (0, 140, 1, 7, 1) := by decide +kernel
theorem cx_10_61 : mj_cs 10 61 = some (0, 194, 2, 7, 1) := by decide +kernel
theorem cx_10_65 : mj_cs 10 65 = some (0, 195, 1, 7, 1) := by decide +kernel
theorem cx_10_69 : mj_cs 10 69 = some (0, 196, 1, 7, 1) := by decide +kernel
theorem cx_10_73 : mj_cs 10 73 = some (0, 197, 2, 7, 1) := by decide +kernel
theorem cx_10_77 : mj_cs 10 77 = some (0, 198, 2, 7, 1) := by decide +kernel
theorem cx_10_81 : mj_cs 10 81 = some (0, 199, 2, 7, 1) := by decide +kernel
theorem cx_10_86 : mj_cs 10 86 = some (0, 201, 3, 7, 1) := by decide +kernel
theorem cx_7_332 : mj_cs 7 332 = some (0, 200, 3, 7, 0) := by decide +kernel
theorem cx_10_90 : mj_cs 10 90 = some (0, 203, 2, 7, 1) := by decide +kernel
theorem cx_7_336 : mj_cs 7 336 = some (0, 133, 0, 7, 1) := by decide +kernel
theorem cx_7_339 : mj_cs 7 339 = some (0, 134, 0, 7, 1) := by decide +kernel
theorem cx_7_342 : mj_cs 7 342 = some (0, 202, 1, 7, 1) := by decide +kernel
theorem cx_10_94 : mj_cs 10 94 = some (0, 205, 2, 7, 1) := by decide +kernel
theorem cx_7_345 : mj_cs 7 345 = some (0, 204, 2, 7, 1) := by decide +kernel
theorem cx_10_98 : mj_cs 10 98 = some (0, 207, 2, 7, 1) := by decide +kernel
theorem cx_7_348 : mj_cs 7 348 = some (0, 206, 2, 7, 1) := by decide +kernel
theorem cx_10_102 : mj_cs 10 102 = some (0, 208, 2, 7, 1) := by decide +kernel
theorem cx_10_107 : mj_cs 10 107 = some (0, 209, 0, 7, 1) := by decide +kernel
theorem cx_10_111 : mj_cs 10 111 = some (0, 210, 2, 7, 1) := by decide +kernel
theorem cx_10_115 : mj_cs 10 115 = some (0, 220, 2, 7, 1) := by decide +kernel
theorem cx_7_371 : mj_cs 7 371 = some (1, 214, 1, 100, 1) := by decide +kernel
theorem cx_7_355 : mj_cs 7 355 = some (1, 211, 3, 100, 1) := by decide +kernel
theorem cx_7_351 : mj_cs 7 351 = some (1, 212, 3, 100, 1) := by decide +kernel
theorem cx_7_359 : mj_cs 7 359 = some (1, 213, 1, 100, 1) := by decide +kernel
theorem cx_7_374 : mj_cs 7 374 = some (1, 215, 1, 100, 1) := by decide +kernel
theorem cx_7_377 : mj_cs 7 377 = some (1, 217, 1, 100, 1) := by decide +kernel
theorem cx_7_362 : mj_cs 7 362 = some (1, 216, 3, 100, 1) := by decide +kernel
theorem cx_7_365 : mj_cs 7 365 = some (1, 126, 2, 100, 1) := by decide +kernel
theorem cx_7_380 : mj_cs 7 380 = some (1, 179, 1, 100, 1) := by decide +kernel
theorem cx_7_383 : mj_cs 7 383 = some (1, 219, 1, 100, 1) := by decide +kernel
theorem cx_7_368 : mj_cs 7 368 = some (1, 218, 2, 100, 1) := by decide +kernel
theorem cx_10_119 : mj_cs 10 119 = some (0, 221, 2, 7, 1) := by decide +kernel
theorem cx_10_123 : mj_cs 10 123 = some (0, 223, 2, 7, 1) := by decide +kernel
theorem cx_7_386 : mj_cs 7 386 = some (0, 222, 1, 7, 1) := by decide +kernel
theorem cx_10_128 : mj_cs 10 128 = some (0, 224, 1, 7, 1) := by decide +kernel
theorem cx_10_132 : mj_cs 10 132 = some (0, 225, 0, 7, 1) := by decide +kernel
theorem cx_10_137 : mj_cs 10 137 = some (0, 226, 0, 7, 1) := by decide +kernel
theorem cx_10_141 : mj_cs 10 141 = some (0, 227, 1, 7, 1) := by decide +kernel
theorem cx_10_145 : mj_cs 10 145 = some (0, 228, 1, 7, 1) := by decide +kernel
theorem cn_14_640 : mj_cT 14 640 = none := by decide +kernel
theorem gs_14_38 : mj_sT 14 38 = true := by decide +kernel
theorem oc_73 : mj_ocl 73 = 14 := rfl
theorem bl_50 : mj_bln 50 = 260 := rfl
theorem bl_74 : mj_bln 74 = 9 := rfl
theorem fx_3_9 : mj_fT 3 9 = some (3, 0, 1) := by decide +kernel
theorem fx_0_56 : mj_fT 0 56 = some (3, 0, 1) := by decide +kernel
theorem fx_6_178 : mj_fT 6 178 = some (3, 0, 1) := by decide +kernel
theorem fx_3_15 : mj_fT 3 15 = some (3, 1, 0) := by decide +kernel
theorem fx_6_224 : mj_fT 6 224 = some (3, 1, 0) := by decide +kernel
theorem fx_0_31 : mj_fT 0 31 = some (0, 0, 1) := by decide +kernel
theorem fx_8_46 : mj_fT 8 46 = some (0, 0, 1) := by decide +kernel
theorem fx_0_9 : mj_fT 0 9 = some (0, 1, 1) := by decide +kernel
theorem fx_6_165 : mj_fT 6 165 = some (0, 1, 1) := by decide +kernel
theorem fx_0_15 : mj_fT 0 15 = some (0, 2, 1) := by decide +kernel
theorem fx_6_162 : mj_fT 6 162 = some (0, 2, 1) := by decide +kernel
theorem fx_0_18 : mj_fT 0 18 = some (0, 3, 1) := by decide +kernel
theorem fx_0_21 : mj_fT 0 21 = some (0, 4, 1) := by decide +kernel
theorem fx_0_24 : mj_fT 0 24 = some (0, 5, 1) := by decide +kernel
theorem fx_6_159 : mj_fT 6 159 = some (0, 5, 1) := by decide +kernel
theorem fx_0_47 : mj_fT 0 47 = some (0, 6, 0) := by decide +kernel
theorem fx_6_227 : mj_fT 6 227 = some (0, 6, 0) := by decide +kernel
theorem fx_0_50 : mj_fT 0 50 = some (0, 7, 0) := by decide +kernel
theorem fx_6_278 : mj_fT 6 278 = some (0, 7, 0) := by decide +kernel
theorem fx_0_27 : mj_fT 0 27 = some (0, 8, 0) := by decide +kernel
theorem fx_6_275 : mj_fT 6 275 = some (0, 8, 0) := by decide +kernel
theorem fx_6_133 : mj_fT 6 133 = some (0, 9, 0) := by decide +kernel
theorem fx_0_91 : mj_fT 0 91 = some (0, 9, 0) := by decide +kernel
theorem fx_6_139 : mj_fT 6 139 = some (0, 10, 0) := by decide +kernel
theorem fx_0_94 : mj_fT 0 94 = some (0, 10, 0) := by decide +kernel
theorem fx_6_142 : mj_fT 6 142 = some (0, 11, 0) := by decide +kernel
theorem fx_0_97 : mj_fT 0 97 = some (0, 11, 0) := by decide +kernel
theorem fx_5_11 : mj_fT 5 11 = some (5, 0, 1) := by decide +kernel
theorem fx_5_15 : mj_fT 5 15 = some (5, 1, 0) := by decide +kernel
theorem fx_6_100 : mj_fT 6 100 = some (5, 1, 0) := by decide +kernel
theorem fx_4_9 : mj_fT 4 9 = some (4, 0, 1) := by decide +kernel
theorem fx_6_188 : mj_fT 6 188 = some (4, 0, 1) := by decide +kernel
theorem fx_4_15 : mj_fT 4 15 = some (4, 1, 1) := by decide +kernel
theorem fx_4_18 : mj_fT 4 18 = some (4, 2, 1) := by decide +kernel
theorem fx_4_21 : mj_fT 4 21 = some (4, 3, 1) := by decide +kernel
theorem fx_4_61 : mj_fT 4 61 = some (4, 4, 0) := by decide +kernel
theorem fx_6_187 : mj_fT 6 187 = some (4, 4, 0) := by decide +kernel
theorem fx_4_24 : mj_fT 4 24 = some (4, 5, 0) := by decide +kernel
theorem fx_4_28 : mj_fT 4 28 = some (4, 6, 0) := by decide +kernel
theorem fx_1_11 : mj_fT 1 11 = some (1, 0, 1) := by decide +kernel
theorem fx_1_15 : mj_fT 1 15 = some (1, 1, 1) := by decide +kernel
theorem fx_1_18 : mj_fT 1 18 = some (1, 2, 1) := by decide +kernel
theorem fx_1_21 : mj_fT 1 21 = some (1, 3, 1) := by decide +kernel
theorem fx_1_24 : mj_fT 1 24 = some (1, 4, 1) := by decide +kernel
theorem fx_1_27 : mj_fT 1 27 = some (1, 5, 1) := by decide +kernel
theorem fx_1_47 : mj_fT 1 47 = some (1, 6, 0) := by decide +kernel
theorem fx_2_62 : mj_fT 2 62 = some (1, 6, 0) := by decide +kernel
theorem fx_2_38 : mj_fT 2 38 = some (1, 7, 0) := by decide +kernel
theorem fx_1_30 : mj_fT 1 30 = some (1, 7, 0) := by decide +kernel
theorem fx_6_281 : mj_fT 6 281 = some (1, 7, 0) := by decide +kernel
theorem fx_2_18 : mj_fT 2 18 = some (2, 0, 1) := by decide +kernel
theorem fx_2_12 : mj_fT 2 12 = some (2, 1, 2) := by decide +kernel
theorem fx_2_22 : mj_fT 2 22 = some (2, 2, 0) := by decide +kernel
theorem fx_2_26 : mj_fT 2 26 = some (2, 3, 0) := by decide +kernel
theorem fx_2_29 : mj_fT 2 29 = some (2, 4, 0) := by decide +kernel
theorem fx_6_10 : mj_fT 6 10 = some (6, 0, 1) := by decide +kernel
theorem fx_6_21 : mj_fT 6 21 = some (6, 1, 1) := by decide +kernel
theorem fx_6_25 : mj_fT 6 25 = some (6, 2, 1) := by decide +kernel
theorem fx_6_28 : mj_fT 6 28 = some (6, 3, 1) := by decide +kernel
theorem fx_6_34 : mj_fT 6 34 = some (6, 4, 1) := by decide +kernel
theorem fx_6_41 : mj_fT 6 41 = some (6, 5, 1) := by decide +kernel
theorem fx_6_50 : mj_fT 6 50 = some (6, 6, 1) := by decide +kernel
theorem fx_6_54 : mj_fT 6 54 = some (6, 7, 1) := by decide +kernel
theorem fx_6_58 : mj_fT 6 58 = some (6, 8, 1) := by decide +kernel
theorem fx_6_64 : mj_fT 6 64 = some (6, 9, 2) := by decide +kernel
theorem fx_6_68 : mj_fT 6 68 = some (6, 10, 3) := by decide +kernel
theorem fx_7_7 : mj_fT 7 7 = some (7, 0, 1) := by decide +kernel
theorem fx_7_13 : mj_fT 7 13 = some (7, 1, 1) := by decide +kernel
theorem fx_7_16 : mj_fT 7 16 = some (7, 2, 1) := by decide +kernel
theorem fx_7_19 : mj_fT 7 19 = some (7, 3, 1) := by decide +kernel
theorem fx_7_22 : mj_fT 7 22 = some (7, 4, 1) := by decide +kernel
theorem fx_7_123 : mj_fT 7 123 = some (7, 5, 0) := by decide +kernel
theorem fx_7_131 : mj_fT 7 131 = some (7, 6, 0) := by decide +kernel
theorem fx_7_134 : mj_fT 7 134 = some (7, 7, 0) := by decide +kernel
theorem fx_7_141 : mj_fT 7 141 = some (7, 8, 0) := by decide +kernel
theorem fx_7_147 : mj_fT 7 147 = some (7, 9, 0) := by decide +kernel
theorem fx_7_158 : mj_fT 7 158 = some (7, 10, 0) := by decide +kernel
theorem fx_7_154 : mj_fT 7 154 = some (7, 11, 0) := by decide +kernel
theorem fx_7_161 : mj_fT 7 161 = some (7, 12, 0) := by decide +kernel
theorem fx_7_208 : mj_fT 7 208 = some (7, 13, 0) := by decide +kernel
theorem fx_7_223 : mj_fT 7 223 = some (7, 14, 0) := by decide +kernel
theorem fx_7_26 : mj_fT 7 26 = some (7, 15, 1) := by decide +kernel
theorem fx_7_29 : mj_fT 7 29 = some (7, 16, 1) := by decide +kernel
theorem fx_7_32 : mj_fT 7 32 = some (7, 17, 1) := by decide +kernel
theorem fx_7_35 : mj_fT 7 35 = some (7, 18, 1) := by decide +kernel
theorem fx_7_38 : mj_fT 7 38 = some (7, 19, 1) := by decide +kernel
theorem fx_7_41 : mj_fT 7 41 = some (7, 20, 1) := by decide +kernel
theorem fx_7_44 : mj_fT 7 44 = some (7, 21, 1) := by decide +kernel
theorem fx_7_47 : mj_fT 7 47 = some (7, 22, 1) := by decide +kernel
theorem fx_7_50 : mj_fT 7 50 = some (7, 23, 1) := by decide +kernel
theorem fx_7_53 : mj_fT 7 53 = some (7, 24, 1) := by decide +kernel
theorem fx_7_56 : mj_fT 7 56 = some (7, 25, 1) := by decide +kernel
theorem fx_7_59 : mj_fT 7 59 = some (7, 26, 1) := by decide +kernel
theorem fx_7_62 : mj_fT 7 62 = some (7, 27, 1) := by decide +kernel
theorem fx_7_65 : mj_fT 7 65 = some (7, 28, 1) := by decide +kernel
theorem fx_7_68 : mj_fT 7 68 = some (7, 29, 1) := by decide +kernel
theorem fx_7_71 : mj_fT 7 71 = some (7, 30, 1) := by decide +kernel
theorem fx_7_74 : mj_fT 7 74 = some (7, 31, 1) := by decide +kernel
theorem fx_7_251 : mj_fT 7 251 = some (7, 32, 0) := by decide +kernel
theorem fx_7_236 : mj_fT 7 236 = some (7, 33, 0) := by decide +kernel
theorem fx_7_239 : mj_fT 7 239 = some (7, 34, 0) := by decide +kernel
theorem fx_7_266 : mj_fT 7 266 = some (7, 35, 0) := by decide +kernel
theorem fx_7_77 : mj_fT 7 77 = some (7, 36, 1) := by decide +kernel
theorem fx_7_299 : mj_fT 7 299 = some (7, 37, 0) := by decide +kernel
theorem fx_7_302 : mj_fT 7 302 = some (7, 38, 0) := by decide +kernel
theorem fx_7_293 : mj_fT 7 293 = some (7, 39, 0) := by decide +kernel
theorem fx_7_80 : mj_fT 7 80 = some (7, 40, 1) := by decide +kernel
theorem fx_7_329 : mj_fT 7 329 = some (7, 41, 0) := by decide +kernel
theorem fx_7_326 : mj_fT 7 326 = some (7, 42, 0) := by decide +kernel
theorem fx_7_83 : mj_fT 7 83 = some (7, 43, 1) := by decide +kernel
theorem fx_7_86 : mj_fT 7 86 = some (7, 44, 1) := by decide +kernel
theorem fx_7_390 : mj_fT 7 390 = some (7, 45, 3) := by decide +kernel
theorem fx_14_15 : mj_fT 14 15 = some (14, 0, 5) := by decide +kernel
theorem fx_14_9 : mj_fT 14 9 = some (14, 1, 4) := by decide +kernel
theorem kx_9_11 : mj_kT 9 11 = some 33554431 := by decide +kernel
theorem kx_8_55 : mj_kT 8 55 = some 33554431 := by decide +kernel
theorem kx_9_18 : mj_kT 9 18 = some (-1082402) := by decide +kernel
theorem kx_9_19 : mj_kT 9 19 = some (-17318417) := by decide +kernel
theorem kx_9_20 : mj_kT 9 20 = some 1082401 := by decide +kernel
theorem kx_9_21 : mj_kT 9 21 = some 2164802 := by decide +kernel
theorem kx_9_22 : mj_kT 9 22 = some 4329604 := by decide +kernel
theorem kx_9_23 : mj_kT 9 23 = some 8659208 := by decide +kernel
theorem kx_9_24 : mj_kT 9 24 = some 17318416 := by decide +kernel
theorem kx_11_265 : mj_kT 11 265 = some 1431655765 := by decide +kernel
theorem kx_11_266 : mj_kT 11 266 = some 858993459 := by decide +kernel
theorem kx_11_267 : mj_kT 11 267 = some 252645135 := by decide +kernel
theorem kx_0_148 : mj_kT 0 148 = some 65535 := by decide +kernel
theorem kx_3_21 : mj_kT 3 21 = some 2147483647 := by decide +kernel
theorem kx_6_234 : mj_kT 6 234 = some 2147483647 := by decide +kernel
theorem kx_9_47 : mj_kT 9 47 = some 33080895 := by decide +kernel
theorem kx_6_274 : mj_kT 6 274 = some 65535 := by decide +kernel
theorem kx_7_89 : mj_kT 7 89 = some 33554431 := by decide +kernel
theorem kx_7_157 : mj_kT 7 157 = some 1048576 := by decide +kernel
theorem kx_7_282 : mj_kT 7 282 = some 65536 := by decide +kernel
theorem kx_7_119 : mj_kT 7 119 = some 1000000 := by decide +kernel
theorem kx_7_389 : mj_kT 7 389 = some 65535 := by decide +kernel
theorem kx_str : mj_kT 2 104 = none := by decide +kernel
theorem oc_0 : mj_ocl 0 = 6 := rfl
theorem oc_1 : mj_ocl 1 = 3 := rfl
theorem ia_2 : mj_ial 2 = 8 := rfl
theorem oc_3 : mj_ocl 3 = 0 := rfl
theorem ia_4 : mj_ial 4 = 10 := rfl
theorem ia_5 : mj_ial 5 = 10 := rfl
theorem ia_6 : mj_ial 6 = 80 := rfl
theorem ia_7 : mj_ial 7 = 10 := rfl
theorem ia_8 : mj_ial 8 = 10 := rfl
theorem oc_9 : mj_ocl 9 = 0 := rfl
theorem ia_10 : mj_ial 10 = 10 := rfl
theorem ia_11 : mj_ial 11 = 10 := rfl
theorem ia_12 : mj_ial 12 = 80 := rfl
theorem ia_13 : mj_ial 13 = 10 := rfl
theorem ia_14 : mj_ial 14 = 10 := rfl
theorem oc_15 : mj_ocl 15 = 0 := rfl
theorem ia_16 : mj_ial 16 = 10 := rfl
theorem ia_17 : mj_ial 17 = 10 := rfl
theorem ia_18 : mj_ial 18 = 80 := rfl
theorem ia_19 : mj_ial 19 = 10 := rfl
theorem ia_20 : mj_ial 20 = 10 := rfl
theorem oc_21 : mj_ocl 21 = 5 := rfl
theorem ia_22 : mj_ial 22 = 260 := rfl
theorem oc_23 : mj_ocl 23 = 4 := rfl
theorem ia_24 : mj_ial 24 = 60 := rfl
theorem ia_25 : mj_ial 25 = 60 := rfl
theorem ia_26 : mj_ial 26 = 2 := rfl
theorem ia_27 : mj_ial 27 = 2 := rfl
theorem oc_28 : mj_ocl 28 = 2 := rfl
theorem oc_29 : mj_ocl 29 = 1 := rfl
theorem ia_30 : mj_ial 30 = 480 := rfl
theorem ia_31 : mj_ial 31 = 32 := rfl
theorem ia_32 : mj_ial 32 = 9 := rfl
theorem ia_33 : mj_ial 33 = 16 := rfl
theorem ia_34 : mj_ial 34 = 16 := rfl
theorem ia_35 : mj_ial 35 = 16 := rfl
theorem ia_36 : mj_ial 36 = 10 := rfl
theorem ia_37 : mj_ial 37 = 60 := rfl
theorem oc_38 : mj_ocl 38 = 1 := rfl
theorem ia_39 : mj_ial 39 = 480 := rfl
theorem ia_40 : mj_ial 40 = 32 := rfl
theorem ia_41 : mj_ial 41 = 9 := rfl
theorem ia_42 : mj_ial 42 = 16 := rfl
theorem ia_43 : mj_ial 43 = 16 := rfl
theorem ia_44 : mj_ial 44 = 16 := rfl
theorem oc_45 : mj_ocl 45 = 7 := rfl
theorem ia_46 : mj_ial 46 = 112 := rfl
theorem ia_47 : mj_ial 47 = 112 := rfl
theorem ia_48 : mj_ial 48 = 112 := rfl
theorem ia_49 : mj_ial 49 = 8 := rfl
theorem ba_50 : mj_bal 50 = 260 := rfl
theorem ia_51 : mj_ial 51 = 260 := rfl
theorem ia_52 : mj_ial 52 = 260 := rfl
theorem ia_53 : mj_ial 53 = 16 := rfl
theorem ia_54 : mj_ial 54 = 16 := rfl
theorem ia_55 : mj_ial 55 = 16 := rfl
theorem ia_56 : mj_ial 56 = 16 := rfl
theorem ia_57 : mj_ial 57 = 260 := rfl
theorem ia_58 : mj_ial 58 = 16 := rfl
theorem ia_59 : mj_ial 59 = 16 := rfl
theorem ia_60 : mj_ial 60 = 16 := rfl
theorem ia_61 : mj_ial 61 = 16 := rfl
theorem ia_62 : mj_ial 62 = 260 := rfl
theorem ia_63 : mj_ial 63 = 9 := rfl
theorem ia_64 : mj_ial 64 = 60 := rfl
theorem ia_65 : mj_ial 65 = 60 := rfl
theorem ia_66 : mj_ial 66 = 2 := rfl
theorem ia_67 : mj_ial 67 = 2 := rfl
theorem ia_68 : mj_ial 68 = 10 := rfl
theorem ia_69 : mj_ial 69 = 60 := rfl
theorem ia_70 : mj_ial 70 = 8 := rfl
theorem ia_71 : mj_ial 71 = 10 := rfl
theorem rb_0_0 : mj_rf 0 0 = 1 := rfl
theorem rb_0_1 : mj_rf 0 1 = 3 := rfl
theorem rb_0_2 : mj_rf 0 2 = 9 := rfl
theorem rb_0_3 : mj_rf 0 3 = 15 := rfl
theorem rb_0_4 : mj_rf 0 4 = 21 := rfl
theorem rb_0_5 : mj_rf 0 5 = 23 := rfl
theorem rb_0_6 : mj_rf 0 6 = 28 := rfl
theorem rb_0_7 : mj_rf 0 7 = 36 := rfl
theorem rb_0_8 : mj_rf 0 8 = 37 := rfl
theorem rb_1_0 : mj_rf 1 0 = 2 := rfl
theorem rb_3_0 : mj_rf 3 0 = 1 := rfl
theorem rb_3_1 : mj_rf 3 1 = 4 := rfl
theorem rb_3_2 : mj_rf 3 2 = 5 := rfl
theorem rb_3_3 : mj_rf 3 3 = 6 := rfl
theorem rb_3_4 : mj_rf 3 4 = 7 := rfl
theorem rb_3_5 : mj_rf 3 5 = 8 := rfl
theorem rb_9_0 : mj_rf 9 0 = 1 := rfl
theorem rb_9_1 : mj_rf 9 1 = 10 := rfl
theorem rb_9_2 : mj_rf 9 2 = 11 := rfl
theorem rb_9_3 : mj_rf 9 3 = 12 := rfl
theorem rb_9_4 : mj_rf 9 4 = 13 := rfl
theorem rb_9_5 : mj_rf 9 5 = 14 := rfl
theorem rb_15_0 : mj_rf 15 0 = 1 := rfl
theorem rb_15_1 : mj_rf 15 1 = 16 := rfl
theorem rb_15_2 : mj_rf 15 2 = 17 := rfl
theorem rb_15_3 : mj_rf 15 3 = 18 := rfl
theorem rb_15_4 : mj_rf 15 4 = 19 := rfl
theorem rb_15_5 : mj_rf 15 5 = 20 := rfl
theorem rb_21_0 : mj_rf 21 0 = 22 := rfl
theorem rb_23_0 : mj_rf 23 0 = 24 := rfl
theorem rb_23_1 : mj_rf 23 1 = 25 := rfl
theorem rb_23_2 : mj_rf 23 2 = 26 := rfl
theorem rb_23_3 : mj_rf 23 3 = 27 := rfl
theorem rb_28_0 : mj_rf 28 0 = 21 := rfl
theorem rb_29_0 : mj_rf 29 0 = 30 := rfl
theorem rb_29_1 : mj_rf 29 1 = 31 := rfl
theorem rb_29_2 : mj_rf 29 2 = 32 := rfl
theorem rb_29_3 : mj_rf 29 3 = 33 := rfl
theorem rb_29_4 : mj_rf 29 4 = 34 := rfl
theorem rb_29_5 : mj_rf 29 5 = 35 := rfl
theorem rb_38_0 : mj_rf 38 0 = 39 := rfl
theorem rb_38_1 : mj_rf 38 1 = 40 := rfl
theorem rb_38_2 : mj_rf 38 2 = 41 := rfl
theorem rb_38_3 : mj_rf 38 3 = 42 := rfl
theorem rb_38_4 : mj_rf 38 4 = 43 := rfl
theorem rb_38_5 : mj_rf 38 5 = 44 := rfl
theorem rb_45_0 : mj_rf 45 0 = 46 := rfl
theorem rb_45_1 : mj_rf 45 1 = 47 := rfl
theorem rb_45_2 : mj_rf 45 2 = 48 := rfl
theorem rb_45_3 : mj_rf 45 3 = 49 := rfl
theorem rb_45_4 : mj_rf 45 4 = 50 := rfl
theorem rb_45_15 : mj_rf 45 15 = 51 := rfl
theorem rb_45_16 : mj_rf 45 16 = 52 := rfl
theorem rb_45_17 : mj_rf 45 17 = 53 := rfl
theorem rb_45_18 : mj_rf 45 18 = 54 := rfl
theorem rb_45_19 : mj_rf 45 19 = 55 := rfl
theorem rb_45_20 : mj_rf 45 20 = 56 := rfl
theorem rb_45_21 : mj_rf 45 21 = 57 := rfl
theorem rb_45_22 : mj_rf 45 22 = 58 := rfl
theorem rb_45_23 : mj_rf 45 23 = 59 := rfl
theorem rb_45_24 : mj_rf 45 24 = 60 := rfl
theorem rb_45_25 : mj_rf 45 25 = 61 := rfl
theorem rb_45_26 : mj_rf 45 26 = 62 := rfl
theorem rb_45_27 : mj_rf 45 27 = 63 := rfl
theorem rb_45_28 : mj_rf 45 28 = 64 := rfl
theorem rb_45_29 : mj_rf 45 29 = 65 := rfl
theorem rb_45_30 : mj_rf 45 30 = 66 := rfl
theorem rb_45_31 : mj_rf 45 31 = 67 := rfl
theorem rb_45_36 : mj_rf 45 36 = 68 := rfl
theorem rb_45_40 : mj_rf 45 40 = 69 := rfl
theorem rb_45_43 : mj_rf 45 43 = 70 := rfl
theorem rb_45_44 : mj_rf 45 44 = 71 := rfl
theorem mj_ocl_lt {a : Nat} (h : mj_ocl a ≠ 100) : a < 75 := by
  rcases Nat.lt_or_ge a 75 with q | q
  · exact q
  · exact absurd (show mj_ocl a = 100 from by
      unfold mj_ocl
      rw [List.getD_eq_getElem?_getD, List.getElem?_eq_none (by exact q)]
      rfl) h
theorem mj_court : ∀ a, a < 75 → mj_ocl a = 0 → a = 3 ∨ a = 9 ∨ a = 15 := by decide +kernel
theorem mj_lawc : ∀ a, a < 75 → mj_ocl a = 1 → a = 29 ∨ a = 38 := by decide +kernel
theorem mj_courtE {a : Nat} (h : mj_ocl a = 0) : a = 3 ∨ a = 9 ∨ a = 15 := mj_court a (mj_ocl_lt (by rw [h]; decide)) h
theorem mj_lawE {a : Nat} (h : mj_ocl a = 1) : a = 29 ∨ a = 38 := mj_lawc a (mj_ocl_lt (by rw [h]; decide)) h
theorem oc_lw (x : Int32) : mj_ocl (mj_lw x) = 1 := by
  unfold mj_lw
  split <;> rfl
theorem rbC_0 {c : Nat} (h : mj_ocl c = 0) : mj_rf c 0 = 1 := by rcases mj_courtE h with rfl | rfl | rfl <;> rfl
theorem rbC_1 {c : Nat} (h : mj_ocl c = 0) : mj_rf c 1 = c + 1 := by rcases mj_courtE h with rfl | rfl | rfl <;> rfl
theorem iaC_1 {c : Nat} (h : mj_ocl c = 0) : mj_ial (c + 1) = 10 := by rcases mj_courtE h with rfl | rfl | rfl <;> rfl
theorem naC_1 {c : Nat} (h : mj_ocl c = 0) : ¬ c + 1 = 72 := by rcases mj_courtE h with rfl | rfl | rfl <;> decide
theorem rbC_2 {c : Nat} (h : mj_ocl c = 0) : mj_rf c 2 = c + 2 := by rcases mj_courtE h with rfl | rfl | rfl <;> rfl
theorem iaC_2 {c : Nat} (h : mj_ocl c = 0) : mj_ial (c + 2) = 10 := by rcases mj_courtE h with rfl | rfl | rfl <;> rfl
theorem naC_2 {c : Nat} (h : mj_ocl c = 0) : ¬ c + 2 = 72 := by rcases mj_courtE h with rfl | rfl | rfl <;> decide
theorem rbC_3 {c : Nat} (h : mj_ocl c = 0) : mj_rf c 3 = c + 3 := by rcases mj_courtE h with rfl | rfl | rfl <;> rfl
theorem iaC_3 {c : Nat} (h : mj_ocl c = 0) : mj_ial (c + 3) = 80 := by rcases mj_courtE h with rfl | rfl | rfl <;> rfl
theorem naC_3 {c : Nat} (h : mj_ocl c = 0) : ¬ c + 3 = 72 := by rcases mj_courtE h with rfl | rfl | rfl <;> decide
theorem rbC_4 {c : Nat} (h : mj_ocl c = 0) : mj_rf c 4 = c + 4 := by rcases mj_courtE h with rfl | rfl | rfl <;> rfl
theorem iaC_4 {c : Nat} (h : mj_ocl c = 0) : mj_ial (c + 4) = 10 := by rcases mj_courtE h with rfl | rfl | rfl <;> rfl
theorem naC_4 {c : Nat} (h : mj_ocl c = 0) : ¬ c + 4 = 72 := by rcases mj_courtE h with rfl | rfl | rfl <;> decide
theorem rbC_5 {c : Nat} (h : mj_ocl c = 0) : mj_rf c 5 = c + 5 := by rcases mj_courtE h with rfl | rfl | rfl <;> rfl
theorem iaC_5 {c : Nat} (h : mj_ocl c = 0) : mj_ial (c + 5) = 10 := by rcases mj_courtE h with rfl | rfl | rfl <;> rfl
theorem naC_5 {c : Nat} (h : mj_ocl c = 0) : ¬ c + 5 = 72 := by rcases mj_courtE h with rfl | rfl | rfl <;> decide
theorem rbL_0 {c : Nat} (h : mj_ocl c = 1) : mj_rf c 0 = c + 1 := by rcases mj_lawE h with rfl | rfl <;> rfl
theorem iaL_0 {c : Nat} (h : mj_ocl c = 1) : mj_ial (c + 1) = 480 := by rcases mj_lawE h with rfl | rfl <;> rfl
theorem naL_0 {c : Nat} (h : mj_ocl c = 1) : ¬ c + 1 = 72 := by rcases mj_lawE h with rfl | rfl <;> decide
theorem rbL_1 {c : Nat} (h : mj_ocl c = 1) : mj_rf c 1 = c + 2 := by rcases mj_lawE h with rfl | rfl <;> rfl
theorem iaL_1 {c : Nat} (h : mj_ocl c = 1) : mj_ial (c + 2) = 32 := by rcases mj_lawE h with rfl | rfl <;> rfl
theorem naL_1 {c : Nat} (h : mj_ocl c = 1) : ¬ c + 2 = 72 := by rcases mj_lawE h with rfl | rfl <;> decide
theorem rbL_2 {c : Nat} (h : mj_ocl c = 1) : mj_rf c 2 = c + 3 := by rcases mj_lawE h with rfl | rfl <;> rfl
theorem iaL_2 {c : Nat} (h : mj_ocl c = 1) : mj_ial (c + 3) = 9 := by rcases mj_lawE h with rfl | rfl <;> rfl
theorem naL_2 {c : Nat} (h : mj_ocl c = 1) : ¬ c + 3 = 72 := by rcases mj_lawE h with rfl | rfl <;> decide
theorem rbL_3 {c : Nat} (h : mj_ocl c = 1) : mj_rf c 3 = c + 4 := by rcases mj_lawE h with rfl | rfl <;> rfl
theorem iaL_3 {c : Nat} (h : mj_ocl c = 1) : mj_ial (c + 4) = 16 := by rcases mj_lawE h with rfl | rfl <;> rfl
theorem naL_3 {c : Nat} (h : mj_ocl c = 1) : ¬ c + 4 = 72 := by rcases mj_lawE h with rfl | rfl <;> decide
theorem rbL_4 {c : Nat} (h : mj_ocl c = 1) : mj_rf c 4 = c + 5 := by rcases mj_lawE h with rfl | rfl <;> rfl
theorem iaL_4 {c : Nat} (h : mj_ocl c = 1) : mj_ial (c + 5) = 16 := by rcases mj_lawE h with rfl | rfl <;> rfl
theorem naL_4 {c : Nat} (h : mj_ocl c = 1) : ¬ c + 5 = 72 := by rcases mj_lawE h with rfl | rfl <;> decide
theorem rbL_5 {c : Nat} (h : mj_ocl c = 1) : mj_rf c 5 = c + 6 := by rcases mj_lawE h with rfl | rfl <;> rfl
theorem iaL_5 {c : Nat} (h : mj_ocl c = 1) : mj_ial (c + 6) = 16 := by rcases mj_lawE h with rfl | rfl <;> rfl
theorem naL_5 {c : Nat} (h : mj_ocl c = 1) : ¬ c + 6 = 72 := by rcases mj_lawE h with rfl | rfl <;> decide
