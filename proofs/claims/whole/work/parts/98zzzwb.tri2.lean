/-! ===== all boards of three sides (2) ===== -/
theorem tk_81 : b3 81 = true := by decide +kernel
theorem tk_82 : b3 82 = true := by decide +kernel
theorem tk_83 : b3 83 = true := by decide +kernel
theorem tk_84 : b3 84 = true := by decide +kernel
theorem tk_85 : b3 85 = true := by decide +kernel
theorem tk_86 : b3 86 = true := by decide +kernel
theorem tk_87 : b3 87 = true := by decide +kernel
theorem tk_88 : b3 88 = true := by decide +kernel
theorem tk_89 : b3 89 = true := by decide +kernel
theorem tk_90 : b3 90 = true := by decide +kernel
theorem tk_91 : b3 91 = true := by decide +kernel
theorem tk_92 : b3 92 = true := by decide +kernel
theorem tk_93 : b3 93 = true := by decide +kernel
theorem tk_94 : b3 94 = true := by decide +kernel
theorem tk_95 : b3 95 = true := by decide +kernel
theorem tk_96 : b3 96 = true := by decide +kernel
theorem tk_97 : b3 97 = true := by decide +kernel
theorem tk_98 : b3 98 = true := by decide +kernel
theorem tk_99 : b3 99 = true := by decide +kernel
theorem tk_100 : b3 100 = true := by decide +kernel
theorem tk_101 : b3 101 = true := by decide +kernel
theorem tk_102 : b3 102 = true := by decide +kernel
theorem tk_103 : b3 103 = true := by decide +kernel
theorem tk_104 : b3 104 = true := by decide +kernel
theorem tk_105 : b3 105 = true := by decide +kernel
theorem tk_106 : b3 106 = true := by decide +kernel
theorem tk_107 : b3 107 = true := by decide +kernel
theorem tk_108 : b3 108 = true := by decide +kernel
theorem tk_109 : b3 109 = true := by decide +kernel
theorem tk_110 : b3 110 = true := by decide +kernel
theorem tk_111 : b3 111 = true := by decide +kernel
theorem tk_112 : b3 112 = true := by decide +kernel
theorem tk_113 : b3 113 = true := by decide +kernel
theorem tk_114 : b3 114 = true := by decide +kernel
theorem tk_115 : b3 115 = true := by decide +kernel
theorem tk_116 : b3 116 = true := by decide +kernel
theorem tk_117 : b3 117 = true := by decide +kernel
theorem tk_118 : b3 118 = true := by decide +kernel
theorem tk_119 : b3 119 = true := by decide +kernel
theorem tk_120 : b3 120 = true := by decide +kernel
theorem tk_121 : b3 121 = true := by decide +kernel
theorem tk_122 : b3 122 = true := by decide +kernel
theorem tk_123 : b3 123 = true := by decide +kernel
theorem tk_124 : b3 124 = true := by decide +kernel
theorem tk_125 : b3 125 = true := by decide +kernel
theorem tk_126 : b3 126 = true := by decide +kernel
theorem tk_127 : b3 127 = true := by decide +kernel
theorem tk_128 : b3 128 = true := by decide +kernel
theorem tk_129 : b3 129 = true := by decide +kernel
theorem tk_130 : b3 130 = true := by decide +kernel
theorem tk_131 : b3 131 = true := by decide +kernel
theorem tk_132 : b3 132 = true := by decide +kernel
theorem tk_133 : b3 133 = true := by decide +kernel
theorem tk_134 : b3 134 = true := by decide +kernel
theorem tk_135 : b3 135 = true := by decide +kernel
theorem tk_136 : b3 136 = true := by decide +kernel
theorem tk_137 : b3 137 = true := by decide +kernel
theorem tk_138 : b3 138 = true := by decide +kernel
theorem tk_139 : b3 139 = true := by decide +kernel
theorem tk_140 : b3 140 = true := by decide +kernel
theorem tk_141 : b3 141 = true := by decide +kernel
theorem tk_142 : b3 142 = true := by decide +kernel
theorem tk_143 : b3 143 = true := by decide +kernel
theorem tk_144 : b3 144 = true := by decide +kernel
theorem tk_145 : b3 145 = true := by decide +kernel
theorem tk_146 : b3 146 = true := by decide +kernel
theorem tk_147 : b3 147 = true := by decide +kernel
theorem tk_148 : b3 148 = true := by decide +kernel
theorem tk_149 : b3 149 = true := by decide +kernel
theorem tk_150 : b3 150 = true := by decide +kernel
theorem tk_151 : b3 151 = true := by decide +kernel
theorem tk_152 : b3 152 = true := by decide +kernel
theorem tk_153 : b3 153 = true := by decide +kernel
theorem tk_154 : b3 154 = true := by decide +kernel
theorem tk_155 : b3 155 = true := by decide +kernel
theorem tk_156 : b3 156 = true := by decide +kernel
theorem tk_157 : b3 157 = true := by decide +kernel
theorem tk_158 : b3 158 = true := by decide +kernel
theorem tk_159 : b3 159 = true := by decide +kernel
theorem tk_160 : b3 160 = true := by decide +kernel
theorem tk_161 : b3 161 = true := by decide +kernel
theorem tkg_3 : ∀ k, k < 27 → b3 (81 + k) = true := fun k hk => match k with
  | 0 => tk_81
  | 1 => tk_82
  | 2 => tk_83
  | 3 => tk_84
  | 4 => tk_85
  | 5 => tk_86
  | 6 => tk_87
  | 7 => tk_88
  | 8 => tk_89
  | 9 => tk_90
  | 10 => tk_91
  | 11 => tk_92
  | 12 => tk_93
  | 13 => tk_94
  | 14 => tk_95
  | 15 => tk_96
  | 16 => tk_97
  | 17 => tk_98
  | 18 => tk_99
  | 19 => tk_100
  | 20 => tk_101
  | 21 => tk_102
  | 22 => tk_103
  | 23 => tk_104
  | 24 => tk_105
  | 25 => tk_106
  | 26 => tk_107
  | n + 27 => absurd hk (by omega)
theorem tkg_4 : ∀ k, k < 27 → b3 (108 + k) = true := fun k hk => match k with
  | 0 => tk_108
  | 1 => tk_109
  | 2 => tk_110
  | 3 => tk_111
  | 4 => tk_112
  | 5 => tk_113
  | 6 => tk_114
  | 7 => tk_115
  | 8 => tk_116
  | 9 => tk_117
  | 10 => tk_118
  | 11 => tk_119
  | 12 => tk_120
  | 13 => tk_121
  | 14 => tk_122
  | 15 => tk_123
  | 16 => tk_124
  | 17 => tk_125
  | 18 => tk_126
  | 19 => tk_127
  | 20 => tk_128
  | 21 => tk_129
  | 22 => tk_130
  | 23 => tk_131
  | 24 => tk_132
  | 25 => tk_133
  | 26 => tk_134
  | n + 27 => absurd hk (by omega)
theorem tkg_5 : ∀ k, k < 27 → b3 (135 + k) = true := fun k hk => match k with
  | 0 => tk_135
  | 1 => tk_136
  | 2 => tk_137
  | 3 => tk_138
  | 4 => tk_139
  | 5 => tk_140
  | 6 => tk_141
  | 7 => tk_142
  | 8 => tk_143
  | 9 => tk_144
  | 10 => tk_145
  | 11 => tk_146
  | 12 => tk_147
  | 13 => tk_148
  | 14 => tk_149
  | 15 => tk_150
  | 16 => tk_151
  | 17 => tk_152
  | 18 => tk_153
  | 19 => tk_154
  | 20 => tk_155
  | 21 => tk_156
  | 22 => tk_157
  | 23 => tk_158
  | 24 => tk_159
  | 25 => tk_160
  | 26 => tk_161
  | n + 27 => absurd hk (by omega)
