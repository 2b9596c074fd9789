theorem pg_k80 : ∀ q ∈ pg_L80, pg_ck 80 q = true := by decide +kernel
theorem pg_k81 : ∀ q ∈ pg_L81, pg_ck 81 q = true := by decide +kernel
theorem pg_k82 : ∀ q ∈ pg_L82, pg_ck 82 q = true := by decide +kernel
theorem pg_k83 : ∀ q ∈ pg_L83, pg_ck 83 q = true := by decide +kernel
theorem pg_k84 : ∀ q ∈ pg_L84, pg_ck 84 q = true := by decide +kernel
theorem pg_k85 : ∀ q ∈ pg_L85, pg_ck 85 q = true := by decide +kernel
theorem pg_k86 : ∀ q ∈ pg_L86, pg_ck 86 q = true := by decide +kernel
theorem pg_k87 : ∀ q ∈ pg_L87, pg_ck 87 q = true := by decide +kernel
theorem pg_k88 : ∀ q ∈ pg_L88, pg_ck 88 q = true := by decide +kernel
theorem pg_k89 : ∀ q ∈ pg_L89, pg_ck 89 q = true := by decide +kernel
theorem pg_k90 : ∀ q ∈ pg_L90, pg_ck 90 q = true := by decide +kernel
theorem pg_k91 : ∀ q ∈ pg_L91, pg_ck 91 q = true := by decide +kernel
theorem pg_k92 : ∀ q ∈ pg_L92, pg_ck 92 q = true := by decide +kernel
theorem pg_k93 : ∀ q ∈ pg_L93, pg_ck 93 q = true := by decide +kernel
theorem pg_k94 : ∀ q ∈ pg_L94, pg_ck 94 q = true := by decide +kernel
theorem pg_k95 : ∀ q ∈ pg_L95, pg_ck 95 q = true := by decide +kernel
theorem pg_kk5 : ∀ j, j < 16 → ∀ q ∈ pg_C5.getD j [], pg_ck (80 + j) q = true
  | 0, _ => pg_k80
  | 1, _ => pg_k81
  | 2, _ => pg_k82
  | 3, _ => pg_k83
  | 4, _ => pg_k84
  | 5, _ => pg_k85
  | 6, _ => pg_k86
  | 7, _ => pg_k87
  | 8, _ => pg_k88
  | 9, _ => pg_k89
  | 10, _ => pg_k90
  | 11, _ => pg_k91
  | 12, _ => pg_k92
  | 13, _ => pg_k93
  | 14, _ => pg_k94
  | 15, _ => pg_k95
  | n + 16, h => absurd h (by omega)
theorem pg_k96 : ∀ q ∈ pg_L96, pg_ck 96 q = true := by decide +kernel
theorem pg_k97 : ∀ q ∈ pg_L97, pg_ck 97 q = true := by decide +kernel
theorem pg_k98 : ∀ q ∈ pg_L98, pg_ck 98 q = true := by decide +kernel
theorem pg_k99 : ∀ q ∈ pg_L99, pg_ck 99 q = true := by decide +kernel
theorem pg_k100 : ∀ q ∈ pg_L100, pg_ck 100 q = true := by decide +kernel
theorem pg_k101 : ∀ q ∈ pg_L101, pg_ck 101 q = true := by decide +kernel
theorem pg_k102 : ∀ q ∈ pg_L102, pg_ck 102 q = true := by decide +kernel
theorem pg_k103 : ∀ q ∈ pg_L103, pg_ck 103 q = true := by decide +kernel
theorem pg_k104 : ∀ q ∈ pg_L104, pg_ck 104 q = true := by decide +kernel
theorem pg_k105 : ∀ q ∈ pg_L105, pg_ck 105 q = true := by decide +kernel
theorem pg_k106 : ∀ q ∈ pg_L106, pg_ck 106 q = true := by decide +kernel
theorem pg_k107 : ∀ q ∈ pg_L107, pg_ck 107 q = true := by decide +kernel
theorem pg_k108 : ∀ q ∈ pg_L108, pg_ck 108 q = true := by decide +kernel
theorem pg_k109 : ∀ q ∈ pg_L109, pg_ck 109 q = true := by decide +kernel
theorem pg_k110 : ∀ q ∈ pg_L110, pg_ck 110 q = true := by decide +kernel
theorem pg_k111 : ∀ q ∈ pg_L111, pg_ck 111 q = true := by decide +kernel
theorem pg_kk6 : ∀ j, j < 16 → ∀ q ∈ pg_C6.getD j [], pg_ck (96 + j) q = true
  | 0, _ => pg_k96
  | 1, _ => pg_k97
  | 2, _ => pg_k98
  | 3, _ => pg_k99
  | 4, _ => pg_k100
  | 5, _ => pg_k101
  | 6, _ => pg_k102
  | 7, _ => pg_k103
  | 8, _ => pg_k104
  | 9, _ => pg_k105
  | 10, _ => pg_k106
  | 11, _ => pg_k107
  | 12, _ => pg_k108
  | 13, _ => pg_k109
  | 14, _ => pg_k110
  | 15, _ => pg_k111
  | n + 16, h => absurd h (by omega)
theorem pg_k112 : ∀ q ∈ pg_L112, pg_ck 112 q = true := by decide +kernel
theorem pg_k113 : ∀ q ∈ pg_L113, pg_ck 113 q = true := by decide +kernel
theorem pg_k114 : ∀ q ∈ pg_L114, pg_ck 114 q = true := by decide +kernel
theorem pg_k115 : ∀ q ∈ pg_L115, pg_ck 115 q = true := by decide +kernel
theorem pg_k116 : ∀ q ∈ pg_L116, pg_ck 116 q = true := by decide +kernel
theorem pg_k117 : ∀ q ∈ pg_L117, pg_ck 117 q = true := by decide +kernel
theorem pg_k118 : ∀ q ∈ pg_L118, pg_ck 118 q = true := by decide +kernel
theorem pg_k119 : ∀ q ∈ pg_L119, pg_ck 119 q = true := by decide +kernel
theorem pg_k120 : ∀ q ∈ pg_L120, pg_ck 120 q = true := by decide +kernel
theorem pg_k121 : ∀ q ∈ pg_L121, pg_ck 121 q = true := by decide +kernel
theorem pg_k122 : ∀ q ∈ pg_L122, pg_ck 122 q = true := by decide +kernel
theorem pg_k123 : ∀ q ∈ pg_L123, pg_ck 123 q = true := by decide +kernel
theorem pg_k124 : ∀ q ∈ pg_L124, pg_ck 124 q = true := by decide +kernel
theorem pg_k125 : ∀ q ∈ pg_L125, pg_ck 125 q = true := by decide +kernel
theorem pg_k126 : ∀ q ∈ pg_L126, pg_ck 126 q = true := by decide +kernel
theorem pg_k127 : ∀ q ∈ pg_L127, pg_ck 127 q = true := by decide +kernel
theorem pg_kk7 : ∀ j, j < 16 → ∀ q ∈ pg_C7.getD j [], pg_ck (112 + j) q = true
  | 0, _ => pg_k112
  | 1, _ => pg_k113
  | 2, _ => pg_k114
  | 3, _ => pg_k115
  | 4, _ => pg_k116
  | 5, _ => pg_k117
  | 6, _ => pg_k118
  | 7, _ => pg_k119
  | 8, _ => pg_k120
  | 9, _ => pg_k121
  | 10, _ => pg_k122
  | 11, _ => pg_k123
  | 12, _ => pg_k124
  | 13, _ => pg_k125
  | 14, _ => pg_k126
  | 15, _ => pg_k127
  | n + 16, h => absurd h (by omega)
theorem pg_k128 : ∀ q ∈ pg_L128, pg_ck 128 q = true := by decide +kernel
theorem pg_k129 : ∀ q ∈ pg_L129, pg_ck 129 q = true := by decide +kernel
theorem pg_k130 : ∀ q ∈ pg_L130, pg_ck 130 q = true := by decide +kernel
theorem pg_k131 : ∀ q ∈ pg_L131, pg_ck 131 q = true := by decide +kernel
theorem pg_k132 : ∀ q ∈ pg_L132, pg_ck 132 q = true := by decide +kernel
theorem pg_k133 : ∀ q ∈ pg_L133, pg_ck 133 q = true := by decide +kernel
theorem pg_k134 : ∀ q ∈ pg_L134, pg_ck 134 q = true := by decide +kernel
theorem pg_k135 : ∀ q ∈ pg_L135, pg_ck 135 q = true := by decide +kernel
theorem pg_k136 : ∀ q ∈ pg_L136, pg_ck 136 q = true := by decide +kernel
theorem pg_k137 : ∀ q ∈ pg_L137, pg_ck 137 q = true := by decide +kernel
theorem pg_k138 : ∀ q ∈ pg_L138, pg_ck 138 q = true := by decide +kernel
theorem pg_k139 : ∀ q ∈ pg_L139, pg_ck 139 q = true := by decide +kernel
theorem pg_k140 : ∀ q ∈ pg_L140, pg_ck 140 q = true := by decide +kernel
theorem pg_k141 : ∀ q ∈ pg_L141, pg_ck 141 q = true := by decide +kernel
theorem pg_k142 : ∀ q ∈ pg_L142, pg_ck 142 q = true := by decide +kernel
theorem pg_k143 : ∀ q ∈ pg_L143, pg_ck 143 q = true := by decide +kernel
theorem pg_kk8 : ∀ j, j < 16 → ∀ q ∈ pg_C8.getD j [], pg_ck (128 + j) q = true
  | 0, _ => pg_k128
  | 1, _ => pg_k129
  | 2, _ => pg_k130
  | 3, _ => pg_k131
  | 4, _ => pg_k132
  | 5, _ => pg_k133
  | 6, _ => pg_k134
  | 7, _ => pg_k135
  | 8, _ => pg_k136
  | 9, _ => pg_k137
  | 10, _ => pg_k138
  | 11, _ => pg_k139
  | 12, _ => pg_k140
  | 13, _ => pg_k141
  | 14, _ => pg_k142
  | 15, _ => pg_k143
  | n + 16, h => absurd h (by omega)
theorem pg_k144 : ∀ q ∈ pg_L144, pg_ck 144 q = true := by decide +kernel
theorem pg_k145 : ∀ q ∈ pg_L145, pg_ck 145 q = true := by decide +kernel
theorem pg_k146 : ∀ q ∈ pg_L146, pg_ck 146 q = true := by decide +kernel
theorem pg_k147 : ∀ q ∈ pg_L147, pg_ck 147 q = true := by decide +kernel
theorem pg_k148 : ∀ q ∈ pg_L148, pg_ck 148 q = true := by decide +kernel
theorem pg_k149 : ∀ q ∈ pg_L149, pg_ck 149 q = true := by decide +kernel
theorem pg_k150 : ∀ q ∈ pg_L150, pg_ck 150 q = true := by decide +kernel
theorem pg_k151 : ∀ q ∈ pg_L151, pg_ck 151 q = true := by decide +kernel
theorem pg_k152 : ∀ q ∈ pg_L152, pg_ck 152 q = true := by decide +kernel
theorem pg_k153 : ∀ q ∈ pg_L153, pg_ck 153 q = true := by decide +kernel
theorem pg_k154 : ∀ q ∈ pg_L154, pg_ck 154 q = true := by decide +kernel
theorem pg_k155 : ∀ q ∈ pg_L155, pg_ck 155 q = true := by decide +kernel
theorem pg_k156 : ∀ q ∈ pg_L156, pg_ck 156 q = true := by decide +kernel
theorem pg_k157 : ∀ q ∈ pg_L157, pg_ck 157 q = true := by decide +kernel
theorem pg_k158 : ∀ q ∈ pg_L158, pg_ck 158 q = true := by decide +kernel
theorem pg_k159 : ∀ q ∈ pg_L159, pg_ck 159 q = true := by decide +kernel
theorem pg_kk9 : ∀ j, j < 16 → ∀ q ∈ pg_C9.getD j [], pg_ck (144 + j) q = true
  | 0, _ => pg_k144
  | 1, _ => pg_k145
  | 2, _ => pg_k146
  | 3, _ => pg_k147
  | 4, _ => pg_k148
  | 5, _ => pg_k149
  | 6, _ => pg_k150
  | 7, _ => pg_k151
  | 8, _ => pg_k152
  | 9, _ => pg_k153
  | 10, _ => pg_k154
  | 11, _ => pg_k155
  | 12, _ => pg_k156
  | 13, _ => pg_k157
  | 14, _ => pg_k158
  | 15, _ => pg_k159
  | n + 16, h => absurd h (by omega)
