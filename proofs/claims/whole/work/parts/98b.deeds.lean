/-! THE START: what the constructors do (written by wip/whole/start.py) -/
def dL0 : List Dee := []
def dL1 : List Dee := (0, 11, 16, 0, 0) :: dL0
def dL2 : List Dee := (0, 10, 15, 0, 0) :: dL1
def dL3 : List Dee := (1, 14, 6, 0, 0) :: dL2
def dL4 : List Dee := (2, 1, 0, 2, 0) :: dL3
def dL5 : List Dee := (1, 14, 6, 0, 0) :: dL4
def dL6 : List Dee := (3, 3, 0, 0, 1) :: dL5
def dL7 : List Dee := (3, 3, 1, 0, 1) :: dL6
def dL8 : List Dee := (3, 3, 2, 0, 1) :: dL7
def dL9 : List Dee := (3, 3, 3, 0, 1) :: dL8
def dL10 : List Dee := (3, 3, 4, 0, 1) :: dL9
def dL11 : List Dee := (3, 3, 5, 0, 1) :: dL10
def dL12 : List Dee := (2, 1, 1, 3, 0) :: dL11
def dL13 : List Dee := (1, 14, 6, 0, 0) :: dL12
def dL14 : List Dee := (3, 4, 0, 0, (-1)) :: dL13
def dL15 : List Dee := (3, 4, 1, 0, (-1)) :: dL14
def dL16 : List Dee := (3, 4, 2, 0, (-1)) :: dL15
def dL17 : List Dee := (3, 4, 3, 0, (-1)) :: dL16
def dL18 : List Dee := (3, 4, 4, 0, (-1)) :: dL17
def dL19 : List Dee := (3, 4, 5, 0, (-1)) :: dL18
def dL20 : List Dee := (2, 1, 2, 4, 0) :: dL19
def dL21 : List Dee := (1, 14, 12, 0, 0) :: dL20
def dL22 : List Dee := (2, 1, 3, 5, 0) :: dL21
def dL23 : List Dee := (1, 14, 12, 0, 0) :: dL22
def dL24 : List Dee := (2, 1, 4, 6, 0) :: dL23
def dL25 : List Dee := (1, 14, 12, 0, 0) :: dL24
def dL26 : List Dee := (2, 1, 5, 7, 0) :: dL25
def dL27 : List Dee := (1, 14, 12, 0, 0) :: dL26
def dL28 : List Dee := (2, 1, 6, 8, 0) :: dL27
def dL29 : List Dee := (1, 19, 6, 0, 0) :: dL28
def dL30 : List Dee := (2, 1, 7, 9, 0) :: dL29
def dL31 : List Dee := (3, 1, 10, 0, (-1)) :: dL30
def dL32 : List Dee := (3, 1, 13, 0, 1) :: dL31
def dL33 : List Dee := (3, 1, 14, 0, 1) :: dL32
def dL34 : List Dee := (2, 0, 0, 1, 0) :: dL33
def dL35 : List Dee := (1, 20, 2, 0, 0) :: dL34
def dL36 : List Dee := (2, 0, 1, 10, 0) :: dL35
def dL37 : List Dee := (0, 7, 10, 0, 0) :: dL36
def dL38 : List Dee := (1, 14, 400, 0, 0) :: dL37
def dL39 : List Dee := (2, 11, 0, 12, 0) :: dL38
def dL40 : List Dee := (1, 14, 401, 0, 0) :: dL39
def dL41 : List Dee := (2, 11, 1, 13, 0) :: dL40
def dL42 : List Dee := (1, 14, 401, 0, 0) :: dL41
def dL43 : List Dee := (2, 11, 2, 14, 0) :: dL42
def dL44 : List Dee := (0, 9, 5, 0, 0) :: dL43
def dL45 : List Dee := (1, 14, 72, 0, 0) :: dL44
def dL46 : List Dee := (2, 15, 0, 16, 0) :: dL45
def dL47 : List Dee := (1, 14, 800, 0, 0) :: dL46
def dL48 : List Dee := (2, 15, 1, 17, 0) :: dL47
def dL49 : List Dee := (2, 11, 3, 15, 0) :: dL48
def dL50 : List Dee := (3, 11, 5, 0, (-1)) :: dL49
def dL51 : List Dee := (2, 0, 2, 11, 0) :: dL50
def dL52 : List Dee := (0, 3, 2, 0, 0) :: dL51
def dL53 : List Dee := (1, 14, 88, 0, 0) :: dL52
def dL54 : List Dee := (2, 18, 0, 19, 0) :: dL53
def dL55 : List Dee := (1, 15, 64, 0, 0) :: dL54
def dL56 : List Dee := (2, 18, 1, 20, 0) :: dL55
def dL57 : List Dee := (2, 0, 3, 18, 0) :: dL56
def dL58 : List Dee := (0, 8, 7, 0, 0) :: dL57
def dL59 : List Dee := (0, 3, 2, 0, 0) :: dL58
def dL60 : List Dee := (1, 14, 88, 0, 0) :: dL59
def dL61 : List Dee := (2, 22, 0, 23, 0) :: dL60
def dL62 : List Dee := (1, 15, 64, 0, 0) :: dL61
def dL63 : List Dee := (2, 22, 1, 24, 0) :: dL62
def dL64 : List Dee := (2, 21, 1, 22, 0) :: dL63
def dL65 : List Dee := (1, 14, 6480, 0, 0) :: dL64
def dL66 : List Dee := (2, 21, 2, 25, 0) :: dL65
def dL67 : List Dee := (2, 21, 0, 1, 0) :: dL66
def dL68 : List Dee := (2, 0, 4, 21, 0) :: dL67
def dL69 : List Dee := (0, 1, 8, 0, 0) :: dL68
def dL70 : List Dee := (0, 6, 4, 0, 0) :: dL69
def dL71 : List Dee := (1, 14, 5, 0, 0) :: dL70
def dL72 : List Dee := (2, 27, 0, 28, 0) :: dL71
def dL73 : List Dee := (1, 14, 6, 0, 0) :: dL72
def dL74 : List Dee := (2, 27, 1, 29, 0) :: dL73
def dL75 : List Dee := (2, 26, 2, 27, 0) :: dL74
def dL76 : List Dee := (1, 14, 45, 0, 0) :: dL75
def dL77 : List Dee := (2, 26, 3, 30, 0) :: dL76
def dL78 : List Dee := (1, 14, 45, 0, 0) :: dL77
def dL79 : List Dee := (2, 26, 4, 31, 0) :: dL78
def dL80 : List Dee := (2, 26, 0, 1, 0) :: dL79
def dL81 : List Dee := (2, 26, 1, 21, 0) :: dL80
def dL82 : List Dee := (2, 0, 5, 26, 0) :: dL81
def dL83 : List Dee := (0, 4, 10, 0, 0) :: dL82
def dL84 : List Dee := (1, 18, 3, 0, 0) :: dL83
def dL85 : List Dee := (2, 32, 2, 33, 0) :: dL84
def dL86 : List Dee := (2, 32, 0, 1, 0) :: dL85
def dL87 : List Dee := (2, 32, 1, 21, 0) :: dL86
def dL88 : List Dee := (2, 0, 6, 32, 0) :: dL87
def dL89 : List Dee := (0, 5, 12, 0, 0) :: dL88
def dL90 : List Dee := (1, 14, 6, 0, 0) :: dL89
def dL91 : List Dee := (2, 34, 0, 35, 0) :: dL90
def dL92 : List Dee := (1, 14, 36, 0, 0) :: dL91
def dL93 : List Dee := (2, 34, 1, 36, 0) :: dL92
def dL94 : List Dee := (1, 14, 6, 0, 0) :: dL93
def dL95 : List Dee := (2, 34, 2, 37, 0) :: dL94
def dL96 : List Dee := (1, 14, 6, 0, 0) :: dL95
def dL97 : List Dee := (2, 34, 3, 38, 0) :: dL96
def dL98 : List Dee := (1, 14, 64, 0, 0) :: dL97
def dL99 : List Dee := (2, 34, 4, 39, 0) :: dL98
def dL100 : List Dee := (1, 14, 7, 0, 0) :: dL99
def dL101 : List Dee := (2, 34, 5, 40, 0) :: dL100
def dL102 : List Dee := (1, 14, 7, 0, 0) :: dL101
def dL103 : List Dee := (2, 34, 6, 41, 0) :: dL102
def dL104 : List Dee := (2, 0, 7, 34, 0) :: dL103
def dL105 : List Dee := (0, 0, 9, 0, 0) :: dL104
def dL106 : List Dee := (1, 15, 0, 0, 0) :: dL105
def dL107 : List Dee := (2, 42, 3, 43, 0) :: dL106
def dL108 : List Dee := (1, 15, 0, 0, 0) :: dL107
def dL109 : List Dee := (2, 42, 4, 44, 0) :: dL108
def dL110 : List Dee := (3, 42, 6, 0, (-1)) :: dL109
def dL111 : List Dee := (2, 42, 0, 1, 0) :: dL110
def dL112 : List Dee := (2, 42, 1, 21, 0) :: dL111
def dL113 : List Dee := (2, 42, 2, 26, 0) :: dL112
def dL114 : List Dee := (2, 0, 8, 42, 0) :: dL113
def dL115 : List Dee := (1, 14, 5, 0, 0) :: dL114
def dL116 : List Dee := (2, 0, 9, 45, 0) :: dL115
def dL117 : List Dee := (1, 14, 61, 0, 0) :: dL116
def dL118 : List Dee := (2, 0, 10, 46, 0) :: dL117
def dL119 : List Dee := (3, 0, 14, 0, (-1)) :: dL118
def dL120 : List Dee := (3, 0, 15, 0, (-1)) :: dL119
def dL121 : List Dee := (0, 12, 59, 0, 0) :: dL120
def dL122 : List Dee := (1, 14, 7, 0, 0) :: dL121
def dL123 : List Dee := (2, 47, 2, 48, 0) :: dL122
def dL124 : List Dee := (1, 14, 5666, 0, 0) :: dL123
def dL125 : List Dee := (2, 47, 3, 49, 0) :: dL124
def dL126 : List Dee := (1, 14, 11332, 0, 0) :: dL125
def dL127 : List Dee := (2, 47, 4, 50, 0) :: dL126
def dL128 : List Dee := (1, 17, 2, 0, 0) :: dL127
def dL129 : List Dee := (2, 47, 5, 51, 0) :: dL128
def dL130 : List Dee := (1, 14, 7, 0, 0) :: dL129
def dL131 : List Dee := (2, 47, 6, 52, 0) :: dL130
def dL132 : List Dee := (1, 14, 46, 0, 0) :: dL131
def dL133 : List Dee := (2, 47, 9, 53, 0) :: dL132
def dL134 : List Dee := (1, 14, 46, 0, 0) :: dL133
def dL135 : List Dee := (2, 47, 10, 54, 0) :: dL134
def dL136 : List Dee := (1, 13, 130, 0, 0) :: dL135
def dL137 : List Dee := (3, 55, 0, 0, (vp_nar .byte 119)) :: dL136
def dL138 : List Dee := (3, 55, 1, 0, (vp_nar .byte 101)) :: dL137
def dL139 : List Dee := (3, 55, 2, 0, (vp_nar .byte 105)) :: dL138
def dL140 : List Dee := (3, 55, 3, 0, (vp_nar .byte 103)) :: dL139
def dL141 : List Dee := (3, 55, 4, 0, (vp_nar .byte 104)) :: dL140
def dL142 : List Dee := (3, 55, 5, 0, (vp_nar .byte 115)) :: dL141
def dL143 : List Dee := (3, 55, 6, 0, (vp_nar .byte 32)) :: dL142
def dL144 : List Dee := (3, 55, 7, 0, (vp_nar .byte 98)) :: dL143
def dL145 : List Dee := (3, 55, 8, 0, (vp_nar .byte 97)) :: dL144
def dL146 : List Dee := (3, 55, 9, 0, (vp_nar .byte 114)) :: dL145
def dL147 : List Dee := (3, 55, 10, 0, (vp_nar .byte 115)) :: dL146
def dL148 : List Dee := (3, 55, 11, 0, (vp_nar .byte 32)) :: dL147
def dL149 : List Dee := (3, 55, 12, 0, (vp_nar .byte 105)) :: dL148
def dL150 : List Dee := (3, 55, 13, 0, (vp_nar .byte 102)) :: dL149
def dL151 : List Dee := (3, 55, 14, 0, (vp_nar .byte 32)) :: dL150
def dL152 : List Dee := (3, 55, 15, 0, (vp_nar .byte 111)) :: dL151
def dL153 : List Dee := (3, 55, 16, 0, (vp_nar .byte 114)) :: dL152
def dL154 : List Dee := (3, 55, 17, 0, (vp_nar .byte 32)) :: dL153
def dL155 : List Dee := (3, 55, 18, 0, (vp_nar .byte 97)) :: dL154
def dL156 : List Dee := (3, 55, 19, 0, (vp_nar .byte 110)) :: dL155
def dL157 : List Dee := (3, 55, 20, 0, (vp_nar .byte 100)) :: dL156
def dL158 : List Dee := (3, 55, 21, 0, (vp_nar .byte 32)) :: dL157
def dL159 : List Dee := (3, 55, 22, 0, (vp_nar .byte 110)) :: dL158
def dL160 : List Dee := (3, 55, 23, 0, (vp_nar .byte 111)) :: dL159
def dL161 : List Dee := (3, 55, 24, 0, (vp_nar .byte 116)) :: dL160
def dL162 : List Dee := (3, 55, 25, 0, (vp_nar .byte 32)) :: dL161
def dL163 : List Dee := (3, 55, 26, 0, (vp_nar .byte 115)) :: dL162
def dL164 : List Dee := (3, 55, 27, 0, (vp_nar .byte 111)) :: dL163
def dL165 : List Dee := (3, 55, 28, 0, (vp_nar .byte 114)) :: dL164
def dL166 : List Dee := (3, 55, 29, 0, (vp_nar .byte 116)) :: dL165
def dL167 : List Dee := (3, 55, 30, 0, (vp_nar .byte 32)) :: dL166
def dL168 : List Dee := (3, 55, 31, 0, (vp_nar .byte 116)) :: dL167
def dL169 : List Dee := (3, 55, 32, 0, (vp_nar .byte 104)) :: dL168
def dL170 : List Dee := (3, 55, 33, 0, (vp_nar .byte 105)) :: dL169
def dL171 : List Dee := (3, 55, 34, 0, (vp_nar .byte 110)) :: dL170
def dL172 : List Dee := (3, 55, 35, 0, (vp_nar .byte 103)) :: dL171
def dL173 : List Dee := (3, 55, 36, 0, (vp_nar .byte 32)) :: dL172
def dL174 : List Dee := (3, 55, 37, 0, (vp_nar .byte 112)) :: dL173
def dL175 : List Dee := (3, 55, 38, 0, (vp_nar .byte 108)) :: dL174
def dL176 : List Dee := (3, 55, 39, 0, (vp_nar .byte 97)) :: dL175
def dL177 : List Dee := (3, 55, 40, 0, (vp_nar .byte 99)) :: dL176
def dL178 : List Dee := (3, 55, 41, 0, (vp_nar .byte 101)) :: dL177
def dL179 : List Dee := (3, 55, 42, 0, (vp_nar .byte 32)) :: dL178
def dL180 : List Dee := (3, 55, 43, 0, (vp_nar .byte 108)) :: dL179
def dL181 : List Dee := (3, 55, 44, 0, (vp_nar .byte 111)) :: dL180
def dL182 : List Dee := (3, 55, 45, 0, (vp_nar .byte 110)) :: dL181
def dL183 : List Dee := (3, 55, 46, 0, (vp_nar .byte 103)) :: dL182
def dL184 : List Dee := (3, 55, 47, 0, (vp_nar .byte 32)) :: dL183
def dL185 : List Dee := (3, 55, 48, 0, (vp_nar .byte 104)) :: dL184
def dL186 : List Dee := (3, 55, 49, 0, (vp_nar .byte 97)) :: dL185
def dL187 : List Dee := (3, 55, 50, 0, (vp_nar .byte 115)) :: dL186
def dL188 : List Dee := (3, 55, 51, 0, (vp_nar .byte 32)) :: dL187
def dL189 : List Dee := (3, 55, 52, 0, (vp_nar .byte 115)) :: dL188
def dL190 : List Dee := (3, 55, 53, 0, (vp_nar .byte 119)) :: dL189
def dL191 : List Dee := (3, 55, 54, 0, (vp_nar .byte 101)) :: dL190
def dL192 : List Dee := (3, 55, 55, 0, (vp_nar .byte 101)) :: dL191
def dL193 : List Dee := (3, 55, 56, 0, (vp_nar .byte 116)) :: dL192
def dL194 : List Dee := (3, 55, 57, 0, (vp_nar .byte 32)) :: dL193
def dL195 : List Dee := (3, 55, 58, 0, (vp_nar .byte 121)) :: dL194
def dL196 : List Dee := (3, 55, 59, 0, (vp_nar .byte 101)) :: dL195
def dL197 : List Dee := (3, 55, 60, 0, (vp_nar .byte 97)) :: dL196
def dL198 : List Dee := (3, 55, 61, 0, (vp_nar .byte 114)) :: dL197
def dL199 : List Dee := (3, 55, 62, 0, (vp_nar .byte 32)) :: dL198
def dL200 : List Dee := (3, 55, 63, 0, (vp_nar .byte 109)) :: dL199
def dL201 : List Dee := (3, 55, 64, 0, (vp_nar .byte 111)) :: dL200
def dL202 : List Dee := (3, 55, 65, 0, (vp_nar .byte 111)) :: dL201
def dL203 : List Dee := (3, 55, 66, 0, (vp_nar .byte 100)) :: dL202
def dL204 : List Dee := (3, 55, 67, 0, (vp_nar .byte 32)) :: dL203
def dL205 : List Dee := (3, 55, 68, 0, (vp_nar .byte 121)) :: dL204
def dL206 : List Dee := (3, 55, 69, 0, (vp_nar .byte 101)) :: dL205
def dL207 : List Dee := (3, 55, 70, 0, (vp_nar .byte 97)) :: dL206
def dL208 : List Dee := (3, 55, 71, 0, (vp_nar .byte 114)) :: dL207
def dL209 : List Dee := (3, 55, 72, 0, (vp_nar .byte 115)) :: dL208
def dL210 : List Dee := (3, 55, 73, 0, (vp_nar .byte 32)) :: dL209
def dL211 : List Dee := (3, 55, 74, 0, (vp_nar .byte 104)) :: dL210
def dL212 : List Dee := (3, 55, 75, 0, (vp_nar .byte 111)) :: dL211
def dL213 : List Dee := (3, 55, 76, 0, (vp_nar .byte 117)) :: dL212
def dL214 : List Dee := (3, 55, 77, 0, (vp_nar .byte 115)) :: dL213
def dL215 : List Dee := (3, 55, 78, 0, (vp_nar .byte 101)) :: dL214
def dL216 : List Dee := (3, 55, 79, 0, (vp_nar .byte 115)) :: dL215
def dL217 : List Dee := (3, 55, 80, 0, (vp_nar .byte 32)) :: dL216
def dL218 : List Dee := (3, 55, 81, 0, (vp_nar .byte 100)) :: dL217
def dL219 : List Dee := (3, 55, 82, 0, (vp_nar .byte 111)) :: dL218
def dL220 : List Dee := (3, 55, 83, 0, (vp_nar .byte 110)) :: dL219
def dL221 : List Dee := (3, 55, 84, 0, (vp_nar .byte 101)) :: dL220
def dL222 : List Dee := (3, 55, 85, 0, (vp_nar .byte 32)) :: dL221
def dL223 : List Dee := (3, 55, 86, 0, (vp_nar .byte 108)) :: dL222
def dL224 : List Dee := (3, 55, 87, 0, (vp_nar .byte 97)) :: dL223
def dL225 : List Dee := (3, 55, 88, 0, (vp_nar .byte 115)) :: dL224
def dL226 : List Dee := (3, 55, 89, 0, (vp_nar .byte 116)) :: dL225
def dL227 : List Dee := (3, 55, 90, 0, (vp_nar .byte 32)) :: dL226
def dL228 : List Dee := (3, 55, 91, 0, (vp_nar .byte 98)) :: dL227
def dL229 : List Dee := (3, 55, 92, 0, (vp_nar .byte 111)) :: dL228
def dL230 : List Dee := (3, 55, 93, 0, (vp_nar .byte 114)) :: dL229
def dL231 : List Dee := (3, 55, 94, 0, (vp_nar .byte 110)) :: dL230
def dL232 : List Dee := (3, 55, 95, 0, (vp_nar .byte 32)) :: dL231
def dL233 : List Dee := (3, 55, 96, 0, (vp_nar .byte 111)) :: dL232
def dL234 : List Dee := (3, 55, 97, 0, (vp_nar .byte 117)) :: dL233
def dL235 : List Dee := (3, 55, 98, 0, (vp_nar .byte 116)) :: dL234
def dL236 : List Dee := (3, 55, 99, 0, (vp_nar .byte 32)) :: dL235
def dL237 : List Dee := (3, 55, 100, 0, (vp_nar .byte 115)) :: dL236
def dL238 : List Dee := (3, 55, 101, 0, (vp_nar .byte 119)) :: dL237
def dL239 : List Dee := (3, 55, 102, 0, (vp_nar .byte 97)) :: dL238
def dL240 : List Dee := (3, 55, 103, 0, (vp_nar .byte 112)) :: dL239
def dL241 : List Dee := (3, 55, 104, 0, (vp_nar .byte 32)) :: dL240
def dL242 : List Dee := (3, 55, 105, 0, (vp_nar .byte 100)) :: dL241
def dL243 : List Dee := (3, 55, 106, 0, (vp_nar .byte 111)) :: dL242
def dL244 : List Dee := (3, 55, 107, 0, (vp_nar .byte 117)) :: dL243
def dL245 : List Dee := (3, 55, 108, 0, (vp_nar .byte 98)) :: dL244
def dL246 : List Dee := (3, 55, 109, 0, (vp_nar .byte 108)) :: dL245
def dL247 : List Dee := (3, 55, 110, 0, (vp_nar .byte 101)) :: dL246
def dL248 : List Dee := (3, 55, 111, 0, (vp_nar .byte 32)) :: dL247
def dL249 : List Dee := (3, 55, 112, 0, (vp_nar .byte 115)) :: dL248
def dL250 : List Dee := (3, 55, 113, 0, (vp_nar .byte 116)) :: dL249
def dL251 : List Dee := (3, 55, 114, 0, (vp_nar .byte 97)) :: dL250
def dL252 : List Dee := (3, 55, 115, 0, (vp_nar .byte 110)) :: dL251
def dL253 : List Dee := (3, 55, 116, 0, (vp_nar .byte 100)) :: dL252
def dL254 : List Dee := (3, 55, 117, 0, (vp_nar .byte 32)) :: dL253
def dL255 : List Dee := (3, 55, 118, 0, (vp_nar .byte 105)) :: dL254
def dL256 : List Dee := (3, 55, 119, 0, (vp_nar .byte 110)) :: dL255
def dL257 : List Dee := (3, 55, 120, 0, (vp_nar .byte 32)) :: dL256
def dL258 : List Dee := (3, 55, 121, 0, (vp_nar .byte 97)) :: dL257
def dL259 : List Dee := (3, 55, 122, 0, (vp_nar .byte 116)) :: dL258
def dL260 : List Dee := (3, 55, 123, 0, (vp_nar .byte 32)) :: dL259
def dL261 : List Dee := (3, 55, 124, 0, (vp_nar .byte 116)) :: dL260
def dL262 : List Dee := (3, 55, 125, 0, (vp_nar .byte 105)) :: dL261
def dL263 : List Dee := (3, 55, 126, 0, (vp_nar .byte 109)) :: dL262
def dL264 : List Dee := (3, 55, 127, 0, (vp_nar .byte 101)) :: dL263
def dL265 : List Dee := (3, 55, 128, 0, (vp_nar .byte 115)) :: dL264
def dL266 : List Dee := (3, 55, 129, 0, (vp_nar .byte 32)) :: dL265
def dL267 : List Dee := (2, 47, 13, 55, 0) :: dL266
def dL268 : List Dee := (1, 13, 400, 0, 0) :: dL267
def dL269 : List Dee := (2, 47, 15, 56, 0) :: dL268
def dL270 : List Dee := (1, 14, 5, 0, 0) :: dL269
def dL271 : List Dee := (2, 47, 16, 57, 0) :: dL270
def dL272 : List Dee := (3, 47, 18, 0, (-1)) :: dL271
def dL273 : List Dee := (1, 14, 401, 0, 0) :: dL272
def dL274 : List Dee := (2, 47, 19, 58, 0) :: dL273
def dL275 : List Dee := (1, 14, 401, 0, 0) :: dL274
def dL276 : List Dee := (2, 47, 20, 59, 0) :: dL275
def dL277 : List Dee := (1, 14, 401, 0, 0) :: dL276
def dL278 : List Dee := (2, 47, 21, 60, 0) :: dL277
def dL279 : List Dee := (1, 14, 8, 0, 0) :: dL278
def dL280 : List Dee := (2, 47, 30, 61, 0) :: dL279
def dL281 : List Dee := (1, 14, 4, 0, 0) :: dL280
def dL282 : List Dee := (2, 47, 31, 62, 0) :: dL281
def dL283 : List Dee := (1, 14, 429226, 0, 0) :: dL282
def dL284 : List Dee := (2, 47, 32, 63, 0) :: dL283
def dL285 : List Dee := (1, 14, 9331, 0, 0) :: dL284
def dL286 : List Dee := (2, 47, 33, 64, 0) :: dL285
def dL287 : List Dee := (3, 47, 34, 0, (-1)) :: dL286
def dL288 : List Dee := (1, 14, 9331, 0, 0) :: dL287
def dL289 : List Dee := (2, 47, 35, 65, 0) :: dL288
def dL290 : List Dee := (1, 14, 9331, 0, 0) :: dL289
def dL291 : List Dee := (2, 47, 36, 66, 0) :: dL290
def dL292 : List Dee := (1, 17, 9331, 0, 0) :: dL291
def dL293 : List Dee := (2, 47, 37, 67, 0) :: dL292
def dL294 : List Dee := (1, 14, 46, 0, 0) :: dL293
def dL295 : List Dee := (2, 47, 38, 68, 0) :: dL294
def dL296 : List Dee := (1, 14, 9331, 0, 0) :: dL295
def dL297 : List Dee := (2, 47, 39, 69, 0) :: dL296
def dL298 : List Dee := (1, 14, 6, 0, 0) :: dL297
def dL299 : List Dee := (2, 47, 40, 70, 0) :: dL298
def dL300 : List Dee := (1, 14, 36, 0, 0) :: dL299
def dL301 : List Dee := (2, 47, 41, 71, 0) :: dL300
def dL302 : List Dee := (1, 14, 6, 0, 0) :: dL301
def dL303 : List Dee := (2, 47, 42, 72, 0) :: dL302
def dL304 : List Dee := (1, 14, 6, 0, 0) :: dL303
def dL305 : List Dee := (2, 47, 43, 73, 0) :: dL304
def dL306 : List Dee := (1, 15, 9331, 0, 0) :: dL305
def dL307 : List Dee := (2, 47, 44, 74, 0) :: dL306
def dL308 : List Dee := (1, 15, 9331, 0, 0) :: dL307
def dL309 : List Dee := (2, 47, 45, 75, 0) :: dL308
def dL310 : List Dee := (3, 47, 46, 0, (-1)) :: dL309
def dL311 : List Dee := (1, 15, 3, 0, 0) :: dL310
def dL312 : List Dee := (2, 47, 55, 76, 0) :: dL311
def dL313 : List Dee := (1, 14, 61, 0, 0) :: dL312
def dL314 : List Dee := (2, 47, 56, 77, 0) :: dL313
def dL315 : List Dee := (3, 47, 57, 0, (-1)) :: dL314
def dL316 : List Dee := (3, 49, 6, 0, 1) :: dL315
def dL317 : List Dee := (3, 49, 12, 0, (-1)) :: dL316
def dL318 : List Dee := (3, 49, 7, 0, 1) :: dL317
def dL319 : List Dee := (3, 49, 13, 0, (-1)) :: dL318
def dL320 : List Dee := (3, 49, 8, 0, 1) :: dL319
def dL321 : List Dee := (3, 49, 14, 0, (-1)) :: dL320
def dL322 : List Dee := (3, 49, 9, 0, 1) :: dL321
def dL323 : List Dee := (3, 49, 15, 0, (-1)) :: dL322
def dL324 : List Dee := (3, 49, 10, 0, 1) :: dL323
def dL325 : List Dee := (3, 49, 16, 0, (-1)) :: dL324
def dL326 : List Dee := (3, 49, 11, 0, 1) :: dL325
def dL327 : List Dee := (3, 49, 17, 0, (-1)) :: dL326
def dL328 : List Dee := (3, 49, 58, 0, (-1)) :: dL327
theorem ck0 : (0 : Int32).toNatClampNeg = 0 := by decide
theorem ck1 : (1 : Int32).toNatClampNeg = 1 := by decide
theorem ck2 : (2 : Int32).toNatClampNeg = 2 := by decide
theorem ck3 : (3 : Int32).toNatClampNeg = 3 := by decide
theorem ck4 : (4 : Int32).toNatClampNeg = 4 := by decide
theorem ck5 : (5 : Int32).toNatClampNeg = 5 := by decide
theorem ck6 : (6 : Int32).toNatClampNeg = 6 := by decide
theorem ck7 : (7 : Int32).toNatClampNeg = 7 := by decide
theorem ck8 : (8 : Int32).toNatClampNeg = 8 := by decide
theorem ck9 : (9 : Int32).toNatClampNeg = 9 := by decide
theorem ck10 : (10 : Int32).toNatClampNeg = 10 := by decide
theorem ck11 : (11 : Int32).toNatClampNeg = 11 := by decide
theorem ck12 : (12 : Int32).toNatClampNeg = 12 := by decide
theorem ck13 : (13 : Int32).toNatClampNeg = 13 := by decide
theorem ck14 : (14 : Int32).toNatClampNeg = 14 := by decide
theorem ck15 : (15 : Int32).toNatClampNeg = 15 := by decide
theorem ck16 : (16 : Int32).toNatClampNeg = 16 := by decide
theorem ck17 : (17 : Int32).toNatClampNeg = 17 := by decide
theorem ck18 : (18 : Int32).toNatClampNeg = 18 := by decide
theorem ck19 : (19 : Int32).toNatClampNeg = 19 := by decide
theorem ck20 : (20 : Int32).toNatClampNeg = 20 := by decide
theorem ck21 : (21 : Int32).toNatClampNeg = 21 := by decide
theorem ck22 : (22 : Int32).toNatClampNeg = 22 := by decide
theorem ck23 : (23 : Int32).toNatClampNeg = 23 := by decide
theorem ck24 : (24 : Int32).toNatClampNeg = 24 := by decide
theorem ck25 : (25 : Int32).toNatClampNeg = 25 := by decide
theorem ck26 : (26 : Int32).toNatClampNeg = 26 := by decide
theorem ck27 : (27 : Int32).toNatClampNeg = 27 := by decide
theorem ck28 : (28 : Int32).toNatClampNeg = 28 := by decide
theorem ck29 : (29 : Int32).toNatClampNeg = 29 := by decide
theorem ck30 : (30 : Int32).toNatClampNeg = 30 := by decide
theorem ck31 : (31 : Int32).toNatClampNeg = 31 := by decide
theorem ck32 : (32 : Int32).toNatClampNeg = 32 := by decide
theorem ck33 : (33 : Int32).toNatClampNeg = 33 := by decide
theorem ck34 : (34 : Int32).toNatClampNeg = 34 := by decide
theorem ck35 : (35 : Int32).toNatClampNeg = 35 := by decide
theorem ck36 : (36 : Int32).toNatClampNeg = 36 := by decide
theorem ck37 : (37 : Int32).toNatClampNeg = 37 := by decide
theorem ck38 : (38 : Int32).toNatClampNeg = 38 := by decide
theorem ck39 : (39 : Int32).toNatClampNeg = 39 := by decide
theorem ck40 : (40 : Int32).toNatClampNeg = 40 := by decide
theorem ck41 : (41 : Int32).toNatClampNeg = 41 := by decide
theorem ck42 : (42 : Int32).toNatClampNeg = 42 := by decide
theorem ck43 : (43 : Int32).toNatClampNeg = 43 := by decide
theorem ck44 : (44 : Int32).toNatClampNeg = 44 := by decide
theorem ck45 : (45 : Int32).toNatClampNeg = 45 := by decide
theorem ck46 : (46 : Int32).toNatClampNeg = 46 := by decide
theorem ck47 : (47 : Int32).toNatClampNeg = 47 := by decide
theorem ck48 : (48 : Int32).toNatClampNeg = 48 := by decide
theorem ck49 : (49 : Int32).toNatClampNeg = 49 := by decide
theorem ck50 : (50 : Int32).toNatClampNeg = 50 := by decide
theorem ck51 : (51 : Int32).toNatClampNeg = 51 := by decide
theorem ck52 : (52 : Int32).toNatClampNeg = 52 := by decide
theorem ck53 : (53 : Int32).toNatClampNeg = 53 := by decide
theorem ck54 : (54 : Int32).toNatClampNeg = 54 := by decide
theorem ck55 : (55 : Int32).toNatClampNeg = 55 := by decide
theorem ck56 : (56 : Int32).toNatClampNeg = 56 := by decide
theorem ck57 : (57 : Int32).toNatClampNeg = 57 := by decide
theorem ck58 : (58 : Int32).toNatClampNeg = 58 := by decide
theorem ck59 : (59 : Int32).toNatClampNeg = 59 := by decide
theorem ck60 : (60 : Int32).toNatClampNeg = 60 := by decide
theorem ck61 : (61 : Int32).toNatClampNeg = 61 := by decide
theorem ck62 : (62 : Int32).toNatClampNeg = 62 := by decide
theorem ck63 : (63 : Int32).toNatClampNeg = 63 := by decide
theorem ck64 : (64 : Int32).toNatClampNeg = 64 := by decide
theorem ck65 : (65 : Int32).toNatClampNeg = 65 := by decide
theorem ck66 : (66 : Int32).toNatClampNeg = 66 := by decide
theorem ck67 : (67 : Int32).toNatClampNeg = 67 := by decide
theorem ck68 : (68 : Int32).toNatClampNeg = 68 := by decide
theorem ck69 : (69 : Int32).toNatClampNeg = 69 := by decide
theorem ck70 : (70 : Int32).toNatClampNeg = 70 := by decide
theorem ck71 : (71 : Int32).toNatClampNeg = 71 := by decide
theorem ck72 : (72 : Int32).toNatClampNeg = 72 := by decide
theorem ck73 : (73 : Int32).toNatClampNeg = 73 := by decide
theorem ck74 : (74 : Int32).toNatClampNeg = 74 := by decide
theorem ck75 : (75 : Int32).toNatClampNeg = 75 := by decide
theorem ck76 : (76 : Int32).toNatClampNeg = 76 := by decide
theorem ck77 : (77 : Int32).toNatClampNeg = 77 := by decide
theorem ck78 : (78 : Int32).toNatClampNeg = 78 := by decide
theorem ck79 : (79 : Int32).toNatClampNeg = 79 := by decide
theorem ck80 : (80 : Int32).toNatClampNeg = 80 := by decide
theorem ck81 : (81 : Int32).toNatClampNeg = 81 := by decide
theorem ck82 : (82 : Int32).toNatClampNeg = 82 := by decide
theorem ck83 : (83 : Int32).toNatClampNeg = 83 := by decide
theorem ck84 : (84 : Int32).toNatClampNeg = 84 := by decide
theorem ck85 : (85 : Int32).toNatClampNeg = 85 := by decide
theorem ck86 : (86 : Int32).toNatClampNeg = 86 := by decide
theorem ck87 : (87 : Int32).toNatClampNeg = 87 := by decide
theorem ck88 : (88 : Int32).toNatClampNeg = 88 := by decide
theorem ck89 : (89 : Int32).toNatClampNeg = 89 := by decide
theorem ck90 : (90 : Int32).toNatClampNeg = 90 := by decide
theorem ck91 : (91 : Int32).toNatClampNeg = 91 := by decide
theorem ck92 : (92 : Int32).toNatClampNeg = 92 := by decide
theorem ck93 : (93 : Int32).toNatClampNeg = 93 := by decide
theorem ck94 : (94 : Int32).toNatClampNeg = 94 := by decide
theorem ck95 : (95 : Int32).toNatClampNeg = 95 := by decide
theorem ck96 : (96 : Int32).toNatClampNeg = 96 := by decide
theorem ck97 : (97 : Int32).toNatClampNeg = 97 := by decide
theorem ck98 : (98 : Int32).toNatClampNeg = 98 := by decide
theorem ck99 : (99 : Int32).toNatClampNeg = 99 := by decide
theorem ck100 : (100 : Int32).toNatClampNeg = 100 := by decide
theorem ck101 : (101 : Int32).toNatClampNeg = 101 := by decide
theorem ck102 : (102 : Int32).toNatClampNeg = 102 := by decide
theorem ck103 : (103 : Int32).toNatClampNeg = 103 := by decide
theorem ck104 : (104 : Int32).toNatClampNeg = 104 := by decide
theorem ck105 : (105 : Int32).toNatClampNeg = 105 := by decide
theorem ck106 : (106 : Int32).toNatClampNeg = 106 := by decide
theorem ck107 : (107 : Int32).toNatClampNeg = 107 := by decide
theorem ck108 : (108 : Int32).toNatClampNeg = 108 := by decide
theorem ck109 : (109 : Int32).toNatClampNeg = 109 := by decide
theorem ck110 : (110 : Int32).toNatClampNeg = 110 := by decide
theorem ck111 : (111 : Int32).toNatClampNeg = 111 := by decide
theorem ck112 : (112 : Int32).toNatClampNeg = 112 := by decide
theorem ck113 : (113 : Int32).toNatClampNeg = 113 := by decide
theorem ck114 : (114 : Int32).toNatClampNeg = 114 := by decide
theorem ck115 : (115 : Int32).toNatClampNeg = 115 := by decide
theorem ck116 : (116 : Int32).toNatClampNeg = 116 := by decide
theorem ck117 : (117 : Int32).toNatClampNeg = 117 := by decide
theorem ck118 : (118 : Int32).toNatClampNeg = 118 := by decide
theorem ck119 : (119 : Int32).toNatClampNeg = 119 := by decide
theorem ck120 : (120 : Int32).toNatClampNeg = 120 := by decide
theorem ck121 : (121 : Int32).toNatClampNeg = 121 := by decide
theorem ck122 : (122 : Int32).toNatClampNeg = 122 := by decide
theorem ck123 : (123 : Int32).toNatClampNeg = 123 := by decide
theorem ck124 : (124 : Int32).toNatClampNeg = 124 := by decide
theorem ck125 : (125 : Int32).toNatClampNeg = 125 := by decide
theorem ck126 : (126 : Int32).toNatClampNeg = 126 := by decide
theorem ck127 : (127 : Int32).toNatClampNeg = 127 := by decide
theorem ck128 : (128 : Int32).toNatClampNeg = 128 := by decide
theorem ck129 : (129 : Int32).toNatClampNeg = 129 := by decide
theorem ck130 : (130 : Int32).toNatClampNeg = 130 := by decide
theorem ck400 : (400 : Int32).toNatClampNeg = 400 := by decide
theorem ck401 : (401 : Int32).toNatClampNeg = 401 := by decide
theorem ck5666 : (5666 : Int32).toNatClampNeg = 5666 := by decide
theorem ck6480 : (6480 : Int32).toNatClampNeg = 6480 := by decide
theorem ck9331 : (9331 : Int32).toNatClampNeg = 9331 := by decide
theorem ck11332 : (11332 : Int32).toNatClampNeg = 11332 := by decide
theorem ck429226 : (429226 : Int32).toNatClampNeg = 429226 := by decide
theorem zd1 : mn (XD dL1) = 1 := by decide +kernel
theorem zd2 : mn (XD dL2) = 2 := by decide +kernel
theorem zd4 : mn (XD dL4) = 3 := by decide +kernel
theorem zd12 : mn (XD dL12) = 4 := by decide +kernel
theorem zd20 : mn (XD dL20) = 5 := by decide +kernel
theorem zd22 : mn (XD dL22) = 6 := by decide +kernel
theorem zd24 : mn (XD dL24) = 7 := by decide +kernel
theorem zd26 : mn (XD dL26) = 8 := by decide +kernel
theorem zd28 : mn (XD dL28) = 9 := by decide +kernel
theorem zd34 : mn (XD dL34) = 10 := by decide +kernel
theorem zd36 : mn (XD dL36) = 11 := by decide +kernel
theorem zd37 : mn (XD dL37) = 12 := by decide +kernel
theorem zd39 : mn (XD dL39) = 13 := by decide +kernel
theorem zd41 : mn (XD dL41) = 14 := by decide +kernel
theorem zd43 : mn (XD dL43) = 15 := by decide +kernel
theorem zd44 : mn (XD dL44) = 16 := by decide +kernel
theorem zd46 : mn (XD dL46) = 17 := by decide +kernel
theorem zd51 : mn (XD dL51) = 18 := by decide +kernel
theorem zd52 : mn (XD dL52) = 19 := by decide +kernel
theorem zd54 : mn (XD dL54) = 20 := by decide +kernel
theorem zd57 : mn (XD dL57) = 21 := by decide +kernel
theorem zd58 : mn (XD dL58) = 22 := by decide +kernel
theorem zd59 : mn (XD dL59) = 23 := by decide +kernel
theorem zd61 : mn (XD dL61) = 24 := by decide +kernel
theorem zd64 : mn (XD dL64) = 25 := by decide +kernel
theorem zd68 : mn (XD dL68) = 26 := by decide +kernel
theorem zd69 : mn (XD dL69) = 27 := by decide +kernel
theorem zd70 : mn (XD dL70) = 28 := by decide +kernel
theorem zd72 : mn (XD dL72) = 29 := by decide +kernel
theorem zd75 : mn (XD dL75) = 30 := by decide +kernel
theorem zd77 : mn (XD dL77) = 31 := by decide +kernel
theorem zd82 : mn (XD dL82) = 32 := by decide +kernel
theorem zd83 : mn (XD dL83) = 33 := by decide +kernel
theorem zd88 : mn (XD dL88) = 34 := by decide +kernel
theorem zd89 : mn (XD dL89) = 35 := by decide +kernel
theorem zd91 : mn (XD dL91) = 36 := by decide +kernel
theorem zd93 : mn (XD dL93) = 37 := by decide +kernel
theorem zd95 : mn (XD dL95) = 38 := by decide +kernel
theorem zd97 : mn (XD dL97) = 39 := by decide +kernel
theorem zd99 : mn (XD dL99) = 40 := by decide +kernel
theorem zd101 : mn (XD dL101) = 41 := by decide +kernel
theorem zd104 : mn (XD dL104) = 42 := by decide +kernel
theorem zd105 : mn (XD dL105) = 43 := by decide +kernel
theorem zd107 : mn (XD dL107) = 44 := by decide +kernel
theorem zd114 : mn (XD dL114) = 45 := by decide +kernel
theorem zd116 : mn (XD dL116) = 46 := by decide +kernel
theorem zd121 : mn (XD dL121) = 48 := by decide +kernel
theorem zd123 : mn (XD dL123) = 49 := by decide +kernel
theorem zd125 : mn (XD dL125) = 50 := by decide +kernel
theorem zd127 : mn (XD dL127) = 51 := by decide +kernel
theorem zd129 : mn (XD dL129) = 52 := by decide +kernel
theorem zd131 : mn (XD dL131) = 53 := by decide +kernel
theorem zd133 : mn (XD dL133) = 54 := by decide +kernel
theorem zd135 : mn (XD dL135) = 55 := by decide +kernel
theorem zd267 : mn (XD dL267) = 56 := by decide +kernel
theorem zd269 : mn (XD dL269) = 57 := by decide +kernel
theorem zd272 : mn (XD dL272) = 58 := by decide +kernel
theorem zd274 : mn (XD dL274) = 59 := by decide +kernel
theorem zd276 : mn (XD dL276) = 60 := by decide +kernel
theorem zd278 : mn (XD dL278) = 61 := by decide +kernel
theorem zd280 : mn (XD dL280) = 62 := by decide +kernel
theorem zd282 : mn (XD dL282) = 63 := by decide +kernel
theorem zd284 : mn (XD dL284) = 64 := by decide +kernel
theorem zd287 : mn (XD dL287) = 65 := by decide +kernel
theorem zd289 : mn (XD dL289) = 66 := by decide +kernel
theorem zd291 : mn (XD dL291) = 67 := by decide +kernel
theorem zd293 : mn (XD dL293) = 68 := by decide +kernel
theorem zd295 : mn (XD dL295) = 69 := by decide +kernel
theorem zd297 : mn (XD dL297) = 70 := by decide +kernel
theorem zd299 : mn (XD dL299) = 71 := by decide +kernel
theorem zd301 : mn (XD dL301) = 72 := by decide +kernel
theorem zd303 : mn (XD dL303) = 73 := by decide +kernel
theorem zd305 : mn (XD dL305) = 74 := by decide +kernel
theorem zd307 : mn (XD dL307) = 75 := by decide +kernel
theorem zd310 : mn (XD dL310) = 76 := by decide +kernel
theorem zd312 : mn (XD dL312) = 77 := by decide +kernel
