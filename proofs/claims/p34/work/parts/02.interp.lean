noncomputable section
abbrev Lay : Type := Nat × Nat × List Nat
def layAt (k : Nat) : Lay := bif Nat.blt k 121 then (bif Nat.blt k 76 then (bif Nat.blt k 53 then (bif Nat.blt k 42 then (bif Nat.blt k 36 then (bif Nat.blt k 33 then (bif Nat.blt k 32 then (bif Nat.beq k 31 then (0, 8, [35, 48, 61, 74, 80, 99, 101, 103, 209, 1]) else (99, 0, [])) else (bif Nat.beq k 32 then (0, 6, [0, 0, 0, 0, 0, 36, 37, 38, 39, 40, 41, 42, 43, 44, 45, 46, 47]) else (99, 0, []))) else (bif Nat.blt k 34 then (bif Nat.beq k 33 then (1, 24, []) else (99, 0, [])) else (bif Nat.blt k 35 then (bif Nat.beq k 34 then (1, 40, []) else (99, 0, [])) else (bif Nat.beq k 35 then (1, 40, []) else (99, 0, []))))) else (bif Nat.blt k 39 then (bif Nat.blt k 37 then (bif Nat.beq k 36 then (4, 40, []) else (99, 0, [])) else (bif Nat.blt k 38 then (bif Nat.beq k 37 then (1, 40, []) else (99, 0, [])) else (bif Nat.beq k 38 then (1, 40, []) else (99, 0, [])))) else (bif Nat.blt k 40 then (bif Nat.beq k 39 then (1, 40, []) else (99, 0, [])) else (bif Nat.blt k 41 then (bif Nat.beq k 40 then (1, 40, []) else (99, 0, [])) else (bif Nat.beq k 41 then (1, 40, []) else (99, 0, [])))))) else (bif Nat.blt k 47 then (bif Nat.blt k 44 then (bif Nat.blt k 43 then (bif Nat.beq k 42 then (1, 40, []) else (99, 0, [])) else (bif Nat.beq k 43 then (1, 96, []) else (99, 0, []))) else (bif Nat.blt k 45 then (bif Nat.beq k 44 then (1, 10, []) else (99, 0, [])) else (bif Nat.blt k 46 then (bif Nat.beq k 45 then (0, 6, [0, 0, 0, 0, 0, 49, 50, 51, 52, 53, 54, 55, 56, 57, 58, 59, 60]) else (99, 0, [])) else (bif Nat.beq k 46 then (1, 24, []) else (99, 0, []))))) else (bif Nat.blt k 50 then (bif Nat.blt k 48 then (bif Nat.beq k 47 then (1, 40, []) else (99, 0, [])) else (bif Nat.blt k 49 then (bif Nat.beq k 48 then (1, 40, []) else (99, 0, [])) else (bif Nat.beq k 49 then (4, 40, []) else (99, 0, [])))) else (bif Nat.blt k 51 then (bif Nat.beq k 50 then (1, 40, []) else (99, 0, [])) else (bif Nat.blt k 52 then (bif Nat.beq k 51 then (1, 40, []) else (99, 0, [])) else (bif Nat.beq k 52 then (1, 40, []) else (99, 0, []))))))) else (bif Nat.blt k 64 then (bif Nat.blt k 58 then (bif Nat.blt k 55 then (bif Nat.blt k 54 then (bif Nat.beq k 53 then (1, 40, []) else (99, 0, [])) else (bif Nat.beq k 54 then (1, 40, []) else (99, 0, []))) else (bif Nat.blt k 56 then (bif Nat.beq k 55 then (1, 40, []) else (99, 0, [])) else (bif Nat.blt k 57 then (bif Nat.beq k 56 then (1, 96, []) else (99, 0, [])) else (bif Nat.beq k 57 then (1, 10, []) else (99, 0, []))))) else (bif Nat.blt k 61 then (bif Nat.blt k 59 then (bif Nat.beq k 58 then (0, 6, [0, 0, 0, 0, 0, 62, 63, 64, 65, 66, 67, 68, 69, 70, 71, 72, 73]) else (99, 0, [])) else (bif Nat.blt k 60 then (bif Nat.beq k 59 then (1, 24, []) else (99, 0, [])) else (bif Nat.beq k 60 then (1, 40, []) else (99, 0, [])))) else (bif Nat.blt k 62 then (bif Nat.beq k 61 then (1, 40, []) else (99, 0, [])) else (bif Nat.blt k 63 then (bif Nat.beq k 62 then (4, 40, []) else (99, 0, [])) else (bif Nat.beq k 63 then (1, 40, []) else (99, 0, [])))))) else (bif Nat.blt k 70 then (bif Nat.blt k 67 then (bif Nat.blt k 65 then (bif Nat.beq k 64 then (1, 40, []) else (99, 0, [])) else (bif Nat.blt k 66 then (bif Nat.beq k 65 then (1, 40, []) else (99, 0, [])) else (bif Nat.beq k 66 then (1, 40, []) else (99, 0, [])))) else (bif Nat.blt k 68 then (bif Nat.beq k 67 then (1, 40, []) else (99, 0, [])) else (bif Nat.blt k 69 then (bif Nat.beq k 68 then (1, 40, []) else (99, 0, [])) else (bif Nat.beq k 69 then (1, 96, []) else (99, 0, []))))) else (bif Nat.blt k 73 then (bif Nat.blt k 71 then (bif Nat.beq k 70 then (1, 10, []) else (99, 0, [])) else (bif Nat.blt k 72 then (bif Nat.beq k 71 then (0, 7, [75, 0, 0]) else (99, 0, [])) else (bif Nat.beq k 72 then (0, 2, [76, 78]) else (99, 0, [])))) else (bif Nat.blt k 74 then (bif Nat.beq k 73 then (0, 3, [77]) else (99, 0, [])) else (bif Nat.blt k 75 then (bif Nat.beq k 74 then (4, 40, []) else (99, 0, [])) else (bif Nat.beq k 75 then (0, 5, [79]) else (99, 0, [])))))))) else (bif Nat.blt k 98 then (bif Nat.blt k 87 then (bif Nat.blt k 81 then (bif Nat.blt k 78 then (bif Nat.blt k 77 then (bif Nat.beq k 76 then (1, 12, []) else (99, 0, [])) else (bif Nat.beq k 77 then (0, 0, [81, 94]) else (99, 0, []))) else (bif Nat.blt k 79 then (bif Nat.beq k 78 then (0, 6, [0, 0, 0, 0, 0, 82, 83, 84, 85, 86, 87, 88, 89, 90, 91, 92, 93]) else (99, 0, [])) else (bif Nat.blt k 80 then (bif Nat.beq k 79 then (1, 24, []) else (99, 0, [])) else (bif Nat.beq k 80 then (1, 40, []) else (99, 0, []))))) else (bif Nat.blt k 84 then (bif Nat.blt k 82 then (bif Nat.beq k 81 then (1, 40, []) else (99, 0, [])) else (bif Nat.blt k 83 then (bif Nat.beq k 82 then (4, 40, []) else (99, 0, [])) else (bif Nat.beq k 83 then (1, 40, []) else (99, 0, [])))) else (bif Nat.blt k 85 then (bif Nat.beq k 84 then (1, 40, []) else (99, 0, [])) else (bif Nat.blt k 86 then (bif Nat.beq k 85 then (1, 40, []) else (99, 0, [])) else (bif Nat.beq k 86 then (1, 40, []) else (99, 0, [])))))) else (bif Nat.blt k 92 then (bif Nat.blt k 89 then (bif Nat.blt k 88 then (bif Nat.beq k 87 then (1, 40, []) else (99, 0, [])) else (bif Nat.beq k 88 then (1, 40, []) else (99, 0, []))) else (bif Nat.blt k 90 then (bif Nat.beq k 89 then (1, 96, []) else (99, 0, [])) else (bif Nat.blt k 91 then (bif Nat.beq k 90 then (1, 10, []) else (99, 0, [])) else (bif Nat.beq k 91 then (0, 2, [95, 97]) else (99, 0, []))))) else (bif Nat.blt k 95 then (bif Nat.blt k 93 then (bif Nat.beq k 92 then (0, 3, [96]) else (99, 0, [])) else (bif Nat.blt k 94 then (bif Nat.beq k 93 then (4, 40, []) else (99, 0, [])) else (bif Nat.beq k 94 then (0, 5, [98]) else (99, 0, [])))) else (bif Nat.blt k 96 then (bif Nat.beq k 95 then (1, 12, []) else (99, 0, [])) else (bif Nat.blt k 97 then (bif Nat.beq k 96 then (0, 3, [100]) else (99, 0, [])) else (bif Nat.beq k 97 then (4, 40, []) else (99, 0, []))))))) else (bif Nat.blt k 109 then (bif Nat.blt k 103 then (bif Nat.blt k 100 then (bif Nat.blt k 99 then (bif Nat.beq k 98 then (0, 5, [102]) else (99, 0, [])) else (bif Nat.beq k 99 then (1, 12, []) else (99, 0, []))) else (bif Nat.blt k 101 then (bif Nat.beq k 100 then (0, 1, [104, 0, 0]) else (99, 0, [])) else (bif Nat.blt k 102 then (bif Nat.beq k 101 then (7, 8, [102, 115, 128, 141, 154, 167, 180, 193]) else (99, 0, [])) else (bif Nat.beq k 102 then (0, 6, [0, 0, 0, 0, 0, 106, 107, 108, 109, 110, 111, 112, 113, 114, 115, 116, 117]) else (99, 0, []))))) else (bif Nat.blt k 106 then (bif Nat.blt k 104 then (bif Nat.beq k 103 then (1, 24, []) else (99, 0, [])) else (bif Nat.blt k 105 then (bif Nat.beq k 104 then (1, 40, []) else (99, 0, [])) else (bif Nat.beq k 105 then (1, 40, []) else (99, 0, [])))) else (bif Nat.blt k 107 then (bif Nat.beq k 106 then (4, 40, []) else (99, 0, [])) else (bif Nat.blt k 108 then (bif Nat.beq k 107 then (1, 40, []) else (99, 0, [])) else (bif Nat.beq k 108 then (1, 40, []) else (99, 0, [])))))) else (bif Nat.blt k 115 then (bif Nat.blt k 112 then (bif Nat.blt k 110 then (bif Nat.beq k 109 then (1, 40, []) else (99, 0, [])) else (bif Nat.blt k 111 then (bif Nat.beq k 110 then (1, 40, []) else (99, 0, [])) else (bif Nat.beq k 111 then (1, 40, []) else (99, 0, [])))) else (bif Nat.blt k 113 then (bif Nat.beq k 112 then (1, 40, []) else (99, 0, [])) else (bif Nat.blt k 114 then (bif Nat.beq k 113 then (1, 96, []) else (99, 0, [])) else (bif Nat.beq k 114 then (1, 10, []) else (99, 0, []))))) else (bif Nat.blt k 118 then (bif Nat.blt k 116 then (bif Nat.beq k 115 then (0, 6, [0, 0, 0, 0, 0, 119, 120, 121, 122, 123, 124, 125, 126, 127, 128, 129, 130]) else (99, 0, [])) else (bif Nat.blt k 117 then (bif Nat.beq k 116 then (1, 24, []) else (99, 0, [])) else (bif Nat.beq k 117 then (1, 40, []) else (99, 0, [])))) else (bif Nat.blt k 119 then (bif Nat.beq k 118 then (1, 40, []) else (99, 0, [])) else (bif Nat.blt k 120 then (bif Nat.beq k 119 then (4, 40, []) else (99, 0, [])) else (bif Nat.beq k 120 then (1, 40, []) else (99, 0, []))))))))) else (bif Nat.blt k 166 then (bif Nat.blt k 143 then (bif Nat.blt k 132 then (bif Nat.blt k 126 then (bif Nat.blt k 123 then (bif Nat.blt k 122 then (bif Nat.beq k 121 then (1, 40, []) else (99, 0, [])) else (bif Nat.beq k 122 then (1, 40, []) else (99, 0, []))) else (bif Nat.blt k 124 then (bif Nat.beq k 123 then (1, 40, []) else (99, 0, [])) else (bif Nat.blt k 125 then (bif Nat.beq k 124 then (1, 40, []) else (99, 0, [])) else (bif Nat.beq k 125 then (1, 40, []) else (99, 0, []))))) else (bif Nat.blt k 129 then (bif Nat.blt k 127 then (bif Nat.beq k 126 then (1, 96, []) else (99, 0, [])) else (bif Nat.blt k 128 then (bif Nat.beq k 127 then (1, 10, []) else (99, 0, [])) else (bif Nat.beq k 128 then (0, 6, [0, 0, 0, 0, 0, 132, 133, 134, 135, 136, 137, 138, 139, 140, 141, 142, 143]) else (99, 0, [])))) else (bif Nat.blt k 130 then (bif Nat.beq k 129 then (1, 24, []) else (99, 0, [])) else (bif Nat.blt k 131 then (bif Nat.beq k 130 then (1, 40, []) else (99, 0, [])) else (bif Nat.beq k 131 then (1, 40, []) else (99, 0, [])))))) else (bif Nat.blt k 137 then (bif Nat.blt k 134 then (bif Nat.blt k 133 then (bif Nat.beq k 132 then (4, 40, []) else (99, 0, [])) else (bif Nat.beq k 133 then (1, 40, []) else (99, 0, []))) else (bif Nat.blt k 135 then (bif Nat.beq k 134 then (1, 40, []) else (99, 0, [])) else (bif Nat.blt k 136 then (bif Nat.beq k 135 then (1, 40, []) else (99, 0, [])) else (bif Nat.beq k 136 then (1, 40, []) else (99, 0, []))))) else (bif Nat.blt k 140 then (bif Nat.blt k 138 then (bif Nat.beq k 137 then (1, 40, []) else (99, 0, [])) else (bif Nat.blt k 139 then (bif Nat.beq k 138 then (1, 40, []) else (99, 0, [])) else (bif Nat.beq k 139 then (1, 96, []) else (99, 0, [])))) else (bif Nat.blt k 141 then (bif Nat.beq k 140 then (1, 10, []) else (99, 0, [])) else (bif Nat.blt k 142 then (bif Nat.beq k 141 then (0, 6, [0, 0, 0, 0, 0, 145, 146, 147, 148, 149, 150, 151, 152, 153, 154, 155, 156]) else (99, 0, [])) else (bif Nat.beq k 142 then (1, 24, []) else (99, 0, []))))))) else (bif Nat.blt k 154 then (bif Nat.blt k 148 then (bif Nat.blt k 145 then (bif Nat.blt k 144 then (bif Nat.beq k 143 then (1, 40, []) else (99, 0, [])) else (bif Nat.beq k 144 then (1, 40, []) else (99, 0, []))) else (bif Nat.blt k 146 then (bif Nat.beq k 145 then (4, 40, []) else (99, 0, [])) else (bif Nat.blt k 147 then (bif Nat.beq k 146 then (1, 40, []) else (99, 0, [])) else (bif Nat.beq k 147 then (1, 40, []) else (99, 0, []))))) else (bif Nat.blt k 151 then (bif Nat.blt k 149 then (bif Nat.beq k 148 then (1, 40, []) else (99, 0, [])) else (bif Nat.blt k 150 then (bif Nat.beq k 149 then (1, 40, []) else (99, 0, [])) else (bif Nat.beq k 150 then (1, 40, []) else (99, 0, [])))) else (bif Nat.blt k 152 then (bif Nat.beq k 151 then (1, 40, []) else (99, 0, [])) else (bif Nat.blt k 153 then (bif Nat.beq k 152 then (1, 96, []) else (99, 0, [])) else (bif Nat.beq k 153 then (1, 10, []) else (99, 0, [])))))) else (bif Nat.blt k 160 then (bif Nat.blt k 157 then (bif Nat.blt k 155 then (bif Nat.beq k 154 then (0, 6, [0, 0, 0, 0, 0, 158, 159, 160, 161, 162, 163, 164, 165, 166, 167, 168, 169]) else (99, 0, [])) else (bif Nat.blt k 156 then (bif Nat.beq k 155 then (1, 24, []) else (99, 0, [])) else (bif Nat.beq k 156 then (1, 40, []) else (99, 0, [])))) else (bif Nat.blt k 158 then (bif Nat.beq k 157 then (1, 40, []) else (99, 0, [])) else (bif Nat.blt k 159 then (bif Nat.beq k 158 then (4, 40, []) else (99, 0, [])) else (bif Nat.beq k 159 then (1, 40, []) else (99, 0, []))))) else (bif Nat.blt k 163 then (bif Nat.blt k 161 then (bif Nat.beq k 160 then (1, 40, []) else (99, 0, [])) else (bif Nat.blt k 162 then (bif Nat.beq k 161 then (1, 40, []) else (99, 0, [])) else (bif Nat.beq k 162 then (1, 40, []) else (99, 0, [])))) else (bif Nat.blt k 164 then (bif Nat.beq k 163 then (1, 40, []) else (99, 0, [])) else (bif Nat.blt k 165 then (bif Nat.beq k 164 then (1, 40, []) else (99, 0, [])) else (bif Nat.beq k 165 then (1, 96, []) else (99, 0, [])))))))) else (bif Nat.blt k 189 then (bif Nat.blt k 177 then (bif Nat.blt k 171 then (bif Nat.blt k 168 then (bif Nat.blt k 167 then (bif Nat.beq k 166 then (1, 10, []) else (99, 0, [])) else (bif Nat.beq k 167 then (0, 6, [0, 0, 0, 0, 0, 171, 172, 173, 174, 175, 176, 177, 178, 179, 180, 181, 182]) else (99, 0, []))) else (bif Nat.blt k 169 then (bif Nat.beq k 168 then (1, 24, []) else (99, 0, [])) else (bif Nat.blt k 170 then (bif Nat.beq k 169 then (1, 40, []) else (99, 0, [])) else (bif Nat.beq k 170 then (1, 40, []) else (99, 0, []))))) else (bif Nat.blt k 174 then (bif Nat.blt k 172 then (bif Nat.beq k 171 then (4, 40, []) else (99, 0, [])) else (bif Nat.blt k 173 then (bif Nat.beq k 172 then (1, 40, []) else (99, 0, [])) else (bif Nat.beq k 173 then (1, 40, []) else (99, 0, [])))) else (bif Nat.blt k 175 then (bif Nat.beq k 174 then (1, 40, []) else (99, 0, [])) else (bif Nat.blt k 176 then (bif Nat.beq k 175 then (1, 40, []) else (99, 0, [])) else (bif Nat.beq k 176 then (1, 40, []) else (99, 0, [])))))) else (bif Nat.blt k 183 then (bif Nat.blt k 180 then (bif Nat.blt k 178 then (bif Nat.beq k 177 then (1, 40, []) else (99, 0, [])) else (bif Nat.blt k 179 then (bif Nat.beq k 178 then (1, 96, []) else (99, 0, [])) else (bif Nat.beq k 179 then (1, 10, []) else (99, 0, [])))) else (bif Nat.blt k 181 then (bif Nat.beq k 180 then (0, 6, [0, 0, 0, 0, 0, 184, 185, 186, 187, 188, 189, 190, 191, 192, 193, 194, 195]) else (99, 0, [])) else (bif Nat.blt k 182 then (bif Nat.beq k 181 then (1, 24, []) else (99, 0, [])) else (bif Nat.beq k 182 then (1, 40, []) else (99, 0, []))))) else (bif Nat.blt k 186 then (bif Nat.blt k 184 then (bif Nat.beq k 183 then (1, 40, []) else (99, 0, [])) else (bif Nat.blt k 185 then (bif Nat.beq k 184 then (4, 40, []) else (99, 0, [])) else (bif Nat.beq k 185 then (1, 40, []) else (99, 0, [])))) else (bif Nat.blt k 187 then (bif Nat.beq k 186 then (1, 40, []) else (99, 0, [])) else (bif Nat.blt k 188 then (bif Nat.beq k 187 then (1, 40, []) else (99, 0, [])) else (bif Nat.beq k 188 then (1, 40, []) else (99, 0, []))))))) else (bif Nat.blt k 200 then (bif Nat.blt k 194 then (bif Nat.blt k 191 then (bif Nat.blt k 190 then (bif Nat.beq k 189 then (1, 40, []) else (99, 0, [])) else (bif Nat.beq k 190 then (1, 40, []) else (99, 0, []))) else (bif Nat.blt k 192 then (bif Nat.beq k 191 then (1, 96, []) else (99, 0, [])) else (bif Nat.blt k 193 then (bif Nat.beq k 192 then (1, 10, []) else (99, 0, [])) else (bif Nat.beq k 193 then (0, 6, [0, 0, 0, 0, 0, 197, 198, 199, 200, 201, 202, 203, 204, 205, 206, 207, 208]) else (99, 0, []))))) else (bif Nat.blt k 197 then (bif Nat.blt k 195 then (bif Nat.beq k 194 then (1, 24, []) else (99, 0, [])) else (bif Nat.blt k 196 then (bif Nat.beq k 195 then (1, 40, []) else (99, 0, [])) else (bif Nat.beq k 196 then (1, 40, []) else (99, 0, [])))) else (bif Nat.blt k 198 then (bif Nat.beq k 197 then (4, 40, []) else (99, 0, [])) else (bif Nat.blt k 199 then (bif Nat.beq k 198 then (1, 40, []) else (99, 0, [])) else (bif Nat.beq k 199 then (1, 40, []) else (99, 0, [])))))) else (bif Nat.blt k 206 then (bif Nat.blt k 203 then (bif Nat.blt k 201 then (bif Nat.beq k 200 then (1, 40, []) else (99, 0, [])) else (bif Nat.blt k 202 then (bif Nat.beq k 201 then (1, 40, []) else (99, 0, [])) else (bif Nat.beq k 202 then (1, 40, []) else (99, 0, [])))) else (bif Nat.blt k 204 then (bif Nat.beq k 203 then (1, 40, []) else (99, 0, [])) else (bif Nat.blt k 205 then (bif Nat.beq k 204 then (1, 96, []) else (99, 0, [])) else (bif Nat.beq k 205 then (1, 10, []) else (99, 0, []))))) else (bif Nat.blt k 209 then (bif Nat.blt k 207 then (bif Nat.beq k 206 then (0, 4, [210, 211, 212, 213, 214, 0, 0, 0, 0]) else (99, 0, [])) else (bif Nat.blt k 208 then (bif Nat.beq k 207 then (2, 60, []) else (99, 0, [])) else (bif Nat.beq k 208 then (2, 60, []) else (99, 0, [])))) else (bif Nat.blt k 210 then (bif Nat.beq k 209 then (1, 60, []) else (99, 0, [])) else (bif Nat.blt k 211 then (bif Nat.beq k 210 then (1, 60, []) else (99, 0, [])) else (bif Nat.beq k 211 then (1, 60, []) else (99, 0, [])))))))))
abbrev NC : Nat := 212
def cSw (mi pc : Nat) : List (Int32 × Nat) × Nat :=
  bif Nat.beq mi 189 && Nat.beq pc 23 then ([(0, 72), (1, 90), (2, 99), (3, 99), (4, 99), (5, 125), (6, 153), (7, 162), (8, 180)], 212) else
  bif Nat.beq mi 131 && Nat.beq pc 19 then ([(13, 44), (14, 52)], 60) else
  bif Nat.beq mi 90 && Nat.beq pc 1 then ([(0, 68), (1, 73), (2, 78), (3, 83), (4, 88), (5, 93), (6, 99), (7, 118), (8, 118), (9, 118), (10, 118), (11, 104), (12, 109)], 118) else
  bif Nat.beq mi 88 && Nat.beq pc 11 then ([(0, 52), (1, 59), (2, 66), (3, 73), (4, 80), (5, 87), (6, 94)], 101) else
  bif Nat.beq mi 89 && Nat.beq pc 28 then ([(1, 56), (2, 59), (3, 62)], 65) else
  bif Nat.beq mi 97 && Nat.beq pc 1 then ([(108, 103), (109, 121), (110, 121), (111, 121), (112, 121), (113, 121), (114, 121), (115, 92), (116, 68), (117, 121), (118, 76), (119, 121), (120, 114)], 121) else
  bif Nat.beq mi 98 && Nat.beq pc 1 then ([(108, 94), (109, 122), (110, 122), (111, 122), (112, 122), (113, 122), (114, 122), (115, 84), (116, 68), (117, 122), (118, 77), (119, 122), (120, 109)], 122) else
  ([], 0)
abbrev LC : Type := List (Nat × Value)
abbrev AH : Type := (Nat → Nat → Int32) × (Nat → Nat → UInt32) × (Nat → Nat → Int64) × (Nat → Nat → UInt64)
abbrev Cf : Type := Nat × LC × List Value × AH
def lget (lc : LC) (i : Nat) : Option Value := (lc.find? (fun q => q.1 == i)).map (fun q => q.2)
def lset1 (lc : LC) (i : Nat) (v : Value) : LC := (i, v) :: lc.filter (fun q => !(q.1 == i) && !(q.1 + 1 == i && q.2.category == 2))
def lset2 (lc : LC) (i : Nat) (v : Value) : LC := (i, v) :: lc.filter (fun q => !(q.1 == i) && (!(q.1 == i + 1) && !(q.1 + 1 == i && q.2.category == 2)))
/-- an int, float, long, double put at a place of a cell; a row put in a cell's place -/
def hI (h : AH) (k i : Nat) (x : Int32) : AH := (fun a j => if a = k ∧ j = i then x else h.1 a j, h.2)
def hF (h : AH) (k i : Nat) (x : UInt32) : AH := (h.1, fun a j => if a = k ∧ j = i then x else h.2.1 a j, h.2.2)
def hL (h : AH) (k i : Nat) (x : Int64) : AH := (h.1, h.2.1, fun a j => if a = k ∧ j = i then x else h.2.2.1 a j, h.2.2.2)
def hD (h : AH) (k i : Nat) (x : UInt64) : AH := (h.1, h.2.1, h.2.2.1, fun a j => if a = k ∧ j = i then x else h.2.2.2 a j)
def hIr (h : AH) (k : Nat) (f : Nat → Int32) : AH := (fun a j => if a = k then f j else h.1 a j, h.2)
def hFr (h : AH) (k : Nat) (f : Nat → UInt32) : AH := (h.1, fun a j => if a = k then f j else h.2.1 a j, h.2.2)
/-- constants and the stack alone -/
def stA (ins : Instr) (v : Value) (st : List Value) : Option (List Value) :=
  match ins with
  | .iconst _ => some (v :: st)
  | .bipush _ => some (v :: st)
  | .sipush _ => some (v :: st)
  | .ldc _ => some (v :: st)
  | .ldc2_w _ => some (v :: st)
  | .fconst _ => some (v :: st)
  | .dconst _ => some (v :: st)
  | .lconst _ => some (v :: st)
  | .iadd => match st with | .int y :: .int x :: r => some (.int (x + y) :: r) | _ => none
  | .isub => match st with | .int y :: .int x :: r => some (.int (x - y) :: r) | _ => none
  | .imul => match st with | .int y :: .int x :: r => some (.int (x * y) :: r) | _ => none
  | .idiv => match st with | .int y :: .int x :: r => if y = 0 then none else some (.int (x / y) :: r) | _ => none
  | .irem => match st with | .int y :: .int x :: r => if y = 0 then none else some (.int (x - x / y * y) :: r) | _ => none
  | .ineg => match st with | .int x :: r => some (.int (-x) :: r) | _ => none
  | .iand => match st with | .int y :: .int x :: r => some (.int (x &&& y) :: r) | _ => none
  | .ior => match st with | .int y :: .int x :: r => some (.int (x ||| y) :: r) | _ => none
  | .ixor => match st with | .int y :: .int x :: r => some (.int (x ^^^ y) :: r) | _ => none
  | .ishl => match st with | .int y :: .int x :: r => some (.int (x <<< (y &&& 31)) :: r) | _ => none
  | .ladd => match st with | .long y :: .long x :: r => some (.long (x + y) :: r) | _ => none
  | .lor => match st with | .long y :: .long x :: r => some (.long (x ||| y) :: r) | _ => none
  | .lshl => match st with | .int y :: .long x :: r => some (.long (x <<< (y.toInt64 &&& 63)) :: r) | _ => none
  | .lmul => match st with | .long y :: .long x :: r => some (.long (x * y) :: r) | _ => none
  | .ishr => match st with | .int y :: .int x :: r => some (.int (x >>> (y &&& 31)) :: r) | _ => none
  | .lcmp => match st with | .long y :: .long x :: r => some (.int (lg_cmp x y) :: r) | _ => none
  | .i2l => match st with | .int x :: r => some (.long x.toInt64 :: r) | _ => none
  | .i2c => match st with | .int x :: r => some (.int (x.toUInt32 % 65536).toInt32 :: r) | _ => none
  | .i2f => match st with | .int x :: r => some (.float (FP.i2f x) :: r) | _ => none
  | .i2d => match st with | .int x :: r => some (.double (FP.i2d x) :: r) | _ => none
  | .f2i => match st with | .float x :: r => some (.int (FP.f2i x) :: r) | _ => none
  | .d2l => match st with | .double x :: r => some (.long (FP.d2l x) :: r) | _ => none
  | .f2d => match st with | .float x :: r => if FP.f2d x &&& 0x7fffffffffffffff ≤ 0x7ff0000000000000 then some (.double (FP.f2d x) :: r) else none | _ => none
  | .fadd => match st with | .float y :: .float x :: r => if FP.fadd x y &&& 0x7fffffff ≤ 0x7f800000 then some (.float (FP.fadd x y) :: r) else none | _ => none
  | .fsub => match st with | .float y :: .float x :: r => if FP.fsub x y &&& 0x7fffffff ≤ 0x7f800000 then some (.float (FP.fsub x y) :: r) else none | _ => none
  | .fmul => match st with | .float y :: .float x :: r => if FP.fmul x y &&& 0x7fffffff ≤ 0x7f800000 then some (.float (FP.fmul x y) :: r) else none | _ => none
  | .fdiv => match st with | .float y :: .float x :: r => if FP.fdiv x y &&& 0x7fffffff ≤ 0x7f800000 then some (.float (FP.fdiv x y) :: r) else none | _ => none
  | .fcmp op => match st with | .float y :: .float x :: r => some (.int (Op.cmpValue (FP.fcmp x y) op) :: r) | _ => none
  | .dadd => match st with | .double y :: .double x :: r => if FP.dadd x y &&& 0x7fffffffffffffff ≤ 0x7ff0000000000000 then some (.double (FP.dadd x y) :: r) else none | _ => none
  | .dsub => match st with | .double y :: .double x :: r => if FP.dsub x y &&& 0x7fffffffffffffff ≤ 0x7ff0000000000000 then some (.double (FP.dsub x y) :: r) else none | _ => none
  | .dmul => match st with | .double y :: .double x :: r => if FP.dmul x y &&& 0x7fffffffffffffff ≤ 0x7ff0000000000000 then some (.double (FP.dmul x y) :: r) else none | _ => none
  | .ddiv => match st with | .double y :: .double x :: r => if FP.ddiv x y &&& 0x7fffffffffffffff ≤ 0x7ff0000000000000 then some (.double (FP.ddiv x y) :: r) else none | _ => none
  | .dcmp op => match st with | .double y :: .double x :: r => some (.int (Op.cmpValue (FP.dcmp x y) op) :: r) | _ => none
  | .dup => match st with | .int x :: r => some (.int x :: .int x :: r) | .ref x :: r => some (.ref x :: .ref x :: r) | _ => none
  | .dup2 => match st with | .int y :: .ref x :: r => some (.int y :: .ref x :: .int y :: .ref x :: r) | _ => none
  | .dup_x1 => match st with | .int x :: .ref y :: r => some (.int x :: .ref y :: .int x :: r) | _ => none
  | .pop => match st with | .int _ :: r => some r | .ref _ :: r => some r | .float _ :: r => some r | _ => none
  | _ => none
/-- locals -/
def stL (ins : Instr) (v : Value) (lc : LC) (st : List Value) : Option (LC × List Value) :=
  match ins with
  | .iload i => match lget lc i with | some (.int x) => some (lc, .int x :: st) | _ => none
  | .iload_n i => match lget lc i with | some (.int x) => some (lc, .int x :: st) | _ => none
  | .aload i => match lget lc i with | some (.ref x) => some (lc, .ref x :: st) | _ => none
  | .aload_n i => match lget lc i with | some (.ref x) => some (lc, .ref x :: st) | _ => none
  | .fload i => match lget lc i with | some (.float x) => some (lc, .float x :: st) | _ => none
  | .fload_n i => match lget lc i with | some (.float x) => some (lc, .float x :: st) | _ => none
  | .lload i => match lget lc i with | some (.long x) => some (lc, .long x :: st) | _ => none
  | .lload_n i => match lget lc i with | some (.long x) => some (lc, .long x :: st) | _ => none
  | .dload i => match lget lc i with | some (.double x) => some (lc, .double x :: st) | _ => none
  | .dload_n i => match lget lc i with | some (.double x) => some (lc, .double x :: st) | _ => none
  | .istore i => match st with | .int x :: r => some (lset1 lc i (.int x), r) | _ => none
  | .istore_n i => match st with | .int x :: r => some (lset1 lc i (.int x), r) | _ => none
  | .astore i => match st with | .ref x :: r => some (lset1 lc i (.ref x), r) | _ => none
  | .astore_n i => match st with | .ref x :: r => some (lset1 lc i (.ref x), r) | _ => none
  | .fstore i => match st with | .float x :: r => some (lset1 lc i (.float x), r) | _ => none
  | .fstore_n i => match st with | .float x :: r => some (lset1 lc i (.float x), r) | _ => none
  | .lstore i => match st with | .long x :: r => some (lset2 lc i (.long x), r) | _ => none
  | .lstore_n i => match st with | .long x :: r => some (lset2 lc i (.long x), r) | _ => none
  | .dstore i => match st with | .double x :: r => some (lset2 lc i (.double x), r) | _ => none
  | .dstore_n i => match st with | .double x :: r => some (lset2 lc i (.double x), r) | _ => none
  | .iinc i _ => match v with | .int n => (match lget lc i with | some (.int x) => some (lset1 lc i (.int (x + n)), st) | _ => none) | _ => none
  | _ => none
/-- branches: whether it is taken -/
def stB (ins : Instr) (st : List Value) : Option (Bool × List Value) :=
  match ins with
  | .goto _ => some (true, st)
  | .ifCond .eq _ => match st with | .int x :: r => some (decide (x = 0), r) | _ => none
  | .ifCond .ne _ => match st with | .int x :: r => some (decide (x ≠ 0), r) | _ => none
  | .ifCond .lt _ => match st with | .int x :: r => some (decide (x < 0), r) | _ => none
  | .ifCond .ge _ => match st with | .int x :: r => some (decide (0 ≤ x), r) | _ => none
  | .ifCond .gt _ => match st with | .int x :: r => some (decide (0 < x), r) | _ => none
  | .ifCond .le _ => match st with | .int x :: r => some (decide (x ≤ 0), r) | _ => none
  | .if_icmp .eq _ => match st with | .int y :: .int x :: r => some (decide (x = y), r) | _ => none
  | .if_icmp .ne _ => match st with | .int y :: .int x :: r => some (decide (x ≠ y), r) | _ => none
  | .if_icmp .lt _ => match st with | .int y :: .int x :: r => some (decide (x < y), r) | _ => none
  | .if_icmp .ge _ => match st with | .int y :: .int x :: r => some (decide (y ≤ x), r) | _ => none
  | .if_icmp .gt _ => match st with | .int y :: .int x :: r => some (decide (y < x), r) | _ => none
  | .if_icmp .le _ => match st with | .int y :: .int x :: r => some (decide (x ≤ y), r) | _ => none
  | .ifnonnull _ => match st with | .ref _ :: r => some (true, r) | _ => none
  | .ifnull _ => match st with | .ref _ :: r => some (false, r) | _ => none
  | _ => none
/-- what a slot of an object holds: 0 an int, 1 a boolean, 2 a char, t + 3 the cell t -/
def fv (s : Nat) (x : Int32) : Value := match s with
  | 0 => .int x
  | 1 => .int x
  | 2 => .int x
  | t + 3 => .ref t
/-- may x be put in a slot or be answered as a thing of this kind (0 int, 1 boolean, 2 char) -/
def kOk (s : Nat) (x : Int32) : Bool := match s with
  | 0 => true
  | 1 => decide (x = 0) || decide (x = 1)
  | 2 => decide (¬ x < 0 ∧ x ≤ 65535)
  | _ => false
/-- the heap -/
def stH (ins : Instr) (r1 r2 : Nat) (st : List Value) (h : AH) : Option (List Value × AH) :=
  match ins with
  | .getfield _ => match st with
    | .ref k :: r => match layAt k with
      | (0, ci, sl) => if ci = r1 then (match sl[r2]? with | some s => some (fv s (h.1 k r2) :: r, h) | none => none) else none
      | _ => none
    | _ => none
  | .putfield _ => match st with
    | .int x :: .ref k :: r => match layAt k with
      | (0, ci, sl) => if ci = r1 then (match sl[r2]? with | some s => if kOk s x = true then some (r, hI h k r2 x) else none | none => none) else none
      | _ => none
    | _ => none
  | .iaload => match st with
    | .int i :: .ref k :: r => match layAt k with
      | (1, n, _) => if i < 0 ∨ n ≤ i.toNatClampNeg then none else some (.int (h.1 k i.toNatClampNeg) :: r, h)
      | _ => none
    | _ => none
  | .caload => match st with
    | .int i :: .ref k :: r => match layAt k with
      | (2, n, _) => if i < 0 ∨ n ≤ i.toNatClampNeg then none else some (.int (h.1 k i.toNatClampNeg) :: r, h)
      | _ => none
    | _ => none
  | .faload => match st with
    | .int i :: .ref k :: r => match layAt k with
      | (4, n, _) => if i < 0 ∨ n ≤ i.toNatClampNeg then none else some (.float (h.2.1 k i.toNatClampNeg) :: r, h)
      | _ => none
    | _ => none
  | .aaload => match st with
    | .int i :: .ref k :: r => match layAt k with
      | (7, n, ts) => if i < 0 ∨ n ≤ i.toNatClampNeg then none else (match ts[i.toNatClampNeg]? with | some t => some (.ref t :: r, h) | none => none)
      | _ => none
    | _ => none
  | .iastore => match st with
    | .int x :: .int i :: .ref k :: r => match layAt k with
      | (1, n, _) => if i < 0 ∨ n ≤ i.toNatClampNeg then none else some (r, hI h k i.toNatClampNeg x)
      | _ => none
    | _ => none
  | .castore => match st with
    | .int x :: .int i :: .ref k :: r => match layAt k with
      | (2, n, _) => if i < 0 ∨ n ≤ i.toNatClampNeg then none else if kOk 2 x = true then some (r, hI h k i.toNatClampNeg x) else none
      | _ => none
    | _ => none
  | .fastore => match st with
    | .float x :: .int i :: .ref k :: r => match layAt k with
      | (4, n, _) => if i < 0 ∨ n ≤ i.toNatClampNeg then none else some (r, hF h k i.toNatClampNeg x)
      | _ => none
    | _ => none
  | .arraylength => match st with
    | .ref k :: r => match layAt k with
      | (t, n, _) => if t = 1 ∨ t = 2 ∨ t = 4 then some (.int (Int32.ofNat n) :: r, h) else none
    | _ => none
  | _ => none
/-- the JDK's own -/
def stP (r3 : Nat) (st : List Value) (h : AH) : Option (List Value × AH) :=
  match r3 with
  | 2 => match st with | .int y :: .int x :: r => some (.int (if x < y then y else x) :: r, h) | _ => none
  | 3 => match st with | .int y :: .int x :: r => some (.int (if y < x then y else x) :: r, h) | _ => none
  | 4 => match st with | .int b :: r => if vn_sni2f b = false then some (.float b.toUInt32 :: r, h) else none | _ => none
  | 5 => match st with | .double b :: r => some (.long b.toInt64 :: r, h) | _ => none
  | 6 => match st with
    | .int n :: .int dp :: .ref a :: .int sp :: .ref a0 :: r =>
      if sp < 0 ∨ dp < 0 ∨ n < 0 then none else
      match layAt a0, layAt a with
      | (1, n0, _), (1, n1, _) => if sp.toNatClampNeg + n.toNatClampNeg ≤ n0 ∧ dp.toNatClampNeg + n.toNatClampNeg ≤ n1 then some (r, hIr h a (va_cpy (h.1 a0) (h.1 a) sp.toNatClampNeg dp.toNatClampNeg n.toNatClampNeg)) else none
      | (4, n0, _), (4, n1, _) => if sp.toNatClampNeg + n.toNatClampNeg ≤ n0 ∧ dp.toNatClampNeg + n.toNatClampNeg ≤ n1 then some (r, hFr h a (va_cpy (h.2.1 a0) (h.2.1 a) sp.toNatClampNeg dp.toNatClampNeg n.toNatClampNeg)) else none
      | _, _ => none
    | _ => none
  | _ => none
def swt (q : List (Int32 × Nat) × Nat) (x : Int32) : Nat := match q.1.find? (fun e => e.1 == x) with | some e => e.2 | none => q.2
/-- a call's arguments out of the stack, the receiver first (kind 0: with one) -/
def cArgs (kd na mj : Nat) (st : List Value) : Option (List Value × List Value) :=
  if na ≤ st.length then (match kd with
    | 1 => some ((st.take na).reverse, st.drop na)
    | _ => match st.drop na with
      | .ref b :: r => match layAt b with
        | (0, ci, _) => if ci = kOf (cO mj) then some (.ref b :: (st.take na).reverse, r) else none
        | _ => none
      | _ => none) else none
def rKind : Option FieldType → Nat
  | some .int => 0
  | some .boolean => 1
  | some .char => 2
  | _ => 3
/-- what a method answers that stands at a return -/
def retv (mj pc : Nat) (st : List Value) : Option (Option Value) :=
  match cdT mj pc with
  | some (9, .ireturn, _) => match st with | [.int x] => if kOk (rKind (cR mj)) x = true then some (some (.int x)) else none | _ => none
  | some (9, .freturn, _) => match st with | [.float x] => some (some (.float x)) | _ => none
  | some (9, .dreturn, _) => match st with | [.double x] => some (some (.double x)) | _ => none
  | some (9, .lreturn, _) => match st with | [.long x] => some (some (.long x)) | _ => none
  | some (9, .return_, _) => match st with | [] => some none | _ => none
  | _ => none
/-- one instruction that is no call, no branch -/
def stp (mi pc : Nat) (lc : LC) (st : List Value) (h : AH) : Option Cf :=
  match cdT mi pc with
  | some (0, ins, nx, _, _, _, v) => match stA ins v st with | some st' => some (nx, lc, st', h) | none => none
  | some (1, ins, nx, _, _, _, v) => match stL ins v lc st with | some (lc', st') => some (nx, lc', st', h) | none => none
  | some (3, ins, nx, r1, r2, _, _) => match stH ins r1 r2 st h with | some (st', h') => some (nx, lc, st', h') | none => none
  | some (5, _, nx, _, _, r3, _) => if ((st.drop 2).map fun v => v.category).sum ≤ 8 then (match stP r3 st h with | some (st', h') => some (nx, lc, st', h') | none => none) else none
  | some (6, _, _, _, _, _, _) => match st with | .int x :: r => some (swt (cSw mi pc) x, lc, r, h) | _ => none
  | _ => none
/-- runs on to a return, or to what this can't do; d: how many calls may stand open -/
def run : Nat → Nat → Nat → Nat → LC → List Value → AH → Option Cf
  | 0, _, _, _, _, _, _ => none
  | n + 1, d, mi, pc, lc, st, h =>
    match cdT mi pc with
    | none => none
    | some (2, ins, nx, r1, _, _, _) => match stB ins st with | some q => run n d mi (if q.1 = true then r1 else nx) lc q.2 h | none => none
    | some (4, _, nx, mj, na, kd, _) => match d with
      | 0 => none
      | d' + 1 => match cArgs kd na mj st with
        | none => none
        | some q => if (q.2.map fun v => v.category).sum ≤ 8 ∧ (q.1.map fun v => v.category).sum ≤ cM mj then (match run n d' mj 0 (lv_args 0 q.1) [] h with
          | none => none
          | some c => match retv mj c.1 c.2.2.1 with
            | none => none
            | some v => run n d mi nx lc (v.toList ++ q.2) c.2.2.2) else none
    | some (7, _) => some (pc, lc, st, h)
    | some (9, _) => some (pc, lc, st, h)
    | some _ => match stp mi pc lc st h with | none => none | some c => run n d mi c.1 c.2.1 c.2.2.1 c.2.2.2

end
