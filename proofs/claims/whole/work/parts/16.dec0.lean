/-! readings of the methods: the heap behind the constructors; the run up to the next head of a loop -/
/-- kind and length of each cell -/
def zK1 (a : Nat) : Nat × Nat := (bif Nat.ble 153 a then (bif Nat.ble 228 a then (bif Nat.ble 266 a then (bif Nat.ble 285 a then (bif Nat.ble 294 a then (bif Nat.ble 299 a then (bif Nat.ble 301 a then (bif Nat.ble 302 a then (bif Nat.ble 303 a then (16, 0) else (14, 2000)) else (14, 400)) else (bif Nat.ble 300 a then (12, 400) else (12, 400))) else (bif Nat.ble 296 a then (bif Nat.ble 297 a then (bif Nat.ble 298 a then (12, 400) else (13, 6)) else (12, 400)) else (bif Nat.ble 295 a then (12, 400) else (12, 64)))) else (bif Nat.ble 289 a then (bif Nat.ble 291 a then (bif Nat.ble 292 a then (bif Nat.ble 293 a then (12, 2000) else (12, 2000)) else (13, 2000)) else (bif Nat.ble 290 a then (13, 2000) else (12, 400))) else (bif Nat.ble 287 a then (bif Nat.ble 288 a then (12, 400) else (12, 400)) else (bif Nat.ble 286 a then (13, 400) else (12, 2000))))) else (bif Nat.ble 275 a then (bif Nat.ble 280 a then (bif Nat.ble 282 a then (bif Nat.ble 283 a then (bif Nat.ble 284 a then (12, 2000) else (12, 2000)) else (12, 2000)) else (bif Nat.ble 281 a then (12, 2000) else (12, 2000))) else (bif Nat.ble 277 a then (bif Nat.ble 278 a then (bif Nat.ble 279 a then (12, 2000) else (12, 2000)) else (12, 2000)) else (bif Nat.ble 276 a then (14, 2400) else (14, 2000)))) else (bif Nat.ble 270 a then (bif Nat.ble 272 a then (bif Nat.ble 273 a then (bif Nat.ble 274 a then (12, 2000) else (12, 2000)) else (12, 2000)) else (bif Nat.ble 271 a then (13, 400) else (12, 400))) else (bif Nat.ble 268 a then (bif Nat.ble 269 a then (12, 400) else (13, 400)) else (bif Nat.ble 267 a then (12, 12) else (12, 12)))))) else (bif Nat.ble 247 a then (bif Nat.ble 256 a then (bif Nat.ble 261 a then (bif Nat.ble 263 a then (bif Nat.ble 264 a then (bif Nat.ble 265 a then (12, 600) else (13, 1906)) else (13, 15248)) else (bif Nat.ble 262 a then (13, 1906) else (11, 65))) else (bif Nat.ble 258 a then (bif Nat.ble 259 a then (bif Nat.ble 260 a then (12, 8400) else (13, 1200)) else (13, 1200)) else (bif Nat.ble 257 a then (12, 1200) else (12, 1200)))) else (bif Nat.ble 251 a then (bif Nat.ble 253 a then (bif Nat.ble 254 a then (bif Nat.ble 255 a then (3, 9) else (12, 6)) else (12, 240)) else (bif Nat.ble 252 a then (12, 240) else (12, 1200))) else (bif Nat.ble 249 a then (bif Nat.ble 250 a then (12, 1200) else (12, 1200)) else (bif Nat.ble 248 a then (12, 1200) else (12, 1200))))) else (bif Nat.ble 237 a then (bif Nat.ble 242 a then (bif Nat.ble 244 a then (bif Nat.ble 245 a then (bif Nat.ble 246 a then (12, 1200) else (12, 1200)) else (12, 1200)) else (bif Nat.ble 243 a then (12, 1200) else (12, 1200))) else (bif Nat.ble 239 a then (bif Nat.ble 240 a then (bif Nat.ble 241 a then (12, 1200) else (12, 1200)) else (12, 1200)) else (bif Nat.ble 238 a then (13, 1200) else (8, 20)))) else (bif Nat.ble 232 a then (bif Nat.ble 234 a then (bif Nat.ble 235 a then (bif Nat.ble 236 a then (13, 1200) else (13, 1200)) else (12, 1200)) else (bif Nat.ble 233 a then (12, 1200) else (12, 1200))) else (bif Nat.ble 230 a then (bif Nat.ble 231 a then (12, 1200) else (12, 1200)) else (bif Nat.ble 229 a then (12, 1200) else (2, 9))))))) else (bif Nat.ble 190 a then (bif Nat.ble 209 a then (bif Nat.ble 218 a then (bif Nat.ble 223 a then (bif Nat.ble 225 a then (bif Nat.ble 226 a then (bif Nat.ble 227 a then (13, 240) else (13, 240)) else (12, 240)) else (bif Nat.ble 224 a then (12, 240) else (12, 240))) else (bif Nat.ble 220 a then (bif Nat.ble 221 a then (bif Nat.ble 222 a then (12, 240) else (13, 240)) else (0, 8)) else (bif Nat.ble 219 a then (12, 6) else (12, 12)))) else (bif Nat.ble 213 a then (bif Nat.ble 215 a then (bif Nat.ble 216 a then (bif Nat.ble 217 a then (12, 12) else (5, 5)) else (12, 240)) else (bif Nat.ble 214 a then (13, 240) else (6, 3))) else (bif Nat.ble 211 a then (bif Nat.ble 212 a then (12, 8) else (12, 240)) else (bif Nat.ble 210 a then (13, 240) else (6, 3))))) else (bif Nat.ble 199 a then (bif Nat.ble 204 a then (bif Nat.ble 206 a then (bif Nat.ble 207 a then (bif Nat.ble 208 a then (13, 40) else (13, 40)) else (4, 3)) else (bif Nat.ble 205 a then (13, 8) else (13, 8))) else (bif Nat.ble 201 a then (bif Nat.ble 202 a then (bif Nat.ble 203 a then (4, 3) else (13, 80)) else (13, 80)) else (bif Nat.ble 200 a then (4, 3) else (9, 13)))) else (bif Nat.ble 194 a then (bif Nat.ble 196 a then (bif Nat.ble 197 a then (bif Nat.ble 198 a then (12, 6) else (12, 12)) else (12, 12)) else (bif Nat.ble 195 a then (5, 5) else (12, 240))) else (bif Nat.ble 192 a then (bif Nat.ble 193 a then (13, 240) else (6, 3)) else (bif Nat.ble 191 a then (12, 8) else (12, 240)))))) else (bif Nat.ble 171 a then (bif Nat.ble 180 a then (bif Nat.ble 185 a then (bif Nat.ble 187 a then (bif Nat.ble 188 a then (bif Nat.ble 189 a then (13, 240) else (6, 3)) else (13, 40)) else (bif Nat.ble 186 a then (13, 40) else (4, 3))) else (bif Nat.ble 182 a then (bif Nat.ble 183 a then (bif Nat.ble 184 a then (13, 8) else (13, 8)) else (4, 3)) else (bif Nat.ble 181 a then (13, 80) else (13, 80)))) else (bif Nat.ble 175 a then (bif Nat.ble 177 a then (bif Nat.ble 178 a then (bif Nat.ble 179 a then (4, 3) else (9, 13)) else (12, 6)) else (bif Nat.ble 176 a then (12, 12) else (12, 12))) else (bif Nat.ble 173 a then (bif Nat.ble 174 a then (5, 5) else (12, 240)) else (bif Nat.ble 172 a then (13, 240) else (6, 3))))) else (bif Nat.ble 162 a then (bif Nat.ble 166 a then (bif Nat.ble 168 a then (bif Nat.ble 169 a then (bif Nat.ble 170 a then (12, 8) else (12, 240)) else (13, 240)) else (bif Nat.ble 167 a then (6, 3) else (13, 40))) else (bif Nat.ble 164 a then (bif Nat.ble 165 a then (13, 40) else (4, 3)) else (bif Nat.ble 163 a then (13, 8) else (13, 8)))) else (bif Nat.ble 157 a then (bif Nat.ble 159 a then (bif Nat.ble 160 a then (bif Nat.ble 161 a then (4, 3) else (13, 80)) else (13, 80)) else (bif Nat.ble 158 a then (4, 3) else (9, 13))) else (bif Nat.ble 155 a then (bif Nat.ble 156 a then (12, 6) else (12, 12)) else (bif Nat.ble 154 a then (12, 12) else (5, 5)))))))) else (bif Nat.ble 77 a then (bif Nat.ble 115 a then (bif Nat.ble 134 a then (bif Nat.ble 143 a then (bif Nat.ble 148 a then (bif Nat.ble 150 a then (bif Nat.ble 151 a then (bif Nat.ble 152 a then (12, 240) else (13, 240)) else (6, 3)) else (bif Nat.ble 149 a then (12, 8) else (12, 240))) else (bif Nat.ble 145 a then (bif Nat.ble 146 a then (bif Nat.ble 147 a then (13, 240) else (6, 3)) else (13, 40)) else (bif Nat.ble 144 a then (13, 40) else (4, 3)))) else (bif Nat.ble 138 a then (bif Nat.ble 140 a then (bif Nat.ble 141 a then (bif Nat.ble 142 a then (13, 8) else (13, 8)) else (4, 3)) else (bif Nat.ble 139 a then (13, 80) else (13, 80))) else (bif Nat.ble 136 a then (bif Nat.ble 137 a then (4, 3) else (9, 13)) else (bif Nat.ble 135 a then (12, 6) else (12, 12))))) else (bif Nat.ble 124 a then (bif Nat.ble 129 a then (bif Nat.ble 131 a then (bif Nat.ble 132 a then (bif Nat.ble 133 a then (12, 12) else (5, 5)) else (12, 240)) else (bif Nat.ble 130 a then (13, 240) else (6, 3))) else (bif Nat.ble 126 a then (bif Nat.ble 127 a then (bif Nat.ble 128 a then (12, 8) else (12, 240)) else (13, 240)) else (bif Nat.ble 125 a then (6, 3) else (13, 40)))) else (bif Nat.ble 119 a then (bif Nat.ble 121 a then (bif Nat.ble 122 a then (bif Nat.ble 123 a then (13, 40) else (4, 3)) else (13, 8)) else (bif Nat.ble 120 a then (13, 8) else (4, 3))) else (bif Nat.ble 117 a then (bif Nat.ble 118 a then (13, 80) else (13, 80)) else (bif Nat.ble 116 a then (4, 3) else (9, 13)))))) else (bif Nat.ble 96 a then (bif Nat.ble 105 a then (bif Nat.ble 110 a then (bif Nat.ble 112 a then (bif Nat.ble 113 a then (bif Nat.ble 114 a then (12, 6) else (12, 12)) else (12, 12)) else (bif Nat.ble 111 a then (5, 5) else (12, 240))) else (bif Nat.ble 107 a then (bif Nat.ble 108 a then (bif Nat.ble 109 a then (13, 240) else (6, 3)) else (12, 8)) else (bif Nat.ble 106 a then (12, 240) else (13, 240)))) else (bif Nat.ble 100 a then (bif Nat.ble 102 a then (bif Nat.ble 103 a then (bif Nat.ble 104 a then (6, 3) else (13, 40)) else (13, 40)) else (bif Nat.ble 101 a then (4, 3) else (13, 8))) else (bif Nat.ble 98 a then (bif Nat.ble 99 a then (13, 8) else (4, 3)) else (bif Nat.ble 97 a then (13, 80) else (13, 80))))) else (bif Nat.ble 86 a then (bif Nat.ble 91 a then (bif Nat.ble 93 a then (bif Nat.ble 94 a then (bif Nat.ble 95 a then (4, 3) else (9, 13)) else (12, 6)) else (bif Nat.ble 92 a then (12, 12) else (12, 12))) else (bif Nat.ble 88 a then (bif Nat.ble 89 a then (bif Nat.ble 90 a then (5, 5) else (12, 240)) else (13, 240)) else (bif Nat.ble 87 a then (6, 3) else (12, 8)))) else (bif Nat.ble 81 a then (bif Nat.ble 83 a then (bif Nat.ble 84 a then (bif Nat.ble 85 a then (12, 240) else (13, 240)) else (6, 3)) else (bif Nat.ble 82 a then (13, 40) else (13, 40))) else (bif Nat.ble 79 a then (bif Nat.ble 80 a then (4, 3) else (13, 8)) else (bif Nat.ble 78 a then (13, 8) else (4, 3))))))) else (bif Nat.ble 39 a then (bif Nat.ble 58 a then (bif Nat.ble 67 a then (bif Nat.ble 72 a then (bif Nat.ble 74 a then (bif Nat.ble 75 a then (bif Nat.ble 76 a then (13, 80) else (13, 80)) else (4, 3)) else (bif Nat.ble 73 a then (9, 13) else (12, 6))) else (bif Nat.ble 69 a then (bif Nat.ble 70 a then (bif Nat.ble 71 a then (12, 12) else (12, 12)) else (5, 5)) else (bif Nat.ble 68 a then (12, 240) else (13, 240)))) else (bif Nat.ble 62 a then (bif Nat.ble 64 a then (bif Nat.ble 65 a then (bif Nat.ble 66 a then (6, 3) else (12, 8)) else (12, 240)) else (bif Nat.ble 63 a then (13, 240) else (6, 3))) else (bif Nat.ble 60 a then (bif Nat.ble 61 a then (13, 40) else (13, 40)) else (bif Nat.ble 59 a then (4, 3) else (13, 8))))) else (bif Nat.ble 48 a then (bif Nat.ble 53 a then (bif Nat.ble 55 a then (bif Nat.ble 56 a then (bif Nat.ble 57 a then (13, 8) else (4, 3)) else (13, 80)) else (bif Nat.ble 54 a then (13, 80) else (4, 3))) else (bif Nat.ble 50 a then (bif Nat.ble 51 a then (bif Nat.ble 52 a then (9, 13) else (15, 10)) else (12, 6)) else (bif Nat.ble 49 a then (12, 12) else (12, 12)))) else (bif Nat.ble 43 a then (bif Nat.ble 45 a then (bif Nat.ble 46 a then (bif Nat.ble 47 a then (5, 5) else (12, 240)) else (13, 240)) else (bif Nat.ble 44 a then (6, 3) else (12, 8))) else (bif Nat.ble 41 a then (bif Nat.ble 42 a then (12, 240) else (13, 240)) else (bif Nat.ble 40 a then (6, 3) else (13, 40)))))) else (bif Nat.ble 20 a then (bif Nat.ble 29 a then (bif Nat.ble 34 a then (bif Nat.ble 36 a then (bif Nat.ble 37 a then (bif Nat.ble 38 a then (13, 40) else (4, 3)) else (13, 8)) else (bif Nat.ble 35 a then (13, 8) else (4, 3))) else (bif Nat.ble 31 a then (bif Nat.ble 32 a then (bif Nat.ble 33 a then (13, 80) else (13, 80)) else (4, 3)) else (bif Nat.ble 30 a then (9, 13) else (12, 6)))) else (bif Nat.ble 24 a then (bif Nat.ble 26 a then (bif Nat.ble 27 a then (bif Nat.ble 28 a then (12, 12) else (12, 12)) else (5, 5)) else (bif Nat.ble 25 a then (12, 240) else (13, 240))) else (bif Nat.ble 22 a then (bif Nat.ble 23 a then (6, 3) else (12, 8)) else (bif Nat.ble 21 a then (12, 240) else (13, 240))))) else (bif Nat.ble 11 a then (bif Nat.ble 15 a then (bif Nat.ble 17 a then (bif Nat.ble 18 a then (bif Nat.ble 19 a then (6, 3) else (13, 40)) else (13, 40)) else (bif Nat.ble 16 a then (4, 3) else (13, 8))) else (bif Nat.ble 13 a then (bif Nat.ble 14 a then (13, 8) else (4, 3)) else (bif Nat.ble 12 a then (13, 80) else (13, 80)))) else (bif Nat.ble 6 a then (bif Nat.ble 8 a then (bif Nat.ble 9 a then (bif Nat.ble 10 a then (4, 3) else (9, 13)) else (7, 7)) else (bif Nat.ble 7 a then (12, 54) else (1, 2))) else (bif Nat.ble 4 a then (bif Nat.ble 5 a then (12, 600) else (1, 2)) else (bif Nat.ble 3 a then (10, 15) else (16, 0)))))))))
def zK (len a : Nat) : Nat × Nat := bif Nat.beq a 1 then (20, len) else zK1 a
def zR1 (a k : Nat) : Nat := (bif Nat.ble 116 a then (bif Nat.ble 175 a then (bif Nat.ble 204 a then (bif Nat.ble 220 a then (bif Nat.ble 238 a then (bif Nat.ble 256 a then (bif Nat.ble 261 a then (bif Nat.ble 262 a then 0 else (bif Nat.beq k 0 then 262 else (bif Nat.beq k 1 then 263 else (bif Nat.beq k 3 then 264 else (bif Nat.beq k 4 then 265 else (bif Nat.beq k 13 then 266 else (bif Nat.beq k 14 then 267 else (bif Nat.beq k 22 then 268 else (bif Nat.beq k 23 then 269 else (bif Nat.beq k 24 then 270 else (bif Nat.beq k 25 then 271 else (bif Nat.beq k 27 then 272 else (bif Nat.beq k 28 then 273 else (bif Nat.beq k 29 then 274 else (bif Nat.beq k 30 then 275 else (bif Nat.beq k 31 then 276 else (bif Nat.beq k 33 then 277 else (bif Nat.beq k 34 then 278 else (bif Nat.beq k 35 then 279 else (bif Nat.beq k 36 then 280 else (bif Nat.beq k 37 then 281 else (bif Nat.beq k 38 then 282 else (bif Nat.beq k 39 then 283 else (bif Nat.beq k 40 then 284 else (bif Nat.beq k 41 then 285 else (bif Nat.beq k 42 then 286 else (bif Nat.beq k 44 then 287 else (bif Nat.beq k 45 then 288 else (bif Nat.beq k 46 then 289 else (bif Nat.beq k 49 then 290 else (bif Nat.beq k 50 then 291 else (bif Nat.beq k 51 then 292 else (bif Nat.beq k 52 then 293 else (bif Nat.beq k 53 then 294 else (bif Nat.beq k 57 then 295 else (bif Nat.beq k 58 then 296 else (bif Nat.beq k 59 then 297 else (bif Nat.beq k 60 then 298 else (bif Nat.beq k 61 then 299 else (bif Nat.beq k 62 then 300 else (bif Nat.beq k 63 then 301 else (bif Nat.beq k 64 then 302 else 0)))))))))))))))))))))))))))))))))))))))))) else 0) else (bif Nat.ble 255 a then (bif Nat.beq k 0 then 256 else (bif Nat.beq k 1 then 257 else (bif Nat.beq k 2 then 237 else (bif Nat.beq k 3 then 258 else (bif Nat.beq k 4 then 259 else (bif Nat.beq k 5 then 260 else 0)))))) else 0)) else (bif Nat.ble 228 a then (bif Nat.ble 229 a then (bif Nat.ble 237 a then (bif Nat.beq k 0 then 220 else (bif Nat.beq k 1 then 228 else (bif Nat.beq k 2 then 238 else (bif Nat.beq k 3 then 239 else (bif Nat.beq k 4 then 240 else (bif Nat.beq k 5 then 241 else (bif Nat.beq k 6 then 242 else (bif Nat.beq k 7 then 243 else (bif Nat.beq k 8 then 244 else (bif Nat.beq k 9 then 245 else (bif Nat.beq k 10 then 246 else (bif Nat.beq k 11 then 247 else (bif Nat.beq k 12 then 248 else (bif Nat.beq k 13 then 249 else (bif Nat.beq k 14 then 250 else (bif Nat.beq k 15 then 251 else (bif Nat.beq k 16 then 252 else (bif Nat.beq k 17 then 253 else (bif Nat.beq k 18 then 254 else 0))))))))))))))))))) else 0) else (bif Nat.beq k 0 then 229 else (bif Nat.beq k 1 then 230 else (bif Nat.beq k 2 then 231 else (bif Nat.beq k 3 then 232 else (bif Nat.beq k 4 then 233 else (bif Nat.beq k 5 then 234 else (bif Nat.beq k 6 then 235 else (bif Nat.beq k 7 then 236 else 0))))))))) else (bif Nat.ble 221 a then 0 else (bif Nat.beq k 0 then 221 else (bif Nat.beq k 1 then 222 else (bif Nat.beq k 2 then 223 else (bif Nat.beq k 3 then 224 else (bif Nat.beq k 4 then 225 else (bif Nat.beq k 5 then 226 else (bif Nat.beq k 6 then 227 else 0)))))))))) else (bif Nat.ble 210 a then (bif Nat.ble 214 a then (bif Nat.ble 216 a then (bif Nat.ble 217 a then 0 else (bif Nat.beq k 0 then 217 else (bif Nat.beq k 1 then 218 else 0))) else 0) else (bif Nat.ble 213 a then (bif Nat.beq k 0 then 214 else (bif Nat.beq k 1 then 215 else 0)) else 0)) else (bif Nat.ble 207 a then (bif Nat.ble 209 a then (bif Nat.beq k 0 then 210 else (bif Nat.beq k 1 then 211 else 0)) else 0) else (bif Nat.ble 206 a then (bif Nat.beq k 0 then 207 else (bif Nat.beq k 1 then 208 else 0)) else 0)))) else (bif Nat.ble 189 a then (bif Nat.ble 196 a then (bif Nat.ble 200 a then (bif Nat.ble 201 a then (bif Nat.ble 203 a then (bif Nat.beq k 0 then 204 else (bif Nat.beq k 1 then 205 else 0)) else 0) else (bif Nat.beq k 0 then 201 else (bif Nat.beq k 1 then 202 else 0))) else (bif Nat.ble 199 a then (bif Nat.beq k 0 then 200 else (bif Nat.beq k 1 then 203 else (bif Nat.beq k 2 then 206 else (bif Nat.beq k 3 then 209 else (bif Nat.beq k 4 then 212 else (bif Nat.beq k 5 then 213 else (bif Nat.beq k 6 then 216 else (bif Nat.beq k 7 then 219 else 0)))))))) else 0)) else (bif Nat.ble 193 a then (bif Nat.ble 195 a then (bif Nat.beq k 0 then 196 else (bif Nat.beq k 1 then 197 else 0)) else 0) else (bif Nat.ble 192 a then (bif Nat.beq k 0 then 193 else (bif Nat.beq k 1 then 194 else 0)) else 0))) else (bif Nat.ble 182 a then (bif Nat.ble 185 a then (bif Nat.ble 186 a then (bif Nat.ble 188 a then (bif Nat.beq k 0 then 189 else (bif Nat.beq k 1 then 190 else 0)) else 0) else (bif Nat.beq k 0 then 186 else (bif Nat.beq k 1 then 187 else 0))) else (bif Nat.ble 183 a then 0 else (bif Nat.beq k 0 then 183 else (bif Nat.beq k 1 then 184 else 0)))) else (bif Nat.ble 179 a then (bif Nat.ble 180 a then 0 else (bif Nat.beq k 0 then 180 else (bif Nat.beq k 1 then 181 else 0))) else (bif Nat.ble 178 a then (bif Nat.beq k 0 then 179 else (bif Nat.beq k 1 then 182 else (bif Nat.beq k 2 then 185 else (bif Nat.beq k 3 then 188 else (bif Nat.beq k 4 then 191 else (bif Nat.beq k 5 then 192 else (bif Nat.beq k 6 then 195 else (bif Nat.beq k 7 then 198 else 0)))))))) else 0))))) else (bif Nat.ble 144 a then (bif Nat.ble 159 a then (bif Nat.ble 167 a then (bif Nat.ble 171 a then (bif Nat.ble 172 a then (bif Nat.ble 174 a then (bif Nat.beq k 0 then 175 else (bif Nat.beq k 1 then 176 else 0)) else 0) else (bif Nat.beq k 0 then 172 else (bif Nat.beq k 1 then 173 else 0))) else (bif Nat.ble 168 a then 0 else (bif Nat.beq k 0 then 168 else (bif Nat.beq k 1 then 169 else 0)))) else (bif Nat.ble 162 a then (bif Nat.ble 164 a then (bif Nat.ble 165 a then 0 else (bif Nat.beq k 0 then 165 else (bif Nat.beq k 1 then 166 else 0))) else 0) else (bif Nat.ble 161 a then (bif Nat.beq k 0 then 162 else (bif Nat.beq k 1 then 163 else 0)) else 0))) else (bif Nat.ble 151 a then (bif Nat.ble 154 a then (bif Nat.ble 157 a then (bif Nat.ble 158 a then (bif Nat.beq k 0 then 159 else (bif Nat.beq k 1 then 160 else 0)) else (bif Nat.beq k 0 then 158 else (bif Nat.beq k 1 then 161 else (bif Nat.beq k 2 then 164 else (bif Nat.beq k 3 then 167 else (bif Nat.beq k 4 then 170 else (bif Nat.beq k 5 then 171 else (bif Nat.beq k 6 then 174 else (bif Nat.beq k 7 then 177 else 0))))))))) else 0) else (bif Nat.ble 153 a then (bif Nat.beq k 0 then 154 else (bif Nat.beq k 1 then 155 else 0)) else 0)) else (bif Nat.ble 147 a then (bif Nat.ble 150 a then (bif Nat.beq k 0 then 151 else (bif Nat.beq k 1 then 152 else 0)) else 0) else (bif Nat.ble 146 a then (bif Nat.beq k 0 then 147 else (bif Nat.beq k 1 then 148 else 0)) else 0)))) else (bif Nat.ble 130 a then (bif Nat.ble 137 a then (bif Nat.ble 140 a then (bif Nat.ble 141 a then (bif Nat.ble 143 a then (bif Nat.beq k 0 then 144 else (bif Nat.beq k 1 then 145 else 0)) else 0) else (bif Nat.beq k 0 then 141 else (bif Nat.beq k 1 then 142 else 0))) else (bif Nat.ble 138 a then 0 else (bif Nat.beq k 0 then 138 else (bif Nat.beq k 1 then 139 else 0)))) else (bif Nat.ble 133 a then (bif Nat.ble 136 a then (bif Nat.beq k 0 then 137 else (bif Nat.beq k 1 then 140 else (bif Nat.beq k 2 then 143 else (bif Nat.beq k 3 then 146 else (bif Nat.beq k 4 then 149 else (bif Nat.beq k 5 then 150 else (bif Nat.beq k 6 then 153 else (bif Nat.beq k 7 then 156 else 0)))))))) else 0) else (bif Nat.ble 132 a then (bif Nat.beq k 0 then 133 else (bif Nat.beq k 1 then 134 else 0)) else 0))) else (bif Nat.ble 122 a then (bif Nat.ble 125 a then (bif Nat.ble 126 a then (bif Nat.ble 129 a then (bif Nat.beq k 0 then 130 else (bif Nat.beq k 1 then 131 else 0)) else 0) else (bif Nat.beq k 0 then 126 else (bif Nat.beq k 1 then 127 else 0))) else (bif Nat.ble 123 a then 0 else (bif Nat.beq k 0 then 123 else (bif Nat.beq k 1 then 124 else 0)))) else (bif Nat.ble 119 a then (bif Nat.ble 120 a then 0 else (bif Nat.beq k 0 then 120 else (bif Nat.beq k 1 then 121 else 0))) else (bif Nat.ble 117 a then 0 else (bif Nat.beq k 0 then 117 else (bif Nat.beq k 1 then 118 else 0)))))))) else (bif Nat.ble 56 a then (bif Nat.ble 84 a then (bif Nat.ble 99 a then (bif Nat.ble 108 a then (bif Nat.ble 111 a then (bif Nat.ble 112 a then (bif Nat.ble 115 a then (bif Nat.beq k 0 then 116 else (bif Nat.beq k 1 then 119 else (bif Nat.beq k 2 then 122 else (bif Nat.beq k 3 then 125 else (bif Nat.beq k 4 then 128 else (bif Nat.beq k 5 then 129 else (bif Nat.beq k 6 then 132 else (bif Nat.beq k 7 then 135 else 0)))))))) else 0) else (bif Nat.beq k 0 then 112 else (bif Nat.beq k 1 then 113 else 0))) else (bif Nat.ble 109 a then 0 else (bif Nat.beq k 0 then 109 else (bif Nat.beq k 1 then 110 else 0)))) else (bif Nat.ble 102 a then (bif Nat.ble 104 a then (bif Nat.ble 105 a then 0 else (bif Nat.beq k 0 then 105 else (bif Nat.beq k 1 then 106 else 0))) else 0) else (bif Nat.ble 101 a then (bif Nat.beq k 0 then 102 else (bif Nat.beq k 1 then 103 else 0)) else 0))) else (bif Nat.ble 91 a then (bif Nat.ble 95 a then (bif Nat.ble 96 a then (bif Nat.ble 98 a then (bif Nat.beq k 0 then 99 else (bif Nat.beq k 1 then 100 else 0)) else 0) else (bif Nat.beq k 0 then 96 else (bif Nat.beq k 1 then 97 else 0))) else (bif Nat.ble 94 a then (bif Nat.beq k 0 then 95 else (bif Nat.beq k 1 then 98 else (bif Nat.beq k 2 then 101 else (bif Nat.beq k 3 then 104 else (bif Nat.beq k 4 then 107 else (bif Nat.beq k 5 then 108 else (bif Nat.beq k 6 then 111 else (bif Nat.beq k 7 then 114 else 0)))))))) else 0)) else (bif Nat.ble 88 a then (bif Nat.ble 90 a then (bif Nat.beq k 0 then 91 else (bif Nat.beq k 1 then 92 else 0)) else 0) else (bif Nat.ble 87 a then (bif Nat.beq k 0 then 88 else (bif Nat.beq k 1 then 89 else 0)) else 0)))) else (bif Nat.ble 70 a then (bif Nat.ble 77 a then (bif Nat.ble 80 a then (bif Nat.ble 81 a then (bif Nat.ble 83 a then (bif Nat.beq k 0 then 84 else (bif Nat.beq k 1 then 85 else 0)) else 0) else (bif Nat.beq k 0 then 81 else (bif Nat.beq k 1 then 82 else 0))) else (bif Nat.ble 78 a then 0 else (bif Nat.beq k 0 then 78 else (bif Nat.beq k 1 then 79 else 0)))) else (bif Nat.ble 74 a then (bif Nat.ble 75 a then 0 else (bif Nat.beq k 0 then 75 else (bif Nat.beq k 1 then 76 else 0))) else (bif Nat.ble 73 a then (bif Nat.beq k 0 then 74 else (bif Nat.beq k 1 then 77 else (bif Nat.beq k 2 then 80 else (bif Nat.beq k 3 then 83 else (bif Nat.beq k 4 then 86 else (bif Nat.beq k 5 then 87 else (bif Nat.beq k 6 then 90 else (bif Nat.beq k 7 then 93 else 0)))))))) else 0))) else (bif Nat.ble 62 a then (bif Nat.ble 66 a then (bif Nat.ble 67 a then (bif Nat.ble 69 a then (bif Nat.beq k 0 then 70 else (bif Nat.beq k 1 then 71 else 0)) else 0) else (bif Nat.beq k 0 then 67 else (bif Nat.beq k 1 then 68 else 0))) else (bif Nat.ble 63 a then 0 else (bif Nat.beq k 0 then 63 else (bif Nat.beq k 1 then 64 else 0)))) else (bif Nat.ble 59 a then (bif Nat.ble 60 a then 0 else (bif Nat.beq k 0 then 60 else (bif Nat.beq k 1 then 61 else 0))) else (bif Nat.ble 57 a then 0 else (bif Nat.beq k 0 then 57 else (bif Nat.beq k 1 then 58 else 0))))))) else (bif Nat.ble 26 a then (bif Nat.ble 40 a then (bif Nat.ble 48 a then (bif Nat.ble 52 a then (bif Nat.ble 53 a then (bif Nat.ble 54 a then 0 else (bif Nat.beq k 0 then 54 else (bif Nat.beq k 1 then 55 else 0))) else (bif Nat.beq k 0 then 53 else (bif Nat.beq k 1 then 56 else (bif Nat.beq k 2 then 59 else (bif Nat.beq k 3 then 62 else (bif Nat.beq k 4 then 65 else (bif Nat.beq k 5 then 66 else (bif Nat.beq k 6 then 69 else (bif Nat.beq k 7 then 72 else 0))))))))) else (bif Nat.ble 51 a then (bif Nat.beq k 0 then 9 else (bif Nat.beq k 1 then 30 else (bif Nat.beq k 2 then 52 else (bif Nat.beq k 3 then 73 else (bif Nat.beq k 4 then 94 else (bif Nat.beq k 5 then 115 else (bif Nat.beq k 6 then 136 else (bif Nat.beq k 7 then 157 else (bif Nat.beq k 8 then 178 else (bif Nat.beq k 9 then 199 else 0)))))))))) else 0)) else (bif Nat.ble 44 a then (bif Nat.ble 45 a then (bif Nat.ble 47 a then (bif Nat.beq k 0 then 48 else (bif Nat.beq k 1 then 49 else 0)) else 0) else (bif Nat.beq k 0 then 45 else (bif Nat.beq k 1 then 46 else 0))) else (bif Nat.ble 41 a then 0 else (bif Nat.beq k 0 then 41 else (bif Nat.beq k 1 then 42 else 0))))) else (bif Nat.ble 32 a then (bif Nat.ble 35 a then (bif Nat.ble 37 a then (bif Nat.ble 38 a then 0 else (bif Nat.beq k 0 then 38 else (bif Nat.beq k 1 then 39 else 0))) else 0) else (bif Nat.ble 34 a then (bif Nat.beq k 0 then 35 else (bif Nat.beq k 1 then 36 else 0)) else 0)) else (bif Nat.ble 30 a then (bif Nat.ble 31 a then (bif Nat.beq k 0 then 32 else (bif Nat.beq k 1 then 33 else 0)) else (bif Nat.beq k 0 then 31 else (bif Nat.beq k 1 then 34 else (bif Nat.beq k 2 then 37 else (bif Nat.beq k 3 then 40 else (bif Nat.beq k 4 then 43 else (bif Nat.beq k 5 then 44 else (bif Nat.beq k 6 then 47 else (bif Nat.beq k 7 then 50 else 0))))))))) else (bif Nat.ble 27 a then 0 else (bif Nat.beq k 0 then 27 else (bif Nat.beq k 1 then 28 else 0)))))) else (bif Nat.ble 11 a then (bif Nat.ble 17 a then (bif Nat.ble 20 a then (bif Nat.ble 23 a then (bif Nat.ble 24 a then 0 else (bif Nat.beq k 0 then 24 else (bif Nat.beq k 1 then 25 else 0))) else 0) else (bif Nat.ble 19 a then (bif Nat.beq k 0 then 20 else (bif Nat.beq k 1 then 21 else 0)) else 0)) else (bif Nat.ble 14 a then (bif Nat.ble 16 a then (bif Nat.beq k 0 then 17 else (bif Nat.beq k 1 then 18 else 0)) else 0) else (bif Nat.ble 13 a then (bif Nat.beq k 0 then 14 else (bif Nat.beq k 1 then 15 else 0)) else 0))) else (bif Nat.ble 6 a then (bif Nat.ble 8 a then (bif Nat.ble 9 a then (bif Nat.ble 10 a then (bif Nat.beq k 0 then 11 else (bif Nat.beq k 1 then 12 else 0)) else (bif Nat.beq k 0 then 10 else (bif Nat.beq k 1 then 13 else (bif Nat.beq k 2 then 16 else (bif Nat.beq k 3 then 19 else (bif Nat.beq k 4 then 22 else (bif Nat.beq k 5 then 23 else (bif Nat.beq k 6 then 26 else (bif Nat.beq k 7 then 29 else 0))))))))) else (bif Nat.beq k 0 then 4 else 0)) else (bif Nat.ble 7 a then 0 else (bif Nat.beq k 0 then 7 else 0))) else (bif Nat.ble 4 a then (bif Nat.ble 5 a then 0 else (bif Nat.beq k 0 then 5 else 0)) else (bif Nat.ble 3 a then (bif Nat.beq k 0 then 4 else (bif Nat.beq k 1 then 6 else (bif Nat.beq k 2 then 8 else (bif Nat.beq k 3 then 51 else (bif Nat.beq k 4 then 220 else (bif Nat.beq k 5 then 228 else (bif Nat.beq k 6 then 237 else (bif Nat.beq k 7 then 255 else 0)))))))) else 0)))))))
def zR (nw dr a k : Nat) : Nat := bif Nat.beq a 3 && Nat.beq k 8 then nw else bif Nat.beq a 3 && Nat.beq k 9 then dr else zR1 a k
def mm_rk : List Nat := [0,0,1,0,0,0,0,1,2,0,0,0,0,0,1,1,0,0,0,2,2,2,2,0,0,1,1,1,1,1,0,0,0,0,0,1,1,1,0,0,0,1,1,1,1,1,1,1,0,1,1,1,1,1,0,0,1,2,1,1,0,0,0,0,0,0,1,1,1,1,0,0,0,0,0,0,1,0,0,0,0,0,0,0,0,0,0,0,1,1,1,1,1,1,1,1,1,1,1,1,1,0,0,2,0,2,1,0,0,1,1,1,1,1,0,1,1,1,1,1,1,1,1,1,1,1,1,1,1,1,1,1,1,2,1,2,1,1,1,1,2,1,1,1,3,0,0,1,0,1,1,0,1,2,3,2,1,2,0,0,0,0,0,1,1,1,1,1,1,1,2,2,1,1,2,1,1,2,1,2,2,1,1,1,0,0,1,2,1,2,2,1,2,2,1,1,1,0,1,1,0,1,1,1,1,1,1,1,1,1,1,1,0,1,1,1,1,0,1,0,1,1,1,1,1,1,1,1,1,1,1,1,1,1,1,0,1,0,1,0,1,1,0,0,0,2,0,0,0,0,0,1,1,1,0,0,1,1,2,1,2,1,1,0,0,1,1,1,1,1,1,1,1,0,1,1,1,1,1,1,2,1,1,1,1,2,1,1,1,2,2,1,1,1]
abbrev zM : Type := (Nat → Nat → Int32) × (Nat → Nat → Int64)
def zI (m : zM) (a k : Nat) (v : Int32) : zM := ((fun b j => if b = a ∧ j = k then v else m.1 b j), m.2)
def zL (m : zM) (a k : Nat) (v : Int64) : zM := (m.1, fun b j => if b = a ∧ j = k then v else m.2 b j)
/-- the small heap: w the script's length, what 'now' and 'draft' are; m the ints and longs -/
def zE (w : Nat × Nat × Nat) (m : zM) : mm_H := (303, 119191, zK w.1, m.1, m.2, zR w.2.1 w.2.2)
def rV (w : Nat × Nat × Nat) (Q : zM → Prop) : mm_Q := fun r h => ∃ m, r = none ∧ h = zE w m ∧ Q m
def rI (w : Nat × Nat × Nat) (Q : Int32 → zM → Prop) : mm_Q := fun r h => ∃ (v : Int32) (m : zM), r = some (.int v) ∧ h = zE w m ∧ Q v m
def rL (w : Nat × Nat × Nat) (Q : Int64 → zM → Prop) : mm_Q := fun r h => ∃ (v : Int64) (m : zM), r = some (.long v) ∧ h = zE w m ∧ Q v m
def rR (w : Nat × Nat × Nat) (Q : Nat → zM → Prop) : mm_Q := fun r h => ∃ (v : Nat) (m : zM), r = some (.ref v) ∧ h = zE w m ∧ Q v m
def rVw (_ : Nat × Nat × Nat) (Q : Nat × Nat × Nat → zM → Prop) : mm_Q := fun r h => ∃ w m, r = none ∧ h = zE w m ∧ Q w m
def rIw (_ : Nat × Nat × Nat) (Q : Int32 → Nat × Nat × Nat → zM → Prop) : mm_Q := fun r h => ∃ (v : Int32) (w : Nat × Nat × Nat) (m : zM), r = some (.int v) ∧ h = zE w m ∧ Q v w m
def cV (d k : Nat) (as : List Value) (w : Nat × Nat × Nat) (m : zM) (P : zM → Prop) : Prop := mm_C d k as (zE w m) (rV w P)
def cI (d k : Nat) (as : List Value) (w : Nat × Nat × Nat) (m : zM) (P : Int32 → zM → Prop) : Prop := mm_C d k as (zE w m) (rI w P)
def cL (d k : Nat) (as : List Value) (w : Nat × Nat × Nat) (m : zM) (P : Int64 → zM → Prop) : Prop := mm_C d k as (zE w m) (rL w P)
def cR (d k : Nat) (as : List Value) (w : Nat × Nat × Nat) (m : zM) (P : Nat → zM → Prop) : Prop := mm_C d k as (zE w m) (rR w P)
def cVw (d k : Nat) (as : List Value) (w : Nat × Nat × Nat) (m : zM) (P : Nat × Nat × Nat → zM → Prop) : Prop := mm_C d k as (zE w m) (rVw w P)
def cIw (d k : Nat) (as : List Value) (w : Nat × Nat × Nat) (m : zM) (P : Int32 → Nat × Nat × Nat → zM → Prop) : Prop := mm_C d k as (zE w m) (rIw w P)
/-- a call, by what the method answers -/
def mm_yc (e m : Nat) (as : List Value) (h : mm_H) (F : Option Value → mm_H → Prop) : Prop := match mm_lg mm_rk m with
  | some 0 => mm_C e m as h (fun r h1 => r = none ∧ F none h1)
  | some 1 => mm_C e m as h (fun r h1 => ∃ v : Int32, r = some (.int v) ∧ F (some (.int v)) h1)
  | some 2 => mm_C e m as h (fun r h1 => ∃ v : Int64, r = some (.long v) ∧ F (some (.long v)) h1)
  | _ => mm_C e m as h (fun r h1 => ∃ v : Nat, r = some (.ref v) ∧ F (some (.ref v)) h1)
def mm_ye (d m : Nat) (as : List Value) (h : mm_H) (F : Option Value → mm_H → Prop) : Prop := match d with
  | 0 => False
  | e + 1 => mm_yc e m as h F
def mm_gc (g : Option Prop) (P : Prop) : Prop := match g with
  | none => True ∧ P
  | some q => q ∧ P
theorem mm_gc_gd {g : Option Prop} {P P' : Prop} (f : P → P') (h : mm_gc g P) : mm_gd g P' := by
  cases g with
  | none => exact f h.2
  | some q => exact ⟨h.1, f h.2⟩
def mm_yo (o : mm_Out) (F : Nat → mm_Lv → List Value → mm_H → Prop) (d ip : Nat) (L : mm_Lv) (h : mm_H) (Q : mm_Q) : Prop := match o with
  | none => False
  | some (.inl (g, i, L', s', h')) => mm_gd g (F i L' s' h')
  | some (.inr (.inl (c, t, f, L', s', h'))) => (c → F t L' s' h') ∧ (¬ c → F f L' s' h')
  | some (.inr (.inr (.inl (cs, d, x, L', s', h')))) => mm_swW (fun t => F t L' s' h') x cs d
  | some (.inr (.inr (.inr (.inl (g, m, as, rest))))) => mm_gc g (mm_ye d m as h (fun r h1 => F (ip + 1) L (mm_rs r rest) h1))
  | some (.inr (.inr (.inr (.inr (g, v))))) => mm_gd g (Q v h)
def mm_yi (is : List mm_Ins) (F : Nat → mm_Lv → List Value → mm_H → Prop) (d : Nat) (Q : mm_Q) (i : Nat) (L : mm_Lv) (s : List Value) (h : mm_H) : Prop := match mm_lg is i with
  | none => False
  | some (ins, _, x, v) => mm_yo (mm_s1 ins x v i L s h) F d i L h Q
def mm_y (is : List mm_Ins) (cuts : List Nat) (d mi : Nat) (Q : mm_Q) (k : Nat) : Nat → mm_Lv → List Value → mm_H → Prop :=
  Nat.rec (fun i L s h => mm_W d mi i L s h Q) (fun _ F i L s h => bif List.elem i cuts then mm_W d mi i L s h Q else mm_yi is F d Q i L s h) k
theorem mm_ye_o {d m : Nat} {as : List Value} {h : mm_H} {F : Option Value → mm_H → Prop} {G : mm_Q} (hG : ∀ r h1, F r h1 → G r h1) (H : mm_ye d m as h F) : mm_cG mm_W d m as h G := by
  unfold mm_ye at H
  unfold mm_cG
  match d, H with
  | e + 1, H =>
    have H : mm_yc e m as h F := H
    show mm_C e m as h G
    unfold mm_yc at H
    split at H
    · exact mm_C_mono H (Nat.le_refl _) (fun r h1 q => by rw [q.1]; exact hG _ _ q.2)
    · exact mm_C_mono H (Nat.le_refl _) (fun r h1 ⟨v, q⟩ => by rw [q.1]; exact hG _ _ q.2)
    · exact mm_C_mono H (Nat.le_refl _) (fun r h1 ⟨v, q⟩ => by rw [q.1]; exact hG _ _ q.2)
    · exact mm_C_mono H (Nat.le_refl _) (fun r h1 ⟨v, q⟩ => by rw [q.1]; exact hG _ _ q.2)
theorem mm_yi_o {is : List mm_Ins} {F F' : Nat → mm_Lv → List Value → mm_H → Prop} {d mi n : Nat} {Q : mm_Q} {i : Nat} {L : mm_Lv} {s : List Value} {h : mm_H} (hF : ∀ i L s h, F i L s h → F' i L s h) (hi : mm_lg mm_K mi = some (n, is)) (H : mm_yi is F d Q i L s h) : mm_sW F' (mm_cG mm_W d) mi i L s h Q := by
  unfold mm_yi at H
  unfold mm_sW mm_at
  rw [hi]
  show match mm_lg is i with | none => False | some (ins, _, x, v) => _
  cases hc : mm_lg is i with
  | none => rw [hc] at H; exact H.elim
  | some q =>
    rw [hc] at H
    obtain ⟨ins, pc, x, v⟩ := q
    have H : mm_yo (mm_s1 ins x v i L s h) F d i L h Q := H
    show mm_oW (mm_s1 ins x v i L s h) F' _ i L h Q
    generalize mm_s1 ins x v i L s h = o at H ⊢
    match o, H with
    | some (.inl (g, i, L', s', h')), H => exact mm_gd_mono (hF _ _ _ _) H
    | some (.inr (.inl (c, t, f, L', s', h'))), H => exact ⟨fun q => hF _ _ _ _ (H.1 q), fun q => hF _ _ _ _ (H.2 q)⟩
    | some (.inr (.inr (.inl (cs, d, x, L', s', h')))), H => exact mm_swW_mono (fun t => hF _ _ _ _) cs d H
    | some (.inr (.inr (.inr (.inl (g, m, as, rest))))), H =>
      refine mm_gc_gd (fun z => mm_ye_o (fun r h1 q => ?_) z) H
      cases r with
      | none => exact hF _ _ _ _ q
      | some v => exact hF _ _ _ _ q
    | some (.inr (.inr (.inr (.inr (g, v))))), H => exact mm_gd_mono id H
theorem mm_y_o {is : List mm_Ins} {d mi n : Nat} {Q : mm_Q} (cuts : List Nat) (hi : mm_lg mm_K mi = some (n, is)) : ∀ (k i : Nat) (L : mm_Lv) (s : List Value) (h : mm_H), mm_y is cuts d mi Q k i L s h → mm_W d mi i L s h Q := by
  intro k
  induction k with
  | zero => intro i L s h H; exact H
  | succ k ih =>
    intro i L s h H
    have H : (bif List.elem i cuts then mm_W d mi i L s h Q else mm_yi is (mm_y is cuts d mi Q k) d Q i L s h) := H
    cases hb : List.elem i cuts with
    | true => rw [hb] at H; exact H
    | false =>
      rw [hb] at H
      exact mm_W_step (mm_yi_o ih hi H)
/-- from a head: one step, then on to the next head -/
theorem mm_yrun {is : List mm_Ins} {d mi n i : Nat} {L : mm_Lv} {s : List Value} {h : mm_H} {Q : mm_Q} (cuts : List Nat) (k : Nat) (hi : mm_lg mm_K mi = some (n, is)) (H : mm_yi is (mm_y is cuts d mi Q k) d Q i L s h) : mm_W d mi i L s h Q := mm_W_step (mm_yi_o (mm_y_o cuts hi k) hi H)
section USE
variable {d j : Nat} {as : List Value} {w : Nat × Nat × Nat} {m : zM}
theorem cV_use {P : zM → Prop} {F : Option Value → mm_H → Prop} (hr : mm_lg mm_rk j = some 0) (H : cV d j as w m P) (K : ∀ m1, P m1 → F none (zE w m1)) : mm_ye (d + 1) j as (zE w m) F := by
  show mm_yc d j as (zE w m) F
  unfold mm_yc
  rw [hr]
  refine mm_C_mono H (Nat.le_refl _) (fun r h1 q => ?_)
  obtain ⟨m1, e1, e2, q⟩ := q
  rw [e2]
  exact ⟨e1, K m1 q⟩
theorem cI_use {P : Int32 → zM → Prop} {F : Option Value → mm_H → Prop} (hr : mm_lg mm_rk j = some 1) (H : cI d j as w m P) (K : ∀ v m1, P v m1 → F (some (.int v)) (zE w m1)) : mm_ye (d + 1) j as (zE w m) F := by
  show mm_yc d j as (zE w m) F
  unfold mm_yc
  rw [hr]
  refine mm_C_mono H (Nat.le_refl _) (fun r h1 q => ?_)
  obtain ⟨v, m1, e1, e2, q⟩ := q
  rw [e2]
  exact ⟨v, e1, K v m1 q⟩
theorem cL_use {P : Int64 → zM → Prop} {F : Option Value → mm_H → Prop} (hr : mm_lg mm_rk j = some 2) (H : cL d j as w m P) (K : ∀ v m1, P v m1 → F (some (.long v)) (zE w m1)) : mm_ye (d + 1) j as (zE w m) F := by
  show mm_yc d j as (zE w m) F
  unfold mm_yc
  rw [hr]
  refine mm_C_mono H (Nat.le_refl _) (fun r h1 q => ?_)
  obtain ⟨v, m1, e1, e2, q⟩ := q
  rw [e2]
  exact ⟨v, e1, K v m1 q⟩
theorem cR_use {P : Nat → zM → Prop} {F : Option Value → mm_H → Prop} (hr : mm_lg mm_rk j = some 3) (H : cR d j as w m P) (K : ∀ v m1, P v m1 → F (some (.ref v)) (zE w m1)) : mm_ye (d + 1) j as (zE w m) F := by
  show mm_yc d j as (zE w m) F
  unfold mm_yc
  rw [hr]
  refine mm_C_mono H (Nat.le_refl _) (fun r h1 q => ?_)
  obtain ⟨v, m1, e1, e2, q⟩ := q
  rw [e2]
  exact ⟨v, e1, K v m1 q⟩
theorem cVw_use {P : Nat × Nat × Nat → zM → Prop} {F : Option Value → mm_H → Prop} (hr : mm_lg mm_rk j = some 0) (H : cVw d j as w m P) (K : ∀ w1 m1, P w1 m1 → F none (zE w1 m1)) : mm_ye (d + 1) j as (zE w m) F := by
  show mm_yc d j as (zE w m) F
  unfold mm_yc
  rw [hr]
  refine mm_C_mono H (Nat.le_refl _) (fun r h1 q => ?_)
  obtain ⟨w1, m1, e1, e2, q⟩ := q
  rw [e2]
  exact ⟨e1, K w1 m1 q⟩
theorem cIw_use {P : Int32 → Nat × Nat × Nat → zM → Prop} {F : Option Value → mm_H → Prop} (hr : mm_lg mm_rk j = some 1) (H : cIw d j as w m P) (K : ∀ v w1 m1, P v w1 m1 → F (some (.int v)) (zE w1 m1)) : mm_ye (d + 1) j as (zE w m) F := by
  show mm_yc d j as (zE w m) F
  unfold mm_yc
  rw [hr]
  refine mm_C_mono H (Nat.le_refl _) (fun r h1 q => ?_)
  obtain ⟨v, w1, m1, e1, e2, q⟩ := q
  rw [e2]
  exact ⟨v, e1, K v w1 m1 q⟩
theorem rV_mk {Q : zM → Prop} (H : Q m) : rV w Q none (zE w m) := ⟨m, rfl, rfl, H⟩
theorem rI_mk {Q : Int32 → zM → Prop} {v : Int32} (H : Q v m) : rI w Q (some (.int v)) (zE w m) := ⟨v, m, rfl, rfl, H⟩
theorem rL_mk {Q : Int64 → zM → Prop} {v : Int64} (H : Q v m) : rL w Q (some (.long v)) (zE w m) := ⟨v, m, rfl, rfl, H⟩
theorem rR_mk {Q : Nat → zM → Prop} {v : Nat} (H : Q v m) : rR w Q (some (.ref v)) (zE w m) := ⟨v, m, rfl, rfl, H⟩
theorem rVw_mk {w0 : Nat × Nat × Nat} {Q : Nat × Nat × Nat → zM → Prop} (H : Q w m) : rVw w0 Q none (zE w m) := ⟨w, m, rfl, rfl, H⟩
theorem rIw_mk {w0 : Nat × Nat × Nat} {Q : Int32 → Nat × Nat × Nat → zM → Prop} {v : Int32} (H : Q v w m) : rIw w0 Q (some (.int v)) (zE w m) := ⟨v, w, m, rfl, rfl, H⟩
theorem cV_in {L : mm_Lv} {Q : zM → Prop} (e : mm_pad (mm_en as) (mm_ml j) = L) (H : mm_W d j 0 L [] (zE w m) (rV w Q)) : cV d j as w m Q := by subst e; exact H
theorem cI_in {L : mm_Lv} {Q : Int32 → zM → Prop} (e : mm_pad (mm_en as) (mm_ml j) = L) (H : mm_W d j 0 L [] (zE w m) (rI w Q)) : cI d j as w m Q := by subst e; exact H
theorem cL_in {L : mm_Lv} {Q : Int64 → zM → Prop} (e : mm_pad (mm_en as) (mm_ml j) = L) (H : mm_W d j 0 L [] (zE w m) (rL w Q)) : cL d j as w m Q := by subst e; exact H
theorem cR_in {L : mm_Lv} {Q : Nat → zM → Prop} (e : mm_pad (mm_en as) (mm_ml j) = L) (H : mm_W d j 0 L [] (zE w m) (rR w Q)) : cR d j as w m Q := by subst e; exact H
theorem cVw_in {L : mm_Lv} {Q : Nat × Nat × Nat → zM → Prop} (e : mm_pad (mm_en as) (mm_ml j) = L) (H : mm_W d j 0 L [] (zE w m) (rVw w Q)) : cVw d j as w m Q := by subst e; exact H
theorem cIw_in {L : mm_Lv} {Q : Int32 → Nat × Nat × Nat → zM → Prop} (e : mm_pad (mm_en as) (mm_ml j) = L) (H : mm_W d j 0 L [] (zE w m) (rIw w Q)) : cIw d j as w m Q := by subst e; exact H
theorem zW_now {F : mm_H → Prop} {v : Nat} (H : F (zE (w.1, v, w.2.2) m)) : F (sR (zE w m) 3 8 v) := by
  have e : sR (zE w m) 3 8 v = zE (w.1, v, w.2.2) m := by
    unfold sR zE
    simp only [Prod.mk.injEq, true_and]
    funext b j
    show (if b = 3 ∧ j = 8 then v else zR w.2.1 w.2.2 b j) = zR v w.2.2 b j
    by_cases h : b = 3 ∧ j = 8
    · obtain ⟨rfl, rfl⟩ := h
      rfl
    · rw [if_neg h]
      unfold zR
      have e : (Nat.beq b 3 && Nat.beq j 8) = false := by
        cases hb : (Nat.beq b 3 && Nat.beq j 8) with
        | false => rfl
        | true =>
          rw [Bool.and_eq_true] at hb
          exact absurd ⟨Nat.eq_of_beq_eq_true hb.1, Nat.eq_of_beq_eq_true hb.2⟩ h
      rw [e]
      rfl
  rw [e]
  exact H
theorem zW_draft {F : mm_H → Prop} {v : Nat} (H : F (zE (w.1, w.2.1, v) m)) : F (sR (zE w m) 3 9 v) := by
  have e : sR (zE w m) 3 9 v = zE (w.1, w.2.1, v) m := by
    unfold sR zE
    simp only [Prod.mk.injEq, true_and]
    funext b j
    show (if b = 3 ∧ j = 9 then v else zR w.2.1 w.2.2 b j) = zR w.2.1 v b j
    by_cases h : b = 3 ∧ j = 9
    · obtain ⟨rfl, rfl⟩ := h
      rfl
    · rw [if_neg h]
      unfold zR
      have e : (Nat.beq b 3 && Nat.beq j 9) = false := by
        cases hb : (Nat.beq b 3 && Nat.beq j 9) with
        | false => rfl
        | true =>
          rw [Bool.and_eq_true] at hb
          exact absurd ⟨Nat.eq_of_beq_eq_true hb.1, Nat.eq_of_beq_eq_true hb.2⟩ h
      rw [e]
      rfl
  rw [e]
  exact H
end USE
/-! what is known of the cells -/
def zAr (w : Nat × Nat × Nat) (a kd n : Nat) : Prop := zK w.1 a = (kd, n)
theorem zAr_k {w : Nat × Nat × Nat} {a kd n : Nat} (h : zAr w a kd n) : (zK w.1 a).1 = kd := by rw [h]
theorem zAr_l {w : Nat × Nat × Nat} {a kd n : Nat} (h : zAr w a kd n) : (zK w.1 a).2 = n := by rw [h]
theorem zArK {len a : Nat} (h : (zK len a).1 = 12) : 12 ≤ (zK len a).1 ∧ (zK len a).1 < 16 := by omega
theorem zArK3 {len a : Nat} (h : (zK len a).1 = 13) : 12 ≤ (zK len a).1 ∧ (zK len a).1 < 16 := by omega
def zPa (w : Nat × Nat × Nat) (a n : Nat) : Prop := (zK w.1 a).1 = 4 ∧ zR w.2.1 w.2.2 a 0 = a + 1 ∧ zR w.2.1 w.2.2 a 1 = a + 2 ∧ zAr w (a + 1) 13 n ∧ zAr w (a + 2) 13 n
def zPr (w : Nat × Nat × Nat) (a : Nat) : Prop := (zK w.1 a).1 = 6 ∧ zR w.2.1 w.2.2 a 0 = a + 1 ∧ zR w.2.1 w.2.2 a 1 = a + 2 ∧ zAr w (a + 1) 13 240 ∧ zAr w (a + 2) 12 240
def zPt (w : Nat × Nat × Nat) (a : Nat) : Prop := (zK w.1 a).1 = 5 ∧ zR w.2.1 w.2.2 a 0 = a + 1 ∧ zR w.2.1 w.2.2 a 1 = a + 2 ∧ zAr w (a + 1) 12 12 ∧ zAr w (a + 2) 12 12
def zBy (w : Nat × Nat × Nat) (a n : Nat) : Prop := (zK w.1 a).1 = 1 ∧ zR w.2.1 w.2.2 a 0 = a + 1 ∧ zAr w (a + 1) 12 n
/-- what is told stands at one of these -/
def zT (b : Nat) : Prop := b = 9 ∨ b = 30 ∨ b = 52 ∨ b = 73 ∨ b = 94 ∨ b = 115 ∨ b = 136 ∨ b = 157 ∨ b = 178 ∨ b = 199
section TOLD
variable {w : Nat × Nat × Nat} {b : Nat}
theorem zT_k (h : zT b) : (zK w.1 b).1 = 9 := by rcases h with rfl | rfl | rfl | rfl | rfl | rfl | rfl | rfl | rfl | rfl <;> rfl
theorem zT_n (h : zT b) : ¬ b = 0 := by rcases h with rfl | rfl | rfl | rfl | rfl | rfl | rfl | rfl | rfl | rfl <;> decide
theorem zT_e0 (h : zT b) : zR w.2.1 w.2.2 b 0 = b + 1 := by rcases h with rfl | rfl | rfl | rfl | rfl | rfl | rfl | rfl | rfl | rfl <;> rfl
theorem zT_e1 (h : zT b) : zR w.2.1 w.2.2 b 1 = b + 4 := by rcases h with rfl | rfl | rfl | rfl | rfl | rfl | rfl | rfl | rfl | rfl <;> rfl
theorem zT_e2 (h : zT b) : zR w.2.1 w.2.2 b 2 = b + 7 := by rcases h with rfl | rfl | rfl | rfl | rfl | rfl | rfl | rfl | rfl | rfl <;> rfl
theorem zT_e3 (h : zT b) : zR w.2.1 w.2.2 b 3 = b + 10 := by rcases h with rfl | rfl | rfl | rfl | rfl | rfl | rfl | rfl | rfl | rfl <;> rfl
theorem zT_e4 (h : zT b) : zR w.2.1 w.2.2 b 4 = b + 13 := by rcases h with rfl | rfl | rfl | rfl | rfl | rfl | rfl | rfl | rfl | rfl <;> rfl
theorem zT_e5 (h : zT b) : zR w.2.1 w.2.2 b 5 = b + 14 := by rcases h with rfl | rfl | rfl | rfl | rfl | rfl | rfl | rfl | rfl | rfl <;> rfl
theorem zT_e6 (h : zT b) : zR w.2.1 w.2.2 b 6 = b + 17 := by rcases h with rfl | rfl | rfl | rfl | rfl | rfl | rfl | rfl | rfl | rfl <;> rfl
theorem zT_e7 (h : zT b) : zR w.2.1 w.2.2 b 7 = b + 20 := by rcases h with rfl | rfl | rfl | rfl | rfl | rfl | rfl | rfl | rfl | rfl <;> rfl
theorem zT_lex (h : zT b) : zPa w (b + 1) 80 := by rcases h with rfl | rfl | rfl | rfl | rfl | rfl | rfl | rfl | rfl | rfl <;> exact ⟨rfl, rfl, rfl, rfl, rfl⟩
theorem zT_end (h : zT b) : zPa w (b + 4) 8 := by rcases h with rfl | rfl | rfl | rfl | rfl | rfl | rfl | rfl | rfl | rfl <;> exact ⟨rfl, rfl, rfl, rfl, rfl⟩
theorem zT_sam (h : zT b) : zPa w (b + 7) 40 := by rcases h with rfl | rfl | rfl | rfl | rfl | rfl | rfl | rfl | rfl | rfl <;> exact ⟨rfl, rfl, rfl, rfl, rfl⟩
theorem zT_pr (h : zT b) : zPr w (b + 10) := by rcases h with rfl | rfl | rfl | rfl | rfl | rfl | rfl | rfl | rfl | rfl <;> exact ⟨rfl, rfl, rfl, rfl, rfl⟩
theorem zT_ge (h : zT b) : zPr w (b + 14) := by rcases h with rfl | rfl | rfl | rfl | rfl | rfl | rfl | rfl | rfl | rfl <;> exact ⟨rfl, rfl, rfl, rfl, rfl⟩
theorem zT_pt (h : zT b) : zPt w (b + 17) := by rcases h with rfl | rfl | rfl | rfl | rfl | rfl | rfl | rfl | rfl | rfl <;> exact ⟨rfl, rfl, rfl, rfl, rfl⟩
theorem zT_de (h : zT b) : zAr w (b + 13) 12 8 := by rcases h with rfl | rfl | rfl | rfl | rfl | rfl | rfl | rfl | rfl | rfl <;> rfl
theorem zT_we (h : zT b) : zAr w (b + 20) 12 6 := by rcases h with rfl | rfl | rfl | rfl | rfl | rfl | rfl | rfl | rfl | rfl <;> rfl
theorem zBy_tape : zBy w 4 600 := ⟨rfl, rfl, rfl⟩
theorem zBy_slate : zBy w 6 54 := ⟨rfl, rfl, rfl⟩
end TOLD
