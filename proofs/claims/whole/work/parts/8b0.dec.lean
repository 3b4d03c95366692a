/-! ===== the law, instruction by instruction ===== -/
theorem dW0 : decode code 0 = .ok (.new 7, 3) := by decide +kernel
theorem dW3 : decode code 3 = .ok (.dup, 1) := by decide +kernel
theorem dW4 : decode code 4 = .ok (.aload_n 0, 1) := by decide +kernel
theorem dW5 : decode code 5 = .ok (.iconst 0, 1) := by decide +kernel
theorem dW6 : decode code 6 = .ok (.invokestatic 9, 3) := by decide +kernel
theorem dW9 : decode code 9 = .ok (.invokespecial 15, 3) := by decide +kernel
theorem dW12 : decode code 12 = .ok (.astore_n 1, 1) := by decide +kernel
theorem dW13 : decode code 13 = .ok (.new 18, 3) := by decide +kernel
theorem dW16 : decode code 16 = .ok (.dup, 1) := by decide +kernel
theorem dW17 : decode code 17 = .ok (.aload_n 0, 1) := by decide +kernel
theorem dW18 : decode code 18 = .ok (.iconst 0, 1) := by decide +kernel
theorem dW19 : decode code 19 = .ok (.invokestatic 9, 3) := by decide +kernel
theorem dW22 : decode code 22 = .ok (.invokespecial 20, 3) := by decide +kernel
theorem dW25 : decode code 25 = .ok (.astore_n 2, 1) := by decide +kernel
theorem dW26 : decode code 26 = .ok (.iconst 1, 1) := by decide +kernel
theorem dW27 : decode code 27 = .ok (.istore_n 3, 1) := by decide +kernel
theorem dW28 : decode code 28 = .ok (.iload_n 3, 1) := by decide +kernel
theorem dW29 : decode code 29 = .ok (.aload_n 0, 1) := by decide +kernel
theorem dW30 : decode code 30 = .ok (.arraylength, 1) := by decide +kernel
theorem dW31 : decode code 31 = .ok (.bipush 6, 2) := by decide +kernel
theorem dW33 : decode code 33 = .ok (.isub, 1) := by decide +kernel
theorem dW34 : decode code 34 = .ok (.if_icmp .gt 992, 3) := by decide +kernel
theorem dW37 : decode code 37 = .ok (.aload_n 0, 1) := by decide +kernel
theorem dW38 : decode code 38 = .ok (.iload_n 3, 1) := by decide +kernel
theorem dW39 : decode code 39 = .ok (.iaload, 1) := by decide +kernel
theorem dW40 : decode code 40 = .ok (.bipush 31, 2) := by decide +kernel
theorem dW42 : decode code 42 = .ok (.iand, 1) := by decide +kernel
theorem dW43 : decode code 43 = .ok (.tableswitch 977 0 27 #[125, 168, 191, 224, 247, 310, 333, 346, 369, 392, 435, 468, 491, 514, 527, 550, 593, 626, 639, 662, 731, 784, 807, 830, 879, 928, 941, 954], 125) := by decide +kernel
theorem dW168 : decode code 168 = .ok (.aload_n 1, 1) := by decide +kernel
theorem dW169 : decode code 169 = .ok (.aload_n 0, 1) := by decide +kernel
theorem dW170 : decode code 170 = .ok (.iload_n 3, 1) := by decide +kernel
theorem dW171 : decode code 171 = .ok (.iconst 1, 1) := by decide +kernel
theorem dW172 : decode code 172 = .ok (.iadd, 1) := by decide +kernel
theorem dW173 : decode code 173 = .ok (.iaload, 1) := by decide +kernel
theorem dW174 : decode code 174 = .ok (.aload_n 0, 1) := by decide +kernel
theorem dW175 : decode code 175 = .ok (.iload_n 3, 1) := by decide +kernel
theorem dW176 : decode code 176 = .ok (.iconst 2, 1) := by decide +kernel
theorem dW177 : decode code 177 = .ok (.iadd, 1) := by decide +kernel
theorem dW178 : decode code 178 = .ok (.iaload, 1) := by decide +kernel
theorem dW179 : decode code 179 = .ok (.aload_n 0, 1) := by decide +kernel
theorem dW180 : decode code 180 = .ok (.iload_n 3, 1) := by decide +kernel
theorem dW181 : decode code 181 = .ok (.iconst 3, 1) := by decide +kernel
theorem dW182 : decode code 182 = .ok (.iadd, 1) := by decide +kernel
theorem dW183 : decode code 183 = .ok (.iaload, 1) := by decide +kernel
theorem dW184 : decode code 184 = .ok (.invokevirtual 21, 3) := by decide +kernel
theorem dW187 : decode code 187 = .ok (.aload_n 2, 1) := by decide +kernel
theorem dW188 : decode code 188 = .ok (.aload_n 0, 1) := by decide +kernel
theorem dW189 : decode code 189 = .ok (.iload_n 3, 1) := by decide +kernel
theorem dW190 : decode code 190 = .ok (.iconst 1, 1) := by decide +kernel
theorem dW191 : decode code 191 = .ok (.iadd, 1) := by decide +kernel
theorem dW192 : decode code 192 = .ok (.iaload, 1) := by decide +kernel
theorem dW193 : decode code 193 = .ok (.aload_n 0, 1) := by decide +kernel
theorem dW194 : decode code 194 = .ok (.iload_n 3, 1) := by decide +kernel
theorem dW195 : decode code 195 = .ok (.iconst 2, 1) := by decide +kernel
theorem dW196 : decode code 196 = .ok (.iadd, 1) := by decide +kernel
theorem dW197 : decode code 197 = .ok (.iaload, 1) := by decide +kernel
theorem dW198 : decode code 198 = .ok (.aload_n 0, 1) := by decide +kernel
theorem dW199 : decode code 199 = .ok (.iload_n 3, 1) := by decide +kernel
theorem dW200 : decode code 200 = .ok (.iconst 3, 1) := by decide +kernel
theorem dW201 : decode code 201 = .ok (.iadd, 1) := by decide +kernel
theorem dW202 : decode code 202 = .ok (.iaload, 1) := by decide +kernel
theorem dW203 : decode code 203 = .ok (.invokevirtual 25, 3) := by decide +kernel
theorem dW206 : decode code 206 = .ok (.if_icmp .eq 814, 3) := by decide +kernel
theorem dW209 : decode code 209 = .ok (.iconst 0, 1) := by decide +kernel
theorem dW210 : decode code 210 = .ok (.ireturn, 1) := by decide +kernel
theorem dW211 : decode code 211 = .ok (.aload_n 1, 1) := by decide +kernel
theorem dW212 : decode code 212 = .ok (.aload_n 0, 1) := by decide +kernel
theorem dW213 : decode code 213 = .ok (.iload_n 3, 1) := by decide +kernel
theorem dW214 : decode code 214 = .ok (.iconst 1, 1) := by decide +kernel
theorem dW215 : decode code 215 = .ok (.iadd, 1) := by decide +kernel
theorem dW216 : decode code 216 = .ok (.iaload, 1) := by decide +kernel
theorem dW217 : decode code 217 = .ok (.invokevirtual 26, 3) := by decide +kernel
theorem dW220 : decode code 220 = .ok (.aload_n 2, 1) := by decide +kernel
theorem dW221 : decode code 221 = .ok (.aload_n 0, 1) := by decide +kernel
theorem dW222 : decode code 222 = .ok (.iload_n 3, 1) := by decide +kernel
theorem dW223 : decode code 223 = .ok (.iconst 1, 1) := by decide +kernel
theorem dW224 : decode code 224 = .ok (.iadd, 1) := by decide +kernel
theorem dW225 : decode code 225 = .ok (.iaload, 1) := by decide +kernel
theorem dW226 : decode code 226 = .ok (.invokevirtual 30, 3) := by decide +kernel
theorem dW229 : decode code 229 = .ok (.if_icmp .eq 791, 3) := by decide +kernel
theorem dW232 : decode code 232 = .ok (.iconst 0, 1) := by decide +kernel
theorem dW233 : decode code 233 = .ok (.ireturn, 1) := by decide +kernel
theorem dW234 : decode code 234 = .ok (.aload_n 1, 1) := by decide +kernel
theorem dW235 : decode code 235 = .ok (.aload_n 0, 1) := by decide +kernel
theorem dW236 : decode code 236 = .ok (.iload_n 3, 1) := by decide +kernel
theorem dW237 : decode code 237 = .ok (.iconst 1, 1) := by decide +kernel
theorem dW238 : decode code 238 = .ok (.iadd, 1) := by decide +kernel
theorem dW239 : decode code 239 = .ok (.iaload, 1) := by decide +kernel
theorem dW240 : decode code 240 = .ok (.aload_n 0, 1) := by decide +kernel
theorem dW241 : decode code 241 = .ok (.iload_n 3, 1) := by decide +kernel
theorem dW242 : decode code 242 = .ok (.iconst 2, 1) := by decide +kernel
theorem dW243 : decode code 243 = .ok (.iadd, 1) := by decide +kernel
theorem dW244 : decode code 244 = .ok (.iaload, 1) := by decide +kernel
theorem dW245 : decode code 245 = .ok (.invokevirtual 31, 3) := by decide +kernel
theorem dW248 : decode code 248 = .ok (.aload_n 2, 1) := by decide +kernel
theorem dW249 : decode code 249 = .ok (.aload_n 0, 1) := by decide +kernel
theorem dW250 : decode code 250 = .ok (.iload_n 3, 1) := by decide +kernel
theorem dW251 : decode code 251 = .ok (.iconst 1, 1) := by decide +kernel
theorem dW252 : decode code 252 = .ok (.iadd, 1) := by decide +kernel
theorem dW253 : decode code 253 = .ok (.iaload, 1) := by decide +kernel
theorem dW254 : decode code 254 = .ok (.aload_n 0, 1) := by decide +kernel
theorem dW255 : decode code 255 = .ok (.iload_n 3, 1) := by decide +kernel
theorem dW256 : decode code 256 = .ok (.iconst 2, 1) := by decide +kernel
theorem dW257 : decode code 257 = .ok (.iadd, 1) := by decide +kernel
theorem dW258 : decode code 258 = .ok (.iaload, 1) := by decide +kernel
theorem dW259 : decode code 259 = .ok (.invokevirtual 35, 3) := by decide +kernel
theorem dW262 : decode code 262 = .ok (.if_icmp .eq 758, 3) := by decide +kernel
theorem dW265 : decode code 265 = .ok (.iconst 0, 1) := by decide +kernel
theorem dW266 : decode code 266 = .ok (.ireturn, 1) := by decide +kernel
theorem dW267 : decode code 267 = .ok (.aload_n 1, 1) := by decide +kernel
theorem dW268 : decode code 268 = .ok (.aload_n 0, 1) := by decide +kernel
theorem dW269 : decode code 269 = .ok (.iload_n 3, 1) := by decide +kernel
theorem dW270 : decode code 270 = .ok (.iconst 1, 1) := by decide +kernel
theorem dW271 : decode code 271 = .ok (.iadd, 1) := by decide +kernel
theorem dW272 : decode code 272 = .ok (.iaload, 1) := by decide +kernel
theorem dW273 : decode code 273 = .ok (.invokevirtual 36, 3) := by decide +kernel
theorem dW276 : decode code 276 = .ok (.aload_n 2, 1) := by decide +kernel
theorem dW277 : decode code 277 = .ok (.aload_n 0, 1) := by decide +kernel
theorem dW278 : decode code 278 = .ok (.iload_n 3, 1) := by decide +kernel
theorem dW279 : decode code 279 = .ok (.iconst 1, 1) := by decide +kernel
