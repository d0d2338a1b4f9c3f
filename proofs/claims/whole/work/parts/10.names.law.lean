theorem law_app {a b : List Cond} (ha : ∀ w ∈ a, w ∈ lw_tbl) (hb : ∀ w ∈ b, w ∈ lw_tbl) : ∀ w ∈ a ++ b, w ∈ lw_tbl := fun w h => (List.mem_append.mp h).elim (ha w) (hb w)
theorem in_wsL_law_r1 : ∀ w ∈ wsL_law_r1, w ∈ lw_tbl := fun w h => (goodIn_p wsL_law_r1 [44, 47] (by decide +kernel) (by decide +kernel) w h).1
theorem in_wsL_law_r2 : ∀ w ∈ wsL_law_r2, w ∈ lw_tbl := fun w h => (goodIn_p wsL_law_r2 [52] (by decide +kernel) (by decide +kernel) w h).1
theorem in_wsL_law_r3 : ∀ w ∈ wsL_law_r3, w ∈ lw_tbl := fun w h => (goodIn_p wsL_law_r3 [58, 64, 94, 114] (by decide +kernel) (by decide +kernel) w h).1
theorem in_wsL_law_r4 : ∀ w ∈ wsL_law_r4, w ∈ lw_tbl := fun w h => (goodIn_p wsL_law_r4 [148, 165, 181, 198] (by decide +kernel) (by decide +kernel) w h).1
theorem in_wsL_law_r5 : ∀ w ∈ wsL_law_r5, w ∈ lw_tbl := fun w h => (goodIn_p wsL_law_r5 [207, 211, 214, 218, 221] (by decide +kernel) (by decide +kernel) w h).1
theorem in_wsL_law_r6 : ∀ w ∈ wsL_law_r6, w ∈ lw_tbl := fun w h => (goodIn_p wsL_law_r6 [225, 229, 233, 237, 241, 245] (by decide +kernel) (by decide +kernel) w h).1
theorem in_wsL_law_r7 : ∀ w ∈ wsL_law_r7, w ∈ lw_tbl := fun w h => (goodIn_p wsL_law_r7 [249, 636, 269, 273] (by decide +kernel) (by decide +kernel) w h).1
theorem in_wsL_law_r8 : ∀ w ∈ wsL_law_r8, w ∈ lw_tbl := fun w h => (goodIn_p wsL_law_r8 [276, 280, 284, 288, 292, 296] (by decide +kernel) (by decide +kernel) w h).1
theorem in_wsL_law_r9 : ∀ w ∈ wsL_law_r9, w ∈ lw_tbl := fun w h => (goodIn_p wsL_law_r9 [300, 304, 308, 679, 682, 686] (by decide +kernel) (by decide +kernel) w h).1
theorem in_wsL_law_r10 : ∀ w ∈ wsL_law_r10, w ∈ lw_tbl := fun w h => (goodIn_p wsL_law_r10 [690, 315, 694, 698, 319, 322] (by decide +kernel) (by decide +kernel) w h).1
theorem in_wsL_law_r11 : ∀ w ∈ wsL_law_r11, w ∈ lw_tbl := fun w h => (goodIn_p wsL_law_r11 [702, 705, 326, 330, 333, 336, 339] (by decide +kernel) (by decide +kernel) w h).1
theorem in_wsL_law_r12 : ∀ w ∈ wsL_law_r12, w ∈ lw_tbl := fun w h => (goodIn_p wsL_law_r12 [709, 713, 717, 345, 721, 349] (by decide +kernel) (by decide +kernel) w h).1
theorem in_wsL_law_r13 : ∀ w ∈ wsL_law_r13, w ∈ lw_tbl := fun w h => (goodIn_p wsL_law_r13 [353, 357, 725, 729, 361, 365] (by decide +kernel) (by decide +kernel) w h).1
theorem in_wsL_law_r14 : ∀ w ∈ wsL_law_r14, w ∈ lw_tbl := fun w h => (goodIn_p wsL_law_r14 [369, 374, 378, 733, 737, 382] (by decide +kernel) (by decide +kernel) w h).1
theorem in_wsL_law_r15 : ∀ w ∈ wsL_law_r15, w ∈ lw_tbl := fun w h => (goodIn_p wsL_law_r15 [741, 386, 745, 390, 394, 749] (by decide +kernel) (by decide +kernel) w h).1
theorem in_wsL_law_r16 : ∀ w ∈ wsL_law_r16, w ∈ lw_tbl := fun w h => (goodIn_p wsL_law_r16 [398, 753, 402, 406, 410, 757] (by decide +kernel) (by decide +kernel) w h).1
theorem in_wsL_law_r17 : ∀ w ∈ wsL_law_r17, w ∈ lw_tbl := fun w h => (goodIn_p wsL_law_r17 [761, 765, 769, 414, 418, 773] (by decide +kernel) (by decide +kernel) w h).1
theorem in_wsL_law_r18 : ∀ w ∈ wsL_law_r18, w ∈ lw_tbl := fun w h => (goodIn_p wsL_law_r18 [422, 777, 426, 430, 434, 438] (by decide +kernel) (by decide +kernel) w h).1
theorem in_wsL_law_r19 : ∀ w ∈ wsL_law_r19, w ∈ lw_tbl := fun w h => (goodIn_p wsL_law_r19 [782, 444, 448, 451, 455, 458] (by decide +kernel) (by decide +kernel) w h).1
theorem in_wsL_law_r20 : ∀ w ∈ wsL_law_r20, w ∈ lw_tbl := fun w h => (goodIn_p wsL_law_r20 [461, 464, 470, 786, 475] (by decide +kernel) (by decide +kernel) w h).1
theorem in_wsL_law_r21 : ∀ w ∈ wsL_law_r21, w ∈ lw_tbl := fun w h => (goodIn_p wsL_law_r21 [479, 482, 485, 489, 790, 793, 797] (by decide +kernel) (by decide +kernel) w h).1
theorem in_wsL_law_r22 : ∀ w ∈ wsL_law_r22, w ∈ lw_tbl := fun w h => (goodIn_p wsL_law_r22 [493, 801, 498, 502, 805] (by decide +kernel) (by decide +kernel) w h).1
theorem in_wsL_law_r23 : ∀ w ∈ wsL_law_r23, w ∈ lw_tbl := fun w h => (goodIn_p wsL_law_r23 [507, 518, 511, 515, 809, 522] (by decide +kernel) (by decide +kernel) w h).1
theorem in_wsL_law_r24 : ∀ w ∈ wsL_law_r24, w ∈ lw_tbl := fun w h => (goodIn_p wsL_law_r24 [813, 526, 530, 534, 538, 543] (by decide +kernel) (by decide +kernel) w h).1
theorem in_wsL_law_r25 : ∀ w ∈ wsL_law_r25, w ∈ lw_tbl := fun w h => (goodIn_p wsL_law_r25 [549, 555, 559, 562, 817] (by decide +kernel) (by decide +kernel) w h).1
theorem in_wsL_law_r26 : ∀ w ∈ wsL_law_r26, w ∈ lw_tbl := fun w h => (goodIn_p wsL_law_r26 [821, 825, 566, 570, 829, 574] (by decide +kernel) (by decide +kernel) w h).1
theorem in_wsL_law_r27 : ∀ w ∈ wsL_law_r27, w ∈ lw_tbl := fun w h => (goodIn_p wsL_law_r27 [833, 579, 583, 837, 589] (by decide +kernel) (by decide +kernel) w h).1
theorem in_wsL_law_r28 : ∀ w ∈ wsL_law_r28, w ∈ lw_tbl := fun w h => (goodIn_p wsL_law_r28 [593, 841, 602, 845, 606] (by decide +kernel) (by decide +kernel) w h).1
theorem in_wsL_law_r29 : ∀ w ∈ wsL_law_r29, w ∈ lw_tbl := fun w h => (goodIn_p wsL_law_r29 [610, 614, 849, 619, 623, 853] (by decide +kernel) (by decide +kernel) w h).1
theorem in_wsL_law_r30 : ∀ w ∈ wsL_law_r30, w ∈ lw_tbl := fun w h => (goodIn_p wsL_law_r30 [627, 631, 675] (by decide +kernel) (by decide +kernel) w h).1
theorem in_wsX90 : ∀ w ∈ wsX90, w ∈ lw_tbl := by decide +kernel
theorem in_wsX100 : ∀ w ∈ wsX100, w ∈ lw_tbl := by decide +kernel
theorem in_wsX60 : ∀ w ∈ wsX60, w ∈ lw_tbl := by decide +kernel
theorem in_wsX30 : ∀ w ∈ wsX30, w ∈ lw_tbl := by decide +kernel
theorem in_wsX70 : ∀ w ∈ wsX70, w ∈ lw_tbl := by decide +kernel
theorem in_wsX40 : ∀ w ∈ wsX40, w ∈ lw_tbl := by decide +kernel
theorem in_wsX00 : ∀ w ∈ wsX00, w ∈ lw_tbl := by decide +kernel
theorem in_wsX50 : ∀ w ∈ wsX50, w ∈ lw_tbl := by decide +kernel
theorem in_wsX10 : ∀ w ∈ wsX10, w ∈ lw_tbl := by decide +kernel
theorem in_wsX80 : ∀ w ∈ wsX80, w ∈ lw_tbl := by decide +kernel
theorem in_wsX20 : ∀ w ∈ wsX20, w ∈ lw_tbl := by decide +kernel
theorem wsL_law_in : ∀ w ∈ wsL_law, w ∈ lw_tbl := (law_app (law_app (law_app (law_app (law_app (law_app (law_app (law_app (law_app (law_app (law_app (law_app (law_app in_wsL_law_r1 (law_app in_wsL_law_r2 (law_app in_wsL_law_r3 (law_app in_wsL_law_r4 (law_app in_wsL_law_r5 (law_app in_wsL_law_r6 (law_app in_wsL_law_r7 (law_app in_wsL_law_r8 (law_app in_wsL_law_r9 (law_app in_wsL_law_r10 (law_app in_wsL_law_r11 (law_app in_wsL_law_r12 (law_app in_wsL_law_r13 (law_app in_wsL_law_r14 (law_app in_wsL_law_r15 (law_app in_wsL_law_r16 (law_app in_wsL_law_r17 (law_app in_wsL_law_r18 (law_app in_wsL_law_r19 (law_app in_wsL_law_r20 (law_app in_wsL_law_r21 (law_app in_wsL_law_r22 (law_app in_wsL_law_r23 (law_app in_wsL_law_r24 (law_app in_wsL_law_r25 (law_app in_wsL_law_r26 (law_app in_wsL_law_r27 (law_app in_wsL_law_r28 (law_app in_wsL_law_r29 in_wsL_law_r30))))))))))))))))))))))))))))) in_wsX90) in_wsX100) in_wsX60) in_wsX30) in_wsX70) in_wsX40) in_wsX00) in_wsX50) in_wsX10) in_wsX80) in_wsX20) (fun _ h => absurd h List.not_mem_nil))
theorem inX0 : ∀ w ∈ wsX00, w ∈ lw_tbl := fun w h => wsL_law_in w (inlX0 w h)
theorem inX1 : ∀ w ∈ wsX10, w ∈ lw_tbl := fun w h => wsL_law_in w (inlX1 w h)
theorem inX2 : ∀ w ∈ wsX20, w ∈ lw_tbl := fun w h => wsL_law_in w (inlX2 w h)
theorem inX3 : ∀ w ∈ wsX30, w ∈ lw_tbl := fun w h => wsL_law_in w (inlX3 w h)
theorem inX4 : ∀ w ∈ wsX40, w ∈ lw_tbl := fun w h => wsL_law_in w (inlX4 w h)
theorem inX5 : ∀ w ∈ wsX50, w ∈ lw_tbl := fun w h => wsL_law_in w (inlX5 w h)
theorem inX6 : ∀ w ∈ wsX60, w ∈ lw_tbl := fun w h => wsL_law_in w (inlX6 w h)
theorem inX7 : ∀ w ∈ wsX70, w ∈ lw_tbl := fun w h => wsL_law_in w (inlX7 w h)
theorem inX8 : ∀ w ∈ wsX80, w ∈ lw_tbl := fun w h => wsL_law_in w (inlX8 w h)
theorem inX9 : ∀ w ∈ wsX90, w ∈ lw_tbl := fun w h => wsL_law_in w (inlX9 w h)
theorem inX10 : ∀ w ∈ wsX100, w ∈ lw_tbl := fun w h => wsL_law_in w (inlX10 w h)
theorem dL_law_0 : decode cL_law 0 = .ok (.new 7, 3) := by decide +kernel
theorem dL_law_3 : decode cL_law 3 = .ok (.dup, 1) := by decide +kernel
theorem dL_law_4 : decode cL_law 4 = .ok (.invokespecial 9, 3) := by decide +kernel
theorem dL_law_7 : decode cL_law 7 = .ok (.astore_n 1, 1) := by decide +kernel
theorem dL_law_8 : decode cL_law 8 = .ok (.new 10, 3) := by decide +kernel
theorem dL_law_11 : decode cL_law 11 = .ok (.dup, 1) := by decide +kernel
theorem dL_law_12 : decode cL_law 12 = .ok (.invokespecial 12, 3) := by decide +kernel
theorem dL_law_15 : decode cL_law 15 = .ok (.astore_n 2, 1) := by decide +kernel
theorem dL_law_16 : decode cL_law 16 = .ok (.iconst 0, 1) := by decide +kernel
theorem dL_law_17 : decode cL_law 17 = .ok (.istore_n 3, 1) := by decide +kernel
theorem dL_law_18 : decode cL_law 18 = .ok (.iload_n 3, 1) := by decide +kernel
theorem dL_law_19 : decode cL_law 19 = .ok (.aload_n 0, 1) := by decide +kernel
theorem dL_law_20 : decode cL_law 20 = .ok (.arraylength, 1) := by decide +kernel
theorem dL_law_21 : decode cL_law 21 = .ok (.iconst 4, 1) := by decide +kernel
theorem dL_law_22 : decode cL_law 22 = .ok (.isub, 1) := by decide +kernel
theorem dL_law_23 : decode cL_law 23 = .ok (.if_icmp .gt 791, 3) := by decide +kernel
theorem dL_law_26 : decode cL_law 26 = .ok (.aload_n 0, 1) := by decide +kernel
theorem dL_law_27 : decode cL_law 27 = .ok (.iload_n 3, 1) := by decide +kernel
theorem dL_law_28 : decode cL_law 28 = .ok (.iaload, 1) := by decide +kernel
theorem dL_law_29 : decode cL_law 29 = .ok (.bipush 31, 2) := by decide +kernel
theorem dL_law_31 : decode cL_law 31 = .ok (.iand, 1) := by decide +kernel
theorem dL_law_32 : decode cL_law 32 = .ok (.tableswitch 776 0 29 #[136, 159, 182, 215, 228, 251, 264, 307, 320, 353, 386, 399, 412, 425, 438, 461, 474, 487, 510, 533, 546, 559, 572, 595, 618, 661, 694, 727, 740, 763], 136) := by decide +kernel
theorem dL_law_168 : decode cL_law 168 = .ok (.aload_n 1, 1) := by decide +kernel
theorem dL_law_169 : decode cL_law 169 = .ok (.aload_n 0, 1) := by decide +kernel
theorem dL_law_170 : decode cL_law 170 = .ok (.iload_n 3, 1) := by decide +kernel
theorem dL_law_171 : decode cL_law 171 = .ok (.iconst 1, 1) := by decide +kernel
theorem dL_law_172 : decode cL_law 172 = .ok (.iadd, 1) := by decide +kernel
theorem dL_law_173 : decode cL_law 173 = .ok (.iaload, 1) := by decide +kernel
theorem dL_law_174 : decode cL_law 174 = .ok (.invokevirtual 13, 3) := by decide +kernel
theorem dL_law_177 : decode cL_law 177 = .ok (.aload_n 2, 1) := by decide +kernel
theorem dL_law_178 : decode cL_law 178 = .ok (.aload_n 0, 1) := by decide +kernel
theorem dL_law_179 : decode cL_law 179 = .ok (.iload_n 3, 1) := by decide +kernel
theorem dL_law_180 : decode cL_law 180 = .ok (.iconst 1, 1) := by decide +kernel
theorem dL_law_181 : decode cL_law 181 = .ok (.iadd, 1) := by decide +kernel
theorem dL_law_182 : decode cL_law 182 = .ok (.iaload, 1) := by decide +kernel
theorem dL_law_183 : decode cL_law 183 = .ok (.invokevirtual 17, 3) := by decide +kernel
theorem dL_law_186 : decode cL_law 186 = .ok (.if_icmp .eq 622, 3) := by decide +kernel
theorem dL_law_189 : decode cL_law 189 = .ok (.iconst 0, 1) := by decide +kernel
theorem dL_law_190 : decode cL_law 190 = .ok (.ireturn, 1) := by decide +kernel
theorem dL_law_191 : decode cL_law 191 = .ok (.aload_n 1, 1) := by decide +kernel
theorem dL_law_192 : decode cL_law 192 = .ok (.aload_n 0, 1) := by decide +kernel
theorem dL_law_193 : decode cL_law 193 = .ok (.iload_n 3, 1) := by decide +kernel
theorem dL_law_194 : decode cL_law 194 = .ok (.iconst 1, 1) := by decide +kernel
theorem dL_law_195 : decode cL_law 195 = .ok (.iadd, 1) := by decide +kernel
theorem dL_law_196 : decode cL_law 196 = .ok (.iaload, 1) := by decide +kernel
theorem dL_law_197 : decode cL_law 197 = .ok (.invokevirtual 18, 3) := by decide +kernel
theorem dL_law_200 : decode cL_law 200 = .ok (.aload_n 2, 1) := by decide +kernel
theorem dL_law_201 : decode cL_law 201 = .ok (.aload_n 0, 1) := by decide +kernel
theorem dL_law_202 : decode cL_law 202 = .ok (.iload_n 3, 1) := by decide +kernel
theorem dL_law_203 : decode cL_law 203 = .ok (.iconst 1, 1) := by decide +kernel
theorem dL_law_204 : decode cL_law 204 = .ok (.iadd, 1) := by decide +kernel
theorem dL_law_205 : decode cL_law 205 = .ok (.iaload, 1) := by decide +kernel
theorem dL_law_206 : decode cL_law 206 = .ok (.invokevirtual 21, 3) := by decide +kernel
theorem dL_law_209 : decode cL_law 209 = .ok (.if_icmp .eq 599, 3) := by decide +kernel
theorem dL_law_212 : decode cL_law 212 = .ok (.iconst 0, 1) := by decide +kernel
theorem dL_law_213 : decode cL_law 213 = .ok (.ireturn, 1) := by decide +kernel
theorem dL_law_214 : decode cL_law 214 = .ok (.aload_n 1, 1) := by decide +kernel
theorem dL_law_215 : decode cL_law 215 = .ok (.aload_n 0, 1) := by decide +kernel
theorem dL_law_216 : decode cL_law 216 = .ok (.iload_n 3, 1) := by decide +kernel
theorem dL_law_217 : decode cL_law 217 = .ok (.iconst 1, 1) := by decide +kernel
theorem dL_law_218 : decode cL_law 218 = .ok (.iadd, 1) := by decide +kernel
theorem dL_law_219 : decode cL_law 219 = .ok (.iaload, 1) := by decide +kernel
theorem dL_law_220 : decode cL_law 220 = .ok (.aload_n 0, 1) := by decide +kernel
theorem dL_law_221 : decode cL_law 221 = .ok (.iload_n 3, 1) := by decide +kernel
theorem dL_law_222 : decode cL_law 222 = .ok (.iconst 2, 1) := by decide +kernel
theorem dL_law_223 : decode cL_law 223 = .ok (.iadd, 1) := by decide +kernel
theorem dL_law_224 : decode cL_law 224 = .ok (.iaload, 1) := by decide +kernel
theorem dL_law_225 : decode cL_law 225 = .ok (.invokevirtual 22, 3) := by decide +kernel
theorem dL_law_228 : decode cL_law 228 = .ok (.aload_n 2, 1) := by decide +kernel
theorem dL_law_229 : decode cL_law 229 = .ok (.aload_n 0, 1) := by decide +kernel
theorem dL_law_230 : decode cL_law 230 = .ok (.iload_n 3, 1) := by decide +kernel
theorem dL_law_231 : decode cL_law 231 = .ok (.iconst 1, 1) := by decide +kernel
theorem dL_law_232 : decode cL_law 232 = .ok (.iadd, 1) := by decide +kernel
theorem dL_law_233 : decode cL_law 233 = .ok (.iaload, 1) := by decide +kernel
theorem dL_law_234 : decode cL_law 234 = .ok (.aload_n 0, 1) := by decide +kernel
theorem dL_law_235 : decode cL_law 235 = .ok (.iload_n 3, 1) := by decide +kernel
theorem dL_law_236 : decode cL_law 236 = .ok (.iconst 2, 1) := by decide +kernel
theorem dL_law_237 : decode cL_law 237 = .ok (.iadd, 1) := by decide +kernel
theorem dL_law_238 : decode cL_law 238 = .ok (.iaload, 1) := by decide +kernel
theorem dL_law_239 : decode cL_law 239 = .ok (.invokevirtual 26, 3) := by decide +kernel
theorem dL_law_242 : decode cL_law 242 = .ok (.if_icmp .eq 566, 3) := by decide +kernel
theorem dL_law_245 : decode cL_law 245 = .ok (.iconst 0, 1) := by decide +kernel
theorem dL_law_246 : decode cL_law 246 = .ok (.ireturn, 1) := by decide +kernel
theorem dL_law_247 : decode cL_law 247 = .ok (.aload_n 1, 1) := by decide +kernel
theorem dL_law_248 : decode cL_law 248 = .ok (.invokevirtual 27, 3) := by decide +kernel
theorem dL_law_251 : decode cL_law 251 = .ok (.aload_n 2, 1) := by decide +kernel
theorem dL_law_252 : decode cL_law 252 = .ok (.invokevirtual 31, 3) := by decide +kernel
theorem dL_law_255 : decode cL_law 255 = .ok (.if_icmp .eq 553, 3) := by decide +kernel
theorem dL_law_258 : decode cL_law 258 = .ok (.iconst 0, 1) := by decide +kernel
theorem dL_law_259 : decode cL_law 259 = .ok (.ireturn, 1) := by decide +kernel
theorem dL_law_260 : decode cL_law 260 = .ok (.aload_n 1, 1) := by decide +kernel
theorem dL_law_261 : decode cL_law 261 = .ok (.aload_n 0, 1) := by decide +kernel
theorem dL_law_262 : decode cL_law 262 = .ok (.iload_n 3, 1) := by decide +kernel
theorem dL_law_263 : decode cL_law 263 = .ok (.iconst 1, 1) := by decide +kernel
theorem dL_law_264 : decode cL_law 264 = .ok (.iadd, 1) := by decide +kernel
theorem dL_law_265 : decode cL_law 265 = .ok (.iaload, 1) := by decide +kernel
theorem dL_law_266 : decode cL_law 266 = .ok (.invokevirtual 32, 3) := by decide +kernel
theorem dL_law_269 : decode cL_law 269 = .ok (.aload_n 2, 1) := by decide +kernel
theorem dL_law_270 : decode cL_law 270 = .ok (.aload_n 0, 1) := by decide +kernel
theorem dL_law_271 : decode cL_law 271 = .ok (.iload_n 3, 1) := by decide +kernel
theorem dL_law_272 : decode cL_law 272 = .ok (.iconst 1, 1) := by decide +kernel
theorem dL_law_273 : decode cL_law 273 = .ok (.iadd, 1) := by decide +kernel
theorem dL_law_274 : decode cL_law 274 = .ok (.iaload, 1) := by decide +kernel
theorem dL_law_275 : decode cL_law 275 = .ok (.invokevirtual 35, 3) := by decide +kernel
theorem dL_law_278 : decode cL_law 278 = .ok (.if_icmp .eq 530, 3) := by decide +kernel
theorem dL_law_281 : decode cL_law 281 = .ok (.iconst 0, 1) := by decide +kernel
theorem dL_law_282 : decode cL_law 282 = .ok (.ireturn, 1) := by decide +kernel
theorem dL_law_283 : decode cL_law 283 = .ok (.aload_n 1, 1) := by decide +kernel
theorem dL_law_284 : decode cL_law 284 = .ok (.invokevirtual 36, 3) := by decide +kernel
theorem dL_law_287 : decode cL_law 287 = .ok (.aload_n 2, 1) := by decide +kernel
theorem dL_law_288 : decode cL_law 288 = .ok (.invokevirtual 39, 3) := by decide +kernel
theorem dL_law_291 : decode cL_law 291 = .ok (.if_icmp .eq 517, 3) := by decide +kernel
theorem dL_law_294 : decode cL_law 294 = .ok (.iconst 0, 1) := by decide +kernel
theorem dL_law_295 : decode cL_law 295 = .ok (.ireturn, 1) := by decide +kernel
theorem dL_law_296 : decode cL_law 296 = .ok (.aload_n 1, 1) := by decide +kernel
theorem dL_law_297 : decode cL_law 297 = .ok (.aload_n 0, 1) := by decide +kernel
theorem dL_law_298 : decode cL_law 298 = .ok (.iload_n 3, 1) := by decide +kernel
theorem dL_law_299 : decode cL_law 299 = .ok (.iconst 1, 1) := by decide +kernel
theorem dL_law_300 : decode cL_law 300 = .ok (.iadd, 1) := by decide +kernel
theorem dL_law_301 : decode cL_law 301 = .ok (.iaload, 1) := by decide +kernel
theorem dL_law_302 : decode cL_law 302 = .ok (.aload_n 0, 1) := by decide +kernel
theorem dL_law_303 : decode cL_law 303 = .ok (.iload_n 3, 1) := by decide +kernel
theorem dL_law_304 : decode cL_law 304 = .ok (.iconst 2, 1) := by decide +kernel
theorem dL_law_305 : decode cL_law 305 = .ok (.iadd, 1) := by decide +kernel
theorem dL_law_306 : decode cL_law 306 = .ok (.iaload, 1) := by decide +kernel
theorem dL_law_307 : decode cL_law 307 = .ok (.aload_n 0, 1) := by decide +kernel
theorem dL_law_308 : decode cL_law 308 = .ok (.iload_n 3, 1) := by decide +kernel
theorem dL_law_309 : decode cL_law 309 = .ok (.iconst 3, 1) := by decide +kernel
theorem dL_law_310 : decode cL_law 310 = .ok (.iadd, 1) := by decide +kernel
theorem dL_law_311 : decode cL_law 311 = .ok (.iaload, 1) := by decide +kernel
theorem dL_law_312 : decode cL_law 312 = .ok (.invokevirtual 40, 3) := by decide +kernel
theorem dL_law_315 : decode cL_law 315 = .ok (.aload_n 2, 1) := by decide +kernel
theorem dL_law_316 : decode cL_law 316 = .ok (.aload_n 0, 1) := by decide +kernel
theorem dL_law_317 : decode cL_law 317 = .ok (.iload_n 3, 1) := by decide +kernel
theorem dL_law_318 : decode cL_law 318 = .ok (.iconst 1, 1) := by decide +kernel
theorem dL_law_319 : decode cL_law 319 = .ok (.iadd, 1) := by decide +kernel
theorem dL_law_320 : decode cL_law 320 = .ok (.iaload, 1) := by decide +kernel
theorem dL_law_321 : decode cL_law 321 = .ok (.aload_n 0, 1) := by decide +kernel
theorem dL_law_322 : decode cL_law 322 = .ok (.iload_n 3, 1) := by decide +kernel
theorem dL_law_323 : decode cL_law 323 = .ok (.iconst 2, 1) := by decide +kernel
theorem dL_law_324 : decode cL_law 324 = .ok (.iadd, 1) := by decide +kernel
theorem dL_law_325 : decode cL_law 325 = .ok (.iaload, 1) := by decide +kernel
theorem dL_law_326 : decode cL_law 326 = .ok (.aload_n 0, 1) := by decide +kernel
theorem dL_law_327 : decode cL_law 327 = .ok (.iload_n 3, 1) := by decide +kernel
theorem dL_law_328 : decode cL_law 328 = .ok (.iconst 3, 1) := by decide +kernel
theorem dL_law_329 : decode cL_law 329 = .ok (.iadd, 1) := by decide +kernel
theorem dL_law_330 : decode cL_law 330 = .ok (.iaload, 1) := by decide +kernel
theorem dL_law_331 : decode cL_law 331 = .ok (.invokevirtual 44, 3) := by decide +kernel
theorem dL_law_334 : decode cL_law 334 = .ok (.if_icmp .eq 474, 3) := by decide +kernel
theorem dL_law_337 : decode cL_law 337 = .ok (.iconst 0, 1) := by decide +kernel
theorem dL_law_338 : decode cL_law 338 = .ok (.ireturn, 1) := by decide +kernel
theorem dL_law_339 : decode cL_law 339 = .ok (.aload_n 1, 1) := by decide +kernel
theorem dL_law_340 : decode cL_law 340 = .ok (.invokevirtual 45, 3) := by decide +kernel
theorem dL_law_343 : decode cL_law 343 = .ok (.aload_n 2, 1) := by decide +kernel
theorem dL_law_344 : decode cL_law 344 = .ok (.invokevirtual 48, 3) := by decide +kernel
theorem dL_law_347 : decode cL_law 347 = .ok (.if_icmp .eq 461, 3) := by decide +kernel
theorem dL_law_350 : decode cL_law 350 = .ok (.iconst 0, 1) := by decide +kernel
theorem dL_law_351 : decode cL_law 351 = .ok (.ireturn, 1) := by decide +kernel
theorem dL_law_352 : decode cL_law 352 = .ok (.aload_n 1, 1) := by decide +kernel
theorem dL_law_353 : decode cL_law 353 = .ok (.aload_n 0, 1) := by decide +kernel
theorem dL_law_354 : decode cL_law 354 = .ok (.iload_n 3, 1) := by decide +kernel
theorem dL_law_355 : decode cL_law 355 = .ok (.iconst 1, 1) := by decide +kernel
theorem dL_law_356 : decode cL_law 356 = .ok (.iadd, 1) := by decide +kernel
theorem dL_law_357 : decode cL_law 357 = .ok (.iaload, 1) := by decide +kernel
theorem dL_law_358 : decode cL_law 358 = .ok (.aload_n 0, 1) := by decide +kernel
theorem dL_law_359 : decode cL_law 359 = .ok (.iload_n 3, 1) := by decide +kernel
theorem dL_law_360 : decode cL_law 360 = .ok (.iconst 2, 1) := by decide +kernel
theorem dL_law_361 : decode cL_law 361 = .ok (.iadd, 1) := by decide +kernel
theorem dL_law_362 : decode cL_law 362 = .ok (.iaload, 1) := by decide +kernel
theorem dL_law_363 : decode cL_law 363 = .ok (.invokevirtual 49, 3) := by decide +kernel
theorem dL_law_366 : decode cL_law 366 = .ok (.aload_n 2, 1) := by decide +kernel
theorem dL_law_367 : decode cL_law 367 = .ok (.aload_n 0, 1) := by decide +kernel
theorem dL_law_368 : decode cL_law 368 = .ok (.iload_n 3, 1) := by decide +kernel
theorem dL_law_369 : decode cL_law 369 = .ok (.iconst 1, 1) := by decide +kernel
theorem dL_law_370 : decode cL_law 370 = .ok (.iadd, 1) := by decide +kernel
theorem dL_law_371 : decode cL_law 371 = .ok (.iaload, 1) := by decide +kernel
theorem dL_law_372 : decode cL_law 372 = .ok (.aload_n 0, 1) := by decide +kernel
theorem dL_law_373 : decode cL_law 373 = .ok (.iload_n 3, 1) := by decide +kernel
theorem dL_law_374 : decode cL_law 374 = .ok (.iconst 2, 1) := by decide +kernel
theorem dL_law_375 : decode cL_law 375 = .ok (.iadd, 1) := by decide +kernel
theorem dL_law_376 : decode cL_law 376 = .ok (.iaload, 1) := by decide +kernel
theorem dL_law_377 : decode cL_law 377 = .ok (.invokevirtual 52, 3) := by decide +kernel
theorem dL_law_380 : decode cL_law 380 = .ok (.if_icmp .eq 428, 3) := by decide +kernel
theorem dL_law_383 : decode cL_law 383 = .ok (.iconst 0, 1) := by decide +kernel
theorem dL_law_384 : decode cL_law 384 = .ok (.ireturn, 1) := by decide +kernel
theorem dL_law_385 : decode cL_law 385 = .ok (.aload_n 1, 1) := by decide +kernel
theorem dL_law_386 : decode cL_law 386 = .ok (.aload_n 0, 1) := by decide +kernel
theorem dL_law_387 : decode cL_law 387 = .ok (.iload_n 3, 1) := by decide +kernel
theorem dL_law_388 : decode cL_law 388 = .ok (.iconst 1, 1) := by decide +kernel
theorem dL_law_389 : decode cL_law 389 = .ok (.iadd, 1) := by decide +kernel
theorem dL_law_390 : decode cL_law 390 = .ok (.iaload, 1) := by decide +kernel
theorem dL_law_391 : decode cL_law 391 = .ok (.aload_n 0, 1) := by decide +kernel
theorem dL_law_392 : decode cL_law 392 = .ok (.iload_n 3, 1) := by decide +kernel
theorem dL_law_393 : decode cL_law 393 = .ok (.iconst 2, 1) := by decide +kernel
theorem dL_law_394 : decode cL_law 394 = .ok (.iadd, 1) := by decide +kernel
theorem dL_law_395 : decode cL_law 395 = .ok (.iaload, 1) := by decide +kernel
theorem dL_law_396 : decode cL_law 396 = .ok (.invokevirtual 53, 3) := by decide +kernel
theorem dL_law_399 : decode cL_law 399 = .ok (.aload_n 2, 1) := by decide +kernel
theorem dL_law_400 : decode cL_law 400 = .ok (.aload_n 0, 1) := by decide +kernel
theorem dL_law_401 : decode cL_law 401 = .ok (.iload_n 3, 1) := by decide +kernel
theorem dL_law_402 : decode cL_law 402 = .ok (.iconst 1, 1) := by decide +kernel
theorem dL_law_403 : decode cL_law 403 = .ok (.iadd, 1) := by decide +kernel
theorem dL_law_404 : decode cL_law 404 = .ok (.iaload, 1) := by decide +kernel
theorem dL_law_405 : decode cL_law 405 = .ok (.aload_n 0, 1) := by decide +kernel
theorem dL_law_406 : decode cL_law 406 = .ok (.iload_n 3, 1) := by decide +kernel
theorem dL_law_407 : decode cL_law 407 = .ok (.iconst 2, 1) := by decide +kernel
theorem dL_law_408 : decode cL_law 408 = .ok (.iadd, 1) := by decide +kernel
theorem dL_law_409 : decode cL_law 409 = .ok (.iaload, 1) := by decide +kernel
theorem dL_law_410 : decode cL_law 410 = .ok (.invokevirtual 56, 3) := by decide +kernel
theorem dL_law_413 : decode cL_law 413 = .ok (.if_icmp .eq 395, 3) := by decide +kernel
theorem dL_law_416 : decode cL_law 416 = .ok (.iconst 0, 1) := by decide +kernel
theorem dL_law_417 : decode cL_law 417 = .ok (.ireturn, 1) := by decide +kernel
theorem dL_law_418 : decode cL_law 418 = .ok (.aload_n 1, 1) := by decide +kernel
theorem dL_law_419 : decode cL_law 419 = .ok (.invokevirtual 57, 3) := by decide +kernel
theorem dL_law_422 : decode cL_law 422 = .ok (.aload_n 2, 1) := by decide +kernel
theorem dL_law_423 : decode cL_law 423 = .ok (.invokevirtual 60, 3) := by decide +kernel
theorem dL_law_426 : decode cL_law 426 = .ok (.if_icmp .eq 382, 3) := by decide +kernel
theorem dL_law_429 : decode cL_law 429 = .ok (.iconst 0, 1) := by decide +kernel
theorem dL_law_430 : decode cL_law 430 = .ok (.ireturn, 1) := by decide +kernel
theorem dL_law_431 : decode cL_law 431 = .ok (.aload_n 1, 1) := by decide +kernel
theorem dL_law_432 : decode cL_law 432 = .ok (.invokevirtual 61, 3) := by decide +kernel
theorem dL_law_435 : decode cL_law 435 = .ok (.aload_n 2, 1) := by decide +kernel
theorem dL_law_436 : decode cL_law 436 = .ok (.invokevirtual 64, 3) := by decide +kernel
theorem dL_law_439 : decode cL_law 439 = .ok (.if_icmp .eq 369, 3) := by decide +kernel
theorem dL_law_442 : decode cL_law 442 = .ok (.iconst 0, 1) := by decide +kernel
theorem dL_law_443 : decode cL_law 443 = .ok (.ireturn, 1) := by decide +kernel
theorem dL_law_444 : decode cL_law 444 = .ok (.aload_n 1, 1) := by decide +kernel
theorem dL_law_445 : decode cL_law 445 = .ok (.invokevirtual 65, 3) := by decide +kernel
theorem dL_law_448 : decode cL_law 448 = .ok (.aload_n 2, 1) := by decide +kernel
theorem dL_law_449 : decode cL_law 449 = .ok (.invokevirtual 68, 3) := by decide +kernel
theorem dL_law_452 : decode cL_law 452 = .ok (.if_icmp .eq 356, 3) := by decide +kernel
theorem dL_law_455 : decode cL_law 455 = .ok (.iconst 0, 1) := by decide +kernel
theorem dL_law_456 : decode cL_law 456 = .ok (.ireturn, 1) := by decide +kernel
theorem dL_law_457 : decode cL_law 457 = .ok (.aload_n 1, 1) := by decide +kernel
theorem dL_law_458 : decode cL_law 458 = .ok (.invokevirtual 69, 3) := by decide +kernel
theorem dL_law_461 : decode cL_law 461 = .ok (.aload_n 2, 1) := by decide +kernel
theorem dL_law_462 : decode cL_law 462 = .ok (.invokevirtual 72, 3) := by decide +kernel
theorem dL_law_465 : decode cL_law 465 = .ok (.if_icmp .eq 343, 3) := by decide +kernel
theorem dL_law_468 : decode cL_law 468 = .ok (.iconst 0, 1) := by decide +kernel
theorem dL_law_469 : decode cL_law 469 = .ok (.ireturn, 1) := by decide +kernel
theorem dL_law_470 : decode cL_law 470 = .ok (.aload_n 1, 1) := by decide +kernel
theorem dL_law_471 : decode cL_law 471 = .ok (.aload_n 0, 1) := by decide +kernel
theorem dL_law_472 : decode cL_law 472 = .ok (.iload_n 3, 1) := by decide +kernel
theorem dL_law_473 : decode cL_law 473 = .ok (.iconst 1, 1) := by decide +kernel
theorem dL_law_474 : decode cL_law 474 = .ok (.iadd, 1) := by decide +kernel
theorem dL_law_475 : decode cL_law 475 = .ok (.iaload, 1) := by decide +kernel
theorem dL_law_476 : decode cL_law 476 = .ok (.invokevirtual 73, 3) := by decide +kernel
theorem dL_law_479 : decode cL_law 479 = .ok (.aload_n 2, 1) := by decide +kernel
theorem dL_law_480 : decode cL_law 480 = .ok (.aload_n 0, 1) := by decide +kernel
theorem dL_law_481 : decode cL_law 481 = .ok (.iload_n 3, 1) := by decide +kernel
theorem dL_law_482 : decode cL_law 482 = .ok (.iconst 1, 1) := by decide +kernel
theorem dL_law_483 : decode cL_law 483 = .ok (.iadd, 1) := by decide +kernel
theorem dL_law_484 : decode cL_law 484 = .ok (.iaload, 1) := by decide +kernel
theorem dL_law_485 : decode cL_law 485 = .ok (.invokevirtual 76, 3) := by decide +kernel
theorem dL_law_488 : decode cL_law 488 = .ok (.if_icmp .eq 320, 3) := by decide +kernel
theorem dL_law_491 : decode cL_law 491 = .ok (.iconst 0, 1) := by decide +kernel
theorem dL_law_492 : decode cL_law 492 = .ok (.ireturn, 1) := by decide +kernel
theorem dL_law_493 : decode cL_law 493 = .ok (.aload_n 1, 1) := by decide +kernel
theorem dL_law_494 : decode cL_law 494 = .ok (.invokevirtual 77, 3) := by decide +kernel
theorem dL_law_497 : decode cL_law 497 = .ok (.aload_n 2, 1) := by decide +kernel
theorem dL_law_498 : decode cL_law 498 = .ok (.invokevirtual 80, 3) := by decide +kernel
theorem dL_law_501 : decode cL_law 501 = .ok (.if_icmp .eq 307, 3) := by decide +kernel
theorem dL_law_504 : decode cL_law 504 = .ok (.iconst 0, 1) := by decide +kernel
theorem dL_law_505 : decode cL_law 505 = .ok (.ireturn, 1) := by decide +kernel
theorem dL_law_506 : decode cL_law 506 = .ok (.aload_n 1, 1) := by decide +kernel
theorem dL_law_507 : decode cL_law 507 = .ok (.invokevirtual 81, 3) := by decide +kernel
theorem dL_law_510 : decode cL_law 510 = .ok (.aload_n 2, 1) := by decide +kernel
theorem dL_law_511 : decode cL_law 511 = .ok (.invokevirtual 84, 3) := by decide +kernel
theorem dL_law_514 : decode cL_law 514 = .ok (.if_icmp .eq 294, 3) := by decide +kernel
theorem dL_law_517 : decode cL_law 517 = .ok (.iconst 0, 1) := by decide +kernel
theorem dL_law_518 : decode cL_law 518 = .ok (.ireturn, 1) := by decide +kernel
theorem dL_law_519 : decode cL_law 519 = .ok (.aload_n 1, 1) := by decide +kernel
theorem dL_law_520 : decode cL_law 520 = .ok (.aload_n 0, 1) := by decide +kernel
theorem dL_law_521 : decode cL_law 521 = .ok (.iload_n 3, 1) := by decide +kernel
theorem dL_law_522 : decode cL_law 522 = .ok (.iconst 1, 1) := by decide +kernel
theorem dL_law_523 : decode cL_law 523 = .ok (.iadd, 1) := by decide +kernel
theorem dL_law_524 : decode cL_law 524 = .ok (.iaload, 1) := by decide +kernel
theorem dL_law_525 : decode cL_law 525 = .ok (.invokevirtual 85, 3) := by decide +kernel
theorem dL_law_528 : decode cL_law 528 = .ok (.aload_n 2, 1) := by decide +kernel
theorem dL_law_529 : decode cL_law 529 = .ok (.aload_n 0, 1) := by decide +kernel
theorem dL_law_530 : decode cL_law 530 = .ok (.iload_n 3, 1) := by decide +kernel
theorem dL_law_531 : decode cL_law 531 = .ok (.iconst 1, 1) := by decide +kernel
theorem dL_law_532 : decode cL_law 532 = .ok (.iadd, 1) := by decide +kernel
theorem dL_law_533 : decode cL_law 533 = .ok (.iaload, 1) := by decide +kernel
theorem dL_law_534 : decode cL_law 534 = .ok (.invokevirtual 88, 3) := by decide +kernel
theorem dL_law_537 : decode cL_law 537 = .ok (.if_icmp .eq 271, 3) := by decide +kernel
theorem dL_law_540 : decode cL_law 540 = .ok (.iconst 0, 1) := by decide +kernel
theorem dL_law_541 : decode cL_law 541 = .ok (.ireturn, 1) := by decide +kernel
theorem dL_law_542 : decode cL_law 542 = .ok (.aload_n 1, 1) := by decide +kernel
theorem dL_law_543 : decode cL_law 543 = .ok (.aload_n 0, 1) := by decide +kernel
theorem dL_law_544 : decode cL_law 544 = .ok (.iload_n 3, 1) := by decide +kernel
theorem dL_law_545 : decode cL_law 545 = .ok (.iconst 1, 1) := by decide +kernel
theorem dL_law_546 : decode cL_law 546 = .ok (.iadd, 1) := by decide +kernel
theorem dL_law_547 : decode cL_law 547 = .ok (.iaload, 1) := by decide +kernel
theorem dL_law_548 : decode cL_law 548 = .ok (.invokevirtual 89, 3) := by decide +kernel
theorem dL_law_551 : decode cL_law 551 = .ok (.aload_n 2, 1) := by decide +kernel
theorem dL_law_552 : decode cL_law 552 = .ok (.aload_n 0, 1) := by decide +kernel
theorem dL_law_553 : decode cL_law 553 = .ok (.iload_n 3, 1) := by decide +kernel
theorem dL_law_554 : decode cL_law 554 = .ok (.iconst 1, 1) := by decide +kernel
theorem dL_law_555 : decode cL_law 555 = .ok (.iadd, 1) := by decide +kernel
theorem dL_law_556 : decode cL_law 556 = .ok (.iaload, 1) := by decide +kernel
theorem dL_law_557 : decode cL_law 557 = .ok (.invokevirtual 92, 3) := by decide +kernel
theorem dL_law_560 : decode cL_law 560 = .ok (.if_icmp .eq 248, 3) := by decide +kernel
theorem dL_law_563 : decode cL_law 563 = .ok (.iconst 0, 1) := by decide +kernel
theorem dL_law_564 : decode cL_law 564 = .ok (.ireturn, 1) := by decide +kernel
theorem dL_law_565 : decode cL_law 565 = .ok (.aload_n 1, 1) := by decide +kernel
theorem dL_law_566 : decode cL_law 566 = .ok (.invokevirtual 93, 3) := by decide +kernel
theorem dL_law_569 : decode cL_law 569 = .ok (.aload_n 2, 1) := by decide +kernel
theorem dL_law_570 : decode cL_law 570 = .ok (.invokevirtual 96, 3) := by decide +kernel
theorem dL_law_573 : decode cL_law 573 = .ok (.if_icmp .eq 235, 3) := by decide +kernel
theorem dL_law_576 : decode cL_law 576 = .ok (.iconst 0, 1) := by decide +kernel
theorem dL_law_577 : decode cL_law 577 = .ok (.ireturn, 1) := by decide +kernel
theorem dL_law_578 : decode cL_law 578 = .ok (.aload_n 1, 1) := by decide +kernel
theorem dL_law_579 : decode cL_law 579 = .ok (.invokevirtual 97, 3) := by decide +kernel
theorem dL_law_582 : decode cL_law 582 = .ok (.aload_n 2, 1) := by decide +kernel
theorem dL_law_583 : decode cL_law 583 = .ok (.invokevirtual 100, 3) := by decide +kernel
theorem dL_law_586 : decode cL_law 586 = .ok (.if_icmp .eq 222, 3) := by decide +kernel
theorem dL_law_589 : decode cL_law 589 = .ok (.iconst 0, 1) := by decide +kernel
theorem dL_law_590 : decode cL_law 590 = .ok (.ireturn, 1) := by decide +kernel
theorem dL_law_591 : decode cL_law 591 = .ok (.aload_n 1, 1) := by decide +kernel
theorem dL_law_592 : decode cL_law 592 = .ok (.invokevirtual 101, 3) := by decide +kernel
theorem dL_law_595 : decode cL_law 595 = .ok (.aload_n 2, 1) := by decide +kernel
theorem dL_law_596 : decode cL_law 596 = .ok (.invokevirtual 104, 3) := by decide +kernel
theorem dL_law_599 : decode cL_law 599 = .ok (.if_icmp .eq 209, 3) := by decide +kernel
theorem dL_law_602 : decode cL_law 602 = .ok (.iconst 0, 1) := by decide +kernel
theorem dL_law_603 : decode cL_law 603 = .ok (.ireturn, 1) := by decide +kernel
theorem dL_law_604 : decode cL_law 604 = .ok (.aload_n 1, 1) := by decide +kernel
theorem dL_law_605 : decode cL_law 605 = .ok (.aload_n 0, 1) := by decide +kernel
theorem dL_law_606 : decode cL_law 606 = .ok (.iload_n 3, 1) := by decide +kernel
theorem dL_law_607 : decode cL_law 607 = .ok (.iconst 1, 1) := by decide +kernel
theorem dL_law_608 : decode cL_law 608 = .ok (.iadd, 1) := by decide +kernel
theorem dL_law_609 : decode cL_law 609 = .ok (.iaload, 1) := by decide +kernel
theorem dL_law_610 : decode cL_law 610 = .ok (.invokevirtual 105, 3) := by decide +kernel
theorem dL_law_613 : decode cL_law 613 = .ok (.aload_n 2, 1) := by decide +kernel
theorem dL_law_614 : decode cL_law 614 = .ok (.aload_n 0, 1) := by decide +kernel
theorem dL_law_615 : decode cL_law 615 = .ok (.iload_n 3, 1) := by decide +kernel
theorem dL_law_616 : decode cL_law 616 = .ok (.iconst 1, 1) := by decide +kernel
theorem dL_law_617 : decode cL_law 617 = .ok (.iadd, 1) := by decide +kernel
theorem dL_law_618 : decode cL_law 618 = .ok (.iaload, 1) := by decide +kernel
theorem dL_law_619 : decode cL_law 619 = .ok (.invokevirtual 108, 3) := by decide +kernel
theorem dL_law_622 : decode cL_law 622 = .ok (.if_icmp .eq 186, 3) := by decide +kernel
theorem dL_law_625 : decode cL_law 625 = .ok (.iconst 0, 1) := by decide +kernel
theorem dL_law_626 : decode cL_law 626 = .ok (.ireturn, 1) := by decide +kernel
theorem dL_law_627 : decode cL_law 627 = .ok (.aload_n 1, 1) := by decide +kernel
theorem dL_law_628 : decode cL_law 628 = .ok (.aload_n 0, 1) := by decide +kernel
theorem dL_law_629 : decode cL_law 629 = .ok (.iload_n 3, 1) := by decide +kernel
theorem dL_law_630 : decode cL_law 630 = .ok (.iconst 1, 1) := by decide +kernel
theorem dL_law_631 : decode cL_law 631 = .ok (.iadd, 1) := by decide +kernel
theorem dL_law_632 : decode cL_law 632 = .ok (.iaload, 1) := by decide +kernel
theorem dL_law_633 : decode cL_law 633 = .ok (.invokevirtual 109, 3) := by decide +kernel
theorem dL_law_636 : decode cL_law 636 = .ok (.aload_n 2, 1) := by decide +kernel
theorem dL_law_637 : decode cL_law 637 = .ok (.aload_n 0, 1) := by decide +kernel
theorem dL_law_638 : decode cL_law 638 = .ok (.iload_n 3, 1) := by decide +kernel
theorem dL_law_639 : decode cL_law 639 = .ok (.iconst 1, 1) := by decide +kernel
theorem dL_law_640 : decode cL_law 640 = .ok (.iadd, 1) := by decide +kernel
theorem dL_law_641 : decode cL_law 641 = .ok (.iaload, 1) := by decide +kernel
theorem dL_law_642 : decode cL_law 642 = .ok (.invokevirtual 112, 3) := by decide +kernel
theorem dL_law_645 : decode cL_law 645 = .ok (.if_icmp .eq 163, 3) := by decide +kernel
theorem dL_law_648 : decode cL_law 648 = .ok (.iconst 0, 1) := by decide +kernel
theorem dL_law_649 : decode cL_law 649 = .ok (.ireturn, 1) := by decide +kernel
theorem dL_law_650 : decode cL_law 650 = .ok (.aload_n 1, 1) := by decide +kernel
theorem dL_law_651 : decode cL_law 651 = .ok (.aload_n 0, 1) := by decide +kernel
theorem dL_law_652 : decode cL_law 652 = .ok (.iload_n 3, 1) := by decide +kernel
theorem dL_law_653 : decode cL_law 653 = .ok (.iconst 1, 1) := by decide +kernel
theorem dL_law_654 : decode cL_law 654 = .ok (.iadd, 1) := by decide +kernel
theorem dL_law_655 : decode cL_law 655 = .ok (.iaload, 1) := by decide +kernel
theorem dL_law_656 : decode cL_law 656 = .ok (.aload_n 0, 1) := by decide +kernel
theorem dL_law_657 : decode cL_law 657 = .ok (.iload_n 3, 1) := by decide +kernel
theorem dL_law_658 : decode cL_law 658 = .ok (.iconst 2, 1) := by decide +kernel
theorem dL_law_659 : decode cL_law 659 = .ok (.iadd, 1) := by decide +kernel
theorem dL_law_660 : decode cL_law 660 = .ok (.iaload, 1) := by decide +kernel
theorem dL_law_661 : decode cL_law 661 = .ok (.aload_n 0, 1) := by decide +kernel
theorem dL_law_662 : decode cL_law 662 = .ok (.iload_n 3, 1) := by decide +kernel
theorem dL_law_663 : decode cL_law 663 = .ok (.iconst 3, 1) := by decide +kernel
theorem dL_law_664 : decode cL_law 664 = .ok (.iadd, 1) := by decide +kernel
theorem dL_law_665 : decode cL_law 665 = .ok (.iaload, 1) := by decide +kernel
theorem dL_law_666 : decode cL_law 666 = .ok (.invokevirtual 113, 3) := by decide +kernel
theorem dL_law_669 : decode cL_law 669 = .ok (.aload_n 2, 1) := by decide +kernel
theorem dL_law_670 : decode cL_law 670 = .ok (.aload_n 0, 1) := by decide +kernel
theorem dL_law_671 : decode cL_law 671 = .ok (.iload_n 3, 1) := by decide +kernel
theorem dL_law_672 : decode cL_law 672 = .ok (.iconst 1, 1) := by decide +kernel
theorem dL_law_673 : decode cL_law 673 = .ok (.iadd, 1) := by decide +kernel
theorem dL_law_674 : decode cL_law 674 = .ok (.iaload, 1) := by decide +kernel
theorem dL_law_675 : decode cL_law 675 = .ok (.aload_n 0, 1) := by decide +kernel
theorem dL_law_676 : decode cL_law 676 = .ok (.iload_n 3, 1) := by decide +kernel
theorem dL_law_677 : decode cL_law 677 = .ok (.iconst 2, 1) := by decide +kernel
theorem dL_law_678 : decode cL_law 678 = .ok (.iadd, 1) := by decide +kernel
theorem dL_law_679 : decode cL_law 679 = .ok (.iaload, 1) := by decide +kernel
theorem dL_law_680 : decode cL_law 680 = .ok (.aload_n 0, 1) := by decide +kernel
theorem dL_law_681 : decode cL_law 681 = .ok (.iload_n 3, 1) := by decide +kernel
theorem dL_law_682 : decode cL_law 682 = .ok (.iconst 3, 1) := by decide +kernel
theorem dL_law_683 : decode cL_law 683 = .ok (.iadd, 1) := by decide +kernel
theorem dL_law_684 : decode cL_law 684 = .ok (.iaload, 1) := by decide +kernel
theorem dL_law_685 : decode cL_law 685 = .ok (.invokevirtual 116, 3) := by decide +kernel
theorem dL_law_688 : decode cL_law 688 = .ok (.if_icmp .eq 120, 3) := by decide +kernel
theorem dL_law_691 : decode cL_law 691 = .ok (.iconst 0, 1) := by decide +kernel
theorem dL_law_692 : decode cL_law 692 = .ok (.ireturn, 1) := by decide +kernel
theorem dL_law_693 : decode cL_law 693 = .ok (.aload_n 1, 1) := by decide +kernel
theorem dL_law_694 : decode cL_law 694 = .ok (.aload_n 0, 1) := by decide +kernel
theorem dL_law_695 : decode cL_law 695 = .ok (.iload_n 3, 1) := by decide +kernel
theorem dL_law_696 : decode cL_law 696 = .ok (.iconst 1, 1) := by decide +kernel
theorem dL_law_697 : decode cL_law 697 = .ok (.iadd, 1) := by decide +kernel
theorem dL_law_698 : decode cL_law 698 = .ok (.iaload, 1) := by decide +kernel
theorem dL_law_699 : decode cL_law 699 = .ok (.aload_n 0, 1) := by decide +kernel
theorem dL_law_700 : decode cL_law 700 = .ok (.iload_n 3, 1) := by decide +kernel
theorem dL_law_701 : decode cL_law 701 = .ok (.iconst 2, 1) := by decide +kernel
theorem dL_law_702 : decode cL_law 702 = .ok (.iadd, 1) := by decide +kernel
theorem dL_law_703 : decode cL_law 703 = .ok (.iaload, 1) := by decide +kernel
theorem dL_law_704 : decode cL_law 704 = .ok (.invokevirtual 117, 3) := by decide +kernel
theorem dL_law_707 : decode cL_law 707 = .ok (.aload_n 2, 1) := by decide +kernel
theorem dL_law_708 : decode cL_law 708 = .ok (.aload_n 0, 1) := by decide +kernel
theorem dL_law_709 : decode cL_law 709 = .ok (.iload_n 3, 1) := by decide +kernel
theorem dL_law_710 : decode cL_law 710 = .ok (.iconst 1, 1) := by decide +kernel
theorem dL_law_711 : decode cL_law 711 = .ok (.iadd, 1) := by decide +kernel
theorem dL_law_712 : decode cL_law 712 = .ok (.iaload, 1) := by decide +kernel
theorem dL_law_713 : decode cL_law 713 = .ok (.aload_n 0, 1) := by decide +kernel
theorem dL_law_714 : decode cL_law 714 = .ok (.iload_n 3, 1) := by decide +kernel
theorem dL_law_715 : decode cL_law 715 = .ok (.iconst 2, 1) := by decide +kernel
theorem dL_law_716 : decode cL_law 716 = .ok (.iadd, 1) := by decide +kernel
theorem dL_law_717 : decode cL_law 717 = .ok (.iaload, 1) := by decide +kernel
theorem dL_law_718 : decode cL_law 718 = .ok (.invokevirtual 120, 3) := by decide +kernel
theorem dL_law_721 : decode cL_law 721 = .ok (.if_icmp .eq 87, 3) := by decide +kernel
theorem dL_law_724 : decode cL_law 724 = .ok (.iconst 0, 1) := by decide +kernel
theorem dL_law_725 : decode cL_law 725 = .ok (.ireturn, 1) := by decide +kernel
theorem dL_law_726 : decode cL_law 726 = .ok (.aload_n 1, 1) := by decide +kernel
theorem dL_law_727 : decode cL_law 727 = .ok (.aload_n 0, 1) := by decide +kernel
theorem dL_law_728 : decode cL_law 728 = .ok (.iload_n 3, 1) := by decide +kernel
theorem dL_law_729 : decode cL_law 729 = .ok (.iconst 1, 1) := by decide +kernel
theorem dL_law_730 : decode cL_law 730 = .ok (.iadd, 1) := by decide +kernel
theorem dL_law_731 : decode cL_law 731 = .ok (.iaload, 1) := by decide +kernel
theorem dL_law_732 : decode cL_law 732 = .ok (.aload_n 0, 1) := by decide +kernel
theorem dL_law_733 : decode cL_law 733 = .ok (.iload_n 3, 1) := by decide +kernel
theorem dL_law_734 : decode cL_law 734 = .ok (.iconst 2, 1) := by decide +kernel
theorem dL_law_735 : decode cL_law 735 = .ok (.iadd, 1) := by decide +kernel
theorem dL_law_736 : decode cL_law 736 = .ok (.iaload, 1) := by decide +kernel
theorem dL_law_737 : decode cL_law 737 = .ok (.invokevirtual 121, 3) := by decide +kernel
theorem dL_law_740 : decode cL_law 740 = .ok (.aload_n 2, 1) := by decide +kernel
theorem dL_law_741 : decode cL_law 741 = .ok (.aload_n 0, 1) := by decide +kernel
theorem dL_law_742 : decode cL_law 742 = .ok (.iload_n 3, 1) := by decide +kernel
theorem dL_law_743 : decode cL_law 743 = .ok (.iconst 1, 1) := by decide +kernel
theorem dL_law_744 : decode cL_law 744 = .ok (.iadd, 1) := by decide +kernel
theorem dL_law_745 : decode cL_law 745 = .ok (.iaload, 1) := by decide +kernel
theorem dL_law_746 : decode cL_law 746 = .ok (.aload_n 0, 1) := by decide +kernel
theorem dL_law_747 : decode cL_law 747 = .ok (.iload_n 3, 1) := by decide +kernel
theorem dL_law_748 : decode cL_law 748 = .ok (.iconst 2, 1) := by decide +kernel
theorem dL_law_749 : decode cL_law 749 = .ok (.iadd, 1) := by decide +kernel
theorem dL_law_750 : decode cL_law 750 = .ok (.iaload, 1) := by decide +kernel
theorem dL_law_751 : decode cL_law 751 = .ok (.invokevirtual 124, 3) := by decide +kernel
theorem dL_law_754 : decode cL_law 754 = .ok (.if_icmp .eq 54, 3) := by decide +kernel
theorem dL_law_757 : decode cL_law 757 = .ok (.iconst 0, 1) := by decide +kernel
theorem dL_law_758 : decode cL_law 758 = .ok (.ireturn, 1) := by decide +kernel
theorem dL_law_759 : decode cL_law 759 = .ok (.aload_n 1, 1) := by decide +kernel
theorem dL_law_760 : decode cL_law 760 = .ok (.invokevirtual 125, 3) := by decide +kernel
theorem dL_law_763 : decode cL_law 763 = .ok (.aload_n 2, 1) := by decide +kernel
theorem dL_law_764 : decode cL_law 764 = .ok (.invokevirtual 128, 3) := by decide +kernel
theorem dL_law_767 : decode cL_law 767 = .ok (.if_icmp .eq 41, 3) := by decide +kernel
theorem dL_law_770 : decode cL_law 770 = .ok (.iconst 0, 1) := by decide +kernel
theorem dL_law_771 : decode cL_law 771 = .ok (.ireturn, 1) := by decide +kernel
theorem dL_law_772 : decode cL_law 772 = .ok (.aload_n 1, 1) := by decide +kernel
theorem dL_law_773 : decode cL_law 773 = .ok (.aload_n 0, 1) := by decide +kernel
theorem dL_law_774 : decode cL_law 774 = .ok (.iload_n 3, 1) := by decide +kernel
theorem dL_law_775 : decode cL_law 775 = .ok (.iconst 1, 1) := by decide +kernel
theorem dL_law_776 : decode cL_law 776 = .ok (.iadd, 1) := by decide +kernel
theorem dL_law_777 : decode cL_law 777 = .ok (.iaload, 1) := by decide +kernel
theorem dL_law_778 : decode cL_law 778 = .ok (.invokevirtual 129, 3) := by decide +kernel
theorem dL_law_781 : decode cL_law 781 = .ok (.aload_n 2, 1) := by decide +kernel
theorem dL_law_782 : decode cL_law 782 = .ok (.aload_n 0, 1) := by decide +kernel
theorem dL_law_783 : decode cL_law 783 = .ok (.iload_n 3, 1) := by decide +kernel
theorem dL_law_784 : decode cL_law 784 = .ok (.iconst 1, 1) := by decide +kernel
theorem dL_law_785 : decode cL_law 785 = .ok (.iadd, 1) := by decide +kernel
theorem dL_law_786 : decode cL_law 786 = .ok (.iaload, 1) := by decide +kernel
theorem dL_law_787 : decode cL_law 787 = .ok (.invokevirtual 132, 3) := by decide +kernel
theorem dL_law_790 : decode cL_law 790 = .ok (.if_icmp .eq 18, 3) := by decide +kernel
theorem dL_law_793 : decode cL_law 793 = .ok (.iconst 0, 1) := by decide +kernel
theorem dL_law_794 : decode cL_law 794 = .ok (.ireturn, 1) := by decide +kernel
theorem dL_law_795 : decode cL_law 795 = .ok (.aload_n 1, 1) := by decide +kernel
theorem dL_law_796 : decode cL_law 796 = .ok (.invokevirtual 133, 3) := by decide +kernel
theorem dL_law_799 : decode cL_law 799 = .ok (.aload_n 2, 1) := by decide +kernel
theorem dL_law_800 : decode cL_law 800 = .ok (.invokevirtual 136, 3) := by decide +kernel
theorem dL_law_803 : decode cL_law 803 = .ok (.if_icmp .eq 5, 3) := by decide +kernel
theorem dL_law_806 : decode cL_law 806 = .ok (.iconst 0, 1) := by decide +kernel
theorem dL_law_807 : decode cL_law 807 = .ok (.ireturn, 1) := by decide +kernel
theorem dL_law_808 : decode cL_law 808 = .ok (.iinc 3 4, 3) := by decide +kernel
theorem dL_law_811 : decode cL_law 811 = .ok (.goto (-793), 3) := by decide +kernel
theorem dL_law_814 : decode cL_law 814 = .ok (.iconst 1, 1) := by decide +kernel
theorem dL_law_815 : decode cL_law 815 = .ok (.ireturn, 1) := by decide +kernel
set_option maxRecDepth 20000 in
theorem ggL_law_X9_init : GoodIn wsL_law wsX9_init := goodIn_r _ [8, 9, 10, 11, 12, 13, 14, 15, 16, 17, 18, 19, 20, 21, 22, 23, 24, 25, 26, 27, 28, 29, 30, 31, 32, 33, 34, 35, 36, 37, 38, 39, 40, 41, 42, 43, 44, 45, 46, 47, 48, 49, 50, 51, 52, 53, 54, 55, 56, 57, 58, 59, 60, 61, 62, 63, 64, 65, 66, 67, 68, 69, 70, 71, 72, 73, 74, 75, 76, 77, 78, 79, 80, 81, 82, 83, 84, 85, 86, 87, 88, 89, 90, 91, 92, 93, 94, 95, 96, 97, 98, 99, 100, 101, 102, 103, 104, 105, 106, 107, 108, 109, 110, 111, 112, 113, 114, 115, 116, 117, 118, 119, 120, 121, 122, 123, 124, 125, 126, 127, 128, 129, 130, 131, 132, 133, 134, 135, 136, 137, 138, 139, 140, 141, 142, 143, 144, 722, 723, 724, 706, 707, 708, 709, 710, 725, 726, 727, 728, 729, 730, 731, 732, 733, 734, 735, 736, 737, 738, 739, 740, 741, 742, 743] (by decide +kernel) (by decide +kernel)
set_option maxRecDepth 20000 in
theorem gL_law_X9_init : GoodIn wsL_law (wsX9_init) := ggL_law_X9_init
set_option maxRecDepth 20000 in
theorem ggL_law_X10_init : GoodIn wsL_law wsX10_init := goodIn_r _ [147, 148, 10, 11, 60, 149, 150, 151, 152, 153, 154, 155, 156, 157, 711, 712, 713, 714, 715, 716, 717, 718, 719, 720, 721] (by decide +kernel) (by decide +kernel)
set_option maxRecDepth 20000 in
theorem gL_law_X10_init : GoodIn wsL_law (wsX10_init) := ggL_law_X10_init
set_option maxRecDepth 20000 in
theorem ggL_law_X9_loadTrivial : GoodIn wsL_law wsX9_loadTrivial := goodIn_r _ [161, 162, 163, 164, 2, 165, 15, 166, 167, 168, 169, 170, 171, 172, 19, 173, 174, 175, 18, 176, 80, 79, 177, 178, 179, 180, 181, 182, 183, 14, 184, 38, 42, 46, 185, 186, 187, 37, 188, 50, 56, 54, 55, 189, 190, 191, 53, 192, 61, 193, 194, 195, 41, 196, 65, 66, 67, 197, 198, 199, 45, 200, 71, 73, 201, 202, 142, 143, 144, 203, 103, 104, 105, 106, 107, 108, 109, 110, 111, 112, 113, 114, 115, 116, 117, 118, 119, 120, 121, 122, 123, 124, 125, 126, 127, 128, 706, 707, 708, 709, 710, 722, 723, 724, 741, 742, 725, 726, 734, 735, 736, 737, 743, 738, 739, 740] (by decide +kernel) (by decide +kernel)
set_option maxRecDepth 20000 in
theorem gL_law_X9_loadTrivial : GoodIn wsL_law (wsV RL 13 RX9 yX9_loadTrivial wsX9_loadTrivial) := goodIn_app (goodIn_of _ (by decide +kernel)) ggL_law_X9_loadTrivial
set_option maxRecDepth 20000 in
theorem ggL_law_X10_loadTrivial : GoodIn wsL_law wsX10_loadTrivial := goodIn_r _ [207, 149, 208, 209, 5, 210, 211, 212, 213, 214, 215, 216, 217, 218, 219, 150, 711, 712, 713, 714, 715, 716, 717, 718, 719, 720, 721] (by decide +kernel) (by decide +kernel)
set_option maxRecDepth 20000 in
theorem gL_law_X10_loadTrivial : GoodIn wsL_law (wsV RL 17 RX10 yX10_loadTrivial wsX10_loadTrivial) := goodIn_app (goodIn_of _ (by decide +kernel)) ggL_law_X10_loadTrivial
set_option maxRecDepth 20000 in
theorem ggL_law_X9_loadDihedral : GoodIn wsL_law wsX9_loadDihedral := goodIn_r _ [223, 162, 163, 164, 2, 165, 15, 166, 167, 168, 169, 170, 171, 172, 19, 173, 174, 175, 18, 176, 80, 79, 177, 178, 179, 180, 181, 182, 183, 14, 184, 38, 42, 46, 185, 186, 187, 37, 188, 50, 56, 54, 55, 189, 190, 191, 53, 192, 61, 193, 194, 195, 41, 196, 65, 66, 67, 197, 198, 199, 45, 200, 71, 73, 201, 202, 142, 143, 144, 203, 103, 104, 105, 106, 107, 108, 109, 110, 111, 112, 113, 114, 115, 116, 117, 118, 119, 120, 121, 122, 123, 124, 125, 126, 127, 128, 706, 707, 708, 709, 710, 722, 723, 724, 741, 742, 725, 726, 734, 735, 736, 737, 743, 738, 739, 740] (by decide +kernel) (by decide +kernel)
set_option maxRecDepth 20000 in
theorem gL_law_X9_loadDihedral : GoodIn wsL_law (wsV RL 18 RX9 yX9_loadDihedral wsX9_loadDihedral) := goodIn_app (goodIn_of _ (by decide +kernel)) ggL_law_X9_loadDihedral
set_option maxRecDepth 20000 in
theorem ggL_law_X10_loadDihedral : GoodIn wsL_law wsX10_loadDihedral := goodIn_r _ [227, 208, 209, 5, 210, 228, 229, 230, 231, 149, 211, 212, 213, 214, 215, 216, 217, 218, 219, 150, 711, 712, 713, 714, 715, 716, 717, 718, 719, 720, 721] (by decide +kernel) (by decide +kernel)
set_option maxRecDepth 20000 in
theorem gL_law_X10_loadDihedral : GoodIn wsL_law (wsV RL 21 RX10 yX10_loadDihedral wsX10_loadDihedral) := goodIn_app (goodIn_of _ (by decide +kernel)) ggL_law_X10_loadDihedral
set_option maxRecDepth 20000 in
theorem ggL_law_X9_loadAlexander : GoodIn wsL_law wsX9_loadAlexander := goodIn_r _ [235, 166, 167, 2, 168, 236, 237, 238, 162, 163, 164, 165, 15, 169, 170, 171, 172, 19, 173, 174, 175, 18, 176, 80, 79, 177, 178, 179, 180, 181, 182, 183, 14, 184, 38, 42, 46, 185, 186, 187, 37, 188, 50, 56, 54, 55, 189, 190, 191, 53, 192, 61, 193, 194, 195, 41, 196, 65, 66, 67, 197, 198, 199, 45, 200, 71, 73, 201, 202, 142, 143, 144, 203, 103, 104, 105, 106, 107, 108, 109, 110, 111, 112, 113, 114, 115, 116, 117, 118, 119, 120, 121, 122, 123, 124, 125, 126, 127, 128, 706, 707, 708, 709, 710, 722, 723, 724, 741, 742, 725, 726, 734, 735, 736, 737, 743, 738, 739, 740] (by decide +kernel) (by decide +kernel)
set_option maxRecDepth 20000 in
theorem gL_law_X9_loadAlexander : GoodIn wsL_law (wsV RL 22 RX9 yX9_loadAlexander wsX9_loadAlexander) := goodIn_app (goodIn_of _ (by decide +kernel)) ggL_law_X9_loadAlexander
set_option maxRecDepth 20000 in
theorem ggL_law_X10_loadAlexander : GoodIn wsL_law wsX10_loadAlexander := goodIn_r _ [242, 208, 209, 5, 210, 243, 244, 245, 228, 229, 230, 231, 149, 211, 212, 213, 214, 215, 216, 217, 218, 219, 150, 711, 712, 713, 714, 715, 716, 717, 718, 719, 720, 721] (by decide +kernel) (by decide +kernel)
set_option maxRecDepth 20000 in
theorem gL_law_X10_loadAlexander : GoodIn wsL_law (wsV RL 26 RX10 yX10_loadAlexander wsX10_loadAlexander) := goodIn_app (goodIn_of _ (by decide +kernel)) ggL_law_X10_loadAlexander
set_option maxRecDepth 20000 in
theorem ggL_law_X9_loadConjugation : GoodIn wsL_law wsX9_loadConjugation := goodIn_r _ [249, 15, 169, 170, 171, 2, 172, 19, 173, 174, 175, 18, 176, 80, 79, 177, 178, 179, 180, 181, 182, 183, 14, 184, 38, 42, 46, 185, 186, 187, 37, 188, 50, 56, 54, 55, 189, 190, 191, 53, 192, 61, 193, 194, 195, 41, 196, 65, 66, 67, 197, 198, 199, 45, 200, 71, 73, 201, 202, 142, 143, 144, 250, 251, 252, 253, 254, 255, 256, 257, 258, 259, 260, 261, 262, 110, 111, 112, 113, 114, 115, 116, 117, 118, 119, 120, 121, 122, 123, 124, 125, 126, 127, 128, 706, 707, 708, 709, 710, 722, 723, 724, 734, 735, 736, 737, 741, 742, 725, 726, 743, 738, 739, 740] (by decide +kernel) (by decide +kernel)
set_option maxRecDepth 20000 in
theorem gL_law_X9_loadConjugation : GoodIn wsL_law (wsV RL 27 RX9 yX9_loadConjugation wsX9_loadConjugation) := goodIn_app (goodIn_of _ (by decide +kernel)) ggL_law_X9_loadConjugation
set_option maxRecDepth 20000 in
theorem ggL_law_X10_loadConjugation : GoodIn wsL_law wsX10_loadConjugation := goodIn_r _ [266, 155, 152, 154, 149, 211, 212, 213, 5, 214, 215, 216, 217, 218, 219, 150, 267, 268, 269, 270, 271, 272, 273, 274, 711, 712, 713, 714, 715, 716, 717, 718, 719, 720, 721] (by decide +kernel) (by decide +kernel)
set_option maxRecDepth 20000 in
theorem gL_law_X10_loadConjugation : GoodIn wsL_law (wsV RL 31 RX10 yX10_loadConjugation wsX10_loadConjugation) := goodIn_app (goodIn_of _ (by decide +kernel)) ggL_law_X10_loadConjugation
set_option maxRecDepth 20000 in
theorem ggL_law_X9_loadCyclicRack : GoodIn wsL_law wsX9_loadCyclicRack := goodIn_r _ [278, 162, 163, 164, 2, 165, 15, 166, 167, 168, 169, 170, 171, 172, 19, 173, 174, 175, 18, 176, 80, 79, 177, 178, 179, 180, 181, 182, 183, 14, 184, 38, 42, 46, 185, 186, 187, 37, 188, 50, 56, 54, 55, 189, 190, 191, 53, 192, 61, 193, 194, 195, 41, 196, 65, 66, 67, 197, 198, 199, 45, 200, 71, 73, 201, 202, 142, 143, 144, 203, 103, 104, 105, 106, 107, 108, 109, 110, 111, 112, 113, 114, 115, 116, 117, 118, 119, 120, 121, 122, 123, 124, 125, 126, 127, 128, 706, 707, 708, 709, 710, 722, 723, 724, 741, 742, 725, 726, 734, 735, 736, 737, 743, 738, 739, 740] (by decide +kernel) (by decide +kernel)
set_option maxRecDepth 20000 in
theorem gL_law_X9_loadCyclicRack : GoodIn wsL_law (wsV RL 32 RX9 yX9_loadCyclicRack wsX9_loadCyclicRack) := goodIn_app (goodIn_of _ (by decide +kernel)) ggL_law_X9_loadCyclicRack
set_option maxRecDepth 20000 in
theorem ggL_law_X10_loadCyclicRack : GoodIn wsL_law wsX10_loadCyclicRack := goodIn_r _ [282, 149, 208, 209, 5, 210, 211, 212, 213, 214, 215, 216, 217, 218, 219, 150, 711, 712, 713, 714, 715, 716, 717, 718, 719, 720, 721] (by decide +kernel) (by decide +kernel)
set_option maxRecDepth 20000 in
theorem gL_law_X10_loadCyclicRack : GoodIn wsL_law (wsV RL 35 RX10 yX10_loadCyclicRack wsX10_loadCyclicRack) := goodIn_app (goodIn_of _ (by decide +kernel)) ggL_law_X10_loadCyclicRack
set_option maxRecDepth 20000 in
theorem ggL_law_X9_loadDual : GoodIn wsL_law wsX9_loadDual := goodIn_r _ [286, 15, 287, 288, 289, 37, 290, 56, 169, 170, 171, 2, 172, 19, 173, 174, 175, 18, 176, 80, 79, 177, 178, 179, 180, 181, 182, 183, 14, 184, 38, 42, 46, 185, 186, 187, 188, 50, 54, 55, 189, 190, 191, 53, 192, 61, 193, 194, 195, 41, 196, 65, 66, 67, 197, 198, 199, 45, 200, 71, 73, 201, 202, 142, 143, 144, 291, 292, 293, 294, 117, 118, 119, 120, 121, 122, 123, 124, 125, 126, 127, 128, 114, 115, 116, 110, 111, 112, 113, 706, 707, 708, 709, 710, 722, 723, 724, 734, 735, 736, 737, 741, 742, 725, 726, 743, 738, 739, 740] (by decide +kernel) (by decide +kernel)
set_option maxRecDepth 20000 in
theorem gL_law_X9_loadDual : GoodIn wsL_law (wsV RL 36 RX9 yX9_loadDual wsX9_loadDual) := goodIn_app (goodIn_of _ (by decide +kernel)) ggL_law_X9_loadDual
set_option maxRecDepth 20000 in
theorem ggL_law_X10_loadDual : GoodIn wsL_law wsX10_loadDual := goodIn_r _ [298, 149, 151, 299, 300, 301, 5, 302, 211, 212, 213, 214, 215, 216, 217, 218, 219, 150, 711, 712, 713, 714, 715, 716, 717, 718, 719, 720, 721] (by decide +kernel) (by decide +kernel)
set_option maxRecDepth 20000 in
theorem gL_law_X10_loadDual : GoodIn wsL_law (wsV RL 39 RX10 yX10_loadDual wsX10_loadDual) := goodIn_app (goodIn_of _ (by decide +kernel)) ggL_law_X10_loadDual
set_option maxRecDepth 20000 in
theorem ggL_law_X9_setEntry : GoodIn wsL_law wsX9_setEntry := goodIn_r _ [306, 15, 19, 307, 308, 309, 37, 310, 311, 312, 313, 314, 50, 315, 173, 174, 175, 18, 176, 80, 79, 177, 178, 179, 180, 181, 182, 183, 14, 184, 38, 42, 46, 185, 186, 187, 188, 56, 54, 55, 189, 190, 191, 53, 192, 61, 193, 194, 195, 41, 196, 65, 66, 67, 197, 198, 199, 45, 200, 71, 73, 201, 316, 317, 318, 319, 125, 126, 127, 128, 114, 115, 116, 320, 321, 322, 323, 110, 111, 112, 113, 117, 118, 119, 120, 121, 122, 123, 124, 706, 707, 708, 709, 710, 722, 723, 724, 734, 735, 736, 737, 725, 726, 743, 738, 739, 740, 741, 742] (by decide +kernel) (by decide +kernel)
set_option maxRecDepth 20000 in
theorem gL_law_X9_setEntry : GoodIn wsL_law (wsV RL 40 RX9 yX9_setEntry wsX9_setEntry) := goodIn_app (goodIn_of _ (by decide +kernel)) ggL_law_X9_setEntry
set_option maxRecDepth 20000 in
theorem ggL_law_X10_setEntry : GoodIn wsL_law wsX10_setEntry := goodIn_r _ [327, 149, 328, 329, 330, 5, 331, 208, 209, 210, 215, 216, 217, 218, 219, 150, 711, 712, 713, 714, 715, 716, 717, 718, 719, 720, 721] (by decide +kernel) (by decide +kernel)
set_option maxRecDepth 20000 in
theorem gL_law_X10_setEntry : GoodIn wsL_law (wsV RL 44 RX10 yX10_setEntry wsX10_setEntry) := goodIn_app (goodIn_of _ (by decide +kernel)) ggL_law_X10_setEntry
set_option maxRecDepth 20000 in
theorem ggL_law_X9_size : GoodIn wsL_law wsX9_size := goodIn_r _ [335, 15, 706, 707, 708, 709, 710, 722, 723, 724, 734, 735, 736, 737] (by decide +kernel) (by decide +kernel)
set_option maxRecDepth 20000 in
theorem gL_law_X9_size : GoodIn wsL_law (wsV RL 45 RX9 yX9_size wsX9_size) := goodIn_app (goodIn_of _ (by decide +kernel)) ggL_law_X9_size
set_option maxRecDepth 20000 in
theorem ggL_law_X10_size : GoodIn wsL_law wsX10_size := goodIn_r _ [339, 149, 711, 712, 713, 714, 715, 716, 717, 718, 719, 720, 721] (by decide +kernel) (by decide +kernel)
set_option maxRecDepth 20000 in
theorem gL_law_X10_size : GoodIn wsL_law (wsV RL 48 RX10 yX10_size wsX10_size) := goodIn_app (goodIn_of _ (by decide +kernel)) ggL_law_X10_size
set_option maxRecDepth 20000 in
theorem ggL_law_X9_entry : GoodIn wsL_law wsX9_entry := goodIn_r _ [343, 15, 307, 308, 309, 37, 310, 311, 312, 313, 314, 50, 316, 317, 318, 319, 54, 125, 126, 127, 53, 128, 61, 114, 115, 116, 706, 707, 708, 709, 710, 722, 723, 724, 734, 735, 736, 737, 743] (by decide +kernel) (by decide +kernel)
set_option maxRecDepth 20000 in
theorem gL_law_X9_entry : GoodIn wsL_law (wsV RL 49 RX9 yX9_entry wsX9_entry) := goodIn_app (goodIn_of _ (by decide +kernel)) ggL_law_X9_entry
set_option maxRecDepth 20000 in
theorem ggL_law_X10_entry : GoodIn wsL_law wsX10_entry := goodIn_r _ [347, 149, 328, 329, 330, 5, 331, 208, 209, 210, 711, 712, 713, 714, 715, 716, 717, 718, 719, 720, 721] (by decide +kernel) (by decide +kernel)
set_option maxRecDepth 20000 in
theorem gL_law_X10_entry : GoodIn wsL_law (wsV RL 52 RX10 yX10_entry wsX10_entry) := goodIn_app (goodIn_of _ (by decide +kernel)) ggL_law_X10_entry
set_option maxRecDepth 20000 in
theorem ggL_law_X9_quotient : GoodIn wsL_law wsX9_quotient := goodIn_r _ [351, 15, 307, 308, 309, 37, 310, 311, 312, 313, 314, 50, 287, 288, 289, 290, 56, 352, 353, 354, 355, 55, 125, 126, 127, 53, 128, 61, 114, 115, 116, 706, 707, 708, 709, 710, 722, 723, 724, 734, 735, 736, 737, 743] (by decide +kernel) (by decide +kernel)
set_option maxRecDepth 20000 in
theorem gL_law_X9_quotient : GoodIn wsL_law (wsV RL 53 RX9 yX9_quotient wsX9_quotient) := goodIn_app (goodIn_of _ (by decide +kernel)) ggL_law_X9_quotient
set_option maxRecDepth 20000 in
theorem ggL_law_X10_quotient : GoodIn wsL_law wsX10_quotient := goodIn_r _ [359, 151, 328, 329, 330, 5, 331, 149, 208, 209, 210, 299, 300, 301, 302, 711, 712, 713, 714, 715, 716, 717, 718, 719, 720, 721] (by decide +kernel) (by decide +kernel)
set_option maxRecDepth 20000 in
theorem gL_law_X10_quotient : GoodIn wsL_law (wsV RL 56 RX10 yX10_quotient wsX10_quotient) := goodIn_app (goodIn_of _ (by decide +kernel)) ggL_law_X10_quotient
set_option maxRecDepth 20000 in
theorem ggL_law_X9_nonInvertibleColumn : GoodIn wsL_law wsX9_nonInvertibleColumn := goodIn_r _ [363, 15, 706, 707, 708, 709, 710, 722, 723, 724, 734, 735, 736, 737] (by decide +kernel) (by decide +kernel)
set_option maxRecDepth 20000 in
theorem gL_law_X9_nonInvertibleColumn : GoodIn wsL_law (wsV RL 57 RX9 yX9_nonInvertibleColumn wsX9_nonInvertibleColumn) := goodIn_app (goodIn_of _ (by decide +kernel)) ggL_law_X9_nonInvertibleColumn
set_option maxRecDepth 20000 in
theorem ggL_law_X10_nonInvertibleColumn : GoodIn wsL_law wsX10_nonInvertibleColumn := goodIn_r _ [367, 299, 300, 301, 5, 302, 149, 151, 711, 712, 713, 714, 715, 716, 717, 718, 719, 720, 721] (by decide +kernel) (by decide +kernel)
set_option maxRecDepth 20000 in
theorem gL_law_X10_nonInvertibleColumn : GoodIn wsL_law (wsV RL 60 RX10 yX10_nonInvertibleColumn wsX10_nonInvertibleColumn) := goodIn_app (goodIn_of _ (by decide +kernel)) ggL_law_X10_nonInvertibleColumn
set_option maxRecDepth 20000 in
theorem ggL_law_X9_distributivityViolation : GoodIn wsL_law wsX9_distributivityViolation := goodIn_r _ [371, 15, 372, 373, 374, 37, 375, 50, 376, 317, 318, 319, 54, 125, 126, 127, 53, 128, 61, 114, 115, 116, 377, 2, 378, 706, 707, 708, 709, 710, 722, 723, 724, 734, 735, 736, 737, 743] (by decide +kernel) (by decide +kernel)
set_option maxRecDepth 20000 in
theorem gL_law_X9_distributivityViolation : GoodIn wsL_law (wsV RL 61 RX9 yX9_distributivityViolation wsX9_distributivityViolation) := goodIn_app (goodIn_of _ (by decide +kernel)) ggL_law_X9_distributivityViolation
set_option maxRecDepth 20000 in
theorem ggL_law_X10_distributivityViolation : GoodIn wsL_law wsX10_distributivityViolation := goodIn_r _ [382, 383, 384, 385, 5, 386, 149, 387, 388, 389, 390, 391, 392, 393, 394, 711, 712, 713, 714, 715, 716, 717, 718, 719, 720, 721] (by decide +kernel) (by decide +kernel)
set_option maxRecDepth 20000 in
theorem gL_law_X10_distributivityViolation : GoodIn wsL_law (wsV RL 64 RX10 yX10_distributivityViolation wsX10_distributivityViolation) := goodIn_app (goodIn_of _ (by decide +kernel)) ggL_law_X10_distributivityViolation
set_option maxRecDepth 20000 in
theorem ggL_law_X9_idempotencyViolation : GoodIn wsL_law wsX9_idempotencyViolation := goodIn_r _ [398, 15, 399, 400, 401, 37, 402, 50, 376, 317, 318, 319, 54, 125, 126, 127, 53, 128, 61, 114, 115, 116, 706, 707, 708, 709, 710, 722, 723, 724, 734, 735, 736, 737, 743] (by decide +kernel) (by decide +kernel)
set_option maxRecDepth 20000 in
theorem gL_law_X9_idempotencyViolation : GoodIn wsL_law (wsV RL 65 RX9 yX9_idempotencyViolation wsX9_idempotencyViolation) := goodIn_app (goodIn_of _ (by decide +kernel)) ggL_law_X9_idempotencyViolation
set_option maxRecDepth 20000 in
theorem ggL_law_X10_idempotencyViolation : GoodIn wsL_law wsX10_idempotencyViolation := goodIn_r _ [406, 149, 391, 392, 393, 5, 394, 711, 712, 713, 714, 715, 716, 717, 718, 719, 720, 721] (by decide +kernel) (by decide +kernel)
set_option maxRecDepth 20000 in
theorem gL_law_X10_idempotencyViolation : GoodIn wsL_law (wsV RL 68 RX10 yX10_idempotencyViolation wsX10_idempotencyViolation) := goodIn_app (goodIn_of _ (by decide +kernel)) ggL_law_X10_idempotencyViolation
set_option maxRecDepth 20000 in
theorem ggL_law_X9_kind : GoodIn wsL_law wsX9_kind := goodIn_r _ [410, 15, 287, 288, 289, 37, 290, 56, 372, 373, 374, 375, 50, 376, 317, 318, 319, 54, 125, 126, 127, 53, 128, 61, 114, 115, 116, 377, 2, 378, 399, 400, 401, 402, 706, 707, 708, 709, 710, 722, 723, 724, 734, 735, 736, 737, 743] (by decide +kernel) (by decide +kernel)
set_option maxRecDepth 20000 in
theorem gL_law_X9_kind : GoodIn wsL_law (wsV RL 69 RX9 yX9_kind wsX9_kind) := goodIn_app (goodIn_of _ (by decide +kernel)) ggL_law_X9_kind
set_option maxRecDepth 20000 in
theorem ggL_law_X10_kind : GoodIn wsL_law wsX10_kind := goodIn_r _ [414, 299, 300, 301, 5, 302, 149, 151, 383, 384, 385, 386, 387, 388, 389, 390, 391, 392, 393, 394, 415, 404, 405, 406, 711, 712, 713, 714, 715, 716, 717, 718, 719, 720, 721] (by decide +kernel) (by decide +kernel)
set_option maxRecDepth 20000 in
theorem gL_law_X10_kind : GoodIn wsL_law (wsV RL 72 RX10 yX10_kind wsX10_kind) := goodIn_app (goodIn_of _ (by decide +kernel)) ggL_law_X10_kind
set_option maxRecDepth 20000 in
theorem ggL_law_X9_orbit : GoodIn wsL_law wsX9_orbit := goodIn_r _ [419, 15, 315, 312, 313, 37, 314, 50, 420, 421, 422, 423, 424, 425, 426, 427, 428, 429, 430, 431, 376, 317, 318, 319, 54, 125, 126, 127, 53, 128, 61, 114, 115, 116, 432, 288, 289, 290, 56, 433, 353, 354, 355, 55, 706, 707, 708, 709, 710, 722, 723, 724, 734, 735, 736, 737, 743] (by decide +kernel) (by decide +kernel)
set_option maxRecDepth 20000 in
theorem gL_law_X9_orbit : GoodIn wsL_law (wsV RL 73 RX9 yX9_orbit wsX9_orbit) := goodIn_app (goodIn_of _ (by decide +kernel)) ggL_law_X9_orbit
set_option maxRecDepth 20000 in
theorem ggL_law_X10_orbit : GoodIn wsL_law wsX10_orbit := goodIn_r _ [437, 149, 151, 328, 329, 330, 5, 331, 208, 209, 210, 299, 300, 301, 302, 391, 392, 393, 394, 711, 712, 713, 714, 715, 716, 717, 718, 719, 720, 721] (by decide +kernel) (by decide +kernel)
set_option maxRecDepth 20000 in
theorem gL_law_X10_orbit : GoodIn wsL_law (wsV RL 76 RX10 yX10_orbit wsX10_orbit) := goodIn_app (goodIn_of _ (by decide +kernel)) ggL_law_X10_orbit
set_option maxRecDepth 20000 in
theorem ggL_law_X9_innerGroupOrder : GoodIn wsL_law wsX9_innerGroupOrder := goodIn_r _ [441, 15, 27, 287, 288, 289, 37, 290, 56, 442, 443, 444, 26, 445, 92, 93, 90, 446, 447, 448, 449, 450, 451, 452, 453, 454, 455, 456, 457, 458, 459, 460, 461, 462, 463, 464, 465, 466, 467, 468, 469, 317, 318, 319, 54, 125, 126, 127, 53, 128, 61, 114, 115, 116, 706, 707, 708, 709, 710, 722, 723, 724, 734, 735, 736, 737, 730, 731, 732, 743] (by decide +kernel) (by decide +kernel)
set_option maxRecDepth 20000 in
theorem gL_law_X9_innerGroupOrder : GoodIn wsL_law (wsV RL 77 RX9 yX9_innerGroupOrder wsX9_innerGroupOrder) := goodIn_app (goodIn_of _ (by decide +kernel)) ggL_law_X9_innerGroupOrder
set_option maxRecDepth 20000 in
theorem ggL_law_X10_innerGroupOrder : GoodIn wsL_law wsX10_innerGroupOrder := goodIn_r _ [473, 149, 156, 157, 154, 299, 300, 301, 5, 302, 151, 391, 392, 393, 394, 271, 272, 273, 274, 711, 712, 713, 714, 715, 716, 717, 718, 719, 720, 721] (by decide +kernel) (by decide +kernel)
set_option maxRecDepth 20000 in
theorem gL_law_X10_innerGroupOrder : GoodIn wsL_law (wsV RL 80 RX10 yX10_innerGroupOrder wsX10_innerGroupOrder) := goodIn_app (goodIn_of _ (by decide +kernel)) ggL_law_X10_innerGroupOrder
set_option maxRecDepth 20000 in
theorem ggL_law_X9_automorphismCount : GoodIn wsL_law wsX9_automorphismCount := goodIn_r _ [477, 31, 15, 478, 479, 480, 30, 481, 97, 482, 483, 484, 485, 486, 487, 488, 317, 318, 37, 319, 54, 125, 126, 127, 53, 128, 61, 114, 115, 116, 489, 490, 491, 706, 707, 708, 709, 710, 722, 723, 724, 733, 734, 735, 736, 737, 743] (by decide +kernel) (by decide +kernel)
set_option maxRecDepth 20000 in
theorem gL_law_X9_automorphismCount : GoodIn wsL_law (wsV RL 81 RX9 yX9_automorphismCount wsX9_automorphismCount) := goodIn_app (goodIn_of _ (by decide +kernel)) ggL_law_X9_automorphismCount
set_option maxRecDepth 20000 in
theorem ggL_law_X10_automorphismCount : GoodIn wsL_law wsX10_automorphismCount := goodIn_r _ [495, 149, 496, 497, 5, 498, 267, 268, 269, 270, 152, 499, 500, 501, 502, 391, 392, 393, 394, 711, 712, 713, 714, 715, 716, 717, 718, 719, 720, 721] (by decide +kernel) (by decide +kernel)
set_option maxRecDepth 20000 in
theorem gL_law_X10_automorphismCount : GoodIn wsL_law (wsV RL 84 RX10 yX10_automorphismCount wsX10_automorphismCount) := goodIn_app (goodIn_of _ (by decide +kernel)) ggL_law_X10_automorphismCount
set_option maxRecDepth 20000 in
theorem ggL_law_X9_setStrands : GoodIn wsL_law wsX9_setStrands := goodIn_r _ [506, 19, 15, 173, 174, 175, 18, 176, 80, 79, 177, 178, 179, 180, 181, 182, 183, 14, 184, 38, 42, 46, 185, 186, 187, 37, 188, 50, 56, 54, 55, 189, 190, 191, 53, 192, 61, 193, 194, 195, 41, 196, 65, 66, 67, 197, 198, 199, 45, 200, 71, 73, 201, 507, 130, 131, 132, 706, 707, 708, 709, 710, 722, 723, 724, 738, 739, 740, 725, 726, 734, 735, 736, 737, 743, 741, 742] (by decide +kernel) (by decide +kernel)
set_option maxRecDepth 20000 in
theorem gL_law_X9_setStrands : GoodIn wsL_law (wsV RL 85 RX9 yX9_setStrands wsX9_setStrands) := goodIn_app (goodIn_of _ (by decide +kernel)) ggL_law_X9_setStrands
set_option maxRecDepth 20000 in
theorem ggL_law_X10_setStrands : GoodIn wsL_law wsX10_setStrands := goodIn_r _ [511, 149, 208, 209, 5, 210, 215, 216, 217, 218, 219, 150, 711, 712, 713, 714, 715, 716, 717, 718, 719, 720, 721] (by decide +kernel) (by decide +kernel)
set_option maxRecDepth 20000 in
theorem gL_law_X10_setStrands : GoodIn wsL_law (wsV RL 88 RX10 yX10_setStrands wsX10_setStrands) := goodIn_app (goodIn_of _ (by decide +kernel)) ggL_law_X10_setStrands
set_option maxRecDepth 20000 in
theorem ggL_law_X9_appendCrossing : GoodIn wsL_law wsX9_appendCrossing := goodIn_r _ [515, 15, 19, 516, 517, 518, 41, 519, 65, 173, 174, 175, 18, 176, 80, 79, 177, 178, 179, 180, 181, 182, 183, 14, 184, 38, 42, 46, 185, 186, 187, 37, 188, 50, 56, 54, 55, 189, 190, 191, 53, 192, 61, 193, 194, 195, 196, 66, 67, 197, 198, 199, 45, 200, 71, 73, 201, 520, 134, 135, 136, 706, 707, 708, 709, 710, 722, 723, 724, 738, 739, 740, 725, 726, 734, 735, 736, 737, 743, 741, 742] (by decide +kernel) (by decide +kernel)
set_option maxRecDepth 20000 in
theorem gL_law_X9_appendCrossing : GoodIn wsL_law (wsV RL 89 RX9 yX9_appendCrossing wsX9_appendCrossing) := goodIn_app (goodIn_of _ (by decide +kernel)) ggL_law_X9_appendCrossing
set_option maxRecDepth 20000 in
theorem ggL_law_X10_appendCrossing : GoodIn wsL_law wsX10_appendCrossing := goodIn_r _ [524, 149, 208, 209, 5, 210, 215, 216, 217, 218, 219, 150, 711, 712, 713, 714, 715, 716, 717, 718, 719, 720, 721] (by decide +kernel) (by decide +kernel)
set_option maxRecDepth 20000 in
theorem gL_law_X10_appendCrossing : GoodIn wsL_law (wsV RL 92 RX10 yX10_appendCrossing wsX10_appendCrossing) := goodIn_app (goodIn_of _ (by decide +kernel)) ggL_law_X10_appendCrossing
set_option maxRecDepth 20000 in
theorem ggL_law_X9_removeCrossing : GoodIn wsL_law wsX9_removeCrossing := goodIn_r _ [528, 15, 19, 529, 530, 531, 532, 173, 174, 175, 18, 176, 80, 79, 177, 178, 179, 180, 181, 182, 183, 14, 184, 38, 42, 46, 185, 186, 187, 37, 188, 50, 56, 54, 55, 189, 190, 191, 53, 192, 61, 193, 194, 195, 41, 196, 65, 66, 67, 197, 198, 199, 45, 200, 71, 73, 201, 533, 534, 535, 536, 537, 538, 539, 540, 706, 707, 708, 709, 710, 722, 723, 724, 738, 739, 740, 725, 726, 734, 735, 736, 737, 743, 741, 742] (by decide +kernel) (by decide +kernel)
set_option maxRecDepth 20000 in
theorem gL_law_X9_removeCrossing : GoodIn wsL_law (wsV RL 93 RX9 yX9_removeCrossing wsX9_removeCrossing) := goodIn_app (goodIn_of _ (by decide +kernel)) ggL_law_X9_removeCrossing
set_option maxRecDepth 20000 in
theorem ggL_law_X10_removeCrossing : GoodIn wsL_law wsX10_removeCrossing := goodIn_r _ [544, 149, 215, 216, 217, 5, 218, 219, 150, 711, 712, 713, 714, 715, 716, 717, 718, 719, 720, 721] (by decide +kernel) (by decide +kernel)
set_option maxRecDepth 20000 in
theorem gL_law_X10_removeCrossing : GoodIn wsL_law (wsV RL 96 RX10 yX10_removeCrossing wsX10_removeCrossing) := goodIn_app (goodIn_of _ (by decide +kernel)) ggL_law_X10_removeCrossing
set_option maxRecDepth 20000 in
theorem ggL_law_X9_crossingCount : GoodIn wsL_law wsX9_crossingCount := goodIn_r _ [548, 15, 706, 707, 708, 709, 710, 722, 723, 724, 738, 739, 740] (by decide +kernel) (by decide +kernel)
set_option maxRecDepth 20000 in
theorem gL_law_X9_crossingCount : GoodIn wsL_law (wsV RL 97 RX9 yX9_crossingCount wsX9_crossingCount) := goodIn_app (goodIn_of _ (by decide +kernel)) ggL_law_X9_crossingCount
set_option maxRecDepth 20000 in
theorem ggL_law_X10_crossingCount : GoodIn wsL_law wsX10_crossingCount := goodIn_r _ [552, 149, 711, 712, 713, 714, 715, 716, 717, 718, 719, 720, 721] (by decide +kernel) (by decide +kernel)
set_option maxRecDepth 20000 in
theorem gL_law_X10_crossingCount : GoodIn wsL_law (wsV RL 100 RX10 yX10_crossingCount wsX10_crossingCount) := goodIn_app (goodIn_of _ (by decide +kernel)) ggL_law_X10_crossingCount
set_option maxRecDepth 20000 in
theorem ggL_law_X9_coloringCount : GoodIn wsL_law wsX9_coloringCount := goodIn_r _ [556, 15, 23, 287, 288, 289, 37, 290, 56, 557, 558, 559, 22, 560, 561, 562, 563, 564, 84, 565, 566, 567, 568, 85, 86, 569, 538, 539, 41, 540, 66, 67, 570, 571, 572, 573, 574, 530, 531, 532, 575, 126, 127, 53, 128, 61, 114, 115, 116, 576, 577, 578, 45, 579, 71, 580, 317, 318, 319, 54, 125, 581, 353, 354, 355, 55, 582, 583, 584, 585, 586, 587, 588, 589, 590, 591, 592, 706, 707, 708, 709, 710, 722, 723, 724, 734, 735, 736, 737, 727, 728, 729, 738, 739, 740, 741, 742, 743] (by decide +kernel) (by decide +kernel)
set_option maxRecDepth 20000 in
theorem gL_law_X9_coloringCount : GoodIn wsL_law (wsV RL 101 RX9 yX9_coloringCount wsX9_coloringCount) := goodIn_app (goodIn_of _ (by decide +kernel)) ggL_law_X9_coloringCount
set_option maxRecDepth 20000 in
theorem ggL_law_X10_coloringCount : GoodIn wsL_law wsX10_coloringCount := goodIn_r _ [596, 299, 300, 301, 5, 302, 149, 151, 597, 598, 599, 600, 601, 602, 603, 604, 153, 605, 391, 392, 393, 394, 387, 388, 389, 390, 711, 712, 713, 714, 715, 716, 717, 718, 719, 720, 721] (by decide +kernel) (by decide +kernel)
set_option maxRecDepth 20000 in
theorem gL_law_X10_coloringCount : GoodIn wsL_law (wsV RL 104 RX10 yX10_coloringCount wsX10_coloringCount) := goodIn_app (goodIn_of _ (by decide +kernel)) ggL_law_X10_coloringCount
set_option maxRecDepth 20000 in
theorem ggL_law_X9_nextColoring : GoodIn wsL_law wsX9_nextColoring := goodIn_r _ [609, 15, 23, 287, 288, 289, 37, 290, 56, 610, 611, 612, 22, 613, 561, 562, 563, 564, 84, 565, 566, 567, 568, 85, 86, 569, 538, 539, 41, 540, 66, 67, 570, 571, 572, 573, 574, 530, 531, 532, 575, 126, 127, 53, 128, 61, 114, 115, 116, 576, 577, 578, 45, 579, 71, 580, 317, 318, 319, 54, 125, 581, 353, 354, 355, 55, 582, 583, 584, 585, 586, 587, 588, 589, 590, 591, 592, 706, 707, 708, 709, 710, 722, 723, 724, 734, 735, 736, 737, 727, 728, 729, 738, 739, 740, 741, 742, 743] (by decide +kernel) (by decide +kernel)
set_option maxRecDepth 20000 in
theorem gL_law_X9_nextColoring : GoodIn wsL_law (wsV RL 105 RX9 yX9_nextColoring wsX9_nextColoring) := goodIn_app (goodIn_of _ (by decide +kernel)) ggL_law_X9_nextColoring
set_option maxRecDepth 20000 in
theorem ggL_law_X10_nextColoring : GoodIn wsL_law wsX10_nextColoring := goodIn_r _ [617, 299, 300, 301, 5, 302, 149, 151, 597, 598, 599, 600, 601, 602, 603, 604, 153, 605, 391, 392, 393, 394, 387, 388, 389, 390, 711, 712, 713, 714, 715, 716, 717, 718, 719, 720, 721] (by decide +kernel) (by decide +kernel)
set_option maxRecDepth 20000 in
theorem gL_law_X10_nextColoring : GoodIn wsL_law (wsV RL 108 RX10 yX10_nextColoring wsX10_nextColoring) := goodIn_app (goodIn_of _ (by decide +kernel)) ggL_law_X10_nextColoring
set_option maxRecDepth 20000 in
theorem ggL_law_X9_setModulus : GoodIn wsL_law wsX9_setModulus := goodIn_r _ [621, 19, 15, 173, 174, 175, 18, 176, 80, 79, 177, 178, 179, 180, 181, 182, 183, 14, 184, 38, 42, 46, 185, 186, 187, 37, 188, 50, 56, 54, 55, 189, 190, 191, 53, 192, 61, 193, 194, 195, 41, 196, 65, 66, 67, 197, 198, 199, 45, 200, 71, 73, 201, 622, 138, 139, 140, 141, 142, 143, 144, 706, 707, 708, 709, 710, 722, 723, 724, 741, 742, 725, 726, 734, 735, 736, 737, 743, 738, 739, 740] (by decide +kernel) (by decide +kernel)
set_option maxRecDepth 20000 in
theorem gL_law_X9_setModulus : GoodIn wsL_law (wsV RL 109 RX9 yX9_setModulus wsX9_setModulus) := goodIn_app (goodIn_of _ (by decide +kernel)) ggL_law_X9_setModulus
set_option maxRecDepth 20000 in
theorem ggL_law_X10_setModulus : GoodIn wsL_law wsX10_setModulus := goodIn_r _ [626, 149, 208, 209, 5, 210, 215, 216, 217, 218, 219, 150, 711, 712, 713, 714, 715, 716, 717, 718, 719, 720, 721] (by decide +kernel) (by decide +kernel)
set_option maxRecDepth 20000 in
theorem gL_law_X10_setModulus : GoodIn wsL_law (wsV RL 112 RX10 yX10_setModulus wsX10_setModulus) := goodIn_app (goodIn_of _ (by decide +kernel)) ggL_law_X10_setModulus
set_option maxRecDepth 20000 in
theorem ggL_law_X9_setWeight : GoodIn wsL_law wsX9_setWeight := goodIn_r _ [630, 15, 19, 307, 308, 309, 37, 310, 311, 312, 313, 314, 50, 631, 632, 633, 45, 634, 71, 173, 174, 175, 18, 176, 80, 79, 177, 178, 179, 180, 181, 182, 183, 14, 184, 38, 42, 46, 185, 186, 187, 188, 56, 54, 55, 189, 190, 191, 53, 192, 61, 193, 194, 195, 41, 196, 65, 66, 67, 197, 198, 199, 200, 73, 201, 635, 126, 127, 128, 114, 115, 116, 636, 111, 112, 113, 706, 707, 708, 709, 710, 722, 723, 724, 741, 742, 734, 735, 736, 737, 725, 726, 743, 738, 739, 740] (by decide +kernel) (by decide +kernel)
set_option maxRecDepth 20000 in
theorem gL_law_X9_setWeight : GoodIn wsL_law (wsV RL 113 RX9 yX9_setWeight wsX9_setWeight) := goodIn_app (goodIn_of _ (by decide +kernel)) ggL_law_X9_setWeight
set_option maxRecDepth 20000 in
theorem ggL_law_X10_setWeight : GoodIn wsL_law wsX10_setWeight := goodIn_r _ [640, 149, 328, 329, 330, 5, 331, 208, 209, 210, 215, 216, 217, 218, 219, 150, 387, 388, 389, 390, 711, 712, 713, 714, 715, 716, 717, 718, 719, 720, 721] (by decide +kernel) (by decide +kernel)
set_option maxRecDepth 20000 in
theorem gL_law_X10_setWeight : GoodIn wsL_law (wsV RL 116 RX10 yX10_setWeight wsX10_setWeight) := goodIn_app (goodIn_of _ (by decide +kernel)) ggL_law_X10_setWeight
set_option maxRecDepth 20000 in
theorem ggL_law_X9_addCoboundary : GoodIn wsL_law wsX9_addCoboundary := goodIn_r _ [644, 15, 19, 315, 312, 313, 37, 314, 50, 631, 632, 633, 45, 634, 71, 173, 174, 175, 18, 176, 80, 79, 177, 178, 179, 180, 181, 182, 183, 14, 184, 38, 42, 46, 185, 186, 187, 188, 56, 54, 55, 189, 190, 191, 53, 192, 61, 193, 194, 195, 41, 196, 65, 66, 67, 197, 198, 199, 200, 73, 201, 645, 646, 647, 648, 649, 126, 127, 128, 114, 115, 116, 650, 577, 578, 579, 651, 317, 318, 319, 125, 652, 583, 584, 585, 653, 111, 112, 113, 706, 707, 708, 709, 710, 722, 723, 724, 734, 735, 736, 737, 741, 742, 725, 726, 743, 738, 739, 740] (by decide +kernel) (by decide +kernel)
set_option maxRecDepth 20000 in
theorem gL_law_X9_addCoboundary : GoodIn wsL_law (wsV RL 117 RX9 yX9_addCoboundary wsX9_addCoboundary) := goodIn_app (goodIn_of _ (by decide +kernel)) ggL_law_X9_addCoboundary
set_option maxRecDepth 20000 in
theorem ggL_law_X10_addCoboundary : GoodIn wsL_law wsX10_addCoboundary := goodIn_r _ [657, 149, 328, 329, 330, 5, 331, 208, 209, 210, 215, 216, 217, 218, 219, 150, 387, 388, 389, 390, 391, 392, 393, 394, 711, 712, 713, 714, 715, 716, 717, 718, 719, 720, 721] (by decide +kernel) (by decide +kernel)
set_option maxRecDepth 20000 in
theorem gL_law_X10_addCoboundary : GoodIn wsL_law (wsV RL 120 RX10 yX10_addCoboundary wsX10_addCoboundary) := goodIn_app (goodIn_of _ (by decide +kernel)) ggL_law_X10_addCoboundary
set_option maxRecDepth 20000 in
theorem ggL_law_X9_weight : GoodIn wsL_law wsX9_weight := goodIn_r _ [661, 15, 307, 308, 309, 37, 310, 311, 312, 313, 314, 50, 635, 126, 127, 53, 128, 61, 114, 115, 116, 706, 707, 708, 709, 710, 722, 723, 724, 741, 742, 734, 735, 736, 737, 743] (by decide +kernel) (by decide +kernel)
set_option maxRecDepth 20000 in
theorem gL_law_X9_weight : GoodIn wsL_law (wsV RL 121 RX9 yX9_weight wsX9_weight) := goodIn_app (goodIn_of _ (by decide +kernel)) ggL_law_X9_weight
set_option maxRecDepth 20000 in
theorem ggL_law_X10_weight : GoodIn wsL_law wsX10_weight := goodIn_r _ [665, 328, 329, 330, 5, 331, 149, 208, 209, 210, 387, 388, 389, 390, 711, 712, 713, 714, 715, 716, 717, 718, 719, 720, 721] (by decide +kernel) (by decide +kernel)
set_option maxRecDepth 20000 in
theorem gL_law_X10_weight : GoodIn wsL_law (wsV RL 124 RX10 yX10_weight wsX10_weight) := goodIn_app (goodIn_of _ (by decide +kernel)) ggL_law_X10_weight
set_option maxRecDepth 20000 in
theorem ggL_law_X9_cocycleViolation : GoodIn wsL_law wsX9_cocycleViolation := goodIn_r _ [669, 15, 670, 671, 672, 45, 673, 674, 675, 676, 677, 73, 649, 126, 127, 53, 128, 61, 114, 115, 116, 651, 317, 318, 37, 319, 54, 125, 650, 577, 578, 579, 71, 377, 2, 378, 706, 707, 708, 709, 710, 722, 723, 724, 734, 735, 736, 737, 741, 742, 743] (by decide +kernel) (by decide +kernel)
set_option maxRecDepth 20000 in
theorem gL_law_X9_cocycleViolation : GoodIn wsL_law (wsV RL 125 RX9 yX9_cocycleViolation wsX9_cocycleViolation) := goodIn_app (goodIn_of _ (by decide +kernel)) ggL_law_X9_cocycleViolation
set_option maxRecDepth 20000 in
theorem ggL_law_X10_cocycleViolation : GoodIn wsL_law wsX10_cocycleViolation := goodIn_r _ [681, 383, 384, 385, 5, 386, 149, 387, 388, 389, 390, 391, 392, 393, 394, 711, 712, 713, 714, 715, 716, 717, 718, 719, 720, 721] (by decide +kernel) (by decide +kernel)
set_option maxRecDepth 20000 in
theorem gL_law_X10_cocycleViolation : GoodIn wsL_law (wsV RL 128 RX10 yX10_cocycleViolation wsX10_cocycleViolation) := goodIn_app (goodIn_of _ (by decide +kernel)) ggL_law_X10_cocycleViolation
set_option maxRecDepth 20000 in
theorem ggL_law_X9_stateSum : GoodIn wsL_law wsX9_stateSum := goodIn_r _ [685, 15, 23, 631, 632, 633, 45, 634, 71, 287, 288, 289, 37, 290, 56, 686, 687, 688, 22, 689, 86, 561, 562, 563, 564, 84, 565, 566, 567, 568, 85, 569, 538, 539, 41, 540, 66, 67, 570, 571, 572, 573, 574, 530, 531, 532, 575, 126, 127, 53, 128, 61, 114, 115, 116, 576, 577, 578, 579, 580, 317, 318, 319, 54, 125, 581, 353, 354, 355, 55, 582, 583, 584, 585, 586, 587, 588, 589, 590, 591, 592, 706, 707, 708, 709, 710, 722, 723, 724, 741, 742, 734, 735, 736, 737, 727, 728, 729, 738, 739, 740, 743] (by decide +kernel) (by decide +kernel)
set_option maxRecDepth 20000 in
theorem gL_law_X9_stateSum : GoodIn wsL_law (wsV RL 129 RX9 yX9_stateSum wsX9_stateSum) := goodIn_app (goodIn_of _ (by decide +kernel)) ggL_law_X9_stateSum
set_option maxRecDepth 20000 in
theorem ggL_law_X10_stateSum : GoodIn wsL_law wsX10_stateSum := goodIn_r _ [693, 149, 605, 208, 209, 5, 210, 299, 300, 301, 302, 151, 597, 598, 599, 600, 601, 602, 603, 604, 153, 391, 392, 393, 394, 387, 388, 389, 390, 711, 712, 713, 714, 715, 716, 717, 718, 719, 720, 721] (by decide +kernel) (by decide +kernel)
set_option maxRecDepth 20000 in
theorem gL_law_X10_stateSum : GoodIn wsL_law (wsV RL 132 RX10 yX10_stateSum wsX10_stateSum) := goodIn_app (goodIn_of _ (by decide +kernel)) ggL_law_X10_stateSum
set_option maxRecDepth 20000 in
theorem ggL_law_X9_undo : GoodIn wsL_law wsX9_undo := goodIn_r _ [697, 19, 15, 698, 699, 700, 18, 701, 80, 79, 181, 182, 183, 14, 184, 38, 42, 46, 185, 186, 187, 37, 188, 50, 56, 54, 55, 189, 190, 191, 53, 192, 61, 193, 194, 195, 41, 196, 65, 66, 67, 197, 198, 199, 45, 200, 71, 73, 201, 706, 707, 708, 709, 710, 725, 726, 722, 723, 724, 734, 735, 736, 737, 743, 738, 739, 740, 741, 742] (by decide +kernel) (by decide +kernel)
set_option maxRecDepth 20000 in
theorem gL_law_X9_undo : GoodIn wsL_law (wsV RL 133 RX9 yX9_undo wsX9_undo) := goodIn_app (goodIn_of _ (by decide +kernel)) ggL_law_X9_undo
set_option maxRecDepth 20000 in
theorem ggL_law_X10_undo : GoodIn wsL_law wsX10_undo := goodIn_r _ [705, 219, 149, 150, 711, 712, 713, 714, 715, 716, 717, 718, 719, 720, 721] (by decide +kernel) (by decide +kernel)
set_option maxRecDepth 20000 in
theorem gL_law_X10_undo : GoodIn wsL_law (wsV RL 136 RX10 yX10_undo wsX10_undo) := goodIn_app (goodIn_of _ (by decide +kernel)) ggL_law_X10_undo
