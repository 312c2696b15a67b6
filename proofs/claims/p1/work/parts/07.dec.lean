theorem WW_ls {p : Program} {l : Launch} {e : Env} {R : Room} {s : State} {m : MethodId} {args : Array Value} {below : List Frame} {meth : Method} {c : Code} {Q : State → Prop} {G : EG} {nL n0 s0 rc rs pc : Nat} {ls ls2 : List (Option EV)} {st : List EV} {w : EW} (h : ls = ls2) (k : WW p l e R s m args below meth c Q G nL n0 s0 rc rs pc ls2 st w) : WW p l e R s m args below meth c Q G nL n0 s0 rc rs pc ls st w := h ▸ k
theorem wc_lt_of {n : Nat} {i : Int32} (hn : n < 2147483648) (hi : vp_in i n) : ¬ Int32.ofNat n ≤ i := by
  obtain ⟨j, h1, rfl⟩ := vp_in_of hi hn
  exact nI_ge h1 hn
theorem dJ7_fill_53178_0 : decode cJ7_fill_53178 0 = .ok (.iconst 0, 1) := by decide +kernel
theorem dJ7_fill_53178_1 : decode cJ7_fill_53178 1 = .ok (.istore_n 2, 1) := by decide +kernel
theorem dJ7_fill_53178_2 : decode cJ7_fill_53178 2 = .ok (.aload_n 0, 1) := by decide +kernel
theorem dJ7_fill_53178_3 : decode cJ7_fill_53178 3 = .ok (.arraylength, 1) := by decide +kernel
theorem dJ7_fill_53178_4 : decode cJ7_fill_53178 4 = .ok (.istore_n 3, 1) := by decide +kernel
theorem dJ7_fill_53178_5 : decode cJ7_fill_53178 5 = .ok (.iload_n 2, 1) := by decide +kernel
theorem dJ7_fill_53178_6 : decode cJ7_fill_53178 6 = .ok (.iload_n 3, 1) := by decide +kernel
theorem dJ7_fill_53178_7 : decode cJ7_fill_53178 7 = .ok (.if_icmp .ge 13, 3) := by decide +kernel
theorem dJ7_fill_53178_10 : decode cJ7_fill_53178 10 = .ok (.aload_n 0, 1) := by decide +kernel
theorem dJ7_fill_53178_11 : decode cJ7_fill_53178 11 = .ok (.iload_n 2, 1) := by decide +kernel
theorem dJ7_fill_53178_12 : decode cJ7_fill_53178 12 = .ok (.iload_n 1, 1) := by decide +kernel
theorem dJ7_fill_53178_13 : decode cJ7_fill_53178 13 = .ok (.iastore, 1) := by decide +kernel
theorem dJ7_fill_53178_14 : decode cJ7_fill_53178 14 = .ok (.iinc 2 1, 3) := by decide +kernel
theorem dJ7_fill_53178_17 : decode cJ7_fill_53178 17 = .ok (.goto (-12), 3) := by decide +kernel
theorem dJ7_fill_53178_20 : decode cJ7_fill_53178 20 = .ok (.return_, 1) := by decide +kernel
theorem dX0_init_0 : decode cX0_init 0 = .ok (.aload_n 0, 1) := by decide +kernel
theorem dX0_init_1 : decode cX0_init 1 = .ok (.invokespecial 3, 3) := by decide +kernel
theorem dX0_init_4 : decode cX0_init 4 = .ok (.aload_n 0, 1) := by decide +kernel
theorem dX0_init_5 : decode cX0_init 5 = .ok (.new 9, 3) := by decide +kernel
theorem dX0_init_8 : decode cX0_init 8 = .ok (.dup, 1) := by decide +kernel
theorem dX0_init_9 : decode cX0_init 9 = .ok (.invokespecial 11, 3) := by decide +kernel
theorem dX0_init_12 : decode cX0_init 12 = .ok (.putfield 12, 3) := by decide +kernel
theorem dX0_init_15 : decode cX0_init 15 = .ok (.aload_n 0, 1) := by decide +kernel
theorem dX0_init_16 : decode cX0_init 16 = .ok (.bipush 6, 2) := by decide +kernel
theorem dX0_init_18 : decode cX0_init 18 = .ok (.newarray .int, 2) := by decide +kernel
theorem dX0_init_20 : decode cX0_init 20 = .ok (.putfield 18, 3) := by decide +kernel
theorem dX0_init_23 : decode cX0_init 23 = .ok (.aload_n 0, 1) := by decide +kernel
theorem dX0_init_24 : decode cX0_init 24 = .ok (.iconst 3, 1) := by decide +kernel
theorem dX0_init_25 : decode cX0_init 25 = .ok (.newarray .int, 2) := by decide +kernel
theorem dX0_init_27 : decode cX0_init 27 = .ok (.putfield 22, 3) := by decide +kernel
theorem dX0_init_30 : decode cX0_init 30 = .ok (.return_, 1) := by decide +kernel
theorem dX1_advance_0 : decode cX1_advance 0 = .ok (.aload_n 0, 1) := by decide +kernel
theorem dX1_advance_1 : decode cX1_advance 1 = .ok (.aload_n 0, 1) := by decide +kernel
theorem dX1_advance_2 : decode cX1_advance 2 = .ok (.getfield 71, 3) := by decide +kernel
theorem dX1_advance_5 : decode cX1_advance 5 = .ok (.putfield 80, 3) := by decide +kernel
theorem dX1_advance_8 : decode cX1_advance 8 = .ok (.aload_n 0, 1) := by decide +kernel
theorem dX1_advance_9 : decode cX1_advance 9 = .ok (.getfield 80, 3) := by decide +kernel
theorem dX1_advance_12 : decode cX1_advance 12 = .ok (.aload_n 0, 1) := by decide +kernel
theorem dX1_advance_13 : decode cX1_advance 13 = .ok (.getfield 54, 3) := by decide +kernel
theorem dX1_advance_16 : decode cX1_advance 16 = .ok (.if_icmp .ge 33, 3) := by decide +kernel
theorem dX1_advance_19 : decode cX1_advance 19 = .ok (.aload_n 0, 1) := by decide +kernel
theorem dX1_advance_20 : decode cX1_advance 20 = .ok (.getfield 25, 3) := by decide +kernel
theorem dX1_advance_23 : decode cX1_advance 23 = .ok (.aload_n 0, 1) := by decide +kernel
theorem dX1_advance_24 : decode cX1_advance 24 = .ok (.getfield 80, 3) := by decide +kernel
theorem dX1_advance_27 : decode cX1_advance 27 = .ok (.invokestatic 156, 3) := by decide +kernel
theorem dX1_advance_30 : decode cX1_advance 30 = .ok (.invokestatic 216, 3) := by decide +kernel
theorem dX1_advance_33 : decode cX1_advance 33 = .ok (.ifCond .eq 16, 3) := by decide +kernel
theorem dX1_advance_36 : decode cX1_advance 36 = .ok (.aload_n 0, 1) := by decide +kernel
theorem dX1_advance_37 : decode cX1_advance 37 = .ok (.dup, 1) := by decide +kernel
theorem dX1_advance_38 : decode cX1_advance 38 = .ok (.getfield 80, 3) := by decide +kernel
theorem dX1_advance_41 : decode cX1_advance 41 = .ok (.iconst 1, 1) := by decide +kernel
theorem dX1_advance_42 : decode cX1_advance 42 = .ok (.iadd, 1) := by decide +kernel
theorem dX1_advance_43 : decode cX1_advance 43 = .ok (.putfield 80, 3) := by decide +kernel
theorem dX1_advance_46 : decode cX1_advance 46 = .ok (.goto (-38), 3) := by decide +kernel
theorem dX1_advance_49 : decode cX1_advance 49 = .ok (.aload_n 0, 1) := by decide +kernel
theorem dX1_advance_50 : decode cX1_advance 50 = .ok (.aload_n 0, 1) := by decide +kernel
theorem dX1_advance_51 : decode cX1_advance 51 = .ok (.getfield 80, 3) := by decide +kernel
theorem dX1_advance_54 : decode cX1_advance 54 = .ok (.putfield 71, 3) := by decide +kernel
theorem dX1_advance_57 : decode cX1_advance 57 = .ok (.aload_n 0, 1) := by decide +kernel
theorem dX1_advance_58 : decode cX1_advance 58 = .ok (.getfield 80, 3) := by decide +kernel
theorem dX1_advance_61 : decode cX1_advance 61 = .ok (.aload_n 0, 1) := by decide +kernel
theorem dX1_advance_62 : decode cX1_advance 62 = .ok (.getfield 54, 3) := by decide +kernel
theorem dX1_advance_65 : decode cX1_advance 65 = .ok (.if_icmp .lt 11, 3) := by decide +kernel
theorem dX1_advance_68 : decode cX1_advance 68 = .ok (.aload_n 0, 1) := by decide +kernel
theorem dX1_advance_69 : decode cX1_advance 69 = .ok (.iconst 0, 1) := by decide +kernel
theorem dX1_advance_70 : decode cX1_advance 70 = .ok (.putfield 40, 3) := by decide +kernel
theorem dX1_advance_73 : decode cX1_advance 73 = .ok (.goto 184, 3) := by decide +kernel
theorem dX1_advance_76 : decode cX1_advance 76 = .ok (.aload_n 0, 1) := by decide +kernel
theorem dX1_advance_77 : decode cX1_advance 77 = .ok (.getfield 25, 3) := by decide +kernel
theorem dX1_advance_80 : decode cX1_advance 80 = .ok (.aload_n 0, 1) := by decide +kernel
theorem dX1_advance_81 : decode cX1_advance 81 = .ok (.getfield 80, 3) := by decide +kernel
theorem dX1_advance_84 : decode cX1_advance 84 = .ok (.invokestatic 156, 3) := by decide +kernel
theorem dX1_advance_87 : decode cX1_advance 87 = .ok (.invokestatic 219, 3) := by decide +kernel
theorem dX1_advance_90 : decode cX1_advance 90 = .ok (.ifCond .eq 49, 3) := by decide +kernel
theorem dX1_advance_93 : decode cX1_advance 93 = .ok (.aload_n 0, 1) := by decide +kernel
theorem dX1_advance_94 : decode cX1_advance 94 = .ok (.iconst 1, 1) := by decide +kernel
theorem dX1_advance_95 : decode cX1_advance 95 = .ok (.putfield 40, 3) := by decide +kernel
theorem dX1_advance_98 : decode cX1_advance 98 = .ok (.aload_n 0, 1) := by decide +kernel
theorem dX1_advance_99 : decode cX1_advance 99 = .ok (.getfield 71, 3) := by decide +kernel
theorem dX1_advance_102 : decode cX1_advance 102 = .ok (.aload_n 0, 1) := by decide +kernel
theorem dX1_advance_103 : decode cX1_advance 103 = .ok (.getfield 54, 3) := by decide +kernel
theorem dX1_advance_106 : decode cX1_advance 106 = .ok (.if_icmp .ge 151, 3) := by decide +kernel
theorem dX1_advance_109 : decode cX1_advance 109 = .ok (.aload_n 0, 1) := by decide +kernel
theorem dX1_advance_110 : decode cX1_advance 110 = .ok (.getfield 25, 3) := by decide +kernel
theorem dX1_advance_113 : decode cX1_advance 113 = .ok (.aload_n 0, 1) := by decide +kernel
theorem dX1_advance_114 : decode cX1_advance 114 = .ok (.getfield 71, 3) := by decide +kernel
theorem dX1_advance_117 : decode cX1_advance 117 = .ok (.invokestatic 156, 3) := by decide +kernel
theorem dX1_advance_120 : decode cX1_advance 120 = .ok (.invokestatic 219, 3) := by decide +kernel
theorem dX1_advance_123 : decode cX1_advance 123 = .ok (.ifCond .eq 134, 3) := by decide +kernel
theorem dX1_advance_126 : decode cX1_advance 126 = .ok (.aload_n 0, 1) := by decide +kernel
theorem dX1_advance_127 : decode cX1_advance 127 = .ok (.dup, 1) := by decide +kernel
theorem dX1_advance_128 : decode cX1_advance 128 = .ok (.getfield 71, 3) := by decide +kernel
theorem dX1_advance_131 : decode cX1_advance 131 = .ok (.iconst 1, 1) := by decide +kernel
theorem dX1_advance_132 : decode cX1_advance 132 = .ok (.iadd, 1) := by decide +kernel
theorem dX1_advance_133 : decode cX1_advance 133 = .ok (.putfield 71, 3) := by decide +kernel
theorem dX1_advance_136 : decode cX1_advance 136 = .ok (.goto (-38), 3) := by decide +kernel
theorem dX1_advance_139 : decode cX1_advance 139 = .ok (.aload_n 0, 1) := by decide +kernel
theorem dX1_advance_140 : decode cX1_advance 140 = .ok (.getfield 25, 3) := by decide +kernel
theorem dX1_advance_143 : decode cX1_advance 143 = .ok (.aload_n 0, 1) := by decide +kernel
theorem dX1_advance_144 : decode cX1_advance 144 = .ok (.getfield 80, 3) := by decide +kernel
theorem dX1_advance_147 : decode cX1_advance 147 = .ok (.invokestatic 156, 3) := by decide +kernel
theorem dX1_advance_150 : decode cX1_advance 150 = .ok (.invokestatic 222, 3) := by decide +kernel
theorem dX1_advance_153 : decode cX1_advance 153 = .ok (.ifCond .eq 69, 3) := by decide +kernel
theorem dX1_advance_156 : decode cX1_advance 156 = .ok (.aload_n 0, 1) := by decide +kernel
theorem dX1_advance_157 : decode cX1_advance 157 = .ok (.getfield 71, 3) := by decide +kernel
theorem dX1_advance_160 : decode cX1_advance 160 = .ok (.aload_n 0, 1) := by decide +kernel
theorem dX1_advance_161 : decode cX1_advance 161 = .ok (.getfield 54, 3) := by decide +kernel
theorem dX1_advance_164 : decode cX1_advance 164 = .ok (.if_icmp .ge 33, 3) := by decide +kernel
theorem dX1_advance_167 : decode cX1_advance 167 = .ok (.aload_n 0, 1) := by decide +kernel
theorem dX1_advance_168 : decode cX1_advance 168 = .ok (.getfield 25, 3) := by decide +kernel
theorem dX1_advance_171 : decode cX1_advance 171 = .ok (.aload_n 0, 1) := by decide +kernel
theorem dX1_advance_172 : decode cX1_advance 172 = .ok (.getfield 71, 3) := by decide +kernel
theorem dX1_advance_175 : decode cX1_advance 175 = .ok (.invokestatic 156, 3) := by decide +kernel
theorem dX1_advance_178 : decode cX1_advance 178 = .ok (.invokestatic 222, 3) := by decide +kernel
theorem dX1_advance_181 : decode cX1_advance 181 = .ok (.ifCond .eq 16, 3) := by decide +kernel
theorem dX1_advance_184 : decode cX1_advance 184 = .ok (.aload_n 0, 1) := by decide +kernel
theorem dX1_advance_185 : decode cX1_advance 185 = .ok (.dup, 1) := by decide +kernel
theorem dX1_advance_186 : decode cX1_advance 186 = .ok (.getfield 71, 3) := by decide +kernel
theorem dX1_advance_189 : decode cX1_advance 189 = .ok (.iconst 1, 1) := by decide +kernel
theorem dX1_advance_190 : decode cX1_advance 190 = .ok (.iadd, 1) := by decide +kernel
theorem dX1_advance_191 : decode cX1_advance 191 = .ok (.putfield 71, 3) := by decide +kernel
theorem dX1_advance_194 : decode cX1_advance 194 = .ok (.goto (-38), 3) := by decide +kernel
theorem dX1_advance_197 : decode cX1_advance 197 = .ok (.aload_n 0, 1) := by decide +kernel
theorem dX1_advance_198 : decode cX1_advance 198 = .ok (.aload_n 0, 1) := by decide +kernel
theorem dX1_advance_199 : decode cX1_advance 199 = .ok (.getfield 71, 3) := by decide +kernel
theorem dX1_advance_202 : decode cX1_advance 202 = .ok (.aload_n 0, 1) := by decide +kernel
theorem dX1_advance_203 : decode cX1_advance 203 = .ok (.getfield 80, 3) := by decide +kernel
theorem dX1_advance_206 : decode cX1_advance 206 = .ok (.isub, 1) := by decide +kernel
theorem dX1_advance_207 : decode cX1_advance 207 = .ok (.iconst 2, 1) := by decide +kernel
theorem dX1_advance_208 : decode cX1_advance 208 = .ok (.if_icmp .gt 7, 3) := by decide +kernel
theorem dX1_advance_211 : decode cX1_advance 211 = .ok (.iconst 2, 1) := by decide +kernel
theorem dX1_advance_212 : decode cX1_advance 212 = .ok (.goto 4, 3) := by decide +kernel
theorem dX1_advance_215 : decode cX1_advance 215 = .ok (.iconst 4, 1) := by decide +kernel
theorem dX1_advance_216 : decode cX1_advance 216 = .ok (.putfield 40, 3) := by decide +kernel
theorem dX1_advance_219 : decode cX1_advance 219 = .ok (.goto 38, 3) := by decide +kernel
theorem dX1_advance_222 : decode cX1_advance 222 = .ok (.aload_n 0, 1) := by decide +kernel
theorem dX1_advance_223 : decode cX1_advance 223 = .ok (.aload_n 0, 1) := by decide +kernel
theorem dX1_advance_224 : decode cX1_advance 224 = .ok (.getfield 25, 3) := by decide +kernel
theorem dX1_advance_227 : decode cX1_advance 227 = .ok (.aload_n 0, 1) := by decide +kernel
theorem dX1_advance_228 : decode cX1_advance 228 = .ok (.getfield 80, 3) := by decide +kernel
theorem dX1_advance_231 : decode cX1_advance 231 = .ok (.invokestatic 156, 3) := by decide +kernel
theorem dX1_advance_234 : decode cX1_advance 234 = .ok (.bipush 59, 2) := by decide +kernel
theorem dX1_advance_236 : decode cX1_advance 236 = .ok (.if_icmp .ne 7, 3) := by decide +kernel
theorem dX1_advance_239 : decode cX1_advance 239 = .ok (.iconst 3, 1) := by decide +kernel
theorem dX1_advance_240 : decode cX1_advance 240 = .ok (.goto 4, 3) := by decide +kernel
theorem dX1_advance_243 : decode cX1_advance 243 = .ok (.iconst 4, 1) := by decide +kernel
theorem dX1_advance_244 : decode cX1_advance 244 = .ok (.putfield 40, 3) := by decide +kernel
theorem dX1_advance_247 : decode cX1_advance 247 = .ok (.aload_n 0, 1) := by decide +kernel
theorem dX1_advance_248 : decode cX1_advance 248 = .ok (.dup, 1) := by decide +kernel
theorem dX1_advance_249 : decode cX1_advance 249 = .ok (.getfield 71, 3) := by decide +kernel
theorem dX1_advance_252 : decode cX1_advance 252 = .ok (.iconst 1, 1) := by decide +kernel
theorem dX1_advance_253 : decode cX1_advance 253 = .ok (.iadd, 1) := by decide +kernel
theorem dX1_advance_254 : decode cX1_advance 254 = .ok (.putfield 71, 3) := by decide +kernel
theorem dX1_advance_257 : decode cX1_advance 257 = .ok (.return_, 1) := by decide +kernel
theorem dX1_init_0 : decode cX1_init 0 = .ok (.aload_n 0, 1) := by decide +kernel
theorem dX1_init_1 : decode cX1_init 1 = .ok (.invokespecial 3, 3) := by decide +kernel
theorem dX1_init_4 : decode cX1_init 4 = .ok (.aload_n 0, 1) := by decide +kernel
theorem dX1_init_5 : decode cX1_init 5 = .ok (.new 9, 3) := by decide +kernel
theorem dX1_init_8 : decode cX1_init 8 = .ok (.dup, 1) := by decide +kernel
theorem dX1_init_9 : decode cX1_init 9 = .ok (.invokespecial 11, 3) := by decide +kernel
theorem dX1_init_12 : decode cX1_init 12 = .ok (.putfield 12, 3) := by decide +kernel
theorem dX1_init_15 : decode cX1_init 15 = .ok (.aload_n 0, 1) := by decide +kernel
theorem dX1_init_16 : decode cX1_init 16 = .ok (.new 18, 3) := by decide +kernel
theorem dX1_init_19 : decode cX1_init 19 = .ok (.dup, 1) := by decide +kernel
theorem dX1_init_20 : decode cX1_init 20 = .ok (.invokespecial 20, 3) := by decide +kernel
theorem dX1_init_23 : decode cX1_init 23 = .ok (.putfield 21, 3) := by decide +kernel
theorem dX1_init_26 : decode cX1_init 26 = .ok (.aload_n 0, 1) := by decide +kernel
theorem dX1_init_27 : decode cX1_init 27 = .ok (.sipush 600, 3) := by decide +kernel
theorem dX1_init_30 : decode cX1_init 30 = .ok (.newarray .int, 2) := by decide +kernel
theorem dX1_init_32 : decode cX1_init 32 = .ok (.putfield 25, 3) := by decide +kernel
theorem dX1_init_35 : decode cX1_init 35 = .ok (.aload_n 0, 1) := by decide +kernel
theorem dX1_init_36 : decode cX1_init 36 = .ok (.iconst 5, 1) := by decide +kernel
theorem dX1_init_37 : decode cX1_init 37 = .ok (.newarray .int, 2) := by decide +kernel
theorem dX1_init_39 : decode cX1_init 39 = .ok (.putfield 29, 3) := by decide +kernel
theorem dX1_init_42 : decode cX1_init 42 = .ok (.return_, 1) := by decide +kernel
theorem dX1_read_0 : decode cX1_read 0 = .ok (.aload_n 1, 1) := by decide +kernel
theorem dX1_read_1 : decode cX1_read 1 = .ok (.aload_n 0, 1) := by decide +kernel
theorem dX1_read_2 : decode cX1_read 2 = .ok (.getfield 25, 3) := by decide +kernel
theorem dX1_read_5 : decode cX1_read 5 = .ok (.invokestatic 32, 3) := by decide +kernel
theorem dX1_read_8 : decode cX1_read 8 = .ok (.aload_n 0, 1) := by decide +kernel
theorem dX1_read_9 : decode cX1_read 9 = .ok (.iload_n 2, 1) := by decide +kernel
theorem dX1_read_10 : decode cX1_read 10 = .ok (.invokevirtual 36, 3) := by decide +kernel
theorem dX1_read_13 : decode cX1_read 13 = .ok (.iconst 1, 1) := by decide +kernel
theorem dX1_read_14 : decode cX1_read 14 = .ok (.istore 4, 2) := by decide +kernel
theorem dX1_read_16 : decode cX1_read 16 = .ok (.iconst 0, 1) := by decide +kernel
theorem dX1_read_17 : decode cX1_read 17 = .ok (.istore 5, 2) := by decide +kernel
theorem dX1_read_19 : decode cX1_read 19 = .ok (.iload 5, 2) := by decide +kernel
theorem dX1_read_21 : decode cX1_read 21 = .ok (.sipush 600, 3) := by decide +kernel
theorem dX1_read_24 : decode cX1_read 24 = .ok (.if_icmp .ge 28, 3) := by decide +kernel
theorem dX1_read_27 : decode cX1_read 27 = .ok (.iload 4, 2) := by decide +kernel
theorem dX1_read_29 : decode cX1_read 29 = .ok (.ifCond .eq 23, 3) := by decide +kernel
theorem dX1_read_32 : decode cX1_read 32 = .ok (.aload_n 0, 1) := by decide +kernel
theorem dX1_read_33 : decode cX1_read 33 = .ok (.getfield 40, 3) := by decide +kernel
theorem dX1_read_36 : decode cX1_read 36 = .ok (.ifCond .eq 16, 3) := by decide +kernel
theorem dX1_read_39 : decode cX1_read 39 = .ok (.aload_n 0, 1) := by decide +kernel
theorem dX1_read_40 : decode cX1_read 40 = .ok (.iload_n 3, 1) := by decide +kernel
theorem dX1_read_41 : decode cX1_read 41 = .ok (.invokevirtual 44, 3) := by decide +kernel
theorem dX1_read_44 : decode cX1_read 44 = .ok (.istore 4, 2) := by decide +kernel
theorem dX1_read_46 : decode cX1_read 46 = .ok (.iinc 5 1, 3) := by decide +kernel
theorem dX1_read_49 : decode cX1_read 49 = .ok (.goto (-30), 3) := by decide +kernel
theorem dX1_read_52 : decode cX1_read 52 = .ok (.iload_n 3, 1) := by decide +kernel
theorem dX1_read_53 : decode cX1_read 53 = .ok (.ifCond .ne 27, 3) := by decide +kernel
theorem dX1_read_56 : decode cX1_read 56 = .ok (.aload_n 0, 1) := by decide +kernel
theorem dX1_read_57 : decode cX1_read 57 = .ok (.getfield 48, 3) := by decide +kernel
theorem dX1_read_60 : decode cX1_read 60 = .ok (.aload_n 0, 1) := by decide +kernel
theorem dX1_read_61 : decode cX1_read 61 = .ok (.getfield 12, 3) := by decide +kernel
theorem dX1_read_64 : decode cX1_read 64 = .ok (.getfield 51, 3) := by decide +kernel
theorem dX1_read_67 : decode cX1_read 67 = .ok (.ishr, 1) := by decide +kernel
theorem dX1_read_68 : decode cX1_read 68 = .ok (.ifCond .eq 12, 3) := by decide +kernel
theorem dX1_read_71 : decode cX1_read 71 = .ok (.aload_n 0, 1) := by decide +kernel
theorem dX1_read_72 : decode cX1_read 72 = .ok (.iconst 4, 1) := by decide +kernel
theorem dX1_read_73 : decode cX1_read 73 = .ok (.aload_n 0, 1) := by decide +kernel
theorem dX1_read_74 : decode cX1_read 74 = .ok (.getfield 54, 3) := by decide +kernel
theorem dX1_read_77 : decode cX1_read 77 = .ok (.invokevirtual 57, 3) := by decide +kernel
theorem dX1_read_80 : decode cX1_read 80 = .ok (.return_, 1) := by decide +kernel
theorem dX1_startOn_0 : decode cX1_startOn 0 = .ok (.aload_n 0, 1) := by decide +kernel
theorem dX1_startOn_1 : decode cX1_startOn 1 = .ok (.getfield 12, 3) := by decide +kernel
theorem dX1_startOn_4 : decode cX1_startOn 4 = .ok (.invokevirtual 61, 3) := by decide +kernel
theorem dX1_startOn_7 : decode cX1_startOn 7 = .ok (.aload_n 0, 1) := by decide +kernel
theorem dX1_startOn_8 : decode cX1_startOn 8 = .ok (.getfield 21, 3) := by decide +kernel
theorem dX1_startOn_11 : decode cX1_startOn 11 = .ok (.invokevirtual 64, 3) := by decide +kernel
theorem dX1_startOn_14 : decode cX1_startOn 14 = .ok (.aload_n 0, 1) := by decide +kernel
theorem dX1_startOn_15 : decode cX1_startOn 15 = .ok (.iconst 0, 1) := by decide +kernel
theorem dX1_startOn_16 : decode cX1_startOn 16 = .ok (.putfield 65, 3) := by decide +kernel
theorem dX1_startOn_19 : decode cX1_startOn 19 = .ok (.aload_n 0, 1) := by decide +kernel
theorem dX1_startOn_20 : decode cX1_startOn 20 = .ok (.iconst (-1), 1) := by decide +kernel
theorem dX1_startOn_21 : decode cX1_startOn 21 = .ok (.putfield 68, 3) := by decide +kernel
theorem dX1_startOn_24 : decode cX1_startOn 24 = .ok (.aload_n 0, 1) := by decide +kernel
theorem dX1_startOn_25 : decode cX1_startOn 25 = .ok (.iload_n 1, 1) := by decide +kernel
theorem dX1_startOn_26 : decode cX1_startOn 26 = .ok (.putfield 54, 3) := by decide +kernel
theorem dX1_startOn_29 : decode cX1_startOn 29 = .ok (.aload_n 0, 1) := by decide +kernel
theorem dX1_startOn_30 : decode cX1_startOn 30 = .ok (.iconst 0, 1) := by decide +kernel
theorem dX1_startOn_31 : decode cX1_startOn 31 = .ok (.putfield 71, 3) := by decide +kernel
theorem dX1_startOn_34 : decode cX1_startOn 34 = .ok (.aload_n 0, 1) := by decide +kernel
theorem dX1_startOn_35 : decode cX1_startOn 35 = .ok (.iconst 0, 1) := by decide +kernel
theorem dX1_startOn_36 : decode cX1_startOn 36 = .ok (.putfield 74, 3) := by decide +kernel
theorem dX1_startOn_39 : decode cX1_startOn 39 = .ok (.aload_n 0, 1) := by decide +kernel
theorem dX1_startOn_40 : decode cX1_startOn 40 = .ok (.iconst 0, 1) := by decide +kernel
theorem dX1_startOn_41 : decode cX1_startOn 41 = .ok (.putfield 48, 3) := by decide +kernel
theorem dX1_startOn_44 : decode cX1_startOn 44 = .ok (.aload_n 0, 1) := by decide +kernel
theorem dX1_startOn_45 : decode cX1_startOn 45 = .ok (.invokevirtual 77, 3) := by decide +kernel
theorem dX1_startOn_48 : decode cX1_startOn 48 = .ok (.return_, 1) := by decide +kernel
theorem dX2_clear_0 : decode cX2_clear 0 = .ok (.aload_n 0, 1) := by decide +kernel
theorem dX2_clear_1 : decode cX2_clear 1 = .ok (.iconst 0, 1) := by decide +kernel
theorem dX2_clear_2 : decode cX2_clear 2 = .ok (.putfield 33, 3) := by decide +kernel
theorem dX2_clear_5 : decode cX2_clear 5 = .ok (.aload_n 0, 1) := by decide +kernel
theorem dX2_clear_6 : decode cX2_clear 6 = .ok (.getfield 24, 3) := by decide +kernel
theorem dX2_clear_9 : decode cX2_clear 9 = .ok (.iconst 0, 1) := by decide +kernel
theorem dX2_clear_10 : decode cX2_clear 10 = .ok (.invokestatic 37, 3) := by decide +kernel
theorem dX2_clear_13 : decode cX2_clear 13 = .ok (.aload_n 0, 1) := by decide +kernel
theorem dX2_clear_14 : decode cX2_clear 14 = .ok (.getfield 27, 3) := by decide +kernel
theorem dX2_clear_17 : decode cX2_clear 17 = .ok (.iconst 0, 1) := by decide +kernel
theorem dX2_clear_18 : decode cX2_clear 18 = .ok (.invokestatic 37, 3) := by decide +kernel
theorem dX2_clear_21 : decode cX2_clear 21 = .ok (.aload_n 0, 1) := by decide +kernel
theorem dX2_clear_22 : decode cX2_clear 22 = .ok (.getfield 30, 3) := by decide +kernel
theorem dX2_clear_25 : decode cX2_clear 25 = .ok (.iconst 0, 1) := by decide +kernel
theorem dX2_clear_26 : decode cX2_clear 26 = .ok (.invokestatic 37, 3) := by decide +kernel
theorem dX2_clear_29 : decode cX2_clear 29 = .ok (.aload_n 0, 1) := by decide +kernel
theorem dX2_clear_30 : decode cX2_clear 30 = .ok (.iconst 0, 1) := by decide +kernel
theorem dX2_clear_31 : decode cX2_clear 31 = .ok (.putfield 43, 3) := by decide +kernel
theorem dX2_clear_34 : decode cX2_clear 34 = .ok (.aload_n 0, 1) := by decide +kernel
theorem dX2_clear_35 : decode cX2_clear 35 = .ok (.bipush 10, 2) := by decide +kernel
theorem dX2_clear_37 : decode cX2_clear 37 = .ok (.putfield 46, 3) := by decide +kernel
theorem dX2_clear_40 : decode cX2_clear 40 = .ok (.aload_n 0, 1) := by decide +kernel
theorem dX2_clear_41 : decode cX2_clear 41 = .ok (.iconst 2, 1) := by decide +kernel
theorem dX2_clear_42 : decode cX2_clear 42 = .ok (.putfield 49, 3) := by decide +kernel
theorem dX2_clear_45 : decode cX2_clear 45 = .ok (.aload_n 0, 1) := by decide +kernel
theorem dX2_clear_46 : decode cX2_clear 46 = .ok (.bipush 50, 2) := by decide +kernel
theorem dX2_clear_48 : decode cX2_clear 48 = .ok (.putfield 52, 3) := by decide +kernel
theorem dX2_clear_51 : decode cX2_clear 51 = .ok (.aload_n 0, 1) := by decide +kernel
theorem dX2_clear_52 : decode cX2_clear 52 = .ok (.bipush 50, 2) := by decide +kernel
theorem dX2_clear_54 : decode cX2_clear 54 = .ok (.putfield 55, 3) := by decide +kernel
theorem dX2_clear_57 : decode cX2_clear 57 = .ok (.aload_n 0, 1) := by decide +kernel
theorem dX2_clear_58 : decode cX2_clear 58 = .ok (.bipush 20, 2) := by decide +kernel
theorem dX2_clear_60 : decode cX2_clear 60 = .ok (.putfield 58, 3) := by decide +kernel
theorem dX2_clear_63 : decode cX2_clear 63 = .ok (.return_, 1) := by decide +kernel
theorem dX2_copyRepublic_0 : decode cX2_copyRepublic 0 = .ok (.aload_n 0, 1) := by decide +kernel
theorem dX2_copyRepublic_1 : decode cX2_copyRepublic 1 = .ok (.aload_n 1, 1) := by decide +kernel
theorem dX2_copyRepublic_2 : decode cX2_copyRepublic 2 = .ok (.getfield 33, 3) := by decide +kernel
theorem dX2_copyRepublic_5 : decode cX2_copyRepublic 5 = .ok (.putfield 33, 3) := by decide +kernel
theorem dX2_copyRepublic_8 : decode cX2_copyRepublic 8 = .ok (.aload_n 1, 1) := by decide +kernel
theorem dX2_copyRepublic_9 : decode cX2_copyRepublic 9 = .ok (.getfield 9, 3) := by decide +kernel
theorem dX2_copyRepublic_12 : decode cX2_copyRepublic 12 = .ok (.aload_n 0, 1) := by decide +kernel
theorem dX2_copyRepublic_13 : decode cX2_copyRepublic 13 = .ok (.getfield 9, 3) := by decide +kernel
theorem dX2_copyRepublic_16 : decode cX2_copyRepublic 16 = .ok (.invokestatic 61, 3) := by decide +kernel
theorem dX2_copyRepublic_19 : decode cX2_copyRepublic 19 = .ok (.aload_n 1, 1) := by decide +kernel
theorem dX2_copyRepublic_20 : decode cX2_copyRepublic 20 = .ok (.getfield 15, 3) := by decide +kernel
theorem dX2_copyRepublic_23 : decode cX2_copyRepublic 23 = .ok (.aload_n 0, 1) := by decide +kernel
theorem dX2_copyRepublic_24 : decode cX2_copyRepublic 24 = .ok (.getfield 15, 3) := by decide +kernel
theorem dX2_copyRepublic_27 : decode cX2_copyRepublic 27 = .ok (.invokestatic 61, 3) := by decide +kernel
theorem dX2_copyRepublic_30 : decode cX2_copyRepublic 30 = .ok (.aload_n 1, 1) := by decide +kernel
theorem dX2_copyRepublic_31 : decode cX2_copyRepublic 31 = .ok (.getfield 18, 3) := by decide +kernel
theorem dX2_copyRepublic_34 : decode cX2_copyRepublic 34 = .ok (.aload_n 0, 1) := by decide +kernel
theorem dX2_copyRepublic_35 : decode cX2_copyRepublic 35 = .ok (.getfield 18, 3) := by decide +kernel
theorem dX2_copyRepublic_38 : decode cX2_copyRepublic 38 = .ok (.invokestatic 61, 3) := by decide +kernel
theorem dX2_copyRepublic_41 : decode cX2_copyRepublic 41 = .ok (.aload_n 1, 1) := by decide +kernel
theorem dX2_copyRepublic_42 : decode cX2_copyRepublic 42 = .ok (.getfield 21, 3) := by decide +kernel
theorem dX2_copyRepublic_45 : decode cX2_copyRepublic 45 = .ok (.aload_n 0, 1) := by decide +kernel
theorem dX2_copyRepublic_46 : decode cX2_copyRepublic 46 = .ok (.getfield 21, 3) := by decide +kernel
theorem dX2_copyRepublic_49 : decode cX2_copyRepublic 49 = .ok (.invokestatic 61, 3) := by decide +kernel
theorem dX2_copyRepublic_52 : decode cX2_copyRepublic 52 = .ok (.aload_n 1, 1) := by decide +kernel
theorem dX2_copyRepublic_53 : decode cX2_copyRepublic 53 = .ok (.getfield 24, 3) := by decide +kernel
theorem dX2_copyRepublic_56 : decode cX2_copyRepublic 56 = .ok (.aload_n 0, 1) := by decide +kernel
theorem dX2_copyRepublic_57 : decode cX2_copyRepublic 57 = .ok (.getfield 24, 3) := by decide +kernel
theorem dX2_copyRepublic_60 : decode cX2_copyRepublic 60 = .ok (.invokestatic 61, 3) := by decide +kernel
theorem dX2_copyRepublic_63 : decode cX2_copyRepublic 63 = .ok (.aload_n 1, 1) := by decide +kernel
theorem dX2_copyRepublic_64 : decode cX2_copyRepublic 64 = .ok (.getfield 27, 3) := by decide +kernel
theorem dX2_copyRepublic_67 : decode cX2_copyRepublic 67 = .ok (.aload_n 0, 1) := by decide +kernel
theorem dX2_copyRepublic_68 : decode cX2_copyRepublic 68 = .ok (.getfield 27, 3) := by decide +kernel
theorem dX2_copyRepublic_71 : decode cX2_copyRepublic 71 = .ok (.invokestatic 61, 3) := by decide +kernel
theorem dX2_copyRepublic_74 : decode cX2_copyRepublic 74 = .ok (.aload_n 1, 1) := by decide +kernel
theorem dX2_copyRepublic_75 : decode cX2_copyRepublic 75 = .ok (.getfield 30, 3) := by decide +kernel
theorem dX2_copyRepublic_78 : decode cX2_copyRepublic 78 = .ok (.aload_n 0, 1) := by decide +kernel
theorem dX2_copyRepublic_79 : decode cX2_copyRepublic 79 = .ok (.getfield 30, 3) := by decide +kernel
theorem dX2_copyRepublic_82 : decode cX2_copyRepublic 82 = .ok (.invokestatic 61, 3) := by decide +kernel
theorem dX2_copyRepublic_85 : decode cX2_copyRepublic 85 = .ok (.aload_n 0, 1) := by decide +kernel
theorem dX2_copyRepublic_86 : decode cX2_copyRepublic 86 = .ok (.aload_n 1, 1) := by decide +kernel
theorem dX2_copyRepublic_87 : decode cX2_copyRepublic 87 = .ok (.getfield 43, 3) := by decide +kernel
theorem dX2_copyRepublic_90 : decode cX2_copyRepublic 90 = .ok (.putfield 43, 3) := by decide +kernel
theorem dX2_copyRepublic_93 : decode cX2_copyRepublic 93 = .ok (.aload_n 0, 1) := by decide +kernel
theorem dX2_copyRepublic_94 : decode cX2_copyRepublic 94 = .ok (.aload_n 1, 1) := by decide +kernel
theorem dX2_copyRepublic_95 : decode cX2_copyRepublic 95 = .ok (.getfield 46, 3) := by decide +kernel
theorem dX2_copyRepublic_98 : decode cX2_copyRepublic 98 = .ok (.putfield 46, 3) := by decide +kernel
theorem dX2_copyRepublic_101 : decode cX2_copyRepublic 101 = .ok (.aload_n 0, 1) := by decide +kernel
theorem dX2_copyRepublic_102 : decode cX2_copyRepublic 102 = .ok (.aload_n 1, 1) := by decide +kernel
theorem dX2_copyRepublic_103 : decode cX2_copyRepublic 103 = .ok (.getfield 49, 3) := by decide +kernel
theorem dX2_copyRepublic_106 : decode cX2_copyRepublic 106 = .ok (.putfield 49, 3) := by decide +kernel
theorem dX2_copyRepublic_109 : decode cX2_copyRepublic 109 = .ok (.aload_n 0, 1) := by decide +kernel
theorem dX2_copyRepublic_110 : decode cX2_copyRepublic 110 = .ok (.aload_n 1, 1) := by decide +kernel
theorem dX2_copyRepublic_111 : decode cX2_copyRepublic 111 = .ok (.getfield 52, 3) := by decide +kernel
theorem dX2_copyRepublic_114 : decode cX2_copyRepublic 114 = .ok (.putfield 52, 3) := by decide +kernel
theorem dX2_copyRepublic_117 : decode cX2_copyRepublic 117 = .ok (.aload_n 0, 1) := by decide +kernel
theorem dX2_copyRepublic_118 : decode cX2_copyRepublic 118 = .ok (.aload_n 1, 1) := by decide +kernel
theorem dX2_copyRepublic_119 : decode cX2_copyRepublic 119 = .ok (.getfield 55, 3) := by decide +kernel
theorem dX2_copyRepublic_122 : decode cX2_copyRepublic 122 = .ok (.putfield 55, 3) := by decide +kernel
theorem dX2_copyRepublic_125 : decode cX2_copyRepublic 125 = .ok (.aload_n 0, 1) := by decide +kernel
theorem dX2_copyRepublic_126 : decode cX2_copyRepublic 126 = .ok (.aload_n 1, 1) := by decide +kernel
theorem dX2_copyRepublic_127 : decode cX2_copyRepublic 127 = .ok (.getfield 58, 3) := by decide +kernel
theorem dX2_copyRepublic_130 : decode cX2_copyRepublic 130 = .ok (.putfield 58, 3) := by decide +kernel
theorem dX2_copyRepublic_133 : decode cX2_copyRepublic 133 = .ok (.return_, 1) := by decide +kernel
theorem dX2_init_0 : decode cX2_init 0 = .ok (.aload_n 0, 1) := by decide +kernel
theorem dX2_init_1 : decode cX2_init 1 = .ok (.invokespecial 3, 3) := by decide +kernel
theorem dX2_init_4 : decode cX2_init 4 = .ok (.aload_n 0, 1) := by decide +kernel
theorem dX2_init_5 : decode cX2_init 5 = .ok (.bipush 6, 2) := by decide +kernel
theorem dX2_init_7 : decode cX2_init 7 = .ok (.newarray .int, 2) := by decide +kernel
theorem dX2_init_9 : decode cX2_init 9 = .ok (.putfield 9, 3) := by decide +kernel
theorem dX2_init_12 : decode cX2_init 12 = .ok (.aload_n 0, 1) := by decide +kernel
theorem dX2_init_13 : decode cX2_init 13 = .ok (.bipush 6, 2) := by decide +kernel
theorem dX2_init_15 : decode cX2_init 15 = .ok (.newarray .int, 2) := by decide +kernel
theorem dX2_init_17 : decode cX2_init 17 = .ok (.putfield 15, 3) := by decide +kernel
theorem dX2_init_20 : decode cX2_init 20 = .ok (.aload_n 0, 1) := by decide +kernel
theorem dX2_init_21 : decode cX2_init 21 = .ok (.bipush 6, 2) := by decide +kernel
theorem dX2_init_23 : decode cX2_init 23 = .ok (.newarray .int, 2) := by decide +kernel
theorem dX2_init_25 : decode cX2_init 25 = .ok (.putfield 18, 3) := by decide +kernel
theorem dX2_init_28 : decode cX2_init 28 = .ok (.aload_n 0, 1) := by decide +kernel
theorem dX2_init_29 : decode cX2_init 29 = .ok (.bipush 6, 2) := by decide +kernel
theorem dX2_init_31 : decode cX2_init 31 = .ok (.newarray .int, 2) := by decide +kernel
theorem dX2_init_33 : decode cX2_init 33 = .ok (.putfield 21, 3) := by decide +kernel
theorem dX2_init_36 : decode cX2_init 36 = .ok (.aload_n 0, 1) := by decide +kernel
theorem dX2_init_37 : decode cX2_init 37 = .ok (.bipush 72, 2) := by decide +kernel
theorem dX2_init_39 : decode cX2_init 39 = .ok (.newarray .int, 2) := by decide +kernel
theorem dX2_init_41 : decode cX2_init 41 = .ok (.putfield 24, 3) := by decide +kernel
theorem dX2_init_44 : decode cX2_init 44 = .ok (.aload_n 0, 1) := by decide +kernel
theorem dX2_init_45 : decode cX2_init 45 = .ok (.bipush 6, 2) := by decide +kernel
theorem dX2_init_47 : decode cX2_init 47 = .ok (.newarray .int, 2) := by decide +kernel
theorem dX2_init_49 : decode cX2_init 49 = .ok (.putfield 27, 3) := by decide +kernel
theorem dX2_init_52 : decode cX2_init 52 = .ok (.aload_n 0, 1) := by decide +kernel
theorem dX2_init_53 : decode cX2_init 53 = .ok (.iconst 3, 1) := by decide +kernel
theorem dX2_init_54 : decode cX2_init 54 = .ok (.newarray .int, 2) := by decide +kernel
theorem dX2_init_56 : decode cX2_init 56 = .ok (.putfield 30, 3) := by decide +kernel
theorem dX2_init_59 : decode cX2_init 59 = .ok (.return_, 1) := by decide +kernel
theorem dX3_clear_0 : decode cX3_clear 0 = .ok (.aload_n 0, 1) := by decide +kernel
theorem dX3_clear_1 : decode cX3_clear 1 = .ok (.iconst 0, 1) := by decide +kernel
theorem dX3_clear_2 : decode cX3_clear 2 = .ok (.putfield 15, 3) := by decide +kernel
theorem dX3_clear_5 : decode cX3_clear 5 = .ok (.aload_n 0, 1) := by decide +kernel
theorem dX3_clear_6 : decode cX3_clear 6 = .ok (.getfield 9, 3) := by decide +kernel
theorem dX3_clear_9 : decode cX3_clear 9 = .ok (.iconst 0, 1) := by decide +kernel
theorem dX3_clear_10 : decode cX3_clear 10 = .ok (.invokestatic 19, 3) := by decide +kernel
theorem dX3_clear_13 : decode cX3_clear 13 = .ok (.return_, 1) := by decide +kernel
theorem dX3_copyRows_0 : decode cX3_copyRows 0 = .ok (.aload_n 0, 1) := by decide +kernel
theorem dX3_copyRows_1 : decode cX3_copyRows 1 = .ok (.aload_n 1, 1) := by decide +kernel
theorem dX3_copyRows_2 : decode cX3_copyRows 2 = .ok (.getfield 15, 3) := by decide +kernel
theorem dX3_copyRows_5 : decode cX3_copyRows 5 = .ok (.putfield 15, 3) := by decide +kernel
theorem dX3_copyRows_8 : decode cX3_copyRows 8 = .ok (.aload_n 1, 1) := by decide +kernel
theorem dX3_copyRows_9 : decode cX3_copyRows 9 = .ok (.getfield 9, 3) := by decide +kernel
theorem dX3_copyRows_12 : decode cX3_copyRows 12 = .ok (.aload_n 0, 1) := by decide +kernel
theorem dX3_copyRows_13 : decode cX3_copyRows 13 = .ok (.getfield 9, 3) := by decide +kernel
theorem dX3_copyRows_16 : decode cX3_copyRows 16 = .ok (.invokestatic 25, 3) := by decide +kernel
theorem dX3_copyRows_19 : decode cX3_copyRows 19 = .ok (.return_, 1) := by decide +kernel
theorem dX3_init_0 : decode cX3_init 0 = .ok (.aload_n 0, 1) := by decide +kernel
theorem dX3_init_1 : decode cX3_init 1 = .ok (.invokespecial 3, 3) := by decide +kernel
theorem dX3_init_4 : decode cX3_init 4 = .ok (.aload_n 0, 1) := by decide +kernel
theorem dX3_init_5 : decode cX3_init 5 = .ok (.sipush 200, 3) := by decide +kernel
theorem dX3_init_8 : decode cX3_init 8 = .ok (.newarray .int, 2) := by decide +kernel
theorem dX3_init_10 : decode cX3_init 10 = .ok (.putfield 9, 3) := by decide +kernel
theorem dX3_init_13 : decode cX3_init 13 = .ok (.return_, 1) := by decide +kernel
theorem dX4_init_0 : decode cX4_init 0 = .ok (.aload_n 0, 1) := by decide +kernel
theorem dX4_init_1 : decode cX4_init 1 = .ok (.invokespecial 3, 3) := by decide +kernel
theorem dX4_init_4 : decode cX4_init 4 = .ok (.return_, 1) := by decide +kernel
theorem dX5_copyTold_0 : decode cX5_copyTold 0 = .ok (.aload_n 1, 1) := by decide +kernel
theorem dX5_copyTold_1 : decode cX5_copyTold 1 = .ok (.getfield 9, 3) := by decide +kernel
theorem dX5_copyTold_4 : decode cX5_copyTold 4 = .ok (.aload_n 0, 1) := by decide +kernel
theorem dX5_copyTold_5 : decode cX5_copyTold 5 = .ok (.getfield 9, 3) := by decide +kernel
theorem dX5_copyTold_8 : decode cX5_copyTold 8 = .ok (.invokestatic 36, 3) := by decide +kernel
theorem dX5_copyTold_11 : decode cX5_copyTold 11 = .ok (.aload_n 0, 1) := by decide +kernel
theorem dX5_copyTold_12 : decode cX5_copyTold 12 = .ok (.aload_n 1, 1) := by decide +kernel
theorem dX5_copyTold_13 : decode cX5_copyTold 13 = .ok (.getfield 40, 3) := by decide +kernel
theorem dX5_copyTold_16 : decode cX5_copyTold 16 = .ok (.putfield 40, 3) := by decide +kernel
theorem dX5_copyTold_19 : decode cX5_copyTold 19 = .ok (.aload_n 0, 1) := by decide +kernel
theorem dX5_copyTold_20 : decode cX5_copyTold 20 = .ok (.aload_n 1, 1) := by decide +kernel
theorem dX5_copyTold_21 : decode cX5_copyTold 21 = .ok (.getfield 43, 3) := by decide +kernel
theorem dX5_copyTold_24 : decode cX5_copyTold 24 = .ok (.putfield 43, 3) := by decide +kernel
theorem dX5_copyTold_27 : decode cX5_copyTold 27 = .ok (.aload_n 0, 1) := by decide +kernel
theorem dX5_copyTold_28 : decode cX5_copyTold 28 = .ok (.aload_n 1, 1) := by decide +kernel
theorem dX5_copyTold_29 : decode cX5_copyTold 29 = .ok (.getfield 15, 3) := by decide +kernel
theorem dX5_copyTold_32 : decode cX5_copyTold 32 = .ok (.putfield 15, 3) := by decide +kernel
theorem dX5_copyTold_35 : decode cX5_copyTold 35 = .ok (.aload_n 1, 1) := by decide +kernel
theorem dX5_copyTold_36 : decode cX5_copyTold 36 = .ok (.getfield 19, 3) := by decide +kernel
theorem dX5_copyTold_39 : decode cX5_copyTold 39 = .ok (.aload_n 0, 1) := by decide +kernel
theorem dX5_copyTold_40 : decode cX5_copyTold 40 = .ok (.getfield 19, 3) := by decide +kernel
theorem dX5_copyTold_43 : decode cX5_copyTold 43 = .ok (.invokestatic 36, 3) := by decide +kernel
theorem dX5_copyTold_46 : decode cX5_copyTold 46 = .ok (.iconst 0, 1) := by decide +kernel
theorem dX5_copyTold_47 : decode cX5_copyTold 47 = .ok (.istore_n 2, 1) := by decide +kernel
theorem dX5_copyTold_48 : decode cX5_copyTold 48 = .ok (.iload_n 2, 1) := by decide +kernel
theorem dX5_copyTold_49 : decode cX5_copyTold 49 = .ok (.aload_n 0, 1) := by decide +kernel
theorem dX5_copyTold_50 : decode cX5_copyTold 50 = .ok (.getfield 24, 3) := by decide +kernel
theorem dX5_copyTold_53 : decode cX5_copyTold 53 = .ok (.arraylength, 1) := by decide +kernel
theorem dX5_copyTold_54 : decode cX5_copyTold 54 = .ok (.if_icmp .ge 51, 3) := by decide +kernel
theorem dX5_copyTold_57 : decode cX5_copyTold 57 = .ok (.iload_n 2, 1) := by decide +kernel
theorem dX5_copyTold_58 : decode cX5_copyTold 58 = .ok (.aload_n 1, 1) := by decide +kernel
theorem dX5_copyTold_59 : decode cX5_copyTold 59 = .ok (.getfield 24, 3) := by decide +kernel
theorem dX5_copyTold_62 : decode cX5_copyTold 62 = .ok (.arraylength, 1) := by decide +kernel
theorem dX5_copyTold_63 : decode cX5_copyTold 63 = .ok (.if_icmp .ge 42, 3) := by decide +kernel
theorem dX5_copyTold_66 : decode cX5_copyTold 66 = .ok (.aload_n 0, 1) := by decide +kernel
theorem dX5_copyTold_67 : decode cX5_copyTold 67 = .ok (.getfield 24, 3) := by decide +kernel
theorem dX5_copyTold_70 : decode cX5_copyTold 70 = .ok (.iload_n 2, 1) := by decide +kernel
theorem dX5_copyTold_71 : decode cX5_copyTold 71 = .ok (.aaload, 1) := by decide +kernel
theorem dX5_copyTold_72 : decode cX5_copyTold 72 = .ok (.ifnull 27, 3) := by decide +kernel
theorem dX5_copyTold_75 : decode cX5_copyTold 75 = .ok (.aload_n 1, 1) := by decide +kernel
theorem dX5_copyTold_76 : decode cX5_copyTold 76 = .ok (.getfield 24, 3) := by decide +kernel
theorem dX5_copyTold_79 : decode cX5_copyTold 79 = .ok (.iload_n 2, 1) := by decide +kernel
theorem dX5_copyTold_80 : decode cX5_copyTold 80 = .ok (.aaload, 1) := by decide +kernel
theorem dX5_copyTold_81 : decode cX5_copyTold 81 = .ok (.ifnull 18, 3) := by decide +kernel
theorem dX5_copyTold_84 : decode cX5_copyTold 84 = .ok (.aload_n 0, 1) := by decide +kernel
theorem dX5_copyTold_85 : decode cX5_copyTold 85 = .ok (.getfield 24, 3) := by decide +kernel
theorem dX5_copyTold_88 : decode cX5_copyTold 88 = .ok (.iload_n 2, 1) := by decide +kernel
theorem dX5_copyTold_89 : decode cX5_copyTold 89 = .ok (.aaload, 1) := by decide +kernel
theorem dX5_copyTold_90 : decode cX5_copyTold 90 = .ok (.aload_n 1, 1) := by decide +kernel
theorem dX5_copyTold_91 : decode cX5_copyTold 91 = .ok (.getfield 24, 3) := by decide +kernel
theorem dX5_copyTold_94 : decode cX5_copyTold 94 = .ok (.iload_n 2, 1) := by decide +kernel
theorem dX5_copyTold_95 : decode cX5_copyTold 95 = .ok (.aaload, 1) := by decide +kernel
theorem dX5_copyTold_96 : decode cX5_copyTold 96 = .ok (.invokevirtual 46, 3) := by decide +kernel
theorem dX5_copyTold_99 : decode cX5_copyTold 99 = .ok (.iinc 2 1, 3) := by decide +kernel
theorem dX5_copyTold_102 : decode cX5_copyTold 102 = .ok (.goto (-54), 3) := by decide +kernel
theorem dX5_copyTold_105 : decode cX5_copyTold 105 = .ok (.iconst 0, 1) := by decide +kernel
theorem dX5_copyTold_106 : decode cX5_copyTold 106 = .ok (.istore_n 2, 1) := by decide +kernel
theorem dX5_copyTold_107 : decode cX5_copyTold 107 = .ok (.iload_n 2, 1) := by decide +kernel
theorem dX5_copyTold_108 : decode cX5_copyTold 108 = .ok (.aload_n 0, 1) := by decide +kernel
theorem dX5_copyTold_109 : decode cX5_copyTold 109 = .ok (.getfield 30, 3) := by decide +kernel
theorem dX5_copyTold_112 : decode cX5_copyTold 112 = .ok (.arraylength, 1) := by decide +kernel
theorem dX5_copyTold_113 : decode cX5_copyTold 113 = .ok (.if_icmp .ge 51, 3) := by decide +kernel
theorem dX5_copyTold_116 : decode cX5_copyTold 116 = .ok (.iload_n 2, 1) := by decide +kernel
theorem dX5_copyTold_117 : decode cX5_copyTold 117 = .ok (.aload_n 1, 1) := by decide +kernel
theorem dX5_copyTold_118 : decode cX5_copyTold 118 = .ok (.getfield 30, 3) := by decide +kernel
theorem dX5_copyTold_121 : decode cX5_copyTold 121 = .ok (.arraylength, 1) := by decide +kernel
theorem dX5_copyTold_122 : decode cX5_copyTold 122 = .ok (.if_icmp .ge 42, 3) := by decide +kernel
theorem dX5_copyTold_125 : decode cX5_copyTold 125 = .ok (.aload_n 0, 1) := by decide +kernel
theorem dX5_copyTold_126 : decode cX5_copyTold 126 = .ok (.getfield 30, 3) := by decide +kernel
theorem dX5_copyTold_129 : decode cX5_copyTold 129 = .ok (.iload_n 2, 1) := by decide +kernel
theorem dX5_copyTold_130 : decode cX5_copyTold 130 = .ok (.aaload, 1) := by decide +kernel
theorem dX5_copyTold_131 : decode cX5_copyTold 131 = .ok (.ifnull 27, 3) := by decide +kernel
theorem dX5_copyTold_134 : decode cX5_copyTold 134 = .ok (.aload_n 1, 1) := by decide +kernel
theorem dX5_copyTold_135 : decode cX5_copyTold 135 = .ok (.getfield 30, 3) := by decide +kernel
theorem dX5_copyTold_138 : decode cX5_copyTold 138 = .ok (.iload_n 2, 1) := by decide +kernel
theorem dX5_copyTold_139 : decode cX5_copyTold 139 = .ok (.aaload, 1) := by decide +kernel
theorem dX5_copyTold_140 : decode cX5_copyTold 140 = .ok (.ifnull 18, 3) := by decide +kernel
theorem dX5_copyTold_143 : decode cX5_copyTold 143 = .ok (.aload_n 0, 1) := by decide +kernel
theorem dX5_copyTold_144 : decode cX5_copyTold 144 = .ok (.getfield 30, 3) := by decide +kernel
theorem dX5_copyTold_147 : decode cX5_copyTold 147 = .ok (.iload_n 2, 1) := by decide +kernel
theorem dX5_copyTold_148 : decode cX5_copyTold 148 = .ok (.aaload, 1) := by decide +kernel
theorem dX5_copyTold_149 : decode cX5_copyTold 149 = .ok (.aload_n 1, 1) := by decide +kernel
theorem dX5_copyTold_150 : decode cX5_copyTold 150 = .ok (.getfield 30, 3) := by decide +kernel
theorem dX5_copyTold_153 : decode cX5_copyTold 153 = .ok (.iload_n 2, 1) := by decide +kernel
theorem dX5_copyTold_154 : decode cX5_copyTold 154 = .ok (.aaload, 1) := by decide +kernel
theorem dX5_copyTold_155 : decode cX5_copyTold 155 = .ok (.invokevirtual 50, 3) := by decide +kernel
theorem dX5_copyTold_158 : decode cX5_copyTold 158 = .ok (.iinc 2 1, 3) := by decide +kernel
theorem dX5_copyTold_161 : decode cX5_copyTold 161 = .ok (.goto (-54), 3) := by decide +kernel
theorem dX5_copyTold_164 : decode cX5_copyTold 164 = .ok (.return_, 1) := by decide +kernel
theorem dX5_init_0 : decode cX5_init 0 = .ok (.aload_n 0, 1) := by decide +kernel
theorem dX5_init_1 : decode cX5_init 1 = .ok (.invokespecial 3, 3) := by decide +kernel
theorem dX5_init_4 : decode cX5_init 4 = .ok (.aload_n 0, 1) := by decide +kernel
theorem dX5_init_5 : decode cX5_init 5 = .ok (.sipush 600, 3) := by decide +kernel
theorem dX5_init_8 : decode cX5_init 8 = .ok (.newarray .int, 2) := by decide +kernel
theorem dX5_init_10 : decode cX5_init 10 = .ok (.putfield 9, 3) := by decide +kernel
theorem dX5_init_13 : decode cX5_init 13 = .ok (.aload_n 0, 1) := by decide +kernel
theorem dX5_init_14 : decode cX5_init 14 = .ok (.iconst (-1), 1) := by decide +kernel
theorem dX5_init_15 : decode cX5_init 15 = .ok (.putfield 15, 3) := by decide +kernel
theorem dX5_init_18 : decode cX5_init 18 = .ok (.aload_n 0, 1) := by decide +kernel
theorem dX5_init_19 : decode cX5_init 19 = .ok (.bipush 6, 2) := by decide +kernel
theorem dX5_init_21 : decode cX5_init 21 = .ok (.newarray .int, 2) := by decide +kernel
theorem dX5_init_23 : decode cX5_init 23 = .ok (.putfield 19, 3) := by decide +kernel
theorem dX5_init_26 : decode cX5_init 26 = .ok (.aload_n 0, 1) := by decide +kernel
theorem dX5_init_27 : decode cX5_init 27 = .ok (.iconst 2, 1) := by decide +kernel
theorem dX5_init_28 : decode cX5_init 28 = .ok (.anewarray 22, 3) := by decide +kernel
theorem dX5_init_31 : decode cX5_init 31 = .ok (.putfield 24, 3) := by decide +kernel
theorem dX5_init_34 : decode cX5_init 34 = .ok (.aload_n 0, 1) := by decide +kernel
theorem dX5_init_35 : decode cX5_init 35 = .ok (.bipush 10, 2) := by decide +kernel
theorem dX5_init_37 : decode cX5_init 37 = .ok (.anewarray 28, 3) := by decide +kernel
theorem dX5_init_40 : decode cX5_init 40 = .ok (.putfield 30, 3) := by decide +kernel
theorem dX5_init_43 : decode cX5_init 43 = .ok (.iconst 0, 1) := by decide +kernel
theorem dX5_init_44 : decode cX5_init 44 = .ok (.istore_n 1, 1) := by decide +kernel
theorem dX5_init_45 : decode cX5_init 45 = .ok (.iload_n 1, 1) := by decide +kernel
theorem dX5_init_46 : decode cX5_init 46 = .ok (.aload_n 0, 1) := by decide +kernel
theorem dX5_init_47 : decode cX5_init 47 = .ok (.getfield 24, 3) := by decide +kernel
theorem dX5_init_50 : decode cX5_init 50 = .ok (.arraylength, 1) := by decide +kernel
theorem dX5_init_51 : decode cX5_init 51 = .ok (.if_icmp .ge 22, 3) := by decide +kernel
theorem dX5_init_54 : decode cX5_init 54 = .ok (.aload_n 0, 1) := by decide +kernel
theorem dX5_init_55 : decode cX5_init 55 = .ok (.getfield 24, 3) := by decide +kernel
theorem dX5_init_58 : decode cX5_init 58 = .ok (.iload_n 1, 1) := by decide +kernel
theorem dX5_init_59 : decode cX5_init 59 = .ok (.new 22, 3) := by decide +kernel
theorem dX5_init_62 : decode cX5_init 62 = .ok (.dup, 1) := by decide +kernel
theorem dX5_init_63 : decode cX5_init 63 = .ok (.invokespecial 34, 3) := by decide +kernel
theorem dX5_init_66 : decode cX5_init 66 = .ok (.aastore, 1) := by decide +kernel
theorem dX5_init_67 : decode cX5_init 67 = .ok (.iinc 1 1, 3) := by decide +kernel
theorem dX5_init_70 : decode cX5_init 70 = .ok (.goto (-25), 3) := by decide +kernel
theorem dX5_init_73 : decode cX5_init 73 = .ok (.iconst 0, 1) := by decide +kernel
theorem dX5_init_74 : decode cX5_init 74 = .ok (.istore_n 1, 1) := by decide +kernel
theorem dX5_init_75 : decode cX5_init 75 = .ok (.iload_n 1, 1) := by decide +kernel
theorem dX5_init_76 : decode cX5_init 76 = .ok (.aload_n 0, 1) := by decide +kernel
theorem dX5_init_77 : decode cX5_init 77 = .ok (.getfield 30, 3) := by decide +kernel
theorem dX5_init_80 : decode cX5_init 80 = .ok (.arraylength, 1) := by decide +kernel
theorem dX5_init_81 : decode cX5_init 81 = .ok (.if_icmp .ge 22, 3) := by decide +kernel
theorem dX5_init_84 : decode cX5_init 84 = .ok (.aload_n 0, 1) := by decide +kernel
theorem dX5_init_85 : decode cX5_init 85 = .ok (.getfield 30, 3) := by decide +kernel
theorem dX5_init_88 : decode cX5_init 88 = .ok (.iload_n 1, 1) := by decide +kernel
theorem dX5_init_89 : decode cX5_init 89 = .ok (.new 28, 3) := by decide +kernel
theorem dX5_init_92 : decode cX5_init 92 = .ok (.dup, 1) := by decide +kernel
theorem dX5_init_93 : decode cX5_init 93 = .ok (.invokespecial 35, 3) := by decide +kernel
theorem dX5_init_96 : decode cX5_init 96 = .ok (.aastore, 1) := by decide +kernel
theorem dX5_init_97 : decode cX5_init 97 = .ok (.iinc 1 1, 3) := by decide +kernel
theorem dX5_init_100 : decode cX5_init 100 = .ok (.goto (-25), 3) := by decide +kernel
theorem dX5_init_103 : decode cX5_init 103 = .ok (.return_, 1) := by decide +kernel
theorem dX5_republicKept_0 : decode cX5_republicKept 0 = .ok (.iload_n 1, 1) := by decide +kernel
theorem dX5_republicKept_1 : decode cX5_republicKept 1 = .ok (.ifCond .lt 21, 3) := by decide +kernel
theorem dX5_republicKept_4 : decode cX5_republicKept 4 = .ok (.iload_n 1, 1) := by decide +kernel
theorem dX5_republicKept_5 : decode cX5_republicKept 5 = .ok (.aload_n 0, 1) := by decide +kernel
theorem dX5_republicKept_6 : decode cX5_republicKept 6 = .ok (.getfield 24, 3) := by decide +kernel
theorem dX5_republicKept_9 : decode cX5_republicKept 9 = .ok (.arraylength, 1) := by decide +kernel
theorem dX5_republicKept_10 : decode cX5_republicKept 10 = .ok (.if_icmp .ge 12, 3) := by decide +kernel
theorem dX5_republicKept_13 : decode cX5_republicKept 13 = .ok (.aload_n 0, 1) := by decide +kernel
theorem dX5_republicKept_14 : decode cX5_republicKept 14 = .ok (.getfield 24, 3) := by decide +kernel
theorem dX5_republicKept_17 : decode cX5_republicKept 17 = .ok (.iload_n 1, 1) := by decide +kernel
theorem dX5_republicKept_18 : decode cX5_republicKept 18 = .ok (.aaload, 1) := by decide +kernel
theorem dX5_republicKept_19 : decode cX5_republicKept 19 = .ok (.goto 4, 3) := by decide +kernel
theorem dX5_republicKept_22 : decode cX5_republicKept 22 = .ok (.aconst_null, 1) := by decide +kernel
theorem dX5_republicKept_23 : decode cX5_republicKept 23 = .ok (.areturn, 1) := by decide +kernel
theorem dX5_rowsKept_0 : decode cX5_rowsKept 0 = .ok (.iload_n 1, 1) := by decide +kernel
theorem dX5_rowsKept_1 : decode cX5_rowsKept 1 = .ok (.iconst 1, 1) := by decide +kernel
theorem dX5_rowsKept_2 : decode cX5_rowsKept 2 = .ok (.isub, 1) := by decide +kernel
theorem dX5_rowsKept_3 : decode cX5_rowsKept 3 = .ok (.iconst 2, 1) := by decide +kernel
theorem dX5_rowsKept_4 : decode cX5_rowsKept 4 = .ok (.imul, 1) := by decide +kernel
theorem dX5_rowsKept_5 : decode cX5_rowsKept 5 = .ok (.iload_n 2, 1) := by decide +kernel
theorem dX5_rowsKept_6 : decode cX5_rowsKept 6 = .ok (.iadd, 1) := by decide +kernel
theorem dX5_rowsKept_7 : decode cX5_rowsKept 7 = .ok (.istore_n 3, 1) := by decide +kernel
theorem dX5_rowsKept_8 : decode cX5_rowsKept 8 = .ok (.iload_n 3, 1) := by decide +kernel
theorem dX5_rowsKept_9 : decode cX5_rowsKept 9 = .ok (.ifCond .lt 21, 3) := by decide +kernel
theorem dX5_rowsKept_12 : decode cX5_rowsKept 12 = .ok (.iload_n 3, 1) := by decide +kernel
theorem dX5_rowsKept_13 : decode cX5_rowsKept 13 = .ok (.aload_n 0, 1) := by decide +kernel
theorem dX5_rowsKept_14 : decode cX5_rowsKept 14 = .ok (.getfield 30, 3) := by decide +kernel
theorem dX5_rowsKept_17 : decode cX5_rowsKept 17 = .ok (.arraylength, 1) := by decide +kernel
theorem dX5_rowsKept_18 : decode cX5_rowsKept 18 = .ok (.if_icmp .ge 12, 3) := by decide +kernel
theorem dX5_rowsKept_21 : decode cX5_rowsKept 21 = .ok (.aload_n 0, 1) := by decide +kernel
theorem dX5_rowsKept_22 : decode cX5_rowsKept 22 = .ok (.getfield 30, 3) := by decide +kernel
theorem dX5_rowsKept_25 : decode cX5_rowsKept 25 = .ok (.iload_n 3, 1) := by decide +kernel
theorem dX5_rowsKept_26 : decode cX5_rowsKept 26 = .ok (.aaload, 1) := by decide +kernel
theorem dX5_rowsKept_27 : decode cX5_rowsKept 27 = .ok (.goto 4, 3) := by decide +kernel
theorem dX5_rowsKept_30 : decode cX5_rowsKept 30 = .ok (.aconst_null, 1) := by decide +kernel
theorem dX5_rowsKept_31 : decode cX5_rowsKept 31 = .ok (.areturn, 1) := by decide +kernel
theorem dX6_again_0 : decode cX6_again 0 = .ok (.iload_n 1, 1) := by decide +kernel
theorem dX6_again_1 : decode cX6_again 1 = .ok (.ifCond .lt 21, 3) := by decide +kernel
theorem dX6_again_4 : decode cX6_again 4 = .ok (.iload_n 1, 1) := by decide +kernel
theorem dX6_again_5 : decode cX6_again 5 = .ok (.aload_n 0, 1) := by decide +kernel
theorem dX6_again_6 : decode cX6_again 6 = .ok (.getfield 16, 3) := by decide +kernel
theorem dX6_again_9 : decode cX6_again 9 = .ok (.arraylength, 1) := by decide +kernel
theorem dX6_again_10 : decode cX6_again 10 = .ok (.if_icmp .ge 12, 3) := by decide +kernel
theorem dX6_again_13 : decode cX6_again 13 = .ok (.aload_n 0, 1) := by decide +kernel
theorem dX6_again_14 : decode cX6_again 14 = .ok (.getfield 16, 3) := by decide +kernel
theorem dX6_again_17 : decode cX6_again 17 = .ok (.iload_n 1, 1) := by decide +kernel
theorem dX6_again_18 : decode cX6_again 18 = .ok (.aaload, 1) := by decide +kernel
theorem dX6_again_19 : decode cX6_again 19 = .ok (.ifnonnull 5, 3) := by decide +kernel
theorem dX6_again_22 : decode cX6_again 22 = .ok (.iconst 0, 1) := by decide +kernel
theorem dX6_again_23 : decode cX6_again 23 = .ok (.ireturn, 1) := by decide +kernel
theorem dX6_again_24 : decode cX6_again 24 = .ok (.aload_n 0, 1) := by decide +kernel
theorem dX6_again_25 : decode cX6_again 25 = .ok (.getfield 10, 3) := by decide +kernel
theorem dX6_again_28 : decode cX6_again 28 = .ok (.aload_n 0, 1) := by decide +kernel
theorem dX6_again_29 : decode cX6_again 29 = .ok (.getfield 16, 3) := by decide +kernel
theorem dX6_again_32 : decode cX6_again 32 = .ok (.iload_n 1, 1) := by decide +kernel
theorem dX6_again_33 : decode cX6_again 33 = .ok (.aaload, 1) := by decide +kernel
theorem dX6_again_34 : decode cX6_again 34 = .ok (.invokevirtual 125, 3) := by decide +kernel
theorem dX6_again_37 : decode cX6_again 37 = .ok (.iconst 1, 1) := by decide +kernel
theorem dX6_again_38 : decode cX6_again 38 = .ok (.ireturn, 1) := by decide +kernel
theorem dX6_agreed_0 : decode cX6_agreed 0 = .ok (.aload_n 0, 1) := by decide +kernel
theorem dX6_agreed_1 : decode cX6_agreed 1 = .ok (.iload_n 1, 1) := by decide +kernel
theorem dX6_agreed_2 : decode cX6_agreed 2 = .ok (.iload_n 3, 1) := by decide +kernel
theorem dX6_agreed_3 : decode cX6_agreed 3 = .ok (.iload 4, 2) := by decide +kernel
theorem dX6_agreed_5 : decode cX6_agreed 5 = .ok (.iconst 0, 1) := by decide +kernel
theorem dX6_agreed_6 : decode cX6_agreed 6 = .ok (.invokevirtual 200, 3) := by decide +kernel
theorem dX6_agreed_9 : decode cX6_agreed 9 = .ok (.astore 6, 2) := by decide +kernel
theorem dX6_agreed_11 : decode cX6_agreed 11 = .ok (.aload_n 0, 1) := by decide +kernel
theorem dX6_agreed_12 : decode cX6_agreed 12 = .ok (.iconst 1, 1) := by decide +kernel
theorem dX6_agreed_13 : decode cX6_agreed 13 = .ok (.iload_n 2, 1) := by decide +kernel
theorem dX6_agreed_14 : decode cX6_agreed 14 = .ok (.invokevirtual 182, 3) := by decide +kernel
theorem dX6_agreed_17 : decode cX6_agreed 17 = .ok (.astore 7, 2) := by decide +kernel
theorem dX6_agreed_19 : decode cX6_agreed 19 = .ok (.aload 6, 2) := by decide +kernel
theorem dX6_agreed_21 : decode cX6_agreed 21 = .ok (.ifnull 13, 3) := by decide +kernel
theorem dX6_agreed_24 : decode cX6_agreed 24 = .ok (.aload 7, 2) := by decide +kernel
theorem dX6_agreed_26 : decode cX6_agreed 26 = .ok (.ifnonnull 11, 3) := by decide +kernel
theorem dX6_agreed_29 : decode cX6_agreed 29 = .ok (.iload_n 2, 1) := by decide +kernel
theorem dX6_agreed_30 : decode cX6_agreed 30 = .ok (.iconst (-1), 1) := by decide +kernel
theorem dX6_agreed_31 : decode cX6_agreed 31 = .ok (.if_icmp .eq 6, 3) := by decide +kernel
theorem dX6_agreed_34 : decode cX6_agreed 34 = .ok (.bipush (-2), 2) := by decide +kernel
theorem dX6_agreed_36 : decode cX6_agreed 36 = .ok (.ireturn, 1) := by decide +kernel
theorem dX6_agreed_37 : decode cX6_agreed 37 = .ok (.iload 5, 2) := by decide +kernel
theorem dX6_agreed_39 : decode cX6_agreed 39 = .ok (.tableswitch 63 0 2 #[25, 37, 50], 25) := by decide +kernel
theorem dX6_agreed_64 : decode cX6_agreed 64 = .ok (.aload_n 0, 1) := by decide +kernel
theorem dX6_agreed_65 : decode cX6_agreed 65 = .ok (.aload 6, 2) := by decide +kernel
theorem dX6_agreed_67 : decode cX6_agreed 67 = .ok (.aload 7, 2) := by decide +kernel
theorem dX6_agreed_69 : decode cX6_agreed 69 = .ok (.iload_n 3, 1) := by decide +kernel
theorem dX6_agreed_70 : decode cX6_agreed 70 = .ok (.iload 4, 2) := by decide +kernel
theorem dX6_agreed_72 : decode cX6_agreed 72 = .ok (.invokevirtual 275, 3) := by decide +kernel
theorem dX6_agreed_75 : decode cX6_agreed 75 = .ok (.ireturn, 1) := by decide +kernel
theorem dX6_agreed_76 : decode cX6_agreed 76 = .ok (.aload_n 0, 1) := by decide +kernel
theorem dX6_agreed_77 : decode cX6_agreed 77 = .ok (.aload 6, 2) := by decide +kernel
theorem dX6_agreed_79 : decode cX6_agreed 79 = .ok (.aload 7, 2) := by decide +kernel
theorem dX6_agreed_81 : decode cX6_agreed 81 = .ok (.iload_n 3, 1) := by decide +kernel
theorem dX6_agreed_82 : decode cX6_agreed 82 = .ok (.iload 4, 2) := by decide +kernel
theorem dX6_agreed_84 : decode cX6_agreed 84 = .ok (.iconst 1, 1) := by decide +kernel
theorem dX6_agreed_85 : decode cX6_agreed 85 = .ok (.invokevirtual 279, 3) := by decide +kernel
theorem dX6_agreed_88 : decode cX6_agreed 88 = .ok (.ireturn, 1) := by decide +kernel
theorem dX6_agreed_89 : decode cX6_agreed 89 = .ok (.aload_n 0, 1) := by decide +kernel
theorem dX6_agreed_90 : decode cX6_agreed 90 = .ok (.aload 6, 2) := by decide +kernel
theorem dX6_agreed_92 : decode cX6_agreed 92 = .ok (.aload 7, 2) := by decide +kernel
theorem dX6_agreed_94 : decode cX6_agreed 94 = .ok (.iload_n 3, 1) := by decide +kernel
theorem dX6_agreed_95 : decode cX6_agreed 95 = .ok (.iload 4, 2) := by decide +kernel
theorem dX6_agreed_97 : decode cX6_agreed 97 = .ok (.iconst 0, 1) := by decide +kernel
theorem dX6_agreed_98 : decode cX6_agreed 98 = .ok (.invokevirtual 279, 3) := by decide +kernel
theorem dX6_agreed_101 : decode cX6_agreed 101 = .ok (.ireturn, 1) := by decide +kernel
theorem dX6_agreed_102 : decode cX6_agreed 102 = .ok (.bipush (-2), 2) := by decide +kernel
theorem dX6_agreed_104 : decode cX6_agreed 104 = .ok (.ireturn, 1) := by decide +kernel
theorem dX6_bargain_0 : decode cX6_bargain 0 = .ok (.aload_n 0, 1) := by decide +kernel
theorem dX6_bargain_1 : decode cX6_bargain 1 = .ok (.iload_n 1, 1) := by decide +kernel
theorem dX6_bargain_2 : decode cX6_bargain 2 = .ok (.invokevirtual 129, 3) := by decide +kernel
theorem dX6_bargain_5 : decode cX6_bargain 5 = .ok (.astore 4, 2) := by decide +kernel
theorem dX6_bargain_7 : decode cX6_bargain 7 = .ok (.aload_n 0, 1) := by decide +kernel
theorem dX6_bargain_8 : decode cX6_bargain 8 = .ok (.iconst 5, 1) := by decide +kernel
theorem dX6_bargain_9 : decode cX6_bargain 9 = .ok (.iload_n 2, 1) := by decide +kernel
theorem dX6_bargain_10 : decode cX6_bargain 10 = .ok (.invokevirtual 182, 3) := by decide +kernel
theorem dX6_bargain_13 : decode cX6_bargain 13 = .ok (.astore 5, 2) := by decide +kernel
theorem dX6_bargain_15 : decode cX6_bargain 15 = .ok (.aload 4, 2) := by decide +kernel
theorem dX6_bargain_17 : decode cX6_bargain 17 = .ok (.ifnull 8, 3) := by decide +kernel
theorem dX6_bargain_20 : decode cX6_bargain 20 = .ok (.aload 5, 2) := by decide +kernel
theorem dX6_bargain_22 : decode cX6_bargain 22 = .ok (.ifnonnull 6, 3) := by decide +kernel
theorem dX6_bargain_25 : decode cX6_bargain 25 = .ok (.bipush (-2), 2) := by decide +kernel
theorem dX6_bargain_27 : decode cX6_bargain 27 = .ok (.ireturn, 1) := by decide +kernel
theorem dX6_bargain_28 : decode cX6_bargain 28 = .ok (.iload_n 3, 1) := by decide +kernel
theorem dX6_bargain_29 : decode cX6_bargain 29 = .ok (.ifCond .lt 17, 3) := by decide +kernel
theorem dX6_bargain_32 : decode cX6_bargain 32 = .ok (.iload_n 3, 1) := by decide +kernel
theorem dX6_bargain_33 : decode cX6_bargain 33 = .ok (.bipush 6, 2) := by decide +kernel
theorem dX6_bargain_35 : decode cX6_bargain 35 = .ok (.if_icmp .ge 11, 3) := by decide +kernel
theorem dX6_bargain_38 : decode cX6_bargain 38 = .ok (.aload 5, 2) := by decide +kernel
theorem dX6_bargain_40 : decode cX6_bargain 40 = .ok (.iload_n 3, 1) := by decide +kernel
theorem dX6_bargain_41 : decode cX6_bargain 41 = .ok (.iconst 0, 1) := by decide +kernel
theorem dX6_bargain_42 : decode cX6_bargain 42 = .ok (.invokevirtual 190, 3) := by decide +kernel
theorem dX6_bargain_45 : decode cX6_bargain 45 = .ok (.ireturn, 1) := by decide +kernel
theorem dX6_bargain_46 : decode cX6_bargain 46 = .ok (.iload_n 3, 1) := by decide +kernel
theorem dX6_bargain_47 : decode cX6_bargain 47 = .ok (.lookupswitch 43 #[(10, 25), (11, 34)], 25) := by decide +kernel
theorem dX6_bargain_72 : decode cX6_bargain 72 = .ok (.aload 4, 2) := by decide +kernel
theorem dX6_bargain_74 : decode cX6_bargain 74 = .ok (.aload 5, 2) := by decide +kernel
theorem dX6_bargain_76 : decode cX6_bargain 76 = .ok (.iconst 0, 1) := by decide +kernel
theorem dX6_bargain_77 : decode cX6_bargain 77 = .ok (.invokestatic 345, 3) := by decide +kernel
theorem dX6_bargain_80 : decode cX6_bargain 80 = .ok (.ireturn, 1) := by decide +kernel
theorem dX6_bargain_81 : decode cX6_bargain 81 = .ok (.aload 4, 2) := by decide +kernel
theorem dX6_bargain_83 : decode cX6_bargain 83 = .ok (.aload 5, 2) := by decide +kernel
theorem dX6_bargain_85 : decode cX6_bargain 85 = .ok (.iconst 1, 1) := by decide +kernel
theorem dX6_bargain_86 : decode cX6_bargain 86 = .ok (.invokestatic 345, 3) := by decide +kernel
theorem dX6_bargain_89 : decode cX6_bargain 89 = .ok (.ireturn, 1) := by decide +kernel
theorem dX6_bargain_90 : decode cX6_bargain 90 = .ok (.bipush (-2), 2) := by decide +kernel
theorem dX6_bargain_92 : decode cX6_bargain 92 = .ok (.ireturn, 1) := by decide +kernel
theorem dX6_bribe_0 : decode cX6_bribe 0 = .ok (.iload 4, 2) := by decide +kernel
theorem dX6_bribe_2 : decode cX6_bribe 2 = .ok (.iload 5, 2) := by decide +kernel
theorem dX6_bribe_4 : decode cX6_bribe 4 = .ok (.iload 6, 2) := by decide +kernel
theorem dX6_bribe_6 : decode cX6_bribe 6 = .ok (.invokestatic 196, 3) := by decide +kernel
theorem dX6_bribe_9 : decode cX6_bribe 9 = .ok (.istore 8, 2) := by decide +kernel
theorem dX6_bribe_11 : decode cX6_bribe 11 = .ok (.aload_n 0, 1) := by decide +kernel
theorem dX6_bribe_12 : decode cX6_bribe 12 = .ok (.iload_n 1, 1) := by decide +kernel
theorem dX6_bribe_13 : decode cX6_bribe 13 = .ok (.iload_n 2, 1) := by decide +kernel
theorem dX6_bribe_14 : decode cX6_bribe 14 = .ok (.iload_n 3, 1) := by decide +kernel
theorem dX6_bribe_15 : decode cX6_bribe 15 = .ok (.iload 8, 2) := by decide +kernel
theorem dX6_bribe_17 : decode cX6_bribe 17 = .ok (.invokevirtual 200, 3) := by decide +kernel
theorem dX6_bribe_20 : decode cX6_bribe 20 = .ok (.astore 9, 2) := by decide +kernel
theorem dX6_bribe_22 : decode cX6_bribe 22 = .ok (.aload 9, 2) := by decide +kernel
theorem dX6_bribe_24 : decode cX6_bribe 24 = .ok (.ifnonnull 5, 3) := by decide +kernel
theorem dX6_bribe_27 : decode cX6_bribe 27 = .ok (.iconst (-1), 1) := by decide +kernel
theorem dX6_bribe_28 : decode cX6_bribe 28 = .ok (.ireturn, 1) := by decide +kernel
theorem dX6_bribe_29 : decode cX6_bribe 29 = .ok (.aload 9, 2) := by decide +kernel
theorem dX6_bribe_31 : decode cX6_bribe 31 = .ok (.iload_n 2, 1) := by decide +kernel
theorem dX6_bribe_32 : decode cX6_bribe 32 = .ok (.iload_n 3, 1) := by decide +kernel
theorem dX6_bribe_33 : decode cX6_bribe 33 = .ok (.iload 8, 2) := by decide +kernel
theorem dX6_bribe_35 : decode cX6_bribe 35 = .ok (.invokevirtual 207, 3) := by decide +kernel
theorem dX6_bribe_38 : decode cX6_bribe 38 = .ok (.istore 10, 2) := by decide +kernel
theorem dX6_bribe_40 : decode cX6_bribe 40 = .ok (.iconst (-1), 1) := by decide +kernel
theorem dX6_bribe_41 : decode cX6_bribe 41 = .ok (.istore 11, 2) := by decide +kernel
theorem dX6_bribe_43 : decode cX6_bribe 43 = .ok (.iconst (-1), 1) := by decide +kernel
theorem dX6_bribe_44 : decode cX6_bribe 44 = .ok (.istore 12, 2) := by decide +kernel
theorem dX6_bribe_46 : decode cX6_bribe 46 = .ok (.iconst 0, 1) := by decide +kernel
theorem dX6_bribe_47 : decode cX6_bribe 47 = .ok (.istore 13, 2) := by decide +kernel
theorem dX6_bribe_49 : decode cX6_bribe 49 = .ok (.iload 13, 2) := by decide +kernel
theorem dX6_bribe_51 : decode cX6_bribe 51 = .ok (.aload 9, 2) := by decide +kernel
theorem dX6_bribe_53 : decode cX6_bribe 53 = .ok (.invokevirtual 210, 3) := by decide +kernel
theorem dX6_bribe_56 : decode cX6_bribe 56 = .ok (.if_icmp .gt 69, 3) := by decide +kernel
theorem dX6_bribe_59 : decode cX6_bribe 59 = .ok (.iload 13, 2) := by decide +kernel
theorem dX6_bribe_61 : decode cX6_bribe 61 = .ok (.iload 10, 2) := by decide +kernel
theorem dX6_bribe_63 : decode cX6_bribe 63 = .ok (.iand, 1) := by decide +kernel
theorem dX6_bribe_64 : decode cX6_bribe 64 = .ok (.ifCond .ne 55, 3) := by decide +kernel
theorem dX6_bribe_67 : decode cX6_bribe 67 = .ok (.aload 9, 2) := by decide +kernel
theorem dX6_bribe_69 : decode cX6_bribe 69 = .ok (.aload 9, 2) := by decide +kernel
theorem dX6_bribe_71 : decode cX6_bribe 71 = .ok (.invokevirtual 210, 3) := by decide +kernel
theorem dX6_bribe_74 : decode cX6_bribe 74 = .ok (.iload 10, 2) := by decide +kernel
theorem dX6_bribe_76 : decode cX6_bribe 76 = .ok (.iload 13, 2) := by decide +kernel
theorem dX6_bribe_78 : decode cX6_bribe 78 = .ok (.ior, 1) := by decide +kernel
theorem dX6_bribe_79 : decode cX6_bribe 79 = .ok (.invokevirtual 214, 3) := by decide +kernel
theorem dX6_bribe_82 : decode cX6_bribe 82 = .ok (.ifCond .eq 37, 3) := by decide +kernel
theorem dX6_bribe_85 : decode cX6_bribe 85 = .ok (.aload 9, 2) := by decide +kernel
theorem dX6_bribe_87 : decode cX6_bribe 87 = .ok (.iload 13, 2) := by decide +kernel
theorem dX6_bribe_89 : decode cX6_bribe 89 = .ok (.iload_n 2, 1) := by decide +kernel
theorem dX6_bribe_90 : decode cX6_bribe 90 = .ok (.iload_n 3, 1) := by decide +kernel
theorem dX6_bribe_91 : decode cX6_bribe 91 = .ok (.iload 8, 2) := by decide +kernel
theorem dX6_bribe_93 : decode cX6_bribe 93 = .ok (.invokestatic 326, 3) := by decide +kernel
theorem dX6_bribe_96 : decode cX6_bribe 96 = .ok (.istore 14, 2) := by decide +kernel
theorem dX6_bribe_98 : decode cX6_bribe 98 = .ok (.iload 11, 2) := by decide +kernel
theorem dX6_bribe_100 : decode cX6_bribe 100 = .ok (.iconst (-1), 1) := by decide +kernel
theorem dX6_bribe_101 : decode cX6_bribe 101 = .ok (.if_icmp .eq 10, 3) := by decide +kernel
theorem dX6_bribe_104 : decode cX6_bribe 104 = .ok (.iload 14, 2) := by decide +kernel
theorem dX6_bribe_106 : decode cX6_bribe 106 = .ok (.iload 11, 2) := by decide +kernel
theorem dX6_bribe_108 : decode cX6_bribe 108 = .ok (.if_icmp .ge 11, 3) := by decide +kernel
theorem dX6_bribe_111 : decode cX6_bribe 111 = .ok (.iload 14, 2) := by decide +kernel
theorem dX6_bribe_113 : decode cX6_bribe 113 = .ok (.istore 11, 2) := by decide +kernel
theorem dX6_bribe_115 : decode cX6_bribe 115 = .ok (.iload 13, 2) := by decide +kernel
theorem dX6_bribe_117 : decode cX6_bribe 117 = .ok (.istore 12, 2) := by decide +kernel
theorem dX6_bribe_119 : decode cX6_bribe 119 = .ok (.iinc 13 1, 3) := by decide +kernel
theorem dX6_bribe_122 : decode cX6_bribe 122 = .ok (.goto (-73), 3) := by decide +kernel
theorem dX6_bribe_125 : decode cX6_bribe 125 = .ok (.iload 7, 2) := by decide +kernel
theorem dX6_bribe_127 : decode cX6_bribe 127 = .ok (.ifCond .eq 8, 3) := by decide +kernel
theorem dX6_bribe_130 : decode cX6_bribe 130 = .ok (.iload 12, 2) := by decide +kernel
theorem dX6_bribe_132 : decode cX6_bribe 132 = .ok (.goto 5, 3) := by decide +kernel
theorem dX6_bribe_135 : decode cX6_bribe 135 = .ok (.iload 11, 2) := by decide +kernel
theorem dX6_bribe_137 : decode cX6_bribe 137 = .ok (.ireturn, 1) := by decide +kernel
theorem dX6_broken_0 : decode cX6_broken 0 = .ok (.aload_n 0, 1) := by decide +kernel
theorem dX6_broken_1 : decode cX6_broken 1 = .ok (.iconst 1, 1) := by decide +kernel
theorem dX6_broken_2 : decode cX6_broken 2 = .ok (.iload_n 1, 1) := by decide +kernel
theorem dX6_broken_3 : decode cX6_broken 3 = .ok (.invokevirtual 182, 3) := by decide +kernel
theorem dX6_broken_6 : decode cX6_broken 6 = .ok (.astore 7, 2) := by decide +kernel
theorem dX6_broken_8 : decode cX6_broken 8 = .ok (.iload_n 3, 1) := by decide +kernel
theorem dX6_broken_9 : decode cX6_broken 9 = .ok (.iload 4, 2) := by decide +kernel
theorem dX6_broken_11 : decode cX6_broken 11 = .ok (.iload 5, 2) := by decide +kernel
theorem dX6_broken_13 : decode cX6_broken 13 = .ok (.invokestatic 196, 3) := by decide +kernel
theorem dX6_broken_16 : decode cX6_broken 16 = .ok (.istore 8, 2) := by decide +kernel
theorem dX6_broken_18 : decode cX6_broken 18 = .ok (.aload 7, 2) := by decide +kernel
theorem dX6_broken_20 : decode cX6_broken 20 = .ok (.ifnull 30, 3) := by decide +kernel
theorem dX6_broken_23 : decode cX6_broken 23 = .ok (.iload_n 2, 1) := by decide +kernel
theorem dX6_broken_24 : decode cX6_broken 24 = .ok (.invokestatic 193, 3) := by decide +kernel
theorem dX6_broken_27 : decode cX6_broken 27 = .ok (.ifCond .eq 23, 3) := by decide +kernel
theorem dX6_broken_30 : decode cX6_broken 30 = .ok (.iload 8, 2) := by decide +kernel
theorem dX6_broken_32 : decode cX6_broken 32 = .ok (.iconst (-1), 1) := by decide +kernel
theorem dX6_broken_33 : decode cX6_broken 33 = .ok (.if_icmp .eq 17, 3) := by decide +kernel
theorem dX6_broken_36 : decode cX6_broken 36 = .ok (.iload 6, 2) := by decide +kernel
theorem dX6_broken_38 : decode cX6_broken 38 = .ok (.iconst (-1), 1) := by decide +kernel
theorem dX6_broken_39 : decode cX6_broken 39 = .ok (.if_icmp .lt 11, 3) := by decide +kernel
theorem dX6_broken_42 : decode cX6_broken 42 = .ok (.iload 6, 2) := by decide +kernel
theorem dX6_broken_44 : decode cX6_broken 44 = .ok (.sipush 1000, 3) := by decide +kernel
theorem dX6_broken_47 : decode cX6_broken 47 = .ok (.if_icmp .lt 5, 3) := by decide +kernel
theorem dX6_broken_50 : decode cX6_broken 50 = .ok (.iconst (-1), 1) := by decide +kernel
theorem dX6_broken_51 : decode cX6_broken 51 = .ok (.ireturn, 1) := by decide +kernel
theorem dX6_broken_52 : decode cX6_broken 52 = .ok (.aload 7, 2) := by decide +kernel
theorem dX6_broken_54 : decode cX6_broken 54 = .ok (.iload_n 2, 1) := by decide +kernel
theorem dX6_broken_55 : decode cX6_broken 55 = .ok (.iload 8, 2) := by decide +kernel
theorem dX6_broken_57 : decode cX6_broken 57 = .ok (.iload 6, 2) := by decide +kernel
theorem dX6_broken_59 : decode cX6_broken 59 = .ok (.invokestatic 217, 3) := by decide +kernel
theorem dX6_broken_62 : decode cX6_broken 62 = .ok (.ireturn, 1) := by decide +kernel
theorem dX6_cell_0 : decode cX6_cell 0 = .ok (.iload_n 1, 1) := by decide +kernel
theorem dX6_cell_1 : decode cX6_cell 1 = .ok (.ifCond .lt 15, 3) := by decide +kernel
theorem dX6_cell_4 : decode cX6_cell 4 = .ok (.iload_n 1, 1) := by decide +kernel
theorem dX6_cell_5 : decode cX6_cell 5 = .ok (.aload_n 0, 1) := by decide +kernel
theorem dX6_cell_6 : decode cX6_cell 6 = .ok (.arraylength, 1) := by decide +kernel
theorem dX6_cell_7 : decode cX6_cell 7 = .ok (.if_icmp .ge 9, 3) := by decide +kernel
theorem dX6_cell_10 : decode cX6_cell 10 = .ok (.aload_n 0, 1) := by decide +kernel
theorem dX6_cell_11 : decode cX6_cell 11 = .ok (.iload_n 1, 1) := by decide +kernel
theorem dX6_cell_12 : decode cX6_cell 12 = .ok (.iaload, 1) := by decide +kernel
theorem dX6_cell_13 : decode cX6_cell 13 = .ok (.goto 4, 3) := by decide +kernel
theorem dX6_cell_16 : decode cX6_cell 16 = .ok (.iconst 0, 1) := by decide +kernel
theorem dX6_cell_17 : decode cX6_cell 17 = .ok (.ireturn, 1) := by decide +kernel
theorem dX6_coalition_0 : decode cX6_coalition 0 = .ok (.aload_n 0, 1) := by decide +kernel
theorem dX6_coalition_1 : decode cX6_coalition 1 = .ok (.iload_n 1, 1) := by decide +kernel
theorem dX6_coalition_2 : decode cX6_coalition 2 = .ok (.invokevirtual 129, 3) := by decide +kernel
theorem dX6_coalition_5 : decode cX6_coalition 5 = .ok (.astore_n 3, 1) := by decide +kernel
theorem dX6_coalition_6 : decode cX6_coalition 6 = .ok (.aload_n 3, 1) := by decide +kernel
theorem dX6_coalition_7 : decode cX6_coalition 7 = .ok (.ifnull 9, 3) := by decide +kernel
theorem dX6_coalition_10 : decode cX6_coalition 10 = .ok (.iload_n 2, 1) := by decide +kernel
theorem dX6_coalition_11 : decode cX6_coalition 11 = .ok (.bipush (-2), 2) := by decide +kernel
theorem dX6_coalition_13 : decode cX6_coalition 13 = .ok (.if_icmp .ge 6, 3) := by decide +kernel
theorem dX6_coalition_16 : decode cX6_coalition 16 = .ok (.bipush (-3), 2) := by decide +kernel
theorem dX6_coalition_18 : decode cX6_coalition 18 = .ok (.ireturn, 1) := by decide +kernel
theorem dX6_coalition_19 : decode cX6_coalition 19 = .ok (.iload_n 2, 1) := by decide +kernel
theorem dX6_coalition_20 : decode cX6_coalition 20 = .ok (.bipush (-2), 2) := by decide +kernel
theorem dX6_coalition_22 : decode cX6_coalition 22 = .ok (.if_icmp .ne 10, 3) := by decide +kernel
theorem dX6_coalition_25 : decode cX6_coalition 25 = .ok (.aload_n 3, 1) := by decide +kernel
theorem dX6_coalition_26 : decode cX6_coalition 26 = .ok (.invokestatic 315, 3) := by decide +kernel
theorem dX6_coalition_29 : decode cX6_coalition 29 = .ok (.goto 8, 3) := by decide +kernel
theorem dX6_coalition_32 : decode cX6_coalition 32 = .ok (.aload_n 3, 1) := by decide +kernel
theorem dX6_coalition_33 : decode cX6_coalition 33 = .ok (.iload_n 2, 1) := by decide +kernel
theorem dX6_coalition_34 : decode cX6_coalition 34 = .ok (.invokestatic 319, 3) := by decide +kernel
theorem dX6_coalition_37 : decode cX6_coalition 37 = .ok (.ireturn, 1) := by decide +kernel
theorem dX6_copy_0 : decode cX6_copy 0 = .ok (.aload_n 0, 1) := by decide +kernel
theorem dX6_copy_1 : decode cX6_copy 1 = .ok (.iconst 0, 1) := by decide +kernel
theorem dX6_copy_2 : decode cX6_copy 2 = .ok (.aload_n 1, 1) := by decide +kernel
theorem dX6_copy_3 : decode cX6_copy 3 = .ok (.iconst 0, 1) := by decide +kernel
theorem dX6_copy_4 : decode cX6_copy 4 = .ok (.aload_n 0, 1) := by decide +kernel
theorem dX6_copy_5 : decode cX6_copy 5 = .ok (.arraylength, 1) := by decide +kernel
theorem dX6_copy_6 : decode cX6_copy 6 = .ok (.aload_n 1, 1) := by decide +kernel
theorem dX6_copy_7 : decode cX6_copy 7 = .ok (.arraylength, 1) := by decide +kernel
theorem dX6_copy_8 : decode cX6_copy 8 = .ok (.invokestatic 366, 3) := by decide +kernel
theorem dX6_copy_11 : decode cX6_copy 11 = .ok (.invokestatic 422, 3) := by decide +kernel
theorem dX6_copy_14 : decode cX6_copy 14 = .ok (.return_, 1) := by decide +kernel
theorem dX6_count_0 : decode cX6_count 0 = .ok (.iload_n 1, 1) := by decide +kernel
theorem dX6_count_1 : decode cX6_count 1 = .ok (.ifCond .lt 23, 3) := by decide +kernel
theorem dX6_count_4 : decode cX6_count 4 = .ok (.iload_n 1, 1) := by decide +kernel
theorem dX6_count_5 : decode cX6_count 5 = .ok (.bipush 6, 2) := by decide +kernel
theorem dX6_count_7 : decode cX6_count 7 = .ok (.if_icmp .ge 17, 3) := by decide +kernel
theorem dX6_count_10 : decode cX6_count 10 = .ok (.aload_n 0, 1) := by decide +kernel
theorem dX6_count_11 : decode cX6_count 11 = .ok (.getfield 10, 3) := by decide +kernel
theorem dX6_count_14 : decode cX6_count 14 = .ok (.getfield 85, 3) := by decide +kernel
theorem dX6_count_17 : decode cX6_count 17 = .ok (.iload_n 1, 1) := by decide +kernel
theorem dX6_count_18 : decode cX6_count 18 = .ok (.invokestatic 88, 3) := by decide +kernel
theorem dX6_count_21 : decode cX6_count 21 = .ok (.goto 5, 3) := by decide +kernel
theorem dX6_count_24 : decode cX6_count 24 = .ok (.bipush (-2), 2) := by decide +kernel
theorem dX6_count_26 : decode cX6_count 26 = .ok (.ireturn, 1) := by decide +kernel
theorem dX6_dayOf_0 : decode cX6_dayOf 0 = .ok (.iload_n 0, 1) := by decide +kernel
theorem dX6_dayOf_1 : decode cX6_dayOf 1 = .ok (.invokestatic 419, 3) := by decide +kernel
theorem dX6_dayOf_4 : decode cX6_dayOf 4 = .ok (.ifCond .eq 26, 3) := by decide +kernel
theorem dX6_dayOf_7 : decode cX6_dayOf 7 = .ok (.iload_n 1, 1) := by decide +kernel
theorem dX6_dayOf_8 : decode cX6_dayOf 8 = .ok (.invokestatic 419, 3) := by decide +kernel
theorem dX6_dayOf_11 : decode cX6_dayOf 11 = .ok (.ifCond .eq 19, 3) := by decide +kernel
theorem dX6_dayOf_14 : decode cX6_dayOf 14 = .ok (.iload_n 2, 1) := by decide +kernel
theorem dX6_dayOf_15 : decode cX6_dayOf 15 = .ok (.invokestatic 419, 3) := by decide +kernel
theorem dX6_dayOf_18 : decode cX6_dayOf 18 = .ok (.ifCond .eq 12, 3) := by decide +kernel
theorem dX6_dayOf_21 : decode cX6_dayOf 21 = .ok (.iload_n 0, 1) := by decide +kernel
theorem dX6_dayOf_22 : decode cX6_dayOf 22 = .ok (.iload_n 1, 1) := by decide +kernel
theorem dX6_dayOf_23 : decode cX6_dayOf 23 = .ok (.iload_n 2, 1) := by decide +kernel
theorem dX6_dayOf_24 : decode cX6_dayOf 24 = .ok (.invokestatic 297, 3) := by decide +kernel
theorem dX6_dayOf_27 : decode cX6_dayOf 27 = .ok (.goto 4, 3) := by decide +kernel
theorem dX6_dayOf_30 : decode cX6_dayOf 30 = .ok (.iconst (-1), 1) := by decide +kernel
theorem dX6_dayOf_31 : decode cX6_dayOf 31 = .ok (.ireturn, 1) := by decide +kernel
theorem dX6_deed_0 : decode cX6_deed 0 = .ok (.aload_n 0, 1) := by decide +kernel
theorem dX6_deed_1 : decode cX6_deed 1 = .ok (.iconst 2, 1) := by decide +kernel
theorem dX6_deed_2 : decode cX6_deed 2 = .ok (.iload_n 1, 1) := by decide +kernel
theorem dX6_deed_3 : decode cX6_deed 3 = .ok (.invokevirtual 182, 3) := by decide +kernel
theorem dX6_deed_6 : decode cX6_deed 6 = .ok (.iload_n 2, 1) := by decide +kernel
theorem dX6_deed_7 : decode cX6_deed 7 = .ok (.iload_n 3, 1) := by decide +kernel
theorem dX6_deed_8 : decode cX6_deed 8 = .ok (.iconst 5, 1) := by decide +kernel
theorem dX6_deed_9 : decode cX6_deed 9 = .ok (.invokestatic 185, 3) := by decide +kernel
theorem dX6_deed_12 : decode cX6_deed 12 = .ok (.ireturn, 1) := by decide +kernel
theorem dX6_drawn_0 : decode cX6_drawn 0 = .ok (.aload_n 0, 1) := by decide +kernel
theorem dX6_drawn_1 : decode cX6_drawn 1 = .ok (.iload_n 1, 1) := by decide +kernel
theorem dX6_drawn_2 : decode cX6_drawn 2 = .ok (.invokevirtual 129, 3) := by decide +kernel
theorem dX6_drawn_5 : decode cX6_drawn 5 = .ok (.astore 5, 2) := by decide +kernel
theorem dX6_drawn_7 : decode cX6_drawn 7 = .ok (.aload 5, 2) := by decide +kernel
theorem dX6_drawn_9 : decode cX6_drawn 9 = .ok (.ifnull 13, 3) := by decide +kernel
theorem dX6_drawn_12 : decode cX6_drawn 12 = .ok (.iload_n 3, 1) := by decide +kernel
theorem dX6_drawn_13 : decode cX6_drawn 13 = .ok (.ifCond .lt 9, 3) := by decide +kernel
theorem dX6_drawn_16 : decode cX6_drawn 16 = .ok (.iload_n 3, 1) := by decide +kernel
theorem dX6_drawn_17 : decode cX6_drawn 17 = .ok (.bipush 60, 2) := by decide +kernel
theorem dX6_drawn_19 : decode cX6_drawn 19 = .ok (.if_icmp .le 6, 3) := by decide +kernel
theorem dX6_drawn_22 : decode cX6_drawn 22 = .ok (.bipush (-2), 2) := by decide +kernel
theorem dX6_drawn_24 : decode cX6_drawn 24 = .ok (.ireturn, 1) := by decide +kernel
theorem dX6_drawn_25 : decode cX6_drawn 25 = .ok (.aload_n 0, 1) := by decide +kernel
theorem dX6_drawn_26 : decode cX6_drawn 26 = .ok (.getfield 30, 3) := by decide +kernel
theorem dX6_drawn_29 : decode cX6_drawn 29 = .ok (.aload 5, 2) := by decide +kernel
theorem dX6_drawn_31 : decode cX6_drawn 31 = .ok (.iload_n 2, 1) := by decide +kernel
theorem dX6_drawn_32 : decode cX6_drawn 32 = .ok (.iload_n 3, 1) := by decide +kernel
theorem dX6_drawn_33 : decode cX6_drawn 33 = .ok (.invokevirtual 265, 3) := by decide +kernel
theorem dX6_drawn_36 : decode cX6_drawn 36 = .ok (.iload 4, 2) := by decide +kernel
theorem dX6_drawn_38 : decode cX6_drawn 38 = .ok (.tableswitch 107 0 6 #[42, 53, 64, 75, 83, 91, 99], 42) := by decide +kernel
theorem dX6_drawn_80 : decode cX6_drawn 80 = .ok (.aload_n 0, 1) := by decide +kernel
theorem dX6_drawn_81 : decode cX6_drawn 81 = .ok (.getfield 30, 3) := by decide +kernel
theorem dX6_drawn_84 : decode cX6_drawn 84 = .ok (.getfield 247, 3) := by decide +kernel
theorem dX6_drawn_87 : decode cX6_drawn 87 = .ok (.getfield 248, 3) := by decide +kernel
theorem dX6_drawn_90 : decode cX6_drawn 90 = .ok (.ireturn, 1) := by decide +kernel
theorem dX6_drawn_91 : decode cX6_drawn 91 = .ok (.aload_n 0, 1) := by decide +kernel
theorem dX6_drawn_92 : decode cX6_drawn 92 = .ok (.getfield 30, 3) := by decide +kernel
theorem dX6_drawn_95 : decode cX6_drawn 95 = .ok (.getfield 247, 3) := by decide +kernel
theorem dX6_drawn_98 : decode cX6_drawn 98 = .ok (.getfield 249, 3) := by decide +kernel
theorem dX6_drawn_101 : decode cX6_drawn 101 = .ok (.ireturn, 1) := by decide +kernel
theorem dX6_drawn_102 : decode cX6_drawn 102 = .ok (.aload_n 0, 1) := by decide +kernel
theorem dX6_drawn_103 : decode cX6_drawn 103 = .ok (.getfield 30, 3) := by decide +kernel
theorem dX6_drawn_106 : decode cX6_drawn 106 = .ok (.getfield 247, 3) := by decide +kernel
theorem dX6_drawn_109 : decode cX6_drawn 109 = .ok (.getfield 250, 3) := by decide +kernel
theorem dX6_drawn_112 : decode cX6_drawn 112 = .ok (.ireturn, 1) := by decide +kernel
theorem dX6_drawn_113 : decode cX6_drawn 113 = .ok (.aload_n 0, 1) := by decide +kernel
theorem dX6_drawn_114 : decode cX6_drawn 114 = .ok (.getfield 30, 3) := by decide +kernel
theorem dX6_drawn_117 : decode cX6_drawn 117 = .ok (.getfield 241, 3) := by decide +kernel
theorem dX6_drawn_120 : decode cX6_drawn 120 = .ok (.ireturn, 1) := by decide +kernel
theorem dX6_drawn_121 : decode cX6_drawn 121 = .ok (.aload_n 0, 1) := by decide +kernel
theorem dX6_drawn_122 : decode cX6_drawn 122 = .ok (.getfield 30, 3) := by decide +kernel
theorem dX6_drawn_125 : decode cX6_drawn 125 = .ok (.getfield 251, 3) := by decide +kernel
theorem dX6_drawn_128 : decode cX6_drawn 128 = .ok (.ireturn, 1) := by decide +kernel
theorem dX6_drawn_129 : decode cX6_drawn 129 = .ok (.aload_n 0, 1) := by decide +kernel
theorem dX6_drawn_130 : decode cX6_drawn 130 = .ok (.getfield 30, 3) := by decide +kernel
theorem dX6_drawn_133 : decode cX6_drawn 133 = .ok (.getfield 269, 3) := by decide +kernel
theorem dX6_drawn_136 : decode cX6_drawn 136 = .ok (.ireturn, 1) := by decide +kernel
theorem dX6_drawn_137 : decode cX6_drawn 137 = .ok (.aload_n 0, 1) := by decide +kernel
theorem dX6_drawn_138 : decode cX6_drawn 138 = .ok (.getfield 30, 3) := by decide +kernel
theorem dX6_drawn_141 : decode cX6_drawn 141 = .ok (.getfield 272, 3) := by decide +kernel
theorem dX6_drawn_144 : decode cX6_drawn 144 = .ok (.ireturn, 1) := by decide +kernel
theorem dX6_drawn_145 : decode cX6_drawn 145 = .ok (.bipush (-2), 2) := by decide +kernel
theorem dX6_drawn_147 : decode cX6_drawn 147 = .ok (.ireturn, 1) := by decide +kernel
theorem dX6_end_0 : decode cX6_end 0 = .ok (.iload_n 1, 1) := by decide +kernel
theorem dX6_end_1 : decode cX6_end 1 = .ok (.ifCond .lt 14, 3) := by decide +kernel
theorem dX6_end_4 : decode cX6_end 4 = .ok (.iload_n 1, 1) := by decide +kernel
theorem dX6_end_5 : decode cX6_end 5 = .ok (.aload_n 0, 1) := by decide +kernel
theorem dX6_end_6 : decode cX6_end 6 = .ok (.getfield 10, 3) := by decide +kernel
theorem dX6_end_9 : decode cX6_end 9 = .ok (.getfield 51, 3) := by decide +kernel
theorem dX6_end_12 : decode cX6_end 12 = .ok (.if_icmp .le 5, 3) := by decide +kernel
theorem dX6_end_15 : decode cX6_end 15 = .ok (.iconst (-1), 1) := by decide +kernel
theorem dX6_end_16 : decode cX6_end 16 = .ok (.ireturn, 1) := by decide +kernel
theorem dX6_end_17 : decode cX6_end 17 = .ok (.aload_n 0, 1) := by decide +kernel
theorem dX6_end_18 : decode cX6_end 18 = .ok (.getfield 10, 3) := by decide +kernel
theorem dX6_end_21 : decode cX6_end 21 = .ok (.iload_n 1, 1) := by decide +kernel
theorem dX6_end_22 : decode cX6_end 22 = .ok (.putfield 51, 3) := by decide +kernel
theorem dX6_end_25 : decode cX6_end 25 = .ok (.iload_n 1, 1) := by decide +kernel
theorem dX6_end_26 : decode cX6_end 26 = .ok (.ireturn, 1) := by decide +kernel
theorem dX6_fault_0 : decode cX6_fault 0 = .ok (.iload_n 1, 1) := by decide +kernel
theorem dX6_fault_1 : decode cX6_fault 1 = .ok (.ifCond .ne 11, 3) := by decide +kernel
theorem dX6_fault_4 : decode cX6_fault 4 = .ok (.aload_n 0, 1) := by decide +kernel
theorem dX6_fault_5 : decode cX6_fault 5 = .ok (.getfield 10, 3) := by decide +kernel
theorem dX6_fault_8 : decode cX6_fault 8 = .ok (.getfield 70, 3) := by decide +kernel
theorem dX6_fault_11 : decode cX6_fault 11 = .ok (.ireturn, 1) := by decide +kernel
theorem dX6_fault_12 : decode cX6_fault 12 = .ok (.iload_n 1, 1) := by decide +kernel
theorem dX6_fault_13 : decode cX6_fault 13 = .ok (.iconst 1, 1) := by decide +kernel
theorem dX6_fault_14 : decode cX6_fault 14 = .ok (.if_icmp .ne 13, 3) := by decide +kernel
theorem dX6_fault_17 : decode cX6_fault 17 = .ok (.aload_n 0, 1) := by decide +kernel
theorem dX6_fault_18 : decode cX6_fault 18 = .ok (.getfield 10, 3) := by decide +kernel
theorem dX6_fault_21 : decode cX6_fault 21 = .ok (.getfield 73, 3) := by decide +kernel
theorem dX6_fault_24 : decode cX6_fault 24 = .ok (.goto 4, 3) := by decide +kernel
theorem dX6_fault_27 : decode cX6_fault 27 = .ok (.iconst (-1), 1) := by decide +kernel
theorem dX6_fault_28 : decode cX6_fault 28 = .ok (.ireturn, 1) := by decide +kernel
theorem dX6_feed_0 : decode cX6_feed 0 = .ok (.aload_n 0, 1) := by decide +kernel
theorem dX6_feed_1 : decode cX6_feed 1 = .ok (.getfield 10, 3) := by decide +kernel
theorem dX6_feed_4 : decode cX6_feed 4 = .ok (.getfield 51, 3) := by decide +kernel
theorem dX6_feed_7 : decode cX6_feed 7 = .ok (.bipush 20, 2) := by decide +kernel
theorem dX6_feed_9 : decode cX6_feed 9 = .ok (.iadd, 1) := by decide +kernel
theorem dX6_feed_10 : decode cX6_feed 10 = .ok (.sipush 600, 3) := by decide +kernel
theorem dX6_feed_13 : decode cX6_feed 13 = .ok (.if_icmp .le 5, 3) := by decide +kernel
theorem dX6_feed_16 : decode cX6_feed 16 = .ok (.iconst (-1), 1) := by decide +kernel
theorem dX6_feed_17 : decode cX6_feed 17 = .ok (.ireturn, 1) := by decide +kernel
theorem dX6_feed_18 : decode cX6_feed 18 = .ok (.aload_n 0, 1) := by decide +kernel
theorem dX6_feed_19 : decode cX6_feed 19 = .ok (.iload_n 1, 1) := by decide +kernel
theorem dX6_feed_20 : decode cX6_feed 20 = .ok (.invokevirtual 55, 3) := by decide +kernel
theorem dX6_feed_23 : decode cX6_feed 23 = .ok (.aload_n 0, 1) := by decide +kernel
theorem dX6_feed_24 : decode cX6_feed 24 = .ok (.iload_n 2, 1) := by decide +kernel
theorem dX6_feed_25 : decode cX6_feed 25 = .ok (.invokevirtual 55, 3) := by decide +kernel
theorem dX6_feed_28 : decode cX6_feed 28 = .ok (.aload_n 0, 1) := by decide +kernel
theorem dX6_feed_29 : decode cX6_feed 29 = .ok (.iload_n 3, 1) := by decide +kernel
theorem dX6_feed_30 : decode cX6_feed 30 = .ok (.invokevirtual 55, 3) := by decide +kernel
theorem dX6_feed_33 : decode cX6_feed 33 = .ok (.aload_n 0, 1) := by decide +kernel
theorem dX6_feed_34 : decode cX6_feed 34 = .ok (.iload 4, 2) := by decide +kernel
theorem dX6_feed_36 : decode cX6_feed 36 = .ok (.invokevirtual 55, 3) := by decide +kernel
theorem dX6_feed_39 : decode cX6_feed 39 = .ok (.aload_n 0, 1) := by decide +kernel
theorem dX6_feed_40 : decode cX6_feed 40 = .ok (.iload 5, 2) := by decide +kernel
theorem dX6_feed_42 : decode cX6_feed 42 = .ok (.invokevirtual 55, 3) := by decide +kernel
theorem dX6_feed_45 : decode cX6_feed 45 = .ok (.aload_n 0, 1) := by decide +kernel
theorem dX6_feed_46 : decode cX6_feed 46 = .ok (.getfield 10, 3) := by decide +kernel
theorem dX6_feed_49 : decode cX6_feed 49 = .ok (.getfield 51, 3) := by decide +kernel
theorem dX6_feed_52 : decode cX6_feed 52 = .ok (.ireturn, 1) := by decide +kernel
theorem dX6_feedNumber_0 : decode cX6_feedNumber 0 = .ok (.bipush 24, 2) := by decide +kernel
theorem dX6_feedNumber_2 : decode cX6_feedNumber 2 = .ok (.istore_n 2, 1) := by decide +kernel
theorem dX6_feedNumber_3 : decode cX6_feedNumber 3 = .ok (.iload_n 2, 1) := by decide +kernel
theorem dX6_feedNumber_4 : decode cX6_feedNumber 4 = .ok (.ifCond .lt 46, 3) := by decide +kernel
theorem dX6_feedNumber_7 : decode cX6_feedNumber 7 = .ok (.aload_n 0, 1) := by decide +kernel
theorem dX6_feedNumber_8 : decode cX6_feedNumber 8 = .ok (.getfield 10, 3) := by decide +kernel
theorem dX6_feedNumber_11 : decode cX6_feedNumber 11 = .ok (.getfield 59, 3) := by decide +kernel
theorem dX6_feedNumber_14 : decode cX6_feedNumber 14 = .ok (.aload_n 0, 1) := by decide +kernel
theorem dX6_feedNumber_15 : decode cX6_feedNumber 15 = .ok (.getfield 10, 3) := by decide +kernel
theorem dX6_feedNumber_18 : decode cX6_feedNumber 18 = .ok (.getfield 51, 3) := by decide +kernel
theorem dX6_feedNumber_21 : decode cX6_feedNumber 21 = .ok (.iload_n 1, 1) := by decide +kernel
theorem dX6_feedNumber_22 : decode cX6_feedNumber 22 = .ok (.iload_n 2, 1) := by decide +kernel
theorem dX6_feedNumber_23 : decode cX6_feedNumber 23 = .ok (.iushr, 1) := by decide +kernel
theorem dX6_feedNumber_24 : decode cX6_feedNumber 24 = .ok (.sipush 255, 3) := by decide +kernel
theorem dX6_feedNumber_27 : decode cX6_feedNumber 27 = .ok (.iand, 1) := by decide +kernel
theorem dX6_feedNumber_28 : decode cX6_feedNumber 28 = .ok (.invokestatic 62, 3) := by decide +kernel
theorem dX6_feedNumber_31 : decode cX6_feedNumber 31 = .ok (.aload_n 0, 1) := by decide +kernel
theorem dX6_feedNumber_32 : decode cX6_feedNumber 32 = .ok (.getfield 10, 3) := by decide +kernel
theorem dX6_feedNumber_35 : decode cX6_feedNumber 35 = .ok (.dup, 1) := by decide +kernel
theorem dX6_feedNumber_36 : decode cX6_feedNumber 36 = .ok (.getfield 51, 3) := by decide +kernel
theorem dX6_feedNumber_39 : decode cX6_feedNumber 39 = .ok (.iconst 1, 1) := by decide +kernel
theorem dX6_feedNumber_40 : decode cX6_feedNumber 40 = .ok (.iadd, 1) := by decide +kernel
theorem dX6_feedNumber_41 : decode cX6_feedNumber 41 = .ok (.putfield 51, 3) := by decide +kernel
theorem dX6_feedNumber_44 : decode cX6_feedNumber 44 = .ok (.iinc 2 (-8), 3) := by decide +kernel
theorem dX6_feedNumber_47 : decode cX6_feedNumber 47 = .ok (.goto (-44), 3) := by decide +kernel
theorem dX6_feedNumber_50 : decode cX6_feedNumber 50 = .ok (.return_, 1) := by decide +kernel
theorem dX6_fits_0 : decode cX6_fits 0 = .ok (.aload_n 0, 1) := by decide +kernel
theorem dX6_fits_1 : decode cX6_fits 1 = .ok (.iload_n 1, 1) := by decide +kernel
theorem dX6_fits_2 : decode cX6_fits 2 = .ok (.iload_n 3, 1) := by decide +kernel
theorem dX6_fits_3 : decode cX6_fits 3 = .ok (.iload 4, 2) := by decide +kernel
theorem dX6_fits_5 : decode cX6_fits 5 = .ok (.iconst 0, 1) := by decide +kernel
theorem dX6_fits_6 : decode cX6_fits 6 = .ok (.invokevirtual 200, 3) := by decide +kernel
theorem dX6_fits_9 : decode cX6_fits 9 = .ok (.astore 6, 2) := by decide +kernel
theorem dX6_fits_11 : decode cX6_fits 11 = .ok (.aload_n 0, 1) := by decide +kernel
theorem dX6_fits_12 : decode cX6_fits 12 = .ok (.iconst 3, 1) := by decide +kernel
theorem dX6_fits_13 : decode cX6_fits 13 = .ok (.iload_n 2, 1) := by decide +kernel
theorem dX6_fits_14 : decode cX6_fits 14 = .ok (.invokevirtual 182, 3) := by decide +kernel
theorem dX6_fits_17 : decode cX6_fits 17 = .ok (.astore 7, 2) := by decide +kernel
theorem dX6_fits_19 : decode cX6_fits 19 = .ok (.aload 6, 2) := by decide +kernel
theorem dX6_fits_21 : decode cX6_fits 21 = .ok (.ifnull 18, 3) := by decide +kernel
theorem dX6_fits_24 : decode cX6_fits 24 = .ok (.aload 7, 2) := by decide +kernel
theorem dX6_fits_26 : decode cX6_fits 26 = .ok (.ifnull 13, 3) := by decide +kernel
theorem dX6_fits_29 : decode cX6_fits 29 = .ok (.aload 6, 2) := by decide +kernel
theorem dX6_fits_31 : decode cX6_fits 31 = .ok (.aload 7, 2) := by decide +kernel
theorem dX6_fits_33 : decode cX6_fits 33 = .ok (.invokestatic 398, 3) := by decide +kernel
theorem dX6_fits_36 : decode cX6_fits 36 = .ok (.ifCond .ne 6, 3) := by decide +kernel
theorem dX6_fits_39 : decode cX6_fits 39 = .ok (.bipush (-2), 2) := by decide +kernel
theorem dX6_fits_41 : decode cX6_fits 41 = .ok (.ireturn, 1) := by decide +kernel
theorem dX6_fits_42 : decode cX6_fits 42 = .ok (.iload 5, 2) := by decide +kernel
theorem dX6_fits_44 : decode cX6_fits 44 = .ok (.tableswitch 187 0 22 #[108, 120, 120, 142, 187, 187, 187, 187, 187, 187, 153, 153, 153, 187, 187, 187, 187, 187, 187, 187, 170, 170, 170], 108) := by decide +kernel
theorem dX6_fits_152 : decode cX6_fits 152 = .ok (.aload 6, 2) := by decide +kernel
theorem dX6_fits_154 : decode cX6_fits 154 = .ok (.aload 7, 2) := by decide +kernel
theorem dX6_fits_156 : decode cX6_fits 156 = .ok (.iload_n 3, 1) := by decide +kernel
theorem dX6_fits_157 : decode cX6_fits 157 = .ok (.iload 4, 2) := by decide +kernel
theorem dX6_fits_159 : decode cX6_fits 159 = .ok (.iconst 0, 1) := by decide +kernel
theorem dX6_fits_160 : decode cX6_fits 160 = .ok (.invokestatic 402, 3) := by decide +kernel
theorem dX6_fits_163 : decode cX6_fits 163 = .ok (.ireturn, 1) := by decide +kernel
theorem dX6_fits_164 : decode cX6_fits 164 = .ok (.aload 6, 2) := by decide +kernel
theorem dX6_fits_166 : decode cX6_fits 166 = .ok (.aload 7, 2) := by decide +kernel
theorem dX6_fits_168 : decode cX6_fits 168 = .ok (.iload_n 3, 1) := by decide +kernel
theorem dX6_fits_169 : decode cX6_fits 169 = .ok (.iload 4, 2) := by decide +kernel
theorem dX6_fits_171 : decode cX6_fits 171 = .ok (.iload 5, 2) := by decide +kernel
theorem dX6_fits_173 : decode cX6_fits 173 = .ok (.iconst 2, 1) := by decide +kernel
theorem dX6_fits_174 : decode cX6_fits 174 = .ok (.if_icmp .ne 7, 3) := by decide +kernel
theorem dX6_fits_177 : decode cX6_fits 177 = .ok (.iconst 1, 1) := by decide +kernel
theorem dX6_fits_178 : decode cX6_fits 178 = .ok (.goto 4, 3) := by decide +kernel
theorem dX6_fits_181 : decode cX6_fits 181 = .ok (.iconst 0, 1) := by decide +kernel
theorem dX6_fits_182 : decode cX6_fits 182 = .ok (.invokestatic 405, 3) := by decide +kernel
theorem dX6_fits_185 : decode cX6_fits 185 = .ok (.ireturn, 1) := by decide +kernel
theorem dX6_fits_186 : decode cX6_fits 186 = .ok (.aload 6, 2) := by decide +kernel
theorem dX6_fits_188 : decode cX6_fits 188 = .ok (.aload 7, 2) := by decide +kernel
theorem dX6_fits_190 : decode cX6_fits 190 = .ok (.iload_n 3, 1) := by decide +kernel
theorem dX6_fits_191 : decode cX6_fits 191 = .ok (.iload 4, 2) := by decide +kernel
theorem dX6_fits_193 : decode cX6_fits 193 = .ok (.invokestatic 408, 3) := by decide +kernel
theorem dX6_fits_196 : decode cX6_fits 196 = .ok (.ireturn, 1) := by decide +kernel
theorem dX6_fits_197 : decode cX6_fits 197 = .ok (.aload 6, 2) := by decide +kernel
theorem dX6_fits_199 : decode cX6_fits 199 = .ok (.aload 7, 2) := by decide +kernel
theorem dX6_fits_201 : decode cX6_fits 201 = .ok (.iload_n 3, 1) := by decide +kernel
theorem dX6_fits_202 : decode cX6_fits 202 = .ok (.iload 4, 2) := by decide +kernel
theorem dX6_fits_204 : decode cX6_fits 204 = .ok (.iload 5, 2) := by decide +kernel
theorem dX6_fits_206 : decode cX6_fits 206 = .ok (.bipush 10, 2) := by decide +kernel
theorem dX6_fits_208 : decode cX6_fits 208 = .ok (.isub, 1) := by decide +kernel
theorem dX6_fits_209 : decode cX6_fits 209 = .ok (.iconst 0, 1) := by decide +kernel
theorem dX6_fits_210 : decode cX6_fits 210 = .ok (.invokestatic 411, 3) := by decide +kernel
theorem dX6_fits_213 : decode cX6_fits 213 = .ok (.ireturn, 1) := by decide +kernel
theorem dX6_fits_214 : decode cX6_fits 214 = .ok (.aload 6, 2) := by decide +kernel
theorem dX6_fits_216 : decode cX6_fits 216 = .ok (.aload 7, 2) := by decide +kernel
theorem dX6_fits_218 : decode cX6_fits 218 = .ok (.iload_n 3, 1) := by decide +kernel
theorem dX6_fits_219 : decode cX6_fits 219 = .ok (.iload 4, 2) := by decide +kernel
theorem dX6_fits_221 : decode cX6_fits 221 = .ok (.iload 5, 2) := by decide +kernel
theorem dX6_fits_223 : decode cX6_fits 223 = .ok (.bipush 20, 2) := by decide +kernel
theorem dX6_fits_225 : decode cX6_fits 225 = .ok (.isub, 1) := by decide +kernel
theorem dX6_fits_226 : decode cX6_fits 226 = .ok (.iconst 1, 1) := by decide +kernel
theorem dX6_fits_227 : decode cX6_fits 227 = .ok (.invokestatic 411, 3) := by decide +kernel
theorem dX6_fits_230 : decode cX6_fits 230 = .ok (.ireturn, 1) := by decide +kernel
theorem dX6_fits_231 : decode cX6_fits 231 = .ok (.bipush (-2), 2) := by decide +kernel
theorem dX6_fits_233 : decode cX6_fits 233 = .ok (.ireturn, 1) := by decide +kernel
theorem dX6_image_0 : decode cX6_image 0 = .ok (.iload_n 1, 1) := by decide +kernel
theorem dX6_image_1 : decode cX6_image 1 = .ok (.ifCond .lt 12, 3) := by decide +kernel
theorem dX6_image_4 : decode cX6_image 4 = .ok (.iload_n 1, 1) := by decide +kernel
theorem dX6_image_5 : decode cX6_image 5 = .ok (.aload_n 0, 1) := by decide +kernel
theorem dX6_image_6 : decode cX6_image 6 = .ok (.getfield 16, 3) := by decide +kernel
theorem dX6_image_9 : decode cX6_image 9 = .ok (.arraylength, 1) := by decide +kernel
theorem dX6_image_10 : decode cX6_image 10 = .ok (.if_icmp .lt 5, 3) := by decide +kernel
theorem dX6_image_13 : decode cX6_image 13 = .ok (.iconst 0, 1) := by decide +kernel
theorem dX6_image_14 : decode cX6_image 14 = .ok (.ireturn, 1) := by decide +kernel
theorem dX6_image_15 : decode cX6_image 15 = .ok (.aload_n 0, 1) := by decide +kernel
theorem dX6_image_16 : decode cX6_image 16 = .ok (.getfield 16, 3) := by decide +kernel
theorem dX6_image_19 : decode cX6_image 19 = .ok (.iload_n 1, 1) := by decide +kernel
theorem dX6_image_20 : decode cX6_image 20 = .ok (.aaload, 1) := by decide +kernel
theorem dX6_image_21 : decode cX6_image 21 = .ok (.ifnonnull 13, 3) := by decide +kernel
theorem dX6_image_24 : decode cX6_image 24 = .ok (.new 7, 3) := by decide +kernel
theorem dX6_image_27 : decode cX6_image 27 = .ok (.dup, 1) := by decide +kernel
theorem dX6_image_28 : decode cX6_image 28 = .ok (.invokespecial 9, 3) := by decide +kernel
theorem dX6_image_31 : decode cX6_image 31 = .ok (.goto 9, 3) := by decide +kernel
theorem dX6_image_34 : decode cX6_image 34 = .ok (.aload_n 0, 1) := by decide +kernel
theorem dX6_image_35 : decode cX6_image 35 = .ok (.getfield 16, 3) := by decide +kernel
theorem dX6_image_38 : decode cX6_image 38 = .ok (.iload_n 1, 1) := by decide +kernel
theorem dX6_image_39 : decode cX6_image 39 = .ok (.aaload, 1) := by decide +kernel
theorem dX6_image_40 : decode cX6_image 40 = .ok (.astore_n 2, 1) := by decide +kernel
theorem dX6_image_41 : decode cX6_image 41 = .ok (.aload_n 2, 1) := by decide +kernel
theorem dX6_image_42 : decode cX6_image 42 = .ok (.aload_n 0, 1) := by decide +kernel
theorem dX6_image_43 : decode cX6_image 43 = .ok (.getfield 10, 3) := by decide +kernel
theorem dX6_image_46 : decode cX6_image 46 = .ok (.invokevirtual 125, 3) := by decide +kernel
theorem dX6_image_49 : decode cX6_image 49 = .ok (.aload_n 0, 1) := by decide +kernel
theorem dX6_image_50 : decode cX6_image 50 = .ok (.getfield 16, 3) := by decide +kernel
theorem dX6_image_53 : decode cX6_image 53 = .ok (.iload_n 1, 1) := by decide +kernel
theorem dX6_image_54 : decode cX6_image 54 = .ok (.aload_n 2, 1) := by decide +kernel
theorem dX6_image_55 : decode cX6_image 55 = .ok (.aastore, 1) := by decide +kernel
theorem dX6_image_56 : decode cX6_image 56 = .ok (.iconst 1, 1) := by decide +kernel
theorem dX6_image_57 : decode cX6_image 57 = .ok (.ireturn, 1) := by decide +kernel
theorem dX6_init_0 : decode cX6_init 0 = .ok (.aload_n 0, 1) := by decide +kernel
theorem dX6_init_1 : decode cX6_init 1 = .ok (.invokespecial 1, 3) := by decide +kernel
theorem dX6_init_4 : decode cX6_init 4 = .ok (.aload_n 0, 1) := by decide +kernel
theorem dX6_init_5 : decode cX6_init 5 = .ok (.new 7, 3) := by decide +kernel
theorem dX6_init_8 : decode cX6_init 8 = .ok (.dup, 1) := by decide +kernel
theorem dX6_init_9 : decode cX6_init 9 = .ok (.invokespecial 9, 3) := by decide +kernel
theorem dX6_init_12 : decode cX6_init 12 = .ok (.putfield 10, 3) := by decide +kernel
theorem dX6_init_15 : decode cX6_init 15 = .ok (.aload_n 0, 1) := by decide +kernel
theorem dX6_init_16 : decode cX6_init 16 = .ok (.iconst 3, 1) := by decide +kernel
theorem dX6_init_17 : decode cX6_init 17 = .ok (.anewarray 7, 3) := by decide +kernel
theorem dX6_init_20 : decode cX6_init 20 = .ok (.putfield 16, 3) := by decide +kernel
theorem dX6_init_23 : decode cX6_init 23 = .ok (.aload_n 0, 1) := by decide +kernel
theorem dX6_init_24 : decode cX6_init 24 = .ok (.new 20, 3) := by decide +kernel
theorem dX6_init_27 : decode cX6_init 27 = .ok (.dup, 1) := by decide +kernel
theorem dX6_init_28 : decode cX6_init 28 = .ok (.invokespecial 22, 3) := by decide +kernel
theorem dX6_init_31 : decode cX6_init 31 = .ok (.putfield 23, 3) := by decide +kernel
theorem dX6_init_34 : decode cX6_init 34 = .ok (.aload_n 0, 1) := by decide +kernel
theorem dX6_init_35 : decode cX6_init 35 = .ok (.new 27, 3) := by decide +kernel
theorem dX6_init_38 : decode cX6_init 38 = .ok (.dup, 1) := by decide +kernel
theorem dX6_init_39 : decode cX6_init 39 = .ok (.invokespecial 29, 3) := by decide +kernel
theorem dX6_init_42 : decode cX6_init 42 = .ok (.putfield 30, 3) := by decide +kernel
theorem dX6_init_45 : decode cX6_init 45 = .ok (.aload_n 0, 1) := by decide +kernel
theorem dX6_init_46 : decode cX6_init 46 = .ok (.new 34, 3) := by decide +kernel
theorem dX6_init_49 : decode cX6_init 49 = .ok (.dup, 1) := by decide +kernel
theorem dX6_init_50 : decode cX6_init 50 = .ok (.invokespecial 36, 3) := by decide +kernel
theorem dX6_init_53 : decode cX6_init 53 = .ok (.putfield 37, 3) := by decide +kernel
theorem dX6_init_56 : decode cX6_init 56 = .ok (.aload_n 0, 1) := by decide +kernel
theorem dX6_init_57 : decode cX6_init 57 = .ok (.bipush 40, 2) := by decide +kernel
theorem dX6_init_59 : decode cX6_init 59 = .ok (.newarray .int, 2) := by decide +kernel
theorem dX6_init_61 : decode cX6_init 61 = .ok (.putfield 41, 3) := by decide +kernel
theorem dX6_init_64 : decode cX6_init 64 = .ok (.aload_n 0, 1) := by decide +kernel
theorem dX6_init_65 : decode cX6_init 65 = .ok (.sipush 216, 3) := by decide +kernel
theorem dX6_init_68 : decode cX6_init 68 = .ok (.newarray .int, 2) := by decide +kernel
theorem dX6_init_70 : decode cX6_init 70 = .ok (.putfield 45, 3) := by decide +kernel
theorem dX6_init_73 : decode cX6_init 73 = .ok (.aload_n 0, 1) := by decide +kernel
theorem dX6_init_74 : decode cX6_init 74 = .ok (.sipush 1000, 3) := by decide +kernel
theorem dX6_init_77 : decode cX6_init 77 = .ok (.newarray .int, 2) := by decide +kernel
theorem dX6_init_79 : decode cX6_init 79 = .ok (.putfield 48, 3) := by decide +kernel
theorem dX6_init_82 : decode cX6_init 82 = .ok (.return_, 1) := by decide +kernel
theorem dX6_isAmount_0 : decode cX6_isAmount 0 = .ok (.iload_n 0, 1) := by decide +kernel
theorem dX6_isAmount_1 : decode cX6_isAmount 1 = .ok (.ifCond .lt 13, 3) := by decide +kernel
theorem dX6_isAmount_4 : decode cX6_isAmount 4 = .ok (.iload_n 0, 1) := by decide +kernel
theorem dX6_isAmount_5 : decode cX6_isAmount 5 = .ok (.bipush 10, 2) := by decide +kernel
theorem dX6_isAmount_7 : decode cX6_isAmount 7 = .ok (.if_icmp .ge 7, 3) := by decide +kernel
theorem dX6_isAmount_10 : decode cX6_isAmount 10 = .ok (.iconst 1, 1) := by decide +kernel
theorem dX6_isAmount_11 : decode cX6_isAmount 11 = .ok (.goto 4, 3) := by decide +kernel
theorem dX6_isAmount_14 : decode cX6_isAmount 14 = .ok (.iconst 0, 1) := by decide +kernel
theorem dX6_isAmount_15 : decode cX6_isAmount 15 = .ok (.ireturn, 1) := by decide +kernel
theorem dX6_isSeason_0 : decode cX6_isSeason 0 = .ok (.iload_n 0, 1) := by decide +kernel
theorem dX6_isSeason_1 : decode cX6_isSeason 1 = .ok (.ifCond .lt 12, 3) := by decide +kernel
theorem dX6_isSeason_4 : decode cX6_isSeason 4 = .ok (.iload_n 0, 1) := by decide +kernel
theorem dX6_isSeason_5 : decode cX6_isSeason 5 = .ok (.iconst 4, 1) := by decide +kernel
theorem dX6_isSeason_6 : decode cX6_isSeason 6 = .ok (.if_icmp .ge 7, 3) := by decide +kernel
theorem dX6_isSeason_9 : decode cX6_isSeason 9 = .ok (.iconst 1, 1) := by decide +kernel
theorem dX6_isSeason_10 : decode cX6_isSeason 10 = .ok (.goto 4, 3) := by decide +kernel
theorem dX6_isSeason_13 : decode cX6_isSeason 13 = .ok (.iconst 0, 1) := by decide +kernel
theorem dX6_isSeason_14 : decode cX6_isSeason 14 = .ok (.ireturn, 1) := by decide +kernel
theorem dX6_keep_0 : decode cX6_keep 0 = .ok (.iload_n 1, 1) := by decide +kernel
theorem dX6_keep_1 : decode cX6_keep 1 = .ok (.ifCond .ne 30, 3) := by decide +kernel
theorem dX6_keep_4 : decode cX6_keep 4 = .ok (.aload_n 0, 1) := by decide +kernel
theorem dX6_keep_5 : decode cX6_keep 5 = .ok (.getfield 10, 3) := by decide +kernel
theorem dX6_keep_8 : decode cX6_keep 8 = .ok (.iload_n 2, 1) := by decide +kernel
theorem dX6_keep_9 : decode cX6_keep 9 = .ok (.invokevirtual 92, 3) := by decide +kernel
theorem dX6_keep_12 : decode cX6_keep 12 = .ok (.astore_n 3, 1) := by decide +kernel
theorem dX6_keep_13 : decode cX6_keep 13 = .ok (.aload_n 3, 1) := by decide +kernel
theorem dX6_keep_14 : decode cX6_keep 14 = .ok (.ifnull 14, 3) := by decide +kernel
theorem dX6_keep_17 : decode cX6_keep 17 = .ok (.aload_n 3, 1) := by decide +kernel
theorem dX6_keep_18 : decode cX6_keep 18 = .ok (.aload_n 0, 1) := by decide +kernel
theorem dX6_keep_19 : decode cX6_keep 19 = .ok (.getfield 23, 3) := by decide +kernel
theorem dX6_keep_22 : decode cX6_keep 22 = .ok (.getfield 96, 3) := by decide +kernel
theorem dX6_keep_25 : decode cX6_keep 25 = .ok (.invokevirtual 100, 3) := by decide +kernel
theorem dX6_keep_28 : decode cX6_keep 28 = .ok (.goto 28, 3) := by decide +kernel
theorem dX6_keep_31 : decode cX6_keep 31 = .ok (.aload_n 0, 1) := by decide +kernel
theorem dX6_keep_32 : decode cX6_keep 32 = .ok (.getfield 10, 3) := by decide +kernel
theorem dX6_keep_35 : decode cX6_keep 35 = .ok (.iload_n 1, 1) := by decide +kernel
theorem dX6_keep_36 : decode cX6_keep 36 = .ok (.iload_n 2, 1) := by decide +kernel
theorem dX6_keep_37 : decode cX6_keep 37 = .ok (.invokevirtual 106, 3) := by decide +kernel
theorem dX6_keep_40 : decode cX6_keep 40 = .ok (.astore_n 3, 1) := by decide +kernel
theorem dX6_keep_41 : decode cX6_keep 41 = .ok (.aload_n 3, 1) := by decide +kernel
theorem dX6_keep_42 : decode cX6_keep 42 = .ok (.ifnull 14, 3) := by decide +kernel
theorem dX6_keep_45 : decode cX6_keep 45 = .ok (.aload_n 3, 1) := by decide +kernel
theorem dX6_keep_46 : decode cX6_keep 46 = .ok (.aload_n 0, 1) := by decide +kernel
theorem dX6_keep_47 : decode cX6_keep 47 = .ok (.getfield 23, 3) := by decide +kernel
theorem dX6_keep_50 : decode cX6_keep 50 = .ok (.getfield 110, 3) := by decide +kernel
theorem dX6_keep_53 : decode cX6_keep 53 = .ok (.invokevirtual 114, 3) := by decide +kernel
theorem dX6_keep_56 : decode cX6_keep 56 = .ok (.aload_n 0, 1) := by decide +kernel
theorem dX6_keep_57 : decode cX6_keep 57 = .ok (.getfield 10, 3) := by decide +kernel
theorem dX6_keep_60 : decode cX6_keep 60 = .ok (.getfield 85, 3) := by decide +kernel
theorem dX6_keep_63 : decode cX6_keep 63 = .ok (.iload_n 1, 1) := by decide +kernel
theorem dX6_keep_64 : decode cX6_keep 64 = .ok (.aload_n 0, 1) := by decide +kernel
theorem dX6_keep_65 : decode cX6_keep 65 = .ok (.getfield 10, 3) := by decide +kernel
theorem dX6_keep_68 : decode cX6_keep 68 = .ok (.getfield 85, 3) := by decide +kernel
theorem dX6_keep_71 : decode cX6_keep 71 = .ok (.iload_n 1, 1) := by decide +kernel
theorem dX6_keep_72 : decode cX6_keep 72 = .ok (.invokestatic 88, 3) := by decide +kernel
theorem dX6_keep_75 : decode cX6_keep 75 = .ok (.iload_n 2, 1) := by decide +kernel
theorem dX6_keep_76 : decode cX6_keep 76 = .ok (.iconst 1, 1) := by decide +kernel
theorem dX6_keep_77 : decode cX6_keep 77 = .ok (.iadd, 1) := by decide +kernel
theorem dX6_keep_78 : decode cX6_keep 78 = .ok (.invokestatic 120, 3) := by decide +kernel
theorem dX6_keep_81 : decode cX6_keep 81 = .ok (.invokestatic 62, 3) := by decide +kernel
theorem dX6_keep_84 : decode cX6_keep 84 = .ok (.return_, 1) := by decide +kernel
theorem dX6_leak_0 : decode cX6_leak 0 = .ok (.aload_n 0, 1) := by decide +kernel
theorem dX6_leak_1 : decode cX6_leak 1 = .ok (.iconst 3, 1) := by decide +kernel
theorem dX6_leak_2 : decode cX6_leak 2 = .ok (.iload_n 1, 1) := by decide +kernel
theorem dX6_leak_3 : decode cX6_leak 3 = .ok (.invokevirtual 182, 3) := by decide +kernel
theorem dX6_leak_6 : decode cX6_leak 6 = .ok (.iload_n 2, 1) := by decide +kernel
theorem dX6_leak_7 : decode cX6_leak 7 = .ok (.iload_n 3, 1) := by decide +kernel
theorem dX6_leak_8 : decode cX6_leak 8 = .ok (.iconst 2, 1) := by decide +kernel
theorem dX6_leak_9 : decode cX6_leak 9 = .ok (.invokestatic 185, 3) := by decide +kernel
theorem dX6_leak_12 : decode cX6_leak 12 = .ok (.ireturn, 1) := by decide +kernel
theorem dX6_lobby_0 : decode cX6_lobby 0 = .ok (.iload 4, 2) := by decide +kernel
theorem dX6_lobby_2 : decode cX6_lobby 2 = .ok (.iload 5, 2) := by decide +kernel
theorem dX6_lobby_4 : decode cX6_lobby 4 = .ok (.iload 6, 2) := by decide +kernel
theorem dX6_lobby_6 : decode cX6_lobby 6 = .ok (.invokestatic 196, 3) := by decide +kernel
theorem dX6_lobby_9 : decode cX6_lobby 9 = .ok (.istore 8, 2) := by decide +kernel
theorem dX6_lobby_11 : decode cX6_lobby 11 = .ok (.aload_n 0, 1) := by decide +kernel
theorem dX6_lobby_12 : decode cX6_lobby 12 = .ok (.iload_n 1, 1) := by decide +kernel
theorem dX6_lobby_13 : decode cX6_lobby 13 = .ok (.iload_n 2, 1) := by decide +kernel
theorem dX6_lobby_14 : decode cX6_lobby 14 = .ok (.iload_n 3, 1) := by decide +kernel
theorem dX6_lobby_15 : decode cX6_lobby 15 = .ok (.iload 8, 2) := by decide +kernel
theorem dX6_lobby_17 : decode cX6_lobby 17 = .ok (.invokevirtual 200, 3) := by decide +kernel
theorem dX6_lobby_20 : decode cX6_lobby 20 = .ok (.astore 9, 2) := by decide +kernel
theorem dX6_lobby_22 : decode cX6_lobby 22 = .ok (.aload 9, 2) := by decide +kernel
theorem dX6_lobby_24 : decode cX6_lobby 24 = .ok (.ifnonnull 5, 3) := by decide +kernel
theorem dX6_lobby_27 : decode cX6_lobby 27 = .ok (.iconst (-1), 1) := by decide +kernel
theorem dX6_lobby_28 : decode cX6_lobby 28 = .ok (.ireturn, 1) := by decide +kernel
theorem dX6_lobby_29 : decode cX6_lobby 29 = .ok (.aload 9, 2) := by decide +kernel
theorem dX6_lobby_31 : decode cX6_lobby 31 = .ok (.iload_n 2, 1) := by decide +kernel
theorem dX6_lobby_32 : decode cX6_lobby 32 = .ok (.iload_n 3, 1) := by decide +kernel
theorem dX6_lobby_33 : decode cX6_lobby 33 = .ok (.iload 8, 2) := by decide +kernel
theorem dX6_lobby_35 : decode cX6_lobby 35 = .ok (.invokevirtual 207, 3) := by decide +kernel
theorem dX6_lobby_38 : decode cX6_lobby 38 = .ok (.istore 10, 2) := by decide +kernel
theorem dX6_lobby_40 : decode cX6_lobby 40 = .ok (.iconst 0, 1) := by decide +kernel
theorem dX6_lobby_41 : decode cX6_lobby 41 = .ok (.istore 11, 2) := by decide +kernel
theorem dX6_lobby_43 : decode cX6_lobby 43 = .ok (.iconst 0, 1) := by decide +kernel
theorem dX6_lobby_44 : decode cX6_lobby 44 = .ok (.istore 12, 2) := by decide +kernel
theorem dX6_lobby_46 : decode cX6_lobby 46 = .ok (.iload 12, 2) := by decide +kernel
theorem dX6_lobby_48 : decode cX6_lobby 48 = .ok (.aload 9, 2) := by decide +kernel
theorem dX6_lobby_50 : decode cX6_lobby 50 = .ok (.getfield 132, 3) := by decide +kernel
theorem dX6_lobby_53 : decode cX6_lobby 53 = .ok (.if_icmp .gt 61, 3) := by decide +kernel
theorem dX6_lobby_56 : decode cX6_lobby 56 = .ok (.iconst 0, 1) := by decide +kernel
theorem dX6_lobby_57 : decode cX6_lobby 57 = .ok (.istore 13, 2) := by decide +kernel
theorem dX6_lobby_59 : decode cX6_lobby 59 = .ok (.iload 13, 2) := by decide +kernel
theorem dX6_lobby_61 : decode cX6_lobby 61 = .ok (.aload 9, 2) := by decide +kernel
theorem dX6_lobby_63 : decode cX6_lobby 63 = .ok (.getfield 132, 3) := by decide +kernel
theorem dX6_lobby_66 : decode cX6_lobby 66 = .ok (.if_icmp .gt 42, 3) := by decide +kernel
theorem dX6_lobby_69 : decode cX6_lobby 69 = .ok (.aload 9, 2) := by decide +kernel
theorem dX6_lobby_71 : decode cX6_lobby 71 = .ok (.iload 10, 2) := by decide +kernel
theorem dX6_lobby_73 : decode cX6_lobby 73 = .ok (.iload 12, 2) := by decide +kernel
theorem dX6_lobby_75 : decode cX6_lobby 75 = .ok (.iload 13, 2) := by decide +kernel
theorem dX6_lobby_77 : decode cX6_lobby 77 = .ok (.invokestatic 333, 3) := by decide +kernel
theorem dX6_lobby_80 : decode cX6_lobby 80 = .ok (.ifCond .eq 22, 3) := by decide +kernel
theorem dX6_lobby_83 : decode cX6_lobby 83 = .ok (.iload 11, 2) := by decide +kernel
theorem dX6_lobby_85 : decode cX6_lobby 85 = .ok (.iload 7, 2) := by decide +kernel
theorem dX6_lobby_87 : decode cX6_lobby 87 = .ok (.if_icmp .ne 12, 3) := by decide +kernel
theorem dX6_lobby_90 : decode cX6_lobby 90 = .ok (.bipush 7, 2) := by decide +kernel
theorem dX6_lobby_92 : decode cX6_lobby 92 = .ok (.iload 12, 2) := by decide +kernel
theorem dX6_lobby_94 : decode cX6_lobby 94 = .ok (.imul, 1) := by decide +kernel
theorem dX6_lobby_95 : decode cX6_lobby 95 = .ok (.iload 13, 2) := by decide +kernel
theorem dX6_lobby_97 : decode cX6_lobby 97 = .ok (.iadd, 1) := by decide +kernel
theorem dX6_lobby_98 : decode cX6_lobby 98 = .ok (.ireturn, 1) := by decide +kernel
theorem dX6_lobby_99 : decode cX6_lobby 99 = .ok (.iinc 11 1, 3) := by decide +kernel
theorem dX6_lobby_102 : decode cX6_lobby 102 = .ok (.iinc 13 1, 3) := by decide +kernel
theorem dX6_lobby_105 : decode cX6_lobby 105 = .ok (.goto (-46), 3) := by decide +kernel
theorem dX6_lobby_108 : decode cX6_lobby 108 = .ok (.iinc 12 1, 3) := by decide +kernel
theorem dX6_lobby_111 : decode cX6_lobby 111 = .ok (.goto (-65), 3) := by decide +kernel
theorem dX6_lobby_114 : decode cX6_lobby 114 = .ok (.iload 7, 2) := by decide +kernel
theorem dX6_lobby_116 : decode cX6_lobby 116 = .ok (.iconst (-1), 1) := by decide +kernel
theorem dX6_lobby_117 : decode cX6_lobby 117 = .ok (.if_icmp .ne 8, 3) := by decide +kernel
theorem dX6_lobby_120 : decode cX6_lobby 120 = .ok (.iload 11, 2) := by decide +kernel
theorem dX6_lobby_122 : decode cX6_lobby 122 = .ok (.goto 4, 3) := by decide +kernel
theorem dX6_lobby_125 : decode cX6_lobby 125 = .ok (.iconst (-1), 1) := by decide +kernel
theorem dX6_lobby_126 : decode cX6_lobby 126 = .ok (.ireturn, 1) := by decide +kernel
theorem dX6_minister_0 : decode cX6_minister 0 = .ok (.aload_n 0, 1) := by decide +kernel
theorem dX6_minister_1 : decode cX6_minister 1 = .ok (.iload_n 1, 1) := by decide +kernel
theorem dX6_minister_2 : decode cX6_minister 2 = .ok (.invokevirtual 129, 3) := by decide +kernel
theorem dX6_minister_5 : decode cX6_minister 5 = .ok (.astore 4, 2) := by decide +kernel
theorem dX6_minister_7 : decode cX6_minister 7 = .ok (.aload 4, 2) := by decide +kernel
theorem dX6_minister_9 : decode cX6_minister 9 = .ok (.ifnull 12, 3) := by decide +kernel
theorem dX6_minister_12 : decode cX6_minister 12 = .ok (.aload 4, 2) := by decide +kernel
theorem dX6_minister_14 : decode cX6_minister 14 = .ok (.iload_n 2, 1) := by decide +kernel
theorem dX6_minister_15 : decode cX6_minister 15 = .ok (.invokevirtual 153, 3) := by decide +kernel
theorem dX6_minister_18 : decode cX6_minister 18 = .ok (.ifCond .ne 5, 3) := by decide +kernel
theorem dX6_minister_21 : decode cX6_minister 21 = .ok (.iconst (-1), 1) := by decide +kernel
theorem dX6_minister_22 : decode cX6_minister 22 = .ok (.ireturn, 1) := by decide +kernel
theorem dX6_minister_23 : decode cX6_minister 23 = .ok (.iload_n 3, 1) := by decide +kernel
theorem dX6_minister_24 : decode cX6_minister 24 = .ok (.tableswitch 108 0 5 #[40, 50, 60, 70, 80, 98], 40) := by decide +kernel
theorem dX6_minister_64 : decode cX6_minister 64 = .ok (.aload 4, 2) := by decide +kernel
theorem dX6_minister_66 : decode cX6_minister 66 = .ok (.getfield 157, 3) := by decide +kernel
theorem dX6_minister_69 : decode cX6_minister 69 = .ok (.iload_n 2, 1) := by decide +kernel
theorem dX6_minister_70 : decode cX6_minister 70 = .ok (.invokestatic 88, 3) := by decide +kernel
theorem dX6_minister_73 : decode cX6_minister 73 = .ok (.ireturn, 1) := by decide +kernel
theorem dX6_minister_74 : decode cX6_minister 74 = .ok (.aload 4, 2) := by decide +kernel
theorem dX6_minister_76 : decode cX6_minister 76 = .ok (.getfield 160, 3) := by decide +kernel
theorem dX6_minister_79 : decode cX6_minister 79 = .ok (.iload_n 2, 1) := by decide +kernel
theorem dX6_minister_80 : decode cX6_minister 80 = .ok (.invokestatic 88, 3) := by decide +kernel
theorem dX6_minister_83 : decode cX6_minister 83 = .ok (.ireturn, 1) := by decide +kernel
theorem dX6_minister_84 : decode cX6_minister 84 = .ok (.aload 4, 2) := by decide +kernel
theorem dX6_minister_86 : decode cX6_minister 86 = .ok (.getfield 163, 3) := by decide +kernel
theorem dX6_minister_89 : decode cX6_minister 89 = .ok (.iload_n 2, 1) := by decide +kernel
theorem dX6_minister_90 : decode cX6_minister 90 = .ok (.invokestatic 88, 3) := by decide +kernel
theorem dX6_minister_93 : decode cX6_minister 93 = .ok (.ireturn, 1) := by decide +kernel
theorem dX6_minister_94 : decode cX6_minister 94 = .ok (.aload 4, 2) := by decide +kernel
theorem dX6_minister_96 : decode cX6_minister 96 = .ok (.getfield 166, 3) := by decide +kernel
theorem dX6_minister_99 : decode cX6_minister 99 = .ok (.iload_n 2, 1) := by decide +kernel
theorem dX6_minister_100 : decode cX6_minister 100 = .ok (.invokestatic 88, 3) := by decide +kernel
theorem dX6_minister_103 : decode cX6_minister 103 = .ok (.ireturn, 1) := by decide +kernel
theorem dX6_minister_104 : decode cX6_minister 104 = .ok (.aload 4, 2) := by decide +kernel
theorem dX6_minister_106 : decode cX6_minister 106 = .ok (.getfield 169, 3) := by decide +kernel
theorem dX6_minister_109 : decode cX6_minister 109 = .ok (.iload_n 2, 1) := by decide +kernel
theorem dX6_minister_110 : decode cX6_minister 110 = .ok (.invokestatic 172, 3) := by decide +kernel
theorem dX6_minister_113 : decode cX6_minister 113 = .ok (.ifCond .eq 7, 3) := by decide +kernel
theorem dX6_minister_116 : decode cX6_minister 116 = .ok (.iconst 1, 1) := by decide +kernel
theorem dX6_minister_117 : decode cX6_minister 117 = .ok (.goto 4, 3) := by decide +kernel
theorem dX6_minister_120 : decode cX6_minister 120 = .ok (.iconst 0, 1) := by decide +kernel
theorem dX6_minister_121 : decode cX6_minister 121 = .ok (.ireturn, 1) := by decide +kernel
theorem dX6_minister_122 : decode cX6_minister 122 = .ok (.aload 4, 2) := by decide +kernel
theorem dX6_minister_124 : decode cX6_minister 124 = .ok (.getfield 176, 3) := by decide +kernel
theorem dX6_minister_127 : decode cX6_minister 127 = .ok (.iload_n 2, 1) := by decide +kernel
theorem dX6_minister_128 : decode cX6_minister 128 = .ok (.invokestatic 88, 3) := by decide +kernel
theorem dX6_minister_131 : decode cX6_minister 131 = .ok (.ireturn, 1) := by decide +kernel
theorem dX6_minister_132 : decode cX6_minister 132 = .ok (.iload_n 3, 1) := by decide +kernel
theorem dX6_minister_133 : decode cX6_minister 133 = .ok (.bipush 10, 2) := by decide +kernel
theorem dX6_minister_135 : decode cX6_minister 135 = .ok (.if_icmp .lt 22, 3) := by decide +kernel
theorem dX6_minister_138 : decode cX6_minister 138 = .ok (.iload_n 3, 1) := by decide +kernel
theorem dX6_minister_139 : decode cX6_minister 139 = .ok (.bipush 22, 2) := by decide +kernel
theorem dX6_minister_141 : decode cX6_minister 141 = .ok (.if_icmp .ge 16, 3) := by decide +kernel
theorem dX6_minister_144 : decode cX6_minister 144 = .ok (.aload 4, 2) := by decide +kernel
theorem dX6_minister_146 : decode cX6_minister 146 = .ok (.iload_n 2, 1) := by decide +kernel
theorem dX6_minister_147 : decode cX6_minister 147 = .ok (.iload_n 3, 1) := by decide +kernel
theorem dX6_minister_148 : decode cX6_minister 148 = .ok (.bipush 10, 2) := by decide +kernel
theorem dX6_minister_150 : decode cX6_minister 150 = .ok (.isub, 1) := by decide +kernel
theorem dX6_minister_151 : decode cX6_minister 151 = .ok (.invokevirtual 179, 3) := by decide +kernel
theorem dX6_minister_154 : decode cX6_minister 154 = .ok (.goto 4, 3) := by decide +kernel
theorem dX6_minister_157 : decode cX6_minister 157 = .ok (.iconst (-1), 1) := by decide +kernel
theorem dX6_minister_158 : decode cX6_minister 158 = .ok (.ireturn, 1) := by decide +kernel
theorem dX6_movedIn_0 : decode cX6_movedIn 0 = .ok (.aload_n 0, 1) := by decide +kernel
theorem dX6_movedIn_1 : decode cX6_movedIn 1 = .ok (.iload_n 1, 1) := by decide +kernel
theorem dX6_movedIn_2 : decode cX6_movedIn 2 = .ok (.invokevirtual 129, 3) := by decide +kernel
theorem dX6_movedIn_5 : decode cX6_movedIn 5 = .ok (.astore 5, 2) := by decide +kernel
theorem dX6_movedIn_7 : decode cX6_movedIn 7 = .ok (.aload 5, 2) := by decide +kernel
theorem dX6_movedIn_9 : decode cX6_movedIn 9 = .ok (.ifnull 30, 3) := by decide +kernel
theorem dX6_movedIn_12 : decode cX6_movedIn 12 = .ok (.aload 5, 2) := by decide +kernel
theorem dX6_movedIn_14 : decode cX6_movedIn 14 = .ok (.iload_n 2, 1) := by decide +kernel
theorem dX6_movedIn_15 : decode cX6_movedIn 15 = .ok (.invokevirtual 153, 3) := by decide +kernel
theorem dX6_movedIn_18 : decode cX6_movedIn 18 = .ok (.ifCond .eq 21, 3) := by decide +kernel
theorem dX6_movedIn_21 : decode cX6_movedIn 21 = .ok (.iload_n 3, 1) := by decide +kernel
theorem dX6_movedIn_22 : decode cX6_movedIn 22 = .ok (.invokestatic 193, 3) := by decide +kernel
theorem dX6_movedIn_25 : decode cX6_movedIn 25 = .ok (.ifCond .eq 14, 3) := by decide +kernel
theorem dX6_movedIn_28 : decode cX6_movedIn 28 = .ok (.iload 4, 2) := by decide +kernel
theorem dX6_movedIn_30 : decode cX6_movedIn 30 = .ok (.iconst (-1), 1) := by decide +kernel
theorem dX6_movedIn_31 : decode cX6_movedIn 31 = .ok (.if_icmp .eq 8, 3) := by decide +kernel
theorem dX6_movedIn_34 : decode cX6_movedIn 34 = .ok (.aload 5, 2) := by decide +kernel
theorem dX6_movedIn_36 : decode cX6_movedIn 36 = .ok (.goto 4, 3) := by decide +kernel
theorem dX6_movedIn_39 : decode cX6_movedIn 39 = .ok (.aconst_null, 1) := by decide +kernel
theorem dX6_movedIn_40 : decode cX6_movedIn 40 = .ok (.areturn, 1) := by decide +kernel
theorem dX6_nature_0 : decode cX6_nature 0 = .ok (.aload_n 0, 1) := by decide +kernel
theorem dX6_nature_1 : decode cX6_nature 1 = .ok (.iload_n 1, 1) := by decide +kernel
theorem dX6_nature_2 : decode cX6_nature 2 = .ok (.invokevirtual 129, 3) := by decide +kernel
theorem dX6_nature_5 : decode cX6_nature 5 = .ok (.astore 4, 2) := by decide +kernel
theorem dX6_nature_7 : decode cX6_nature 7 = .ok (.aload_n 0, 1) := by decide +kernel
theorem dX6_nature_8 : decode cX6_nature 8 = .ok (.iconst 4, 1) := by decide +kernel
theorem dX6_nature_9 : decode cX6_nature 9 = .ok (.iload_n 2, 1) := by decide +kernel
theorem dX6_nature_10 : decode cX6_nature 10 = .ok (.invokevirtual 182, 3) := by decide +kernel
theorem dX6_nature_13 : decode cX6_nature 13 = .ok (.astore 5, 2) := by decide +kernel
theorem dX6_nature_15 : decode cX6_nature 15 = .ok (.aload 4, 2) := by decide +kernel
theorem dX6_nature_17 : decode cX6_nature 17 = .ok (.ifnull 8, 3) := by decide +kernel
theorem dX6_nature_20 : decode cX6_nature 20 = .ok (.aload 5, 2) := by decide +kernel
theorem dX6_nature_22 : decode cX6_nature 22 = .ok (.ifnonnull 6, 3) := by decide +kernel
theorem dX6_nature_25 : decode cX6_nature 25 = .ok (.bipush (-2), 2) := by decide +kernel
theorem dX6_nature_27 : decode cX6_nature 27 = .ok (.ireturn, 1) := by decide +kernel
theorem dX6_nature_28 : decode cX6_nature 28 = .ok (.iload_n 3, 1) := by decide +kernel
theorem dX6_nature_29 : decode cX6_nature 29 = .ok (.ifCond .ne 12, 3) := by decide +kernel
theorem dX6_nature_32 : decode cX6_nature 32 = .ok (.aload_n 0, 1) := by decide +kernel
theorem dX6_nature_33 : decode cX6_nature 33 = .ok (.aload 4, 2) := by decide +kernel
theorem dX6_nature_35 : decode cX6_nature 35 = .ok (.aload 5, 2) := by decide +kernel
theorem dX6_nature_37 : decode cX6_nature 37 = .ok (.invokevirtual 353, 3) := by decide +kernel
theorem dX6_nature_40 : decode cX6_nature 40 = .ok (.ireturn, 1) := by decide +kernel
theorem dX6_nature_41 : decode cX6_nature 41 = .ok (.aload_n 0, 1) := by decide +kernel
theorem dX6_nature_42 : decode cX6_nature 42 = .ok (.aload 4, 2) := by decide +kernel
theorem dX6_nature_44 : decode cX6_nature 44 = .ok (.aload 5, 2) := by decide +kernel
theorem dX6_nature_46 : decode cX6_nature 46 = .ok (.invokevirtual 357, 3) := by decide +kernel
theorem dX6_nature_49 : decode cX6_nature 49 = .ok (.istore 6, 2) := by decide +kernel
theorem dX6_nature_51 : decode cX6_nature 51 = .ok (.iload_n 3, 1) := by decide +kernel
theorem dX6_nature_52 : decode cX6_nature 52 = .ok (.iconst 1, 1) := by decide +kernel
theorem dX6_nature_53 : decode cX6_nature 53 = .ok (.if_icmp .ne 6, 3) := by decide +kernel
theorem dX6_nature_56 : decode cX6_nature 56 = .ok (.iload 6, 2) := by decide +kernel
theorem dX6_nature_58 : decode cX6_nature 58 = .ok (.ireturn, 1) := by decide +kernel
theorem dX6_nature_59 : decode cX6_nature 59 = .ok (.iload_n 3, 1) := by decide +kernel
theorem dX6_nature_60 : decode cX6_nature 60 = .ok (.bipush 10, 2) := by decide +kernel
theorem dX6_nature_62 : decode cX6_nature 62 = .ok (.if_icmp .lt 19, 3) := by decide +kernel
theorem dX6_nature_65 : decode cX6_nature 65 = .ok (.iload_n 3, 1) := by decide +kernel
theorem dX6_nature_66 : decode cX6_nature 66 = .ok (.bipush 10, 2) := by decide +kernel
theorem dX6_nature_68 : decode cX6_nature 68 = .ok (.isub, 1) := by decide +kernel
theorem dX6_nature_69 : decode cX6_nature 69 = .ok (.aload 5, 2) := by decide +kernel
theorem dX6_nature_71 : decode cX6_nature 71 = .ok (.getfield 189, 3) := by decide +kernel
theorem dX6_nature_74 : decode cX6_nature 74 = .ok (.if_icmp .ge 7, 3) := by decide +kernel
theorem dX6_nature_77 : decode cX6_nature 77 = .ok (.iconst 1, 1) := by decide +kernel
theorem dX6_nature_78 : decode cX6_nature 78 = .ok (.goto 4, 3) := by decide +kernel
theorem dX6_nature_81 : decode cX6_nature 81 = .ok (.iconst 0, 1) := by decide +kernel
theorem dX6_nature_82 : decode cX6_nature 82 = .ok (.istore 7, 2) := by decide +kernel
theorem dX6_nature_84 : decode cX6_nature 84 = .ok (.iload 7, 2) := by decide +kernel
theorem dX6_nature_86 : decode cX6_nature 86 = .ok (.ifCond .eq 23, 3) := by decide +kernel
theorem dX6_nature_89 : decode cX6_nature 89 = .ok (.iload 6, 2) := by decide +kernel
theorem dX6_nature_91 : decode cX6_nature 91 = .ok (.iconst (-1), 1) := by decide +kernel
theorem dX6_nature_92 : decode cX6_nature 92 = .ok (.if_icmp .eq 17, 3) := by decide +kernel
theorem dX6_nature_95 : decode cX6_nature 95 = .ok (.aload_n 0, 1) := by decide +kernel
theorem dX6_nature_96 : decode cX6_nature 96 = .ok (.getfield 41, 3) := by decide +kernel
theorem dX6_nature_99 : decode cX6_nature 99 = .ok (.iload_n 3, 1) := by decide +kernel
theorem dX6_nature_100 : decode cX6_nature 100 = .ok (.bipush 10, 2) := by decide +kernel
theorem dX6_nature_102 : decode cX6_nature 102 = .ok (.isub, 1) := by decide +kernel
theorem dX6_nature_103 : decode cX6_nature 103 = .ok (.invokestatic 88, 3) := by decide +kernel
theorem dX6_nature_106 : decode cX6_nature 106 = .ok (.goto 5, 3) := by decide +kernel
theorem dX6_nature_109 : decode cX6_nature 109 = .ok (.bipush (-2), 2) := by decide +kernel
theorem dX6_nature_111 : decode cX6_nature 111 = .ok (.ireturn, 1) := by decide +kernel
theorem dX6_numberOf_0 : decode cX6_numberOf 0 = .ok (.iload_n 0, 1) := by decide +kernel
theorem dX6_numberOf_1 : decode cX6_numberOf 1 = .ok (.bipush 10, 2) := by decide +kernel
theorem dX6_numberOf_3 : decode cX6_numberOf 3 = .ok (.imul, 1) := by decide +kernel
theorem dX6_numberOf_4 : decode cX6_numberOf 4 = .ok (.iload_n 1, 1) := by decide +kernel
theorem dX6_numberOf_5 : decode cX6_numberOf 5 = .ok (.iadd, 1) := by decide +kernel
theorem dX6_numberOf_6 : decode cX6_numberOf 6 = .ok (.bipush 10, 2) := by decide +kernel
theorem dX6_numberOf_8 : decode cX6_numberOf 8 = .ok (.imul, 1) := by decide +kernel
theorem dX6_numberOf_9 : decode cX6_numberOf 9 = .ok (.iload_n 2, 1) := by decide +kernel
theorem dX6_numberOf_10 : decode cX6_numberOf 10 = .ok (.iadd, 1) := by decide +kernel
theorem dX6_numberOf_11 : decode cX6_numberOf 11 = .ok (.ireturn, 1) := by decide +kernel
theorem dX6_off_0 : decode cX6_off 0 = .ok (.iload 4, 2) := by decide +kernel
theorem dX6_off_2 : decode cX6_off 2 = .ok (.iload 5, 2) := by decide +kernel
theorem dX6_off_4 : decode cX6_off 4 = .ok (.iload 6, 2) := by decide +kernel
theorem dX6_off_6 : decode cX6_off 6 = .ok (.invokestatic 196, 3) := by decide +kernel
theorem dX6_off_9 : decode cX6_off 9 = .ok (.istore 7, 2) := by decide +kernel
theorem dX6_off_11 : decode cX6_off 11 = .ok (.aload_n 0, 1) := by decide +kernel
theorem dX6_off_12 : decode cX6_off 12 = .ok (.iload_n 1, 1) := by decide +kernel
theorem dX6_off_13 : decode cX6_off 13 = .ok (.iload_n 2, 1) := by decide +kernel
theorem dX6_off_14 : decode cX6_off 14 = .ok (.iload_n 3, 1) := by decide +kernel
theorem dX6_off_15 : decode cX6_off 15 = .ok (.iload 7, 2) := by decide +kernel
theorem dX6_off_17 : decode cX6_off 17 = .ok (.invokevirtual 200, 3) := by decide +kernel
theorem dX6_off_20 : decode cX6_off 20 = .ok (.astore 8, 2) := by decide +kernel
theorem dX6_off_22 : decode cX6_off 22 = .ok (.aload 8, 2) := by decide +kernel
theorem dX6_off_24 : decode cX6_off 24 = .ok (.ifnonnull 7, 3) := by decide +kernel
theorem dX6_off_27 : decode cX6_off 27 = .ok (.iconst (-1), 1) := by decide +kernel
theorem dX6_off_28 : decode cX6_off 28 = .ok (.goto 12, 3) := by decide +kernel
theorem dX6_off_31 : decode cX6_off 31 = .ok (.aload 8, 2) := by decide +kernel
theorem dX6_off_33 : decode cX6_off 33 = .ok (.iload_n 2, 1) := by decide +kernel
theorem dX6_off_34 : decode cX6_off 34 = .ok (.iload_n 3, 1) := by decide +kernel
theorem dX6_off_35 : decode cX6_off 35 = .ok (.iload 7, 2) := by decide +kernel
theorem dX6_off_37 : decode cX6_off 37 = .ok (.invokevirtual 204, 3) := by decide +kernel
theorem dX6_off_40 : decode cX6_off 40 = .ok (.ireturn, 1) := by decide +kernel
theorem dX6_order_0 : decode cX6_order 0 = .ok (.aload_n 0, 1) := by decide +kernel
theorem dX6_order_1 : decode cX6_order 1 = .ok (.iconst 1, 1) := by decide +kernel
theorem dX6_order_2 : decode cX6_order 2 = .ok (.iload_n 1, 1) := by decide +kernel
theorem dX6_order_3 : decode cX6_order 3 = .ok (.invokevirtual 182, 3) := by decide +kernel
theorem dX6_order_6 : decode cX6_order 6 = .ok (.iload_n 2, 1) := by decide +kernel
theorem dX6_order_7 : decode cX6_order 7 = .ok (.iload_n 3, 1) := by decide +kernel
theorem dX6_order_8 : decode cX6_order 8 = .ok (.iconst 5, 1) := by decide +kernel
theorem dX6_order_9 : decode cX6_order 9 = .ok (.invokestatic 185, 3) := by decide +kernel
theorem dX6_order_12 : decode cX6_order 12 = .ok (.ireturn, 1) := by decide +kernel
theorem dX6_placeFor_0 : decode cX6_placeFor 0 = .ok (.iload_n 1, 1) := by decide +kernel
theorem dX6_placeFor_1 : decode cX6_placeFor 1 = .ok (.ifCond .lt 9, 3) := by decide +kernel
theorem dX6_placeFor_4 : decode cX6_placeFor 4 = .ok (.iload_n 1, 1) := by decide +kernel
theorem dX6_placeFor_5 : decode cX6_placeFor 5 = .ok (.bipush 6, 2) := by decide +kernel
theorem dX6_placeFor_7 : decode cX6_placeFor 7 = .ok (.if_icmp .lt 5, 3) := by decide +kernel
theorem dX6_placeFor_10 : decode cX6_placeFor 10 = .ok (.iconst (-1), 1) := by decide +kernel
theorem dX6_placeFor_11 : decode cX6_placeFor 11 = .ok (.ireturn, 1) := by decide +kernel
theorem dX6_placeFor_12 : decode cX6_placeFor 12 = .ok (.aload_n 0, 1) := by decide +kernel
theorem dX6_placeFor_13 : decode cX6_placeFor 13 = .ok (.getfield 10, 3) := by decide +kernel
theorem dX6_placeFor_16 : decode cX6_placeFor 16 = .ok (.getfield 85, 3) := by decide +kernel
theorem dX6_placeFor_19 : decode cX6_placeFor 19 = .ok (.iload_n 1, 1) := by decide +kernel
theorem dX6_placeFor_20 : decode cX6_placeFor 20 = .ok (.invokestatic 88, 3) := by decide +kernel
theorem dX6_placeFor_23 : decode cX6_placeFor 23 = .ok (.istore_n 3, 1) := by decide +kernel
theorem dX6_placeFor_24 : decode cX6_placeFor 24 = .ok (.iload_n 2, 1) := by decide +kernel
theorem dX6_placeFor_25 : decode cX6_placeFor 25 = .ok (.iconst (-1), 1) := by decide +kernel
theorem dX6_placeFor_26 : decode cX6_placeFor 26 = .ok (.if_icmp .ne 14, 3) := by decide +kernel
theorem dX6_placeFor_29 : decode cX6_placeFor 29 = .ok (.iload_n 3, 1) := by decide +kernel
theorem dX6_placeFor_30 : decode cX6_placeFor 30 = .ok (.iconst 2, 1) := by decide +kernel
theorem dX6_placeFor_31 : decode cX6_placeFor 31 = .ok (.if_icmp .ge 7, 3) := by decide +kernel
theorem dX6_placeFor_34 : decode cX6_placeFor 34 = .ok (.iload_n 3, 1) := by decide +kernel
theorem dX6_placeFor_35 : decode cX6_placeFor 35 = .ok (.goto 4, 3) := by decide +kernel
theorem dX6_placeFor_38 : decode cX6_placeFor 38 = .ok (.iconst (-1), 1) := by decide +kernel
theorem dX6_placeFor_39 : decode cX6_placeFor 39 = .ok (.ireturn, 1) := by decide +kernel
theorem dX6_placeFor_40 : decode cX6_placeFor 40 = .ok (.iload_n 2, 1) := by decide +kernel
theorem dX6_placeFor_41 : decode cX6_placeFor 41 = .ok (.ifCond .lt 12, 3) := by decide +kernel
theorem dX6_placeFor_44 : decode cX6_placeFor 44 = .ok (.iload_n 2, 1) := by decide +kernel
theorem dX6_placeFor_45 : decode cX6_placeFor 45 = .ok (.iload_n 3, 1) := by decide +kernel
theorem dX6_placeFor_46 : decode cX6_placeFor 46 = .ok (.if_icmp .ge 7, 3) := by decide +kernel
theorem dX6_placeFor_49 : decode cX6_placeFor 49 = .ok (.iload_n 2, 1) := by decide +kernel
theorem dX6_placeFor_50 : decode cX6_placeFor 50 = .ok (.goto 4, 3) := by decide +kernel
theorem dX6_placeFor_53 : decode cX6_placeFor 53 = .ok (.iconst (-1), 1) := by decide +kernel
theorem dX6_placeFor_54 : decode cX6_placeFor 54 = .ok (.ireturn, 1) := by decide +kernel
theorem dX6_power_0 : decode cX6_power 0 = .ok (.aload_n 0, 1) := by decide +kernel
theorem dX6_power_1 : decode cX6_power 1 = .ok (.iload_n 1, 1) := by decide +kernel
theorem dX6_power_2 : decode cX6_power 2 = .ok (.invokevirtual 129, 3) := by decide +kernel
theorem dX6_power_5 : decode cX6_power 5 = .ok (.astore 4, 2) := by decide +kernel
theorem dX6_power_7 : decode cX6_power 7 = .ok (.aload 4, 2) := by decide +kernel
theorem dX6_power_9 : decode cX6_power 9 = .ok (.ifnull 12, 3) := by decide +kernel
theorem dX6_power_12 : decode cX6_power 12 = .ok (.aload 4, 2) := by decide +kernel
theorem dX6_power_14 : decode cX6_power 14 = .ok (.iload_n 2, 1) := by decide +kernel
theorem dX6_power_15 : decode cX6_power 15 = .ok (.invokevirtual 153, 3) := by decide +kernel
theorem dX6_power_18 : decode cX6_power 18 = .ok (.ifCond .ne 5, 3) := by decide +kernel
theorem dX6_power_21 : decode cX6_power 21 = .ok (.iconst (-1), 1) := by decide +kernel
theorem dX6_power_22 : decode cX6_power 22 = .ok (.ireturn, 1) := by decide +kernel
theorem dX6_power_23 : decode cX6_power 23 = .ok (.aload 4, 2) := by decide +kernel
theorem dX6_power_25 : decode cX6_power 25 = .ok (.iload_n 2, 1) := by decide +kernel
theorem dX6_power_26 : decode cX6_power 26 = .ok (.invokestatic 300, 3) := by decide +kernel
theorem dX6_power_29 : decode cX6_power 29 = .ok (.getstatic 303, 3) := by decide +kernel
theorem dX6_power_32 : decode cX6_power 32 = .ok (.aload 4, 2) := by decide +kernel
theorem dX6_power_34 : decode cX6_power 34 = .ok (.getfield 132, 3) := by decide +kernel
theorem dX6_power_37 : decode cX6_power 37 = .ok (.invokestatic 88, 3) := by decide +kernel
theorem dX6_power_40 : decode cX6_power 40 = .ok (.iload_n 3, 1) := by decide +kernel
theorem dX6_power_41 : decode cX6_power 41 = .ok (.invokestatic 306, 3) := by decide +kernel
theorem dX6_power_44 : decode cX6_power 44 = .ok (.ireturn, 1) := by decide +kernel
theorem dX6_put_0 : decode cX6_put 0 = .ok (.iload_n 1, 1) := by decide +kernel
theorem dX6_put_1 : decode cX6_put 1 = .ok (.ifCond .lt 13, 3) := by decide +kernel
theorem dX6_put_4 : decode cX6_put 4 = .ok (.iload_n 1, 1) := by decide +kernel
theorem dX6_put_5 : decode cX6_put 5 = .ok (.aload_n 0, 1) := by decide +kernel
theorem dX6_put_6 : decode cX6_put 6 = .ok (.arraylength, 1) := by decide +kernel
theorem dX6_put_7 : decode cX6_put 7 = .ok (.if_icmp .ge 7, 3) := by decide +kernel
theorem dX6_put_10 : decode cX6_put 10 = .ok (.aload_n 0, 1) := by decide +kernel
theorem dX6_put_11 : decode cX6_put 11 = .ok (.iload_n 1, 1) := by decide +kernel
theorem dX6_put_12 : decode cX6_put 12 = .ok (.iload_n 2, 1) := by decide +kernel
theorem dX6_put_13 : decode cX6_put 13 = .ok (.iastore, 1) := by decide +kernel
theorem dX6_put_14 : decode cX6_put 14 = .ok (.return_, 1) := by decide +kernel
theorem dX6_republic_0 : decode cX6_republic 0 = .ok (.aload_n 0, 1) := by decide +kernel
theorem dX6_republic_1 : decode cX6_republic 1 = .ok (.iload_n 1, 1) := by decide +kernel
theorem dX6_republic_2 : decode cX6_republic 2 = .ok (.invokevirtual 129, 3) := by decide +kernel
theorem dX6_republic_5 : decode cX6_republic 5 = .ok (.astore_n 3, 1) := by decide +kernel
theorem dX6_republic_6 : decode cX6_republic 6 = .ok (.aload_n 3, 1) := by decide +kernel
theorem dX6_republic_7 : decode cX6_republic 7 = .ok (.ifnonnull 5, 3) := by decide +kernel
theorem dX6_republic_10 : decode cX6_republic 10 = .ok (.iconst (-1), 1) := by decide +kernel
theorem dX6_republic_11 : decode cX6_republic 11 = .ok (.ireturn, 1) := by decide +kernel
theorem dX6_republic_12 : decode cX6_republic 12 = .ok (.iload_n 2, 1) := by decide +kernel
theorem dX6_republic_13 : decode cX6_republic 13 = .ok (.tableswitch 109 0 12 #[67, 72, 77, 82, 87, 92, 109, 109, 109, 109, 97, 97, 97], 67) := by decide +kernel
theorem dX6_republic_80 : decode cX6_republic 80 = .ok (.aload_n 3, 1) := by decide +kernel
theorem dX6_republic_81 : decode cX6_republic 81 = .ok (.getfield 132, 3) := by decide +kernel
theorem dX6_republic_84 : decode cX6_republic 84 = .ok (.ireturn, 1) := by decide +kernel
theorem dX6_republic_85 : decode cX6_republic 85 = .ok (.aload_n 3, 1) := by decide +kernel
theorem dX6_republic_86 : decode cX6_republic 86 = .ok (.getfield 135, 3) := by decide +kernel
theorem dX6_republic_89 : decode cX6_republic 89 = .ok (.ireturn, 1) := by decide +kernel
theorem dX6_republic_90 : decode cX6_republic 90 = .ok (.aload_n 3, 1) := by decide +kernel
theorem dX6_republic_91 : decode cX6_republic 91 = .ok (.getfield 138, 3) := by decide +kernel
theorem dX6_republic_94 : decode cX6_republic 94 = .ok (.ireturn, 1) := by decide +kernel
theorem dX6_republic_95 : decode cX6_republic 95 = .ok (.aload_n 3, 1) := by decide +kernel
theorem dX6_republic_96 : decode cX6_republic 96 = .ok (.getfield 141, 3) := by decide +kernel
theorem dX6_republic_99 : decode cX6_republic 99 = .ok (.ireturn, 1) := by decide +kernel
theorem dX6_republic_100 : decode cX6_republic 100 = .ok (.aload_n 3, 1) := by decide +kernel
theorem dX6_republic_101 : decode cX6_republic 101 = .ok (.getfield 144, 3) := by decide +kernel
theorem dX6_republic_104 : decode cX6_republic 104 = .ok (.ireturn, 1) := by decide +kernel
theorem dX6_republic_105 : decode cX6_republic 105 = .ok (.aload_n 3, 1) := by decide +kernel
theorem dX6_republic_106 : decode cX6_republic 106 = .ok (.getfield 147, 3) := by decide +kernel
theorem dX6_republic_109 : decode cX6_republic 109 = .ok (.ireturn, 1) := by decide +kernel
theorem dX6_republic_110 : decode cX6_republic 110 = .ok (.aload_n 3, 1) := by decide +kernel
theorem dX6_republic_111 : decode cX6_republic 111 = .ok (.getfield 150, 3) := by decide +kernel
theorem dX6_republic_114 : decode cX6_republic 114 = .ok (.iload_n 2, 1) := by decide +kernel
theorem dX6_republic_115 : decode cX6_republic 115 = .ok (.bipush 10, 2) := by decide +kernel
theorem dX6_republic_117 : decode cX6_republic 117 = .ok (.isub, 1) := by decide +kernel
theorem dX6_republic_118 : decode cX6_republic 118 = .ok (.invokestatic 88, 3) := by decide +kernel
theorem dX6_republic_121 : decode cX6_republic 121 = .ok (.ireturn, 1) := by decide +kernel
theorem dX6_republic_122 : decode cX6_republic 122 = .ok (.iconst (-1), 1) := by decide +kernel
theorem dX6_republic_123 : decode cX6_republic 123 = .ok (.ireturn, 1) := by decide +kernel
theorem dX6_republicAt_0 : decode cX6_republicAt 0 = .ok (.iload_n 1, 1) := by decide +kernel
theorem dX6_republicAt_1 : decode cX6_republicAt 1 = .ok (.ifCond .lt 29, 3) := by decide +kernel
theorem dX6_republicAt_4 : decode cX6_republicAt 4 = .ok (.iload_n 1, 1) := by decide +kernel
theorem dX6_republicAt_5 : decode cX6_republicAt 5 = .ok (.aload_n 0, 1) := by decide +kernel
theorem dX6_republicAt_6 : decode cX6_republicAt 6 = .ok (.getfield 10, 3) := by decide +kernel
theorem dX6_republicAt_9 : decode cX6_republicAt 9 = .ok (.getfield 85, 3) := by decide +kernel
theorem dX6_republicAt_12 : decode cX6_republicAt 12 = .ok (.iconst 0, 1) := by decide +kernel
theorem dX6_republicAt_13 : decode cX6_republicAt 13 = .ok (.invokestatic 88, 3) := by decide +kernel
theorem dX6_republicAt_16 : decode cX6_republicAt 16 = .ok (.if_icmp .ge 14, 3) := by decide +kernel
theorem dX6_republicAt_19 : decode cX6_republicAt 19 = .ok (.aload_n 0, 1) := by decide +kernel
theorem dX6_republicAt_20 : decode cX6_republicAt 20 = .ok (.getfield 10, 3) := by decide +kernel
theorem dX6_republicAt_23 : decode cX6_republicAt 23 = .ok (.iload_n 1, 1) := by decide +kernel
theorem dX6_republicAt_24 : decode cX6_republicAt 24 = .ok (.invokevirtual 92, 3) := by decide +kernel
theorem dX6_republicAt_27 : decode cX6_republicAt 27 = .ok (.goto 4, 3) := by decide +kernel
theorem dX6_republicAt_30 : decode cX6_republicAt 30 = .ok (.aconst_null, 1) := by decide +kernel
theorem dX6_republicAt_31 : decode cX6_republicAt 31 = .ok (.areturn, 1) := by decide +kernel
theorem dX6_reshuffle_0 : decode cX6_reshuffle 0 = .ok (.aload_n 0, 1) := by decide +kernel
theorem dX6_reshuffle_1 : decode cX6_reshuffle 1 = .ok (.iload_n 1, 1) := by decide +kernel
theorem dX6_reshuffle_2 : decode cX6_reshuffle 2 = .ok (.invokevirtual 129, 3) := by decide +kernel
theorem dX6_reshuffle_5 : decode cX6_reshuffle 5 = .ok (.astore_n 3, 1) := by decide +kernel
theorem dX6_reshuffle_6 : decode cX6_reshuffle 6 = .ok (.aload_n 3, 1) := by decide +kernel
theorem dX6_reshuffle_7 : decode cX6_reshuffle 7 = .ok (.ifnonnull 5, 3) := by decide +kernel
theorem dX6_reshuffle_10 : decode cX6_reshuffle 10 = .ok (.iconst (-1), 1) := by decide +kernel
theorem dX6_reshuffle_11 : decode cX6_reshuffle 11 = .ok (.ireturn, 1) := by decide +kernel
theorem dX6_reshuffle_12 : decode cX6_reshuffle 12 = .ok (.iconst (-1), 1) := by decide +kernel
theorem dX6_reshuffle_13 : decode cX6_reshuffle 13 = .ok (.istore 4, 2) := by decide +kernel
theorem dX6_reshuffle_15 : decode cX6_reshuffle 15 = .ok (.iconst (-1), 1) := by decide +kernel
theorem dX6_reshuffle_16 : decode cX6_reshuffle 16 = .ok (.istore 5, 2) := by decide +kernel
theorem dX6_reshuffle_18 : decode cX6_reshuffle 18 = .ok (.iconst 0, 1) := by decide +kernel
theorem dX6_reshuffle_19 : decode cX6_reshuffle 19 = .ok (.istore 6, 2) := by decide +kernel
theorem dX6_reshuffle_21 : decode cX6_reshuffle 21 = .ok (.iload 6, 2) := by decide +kernel
theorem dX6_reshuffle_23 : decode cX6_reshuffle 23 = .ok (.sipush 216, 3) := by decide +kernel
theorem dX6_reshuffle_26 : decode cX6_reshuffle 26 = .ok (.if_icmp .ge 41, 3) := by decide +kernel
theorem dX6_reshuffle_29 : decode cX6_reshuffle 29 = .ok (.aload_n 3, 1) := by decide +kernel
theorem dX6_reshuffle_30 : decode cX6_reshuffle 30 = .ok (.iload 6, 2) := by decide +kernel
theorem dX6_reshuffle_32 : decode cX6_reshuffle 32 = .ok (.invokevirtual 379, 3) := by decide +kernel
theorem dX6_reshuffle_35 : decode cX6_reshuffle 35 = .ok (.ifCond .eq 26, 3) := by decide +kernel
theorem dX6_reshuffle_38 : decode cX6_reshuffle 38 = .ok (.aload_n 3, 1) := by decide +kernel
theorem dX6_reshuffle_39 : decode cX6_reshuffle 39 = .ok (.iload 6, 2) := by decide +kernel
theorem dX6_reshuffle_41 : decode cX6_reshuffle 41 = .ok (.invokestatic 395, 3) := by decide +kernel
theorem dX6_reshuffle_44 : decode cX6_reshuffle 44 = .ok (.istore 7, 2) := by decide +kernel
theorem dX6_reshuffle_46 : decode cX6_reshuffle 46 = .ok (.iload 7, 2) := by decide +kernel
theorem dX6_reshuffle_48 : decode cX6_reshuffle 48 = .ok (.iload 5, 2) := by decide +kernel
theorem dX6_reshuffle_50 : decode cX6_reshuffle 50 = .ok (.if_icmp .le 11, 3) := by decide +kernel
theorem dX6_reshuffle_53 : decode cX6_reshuffle 53 = .ok (.iload 7, 2) := by decide +kernel
theorem dX6_reshuffle_55 : decode cX6_reshuffle 55 = .ok (.istore 5, 2) := by decide +kernel
theorem dX6_reshuffle_57 : decode cX6_reshuffle 57 = .ok (.iload 6, 2) := by decide +kernel
theorem dX6_reshuffle_59 : decode cX6_reshuffle 59 = .ok (.istore 4, 2) := by decide +kernel
theorem dX6_reshuffle_61 : decode cX6_reshuffle 61 = .ok (.iinc 6 1, 3) := by decide +kernel
theorem dX6_reshuffle_64 : decode cX6_reshuffle 64 = .ok (.goto (-43), 3) := by decide +kernel
theorem dX6_reshuffle_67 : decode cX6_reshuffle 67 = .ok (.iload_n 2, 1) := by decide +kernel
theorem dX6_reshuffle_68 : decode cX6_reshuffle 68 = .ok (.ifCond .eq 8, 3) := by decide +kernel
theorem dX6_reshuffle_71 : decode cX6_reshuffle 71 = .ok (.iload 5, 2) := by decide +kernel
theorem dX6_reshuffle_73 : decode cX6_reshuffle 73 = .ok (.goto 5, 3) := by decide +kernel
theorem dX6_reshuffle_76 : decode cX6_reshuffle 76 = .ok (.iload 4, 2) := by decide +kernel
theorem dX6_reshuffle_78 : decode cX6_reshuffle 78 = .ok (.ireturn, 1) := by decide +kernel
theorem dX6_rowTold_0 : decode cX6_rowTold 0 = .ok (.aload_n 0, 1) := by decide +kernel
theorem dX6_rowTold_1 : decode cX6_rowTold 1 = .ok (.ifnull 12, 3) := by decide +kernel
theorem dX6_rowTold_4 : decode cX6_rowTold 4 = .ok (.iload_n 2, 1) := by decide +kernel
theorem dX6_rowTold_5 : decode cX6_rowTold 5 = .ok (.ifCond .lt 8, 3) := by decide +kernel
theorem dX6_rowTold_8 : decode cX6_rowTold 8 = .ok (.iload_n 2, 1) := by decide +kernel
theorem dX6_rowTold_9 : decode cX6_rowTold 9 = .ok (.iload_n 3, 1) := by decide +kernel
theorem dX6_rowTold_10 : decode cX6_rowTold 10 = .ok (.if_icmp .lt 6, 3) := by decide +kernel
theorem dX6_rowTold_13 : decode cX6_rowTold 13 = .ok (.bipush (-2), 2) := by decide +kernel
theorem dX6_rowTold_15 : decode cX6_rowTold 15 = .ok (.ireturn, 1) := by decide +kernel
theorem dX6_rowTold_16 : decode cX6_rowTold 16 = .ok (.iload_n 1, 1) := by decide +kernel
theorem dX6_rowTold_17 : decode cX6_rowTold 17 = .ok (.iconst (-1), 1) := by decide +kernel
theorem dX6_rowTold_18 : decode cX6_rowTold 18 = .ok (.if_icmp .ne 17, 3) := by decide +kernel
theorem dX6_rowTold_21 : decode cX6_rowTold 21 = .ok (.iload_n 2, 1) := by decide +kernel
theorem dX6_rowTold_22 : decode cX6_rowTold 22 = .ok (.ifCond .ne 10, 3) := by decide +kernel
theorem dX6_rowTold_25 : decode cX6_rowTold 25 = .ok (.aload_n 0, 1) := by decide +kernel
theorem dX6_rowTold_26 : decode cX6_rowTold 26 = .ok (.getfield 189, 3) := by decide +kernel
theorem dX6_rowTold_29 : decode cX6_rowTold 29 = .ok (.goto 5, 3) := by decide +kernel
theorem dX6_rowTold_32 : decode cX6_rowTold 32 = .ok (.bipush (-2), 2) := by decide +kernel
theorem dX6_rowTold_34 : decode cX6_rowTold 34 = .ok (.ireturn, 1) := by decide +kernel
theorem dX6_rowTold_35 : decode cX6_rowTold 35 = .ok (.iload_n 1, 1) := by decide +kernel
theorem dX6_rowTold_36 : decode cX6_rowTold 36 = .ok (.ifCond .lt 20, 3) := by decide +kernel
theorem dX6_rowTold_39 : decode cX6_rowTold 39 = .ok (.iload_n 1, 1) := by decide +kernel
theorem dX6_rowTold_40 : decode cX6_rowTold 40 = .ok (.aload_n 0, 1) := by decide +kernel
theorem dX6_rowTold_41 : decode cX6_rowTold 41 = .ok (.getfield 189, 3) := by decide +kernel
theorem dX6_rowTold_44 : decode cX6_rowTold 44 = .ok (.if_icmp .ge 12, 3) := by decide +kernel
theorem dX6_rowTold_47 : decode cX6_rowTold 47 = .ok (.aload_n 0, 1) := by decide +kernel
theorem dX6_rowTold_48 : decode cX6_rowTold 48 = .ok (.iload_n 1, 1) := by decide +kernel
theorem dX6_rowTold_49 : decode cX6_rowTold 49 = .ok (.iload_n 2, 1) := by decide +kernel
theorem dX6_rowTold_50 : decode cX6_rowTold 50 = .ok (.invokevirtual 190, 3) := by decide +kernel
theorem dX6_rowTold_53 : decode cX6_rowTold 53 = .ok (.goto 5, 3) := by decide +kernel
theorem dX6_rowTold_56 : decode cX6_rowTold 56 = .ok (.bipush (-2), 2) := by decide +kernel
theorem dX6_rowTold_58 : decode cX6_rowTold 58 = .ok (.ireturn, 1) := by decide +kernel
theorem dX6_rowsAt_0 : decode cX6_rowsAt 0 = .ok (.iload_n 2, 1) := by decide +kernel
theorem dX6_rowsAt_1 : decode cX6_rowsAt 1 = .ok (.ifCond .lt 30, 3) := by decide +kernel
theorem dX6_rowsAt_4 : decode cX6_rowsAt 4 = .ok (.iload_n 2, 1) := by decide +kernel
theorem dX6_rowsAt_5 : decode cX6_rowsAt 5 = .ok (.aload_n 0, 1) := by decide +kernel
theorem dX6_rowsAt_6 : decode cX6_rowsAt 6 = .ok (.getfield 10, 3) := by decide +kernel
theorem dX6_rowsAt_9 : decode cX6_rowsAt 9 = .ok (.getfield 85, 3) := by decide +kernel
theorem dX6_rowsAt_12 : decode cX6_rowsAt 12 = .ok (.iload_n 1, 1) := by decide +kernel
theorem dX6_rowsAt_13 : decode cX6_rowsAt 13 = .ok (.invokestatic 88, 3) := by decide +kernel
theorem dX6_rowsAt_16 : decode cX6_rowsAt 16 = .ok (.if_icmp .ge 15, 3) := by decide +kernel
theorem dX6_rowsAt_19 : decode cX6_rowsAt 19 = .ok (.aload_n 0, 1) := by decide +kernel
theorem dX6_rowsAt_20 : decode cX6_rowsAt 20 = .ok (.getfield 10, 3) := by decide +kernel
theorem dX6_rowsAt_23 : decode cX6_rowsAt 23 = .ok (.iload_n 1, 1) := by decide +kernel
theorem dX6_rowsAt_24 : decode cX6_rowsAt 24 = .ok (.iload_n 2, 1) := by decide +kernel
theorem dX6_rowsAt_25 : decode cX6_rowsAt 25 = .ok (.invokevirtual 106, 3) := by decide +kernel
theorem dX6_rowsAt_28 : decode cX6_rowsAt 28 = .ok (.goto 4, 3) := by decide +kernel
theorem dX6_rowsAt_31 : decode cX6_rowsAt 31 = .ok (.aconst_null, 1) := by decide +kernel
theorem dX6_rowsAt_32 : decode cX6_rowsAt 32 = .ok (.areturn, 1) := by decide +kernel
theorem dX6_seats_0 : decode cX6_seats 0 = .ok (.aload_n 0, 1) := by decide +kernel
theorem dX6_seats_1 : decode cX6_seats 1 = .ok (.iload_n 1, 1) := by decide +kernel
theorem dX6_seats_2 : decode cX6_seats 2 = .ok (.invokevirtual 129, 3) := by decide +kernel
theorem dX6_seats_5 : decode cX6_seats 5 = .ok (.astore 4, 2) := by decide +kernel
theorem dX6_seats_7 : decode cX6_seats 7 = .ok (.aload_n 0, 1) := by decide +kernel
theorem dX6_seats_8 : decode cX6_seats 8 = .ok (.iconst 4, 1) := by decide +kernel
theorem dX6_seats_9 : decode cX6_seats 9 = .ok (.iload_n 2, 1) := by decide +kernel
theorem dX6_seats_10 : decode cX6_seats 10 = .ok (.invokevirtual 182, 3) := by decide +kernel
theorem dX6_seats_13 : decode cX6_seats 13 = .ok (.astore 5, 2) := by decide +kernel
theorem dX6_seats_15 : decode cX6_seats 15 = .ok (.aload 4, 2) := by decide +kernel
theorem dX6_seats_17 : decode cX6_seats 17 = .ok (.ifnull 8, 3) := by decide +kernel
theorem dX6_seats_20 : decode cX6_seats 20 = .ok (.aload 5, 2) := by decide +kernel
theorem dX6_seats_22 : decode cX6_seats 22 = .ok (.ifnonnull 6, 3) := by decide +kernel
theorem dX6_seats_25 : decode cX6_seats 25 = .ok (.bipush (-4), 2) := by decide +kernel
theorem dX6_seats_27 : decode cX6_seats 27 = .ok (.ireturn, 1) := by decide +kernel
theorem dX6_seats_28 : decode cX6_seats 28 = .ok (.aload_n 0, 1) := by decide +kernel
theorem dX6_seats_29 : decode cX6_seats 29 = .ok (.aload 4, 2) := by decide +kernel
theorem dX6_seats_31 : decode cX6_seats 31 = .ok (.aload 5, 2) := by decide +kernel
theorem dX6_seats_33 : decode cX6_seats 33 = .ok (.invokevirtual 369, 3) := by decide +kernel
theorem dX6_seats_36 : decode cX6_seats 36 = .ok (.istore 6, 2) := by decide +kernel
theorem dX6_seats_38 : decode cX6_seats 38 = .ok (.iload_n 3, 1) := by decide +kernel
theorem dX6_seats_39 : decode cX6_seats 39 = .ok (.ifCond .lt 23, 3) := by decide +kernel
theorem dX6_seats_42 : decode cX6_seats 42 = .ok (.iload_n 3, 1) := by decide +kernel
theorem dX6_seats_43 : decode cX6_seats 43 = .ok (.iload 6, 2) := by decide +kernel
theorem dX6_seats_45 : decode cX6_seats 45 = .ok (.if_icmp .ge 14, 3) := by decide +kernel
theorem dX6_seats_48 : decode cX6_seats 48 = .ok (.aload_n 0, 1) := by decide +kernel
theorem dX6_seats_49 : decode cX6_seats 49 = .ok (.getfield 45, 3) := by decide +kernel
theorem dX6_seats_52 : decode cX6_seats 52 = .ok (.iload_n 3, 1) := by decide +kernel
theorem dX6_seats_53 : decode cX6_seats 53 = .ok (.invokestatic 88, 3) := by decide +kernel
theorem dX6_seats_56 : decode cX6_seats 56 = .ok (.goto 5, 3) := by decide +kernel
theorem dX6_seats_59 : decode cX6_seats 59 = .ok (.bipush (-4), 2) := by decide +kernel
theorem dX6_seats_61 : decode cX6_seats 61 = .ok (.ireturn, 1) := by decide +kernel
theorem dX6_seats_62 : decode cX6_seats 62 = .ok (.iload_n 3, 1) := by decide +kernel
theorem dX6_seats_63 : decode cX6_seats 63 = .ok (.tableswitch 63 (-3) (-1) #[46, 28, 25], 25) := by decide +kernel
theorem dX6_seats_88 : decode cX6_seats 88 = .ok (.iload 6, 2) := by decide +kernel
theorem dX6_seats_90 : decode cX6_seats 90 = .ok (.ireturn, 1) := by decide +kernel
theorem dX6_seats_91 : decode cX6_seats 91 = .ok (.iload 6, 2) := by decide +kernel
theorem dX6_seats_93 : decode cX6_seats 93 = .ok (.ifCond .ne 7, 3) := by decide +kernel
theorem dX6_seats_96 : decode cX6_seats 96 = .ok (.iconst (-1), 1) := by decide +kernel
theorem dX6_seats_97 : decode cX6_seats 97 = .ok (.goto 11, 3) := by decide +kernel
theorem dX6_seats_100 : decode cX6_seats 100 = .ok (.aload_n 0, 1) := by decide +kernel
theorem dX6_seats_101 : decode cX6_seats 101 = .ok (.aload 4, 2) := by decide +kernel
theorem dX6_seats_103 : decode cX6_seats 103 = .ok (.iload 6, 2) := by decide +kernel
theorem dX6_seats_105 : decode cX6_seats 105 = .ok (.invokevirtual 372, 3) := by decide +kernel
theorem dX6_seats_108 : decode cX6_seats 108 = .ok (.ireturn, 1) := by decide +kernel
theorem dX6_seats_109 : decode cX6_seats 109 = .ok (.aload_n 0, 1) := by decide +kernel
theorem dX6_seats_110 : decode cX6_seats 110 = .ok (.aload 4, 2) := by decide +kernel
theorem dX6_seats_112 : decode cX6_seats 112 = .ok (.aload_n 0, 1) := by decide +kernel
theorem dX6_seats_113 : decode cX6_seats 113 = .ok (.aload 4, 2) := by decide +kernel
theorem dX6_seats_115 : decode cX6_seats 115 = .ok (.iload 6, 2) := by decide +kernel
theorem dX6_seats_117 : decode cX6_seats 117 = .ok (.invokevirtual 372, 3) := by decide +kernel
theorem dX6_seats_120 : decode cX6_seats 120 = .ok (.iload 6, 2) := by decide +kernel
theorem dX6_seats_122 : decode cX6_seats 122 = .ok (.invokevirtual 375, 3) := by decide +kernel
theorem dX6_seats_125 : decode cX6_seats 125 = .ok (.ireturn, 1) := by decide +kernel
theorem dX6_seats_126 : decode cX6_seats 126 = .ok (.bipush (-4), 2) := by decide +kernel
theorem dX6_seats_128 : decode cX6_seats 128 = .ok (.ireturn, 1) := by decide +kernel
theorem dX6_state_0 : decode cX6_state 0 = .ok (.aload_n 0, 1) := by decide +kernel
theorem dX6_state_1 : decode cX6_state 1 = .ok (.iload_n 1, 1) := by decide +kernel
theorem dX6_state_2 : decode cX6_state 2 = .ok (.invokevirtual 129, 3) := by decide +kernel
theorem dX6_state_5 : decode cX6_state 5 = .ok (.astore 6, 2) := by decide +kernel
theorem dX6_state_7 : decode cX6_state 7 = .ok (.aload_n 0, 1) := by decide +kernel
theorem dX6_state_8 : decode cX6_state 8 = .ok (.iconst 1, 1) := by decide +kernel
theorem dX6_state_9 : decode cX6_state 9 = .ok (.iload_n 2, 1) := by decide +kernel
theorem dX6_state_10 : decode cX6_state 10 = .ok (.invokevirtual 182, 3) := by decide +kernel
theorem dX6_state_13 : decode cX6_state 13 = .ok (.astore 7, 2) := by decide +kernel
theorem dX6_state_15 : decode cX6_state 15 = .ok (.aload_n 0, 1) := by decide +kernel
theorem dX6_state_16 : decode cX6_state 16 = .ok (.iconst 2, 1) := by decide +kernel
theorem dX6_state_17 : decode cX6_state 17 = .ok (.iload_n 3, 1) := by decide +kernel
theorem dX6_state_18 : decode cX6_state 18 = .ok (.invokevirtual 182, 3) := by decide +kernel
theorem dX6_state_21 : decode cX6_state 21 = .ok (.astore 8, 2) := by decide +kernel
theorem dX6_state_23 : decode cX6_state 23 = .ok (.aload 6, 2) := by decide +kernel
theorem dX6_state_25 : decode cX6_state 25 = .ok (.ifnull 28, 3) := by decide +kernel
theorem dX6_state_28 : decode cX6_state 28 = .ok (.aload 7, 2) := by decide +kernel
theorem dX6_state_30 : decode cX6_state 30 = .ok (.ifnull 23, 3) := by decide +kernel
theorem dX6_state_33 : decode cX6_state 33 = .ok (.aload 8, 2) := by decide +kernel
theorem dX6_state_35 : decode cX6_state 35 = .ok (.ifnull 18, 3) := by decide +kernel
theorem dX6_state_38 : decode cX6_state 38 = .ok (.iload 4, 2) := by decide +kernel
theorem dX6_state_40 : decode cX6_state 40 = .ok (.ifCond .lt 13, 3) := by decide +kernel
theorem dX6_state_43 : decode cX6_state 43 = .ok (.iload 4, 2) := by decide +kernel
theorem dX6_state_45 : decode cX6_state 45 = .ok (.aload 8, 2) := by decide +kernel
theorem dX6_state_47 : decode cX6_state 47 = .ok (.getfield 189, 3) := by decide +kernel
theorem dX6_state_50 : decode cX6_state 50 = .ok (.if_icmp .le 6, 3) := by decide +kernel
theorem dX6_state_53 : decode cX6_state 53 = .ok (.bipush (-2), 2) := by decide +kernel
theorem dX6_state_55 : decode cX6_state 55 = .ok (.ireturn, 1) := by decide +kernel
theorem dX6_state_56 : decode cX6_state 56 = .ok (.aload_n 0, 1) := by decide +kernel
theorem dX6_state_57 : decode cX6_state 57 = .ok (.getfield 30, 3) := by decide +kernel
theorem dX6_state_60 : decode cX6_state 60 = .ok (.aload 6, 2) := by decide +kernel
theorem dX6_state_62 : decode cX6_state 62 = .ok (.aload 7, 2) := by decide +kernel
theorem dX6_state_64 : decode cX6_state 64 = .ok (.aload 8, 2) := by decide +kernel
theorem dX6_state_66 : decode cX6_state 66 = .ok (.iload 4, 2) := by decide +kernel
theorem dX6_state_68 : decode cX6_state 68 = .ok (.invokevirtual 227, 3) := by decide +kernel
theorem dX6_state_71 : decode cX6_state 71 = .ok (.iload 4, 2) := by decide +kernel
theorem dX6_state_73 : decode cX6_state 73 = .ok (.if_icmp .ne 14, 3) := by decide +kernel
theorem dX6_state_76 : decode cX6_state 76 = .ok (.aload_n 0, 1) := by decide +kernel
theorem dX6_state_77 : decode cX6_state 77 = .ok (.aload 6, 2) := by decide +kernel
theorem dX6_state_79 : decode cX6_state 79 = .ok (.iload 5, 2) := by decide +kernel
theorem dX6_state_81 : decode cX6_state 81 = .ok (.invokevirtual 231, 3) := by decide +kernel
theorem dX6_state_84 : decode cX6_state 84 = .ok (.goto 5, 3) := by decide +kernel
theorem dX6_state_87 : decode cX6_state 87 = .ok (.bipush (-2), 2) := by decide +kernel
theorem dX6_state_89 : decode cX6_state 89 = .ok (.ireturn, 1) := by decide +kernel
theorem dX6_stop_0 : decode cX6_stop 0 = .ok (.aload_n 0, 1) := by decide +kernel
theorem dX6_stop_1 : decode cX6_stop 1 = .ok (.iload_n 1, 1) := by decide +kernel
theorem dX6_stop_2 : decode cX6_stop 2 = .ok (.invokevirtual 129, 3) := by decide +kernel
theorem dX6_stop_5 : decode cX6_stop 5 = .ok (.astore 4, 2) := by decide +kernel
theorem dX6_stop_7 : decode cX6_stop 7 = .ok (.aload_n 0, 1) := by decide +kernel
theorem dX6_stop_8 : decode cX6_stop 8 = .ok (.iconst 1, 1) := by decide +kernel
theorem dX6_stop_9 : decode cX6_stop 9 = .ok (.iload_n 2, 1) := by decide +kernel
theorem dX6_stop_10 : decode cX6_stop 10 = .ok (.invokevirtual 182, 3) := by decide +kernel
theorem dX6_stop_13 : decode cX6_stop 13 = .ok (.astore 5, 2) := by decide +kernel
theorem dX6_stop_15 : decode cX6_stop 15 = .ok (.aload_n 0, 1) := by decide +kernel
theorem dX6_stop_16 : decode cX6_stop 16 = .ok (.iconst 2, 1) := by decide +kernel
theorem dX6_stop_17 : decode cX6_stop 17 = .ok (.iload_n 3, 1) := by decide +kernel
theorem dX6_stop_18 : decode cX6_stop 18 = .ok (.invokevirtual 182, 3) := by decide +kernel
theorem dX6_stop_21 : decode cX6_stop 21 = .ok (.astore 6, 2) := by decide +kernel
theorem dX6_stop_23 : decode cX6_stop 23 = .ok (.aload 4, 2) := by decide +kernel
theorem dX6_stop_25 : decode cX6_stop 25 = .ok (.ifnull 13, 3) := by decide +kernel
theorem dX6_stop_28 : decode cX6_stop 28 = .ok (.aload 5, 2) := by decide +kernel
theorem dX6_stop_30 : decode cX6_stop 30 = .ok (.ifnull 8, 3) := by decide +kernel
theorem dX6_stop_33 : decode cX6_stop 33 = .ok (.aload 6, 2) := by decide +kernel
theorem dX6_stop_35 : decode cX6_stop 35 = .ok (.ifnonnull 5, 3) := by decide +kernel
theorem dX6_stop_38 : decode cX6_stop 38 = .ok (.iconst (-1), 1) := by decide +kernel
theorem dX6_stop_39 : decode cX6_stop 39 = .ok (.ireturn, 1) := by decide +kernel
theorem dX6_stop_40 : decode cX6_stop 40 = .ok (.aload_n 0, 1) := by decide +kernel
theorem dX6_stop_41 : decode cX6_stop 41 = .ok (.getfield 30, 3) := by decide +kernel
theorem dX6_stop_44 : decode cX6_stop 44 = .ok (.aload 4, 2) := by decide +kernel
theorem dX6_stop_46 : decode cX6_stop 46 = .ok (.aload 5, 2) := by decide +kernel
theorem dX6_stop_48 : decode cX6_stop 48 = .ok (.aload 6, 2) := by decide +kernel
theorem dX6_stop_50 : decode cX6_stop 50 = .ok (.aload 6, 2) := by decide +kernel
theorem dX6_stop_52 : decode cX6_stop 52 = .ok (.getfield 189, 3) := by decide +kernel
theorem dX6_stop_55 : decode cX6_stop 55 = .ok (.invokevirtual 227, 3) := by decide +kernel
theorem dX6_stop_58 : decode cX6_stop 58 = .ok (.ireturn, 1) := by decide +kernel
theorem dX6_text_0 : decode cX6_text 0 = .ok (.aload_n 0, 1) := by decide +kernel
theorem dX6_text_1 : decode cX6_text 1 = .ok (.iload_n 1, 1) := by decide +kernel
theorem dX6_text_2 : decode cX6_text 2 = .ok (.iload_n 2, 1) := by decide +kernel
theorem dX6_text_3 : decode cX6_text 3 = .ok (.invokevirtual 66, 3) := by decide +kernel
theorem dX6_text_6 : decode cX6_text 6 = .ok (.istore_n 3, 1) := by decide +kernel
theorem dX6_text_7 : decode cX6_text 7 = .ok (.aload_n 0, 1) := by decide +kernel
theorem dX6_text_8 : decode cX6_text 8 = .ok (.getfield 10, 3) := by decide +kernel
theorem dX6_text_11 : decode cX6_text 11 = .ok (.getfield 51, 3) := by decide +kernel
theorem dX6_text_14 : decode cX6_text 14 = .ok (.istore 4, 2) := by decide +kernel
theorem dX6_text_16 : decode cX6_text 16 = .ok (.aload_n 0, 1) := by decide +kernel
theorem dX6_text_17 : decode cX6_text 17 = .ok (.getfield 10, 3) := by decide +kernel
theorem dX6_text_20 : decode cX6_text 20 = .ok (.iconst 0, 1) := by decide +kernel
theorem dX6_text_21 : decode cX6_text 21 = .ok (.putfield 51, 3) := by decide +kernel
theorem dX6_text_24 : decode cX6_text 24 = .ok (.aload_n 0, 1) := by decide +kernel
theorem dX6_text_25 : decode cX6_text 25 = .ok (.getfield 10, 3) := by decide +kernel
theorem dX6_text_28 : decode cX6_text 28 = .ok (.iconst 0, 1) := by decide +kernel
theorem dX6_text_29 : decode cX6_text 29 = .ok (.putfield 70, 3) := by decide +kernel
theorem dX6_text_32 : decode cX6_text 32 = .ok (.aload_n 0, 1) := by decide +kernel
theorem dX6_text_33 : decode cX6_text 33 = .ok (.getfield 10, 3) := by decide +kernel
theorem dX6_text_36 : decode cX6_text 36 = .ok (.iconst (-1), 1) := by decide +kernel
theorem dX6_text_37 : decode cX6_text 37 = .ok (.putfield 73, 3) := by decide +kernel
theorem dX6_text_40 : decode cX6_text 40 = .ok (.iload_n 3, 1) := by decide +kernel
theorem dX6_text_41 : decode cX6_text 41 = .ok (.iconst (-1), 1) := by decide +kernel
theorem dX6_text_42 : decode cX6_text 42 = .ok (.if_icmp .ne 6, 3) := by decide +kernel
theorem dX6_text_45 : decode cX6_text 45 = .ok (.bipush (-2), 2) := by decide +kernel
theorem dX6_text_47 : decode cX6_text 47 = .ok (.ireturn, 1) := by decide +kernel
theorem dX6_text_48 : decode cX6_text 48 = .ok (.aload_n 0, 1) := by decide +kernel
theorem dX6_text_49 : decode cX6_text 49 = .ok (.getfield 23, 3) := by decide +kernel
theorem dX6_text_52 : decode cX6_text 52 = .ok (.aload_n 0, 1) := by decide +kernel
theorem dX6_text_53 : decode cX6_text 53 = .ok (.getfield 10, 3) := by decide +kernel
theorem dX6_text_56 : decode cX6_text 56 = .ok (.getfield 59, 3) := by decide +kernel
theorem dX6_text_59 : decode cX6_text 59 = .ok (.iload 4, 2) := by decide +kernel
theorem dX6_text_61 : decode cX6_text 61 = .ok (.iload_n 1, 1) := by decide +kernel
theorem dX6_text_62 : decode cX6_text 62 = .ok (.invokevirtual 76, 3) := by decide +kernel
theorem dX6_text_65 : decode cX6_text 65 = .ok (.aload_n 0, 1) := by decide +kernel
theorem dX6_text_66 : decode cX6_text 66 = .ok (.getfield 10, 3) := by decide +kernel
theorem dX6_text_69 : decode cX6_text 69 = .ok (.aload_n 0, 1) := by decide +kernel
theorem dX6_text_70 : decode cX6_text 70 = .ok (.getfield 23, 3) := by decide +kernel
theorem dX6_text_73 : decode cX6_text 73 = .ok (.getfield 79, 3) := by decide +kernel
theorem dX6_text_76 : decode cX6_text 76 = .ok (.putfield 70, 3) := by decide +kernel
theorem dX6_text_79 : decode cX6_text 79 = .ok (.aload_n 0, 1) := by decide +kernel
theorem dX6_text_80 : decode cX6_text 80 = .ok (.getfield 10, 3) := by decide +kernel
theorem dX6_text_83 : decode cX6_text 83 = .ok (.aload_n 0, 1) := by decide +kernel
theorem dX6_text_84 : decode cX6_text 84 = .ok (.getfield 23, 3) := by decide +kernel
theorem dX6_text_87 : decode cX6_text 87 = .ok (.getfield 80, 3) := by decide +kernel
theorem dX6_text_90 : decode cX6_text 90 = .ok (.putfield 73, 3) := by decide +kernel
theorem dX6_text_93 : decode cX6_text 93 = .ok (.aload_n 0, 1) := by decide +kernel
theorem dX6_text_94 : decode cX6_text 94 = .ok (.getfield 23, 3) := by decide +kernel
theorem dX6_text_97 : decode cX6_text 97 = .ok (.getfield 79, 3) := by decide +kernel
theorem dX6_text_100 : decode cX6_text 100 = .ok (.ifCond .eq 5, 3) := by decide +kernel
theorem dX6_text_103 : decode cX6_text 103 = .ok (.iconst (-1), 1) := by decide +kernel
theorem dX6_text_104 : decode cX6_text 104 = .ok (.ireturn, 1) := by decide +kernel
theorem dX6_text_105 : decode cX6_text 105 = .ok (.aload_n 0, 1) := by decide +kernel
theorem dX6_text_106 : decode cX6_text 106 = .ok (.iload_n 1, 1) := by decide +kernel
theorem dX6_text_107 : decode cX6_text 107 = .ok (.iload_n 3, 1) := by decide +kernel
theorem dX6_text_108 : decode cX6_text 108 = .ok (.invokevirtual 81, 3) := by decide +kernel
theorem dX6_text_111 : decode cX6_text 111 = .ok (.iload_n 3, 1) := by decide +kernel
theorem dX6_text_112 : decode cX6_text 112 = .ok (.ireturn, 1) := by decide +kernel
theorem dX6_vote_0 : decode cX6_vote 0 = .ok (.iload 4, 2) := by decide +kernel
theorem dX6_vote_2 : decode cX6_vote 2 = .ok (.iload 5, 2) := by decide +kernel
theorem dX6_vote_4 : decode cX6_vote 4 = .ok (.iload 6, 2) := by decide +kernel
theorem dX6_vote_6 : decode cX6_vote 6 = .ok (.invokestatic 196, 3) := by decide +kernel
theorem dX6_vote_9 : decode cX6_vote 9 = .ok (.istore 8, 2) := by decide +kernel
theorem dX6_vote_11 : decode cX6_vote 11 = .ok (.aload_n 0, 1) := by decide +kernel
theorem dX6_vote_12 : decode cX6_vote 12 = .ok (.iload_n 1, 1) := by decide +kernel
theorem dX6_vote_13 : decode cX6_vote 13 = .ok (.iload_n 2, 1) := by decide +kernel
theorem dX6_vote_14 : decode cX6_vote 14 = .ok (.iload_n 3, 1) := by decide +kernel
theorem dX6_vote_15 : decode cX6_vote 15 = .ok (.iload 8, 2) := by decide +kernel
theorem dX6_vote_17 : decode cX6_vote 17 = .ok (.invokevirtual 200, 3) := by decide +kernel
theorem dX6_vote_20 : decode cX6_vote 20 = .ok (.astore 9, 2) := by decide +kernel
theorem dX6_vote_22 : decode cX6_vote 22 = .ok (.aload 9, 2) := by decide +kernel
theorem dX6_vote_24 : decode cX6_vote 24 = .ok (.ifnonnull 5, 3) := by decide +kernel
theorem dX6_vote_27 : decode cX6_vote 27 = .ok (.iconst (-1), 1) := by decide +kernel
theorem dX6_vote_28 : decode cX6_vote 28 = .ok (.ireturn, 1) := by decide +kernel
theorem dX6_vote_29 : decode cX6_vote 29 = .ok (.aload 9, 2) := by decide +kernel
theorem dX6_vote_31 : decode cX6_vote 31 = .ok (.iload_n 2, 1) := by decide +kernel
theorem dX6_vote_32 : decode cX6_vote 32 = .ok (.iload_n 3, 1) := by decide +kernel
theorem dX6_vote_33 : decode cX6_vote 33 = .ok (.iload 8, 2) := by decide +kernel
theorem dX6_vote_35 : decode cX6_vote 35 = .ok (.invokevirtual 207, 3) := by decide +kernel
theorem dX6_vote_38 : decode cX6_vote 38 = .ok (.istore 10, 2) := by decide +kernel
theorem dX6_vote_40 : decode cX6_vote 40 = .ok (.iload 7, 2) := by decide +kernel
theorem dX6_vote_42 : decode cX6_vote 42 = .ok (.ifCond .ne 6, 3) := by decide +kernel
theorem dX6_vote_45 : decode cX6_vote 45 = .ok (.iload 10, 2) := by decide +kernel
theorem dX6_vote_47 : decode cX6_vote 47 = .ok (.ireturn, 1) := by decide +kernel
theorem dX6_vote_48 : decode cX6_vote 48 = .ok (.aload 9, 2) := by decide +kernel
theorem dX6_vote_50 : decode cX6_vote 50 = .ok (.aload 9, 2) := by decide +kernel
theorem dX6_vote_52 : decode cX6_vote 52 = .ok (.invokevirtual 210, 3) := by decide +kernel
theorem dX6_vote_55 : decode cX6_vote 55 = .ok (.iload 10, 2) := by decide +kernel
theorem dX6_vote_57 : decode cX6_vote 57 = .ok (.invokevirtual 214, 3) := by decide +kernel
theorem dX6_vote_60 : decode cX6_vote 60 = .ok (.ifCond .eq 7, 3) := by decide +kernel
theorem dX6_vote_63 : decode cX6_vote 63 = .ok (.iconst 1, 1) := by decide +kernel
theorem dX6_vote_64 : decode cX6_vote 64 = .ok (.goto 4, 3) := by decide +kernel
theorem dX6_vote_67 : decode cX6_vote 67 = .ok (.iconst 0, 1) := by decide +kernel
theorem dX6_vote_68 : decode cX6_vote 68 = .ok (.ireturn, 1) := by decide +kernel
theorem dX6_was_0 : decode cX6_was 0 = .ok (.aload_n 0, 1) := by decide +kernel
theorem dX6_was_1 : decode cX6_was 1 = .ok (.iconst 4, 1) := by decide +kernel
theorem dX6_was_2 : decode cX6_was 2 = .ok (.iload_n 1, 1) := by decide +kernel
theorem dX6_was_3 : decode cX6_was 3 = .ok (.invokevirtual 182, 3) := by decide +kernel
theorem dX6_was_6 : decode cX6_was 6 = .ok (.iload_n 2, 1) := by decide +kernel
theorem dX6_was_7 : decode cX6_was 7 = .ok (.iload_n 3, 1) := by decide +kernel
theorem dX6_was_8 : decode cX6_was 8 = .ok (.iconst 4, 1) := by decide +kernel
theorem dX6_was_9 : decode cX6_was 9 = .ok (.invokestatic 185, 3) := by decide +kernel
theorem dX6_was_12 : decode cX6_was 12 = .ok (.ireturn, 1) := by decide +kernel
theorem dX7_advance_0 : decode cX7_advance 0 = .ok (.aload_n 0, 1) := by decide +kernel
theorem dX7_advance_1 : decode cX7_advance 1 = .ok (.aload_n 0, 1) := by decide +kernel
theorem dX7_advance_2 : decode cX7_advance 2 = .ok (.getfield 53, 3) := by decide +kernel
theorem dX7_advance_5 : decode cX7_advance 5 = .ok (.invokevirtual 56, 3) := by decide +kernel
theorem dX7_advance_8 : decode cX7_advance 8 = .ok (.bipush 10, 2) := by decide +kernel
theorem dX7_advance_10 : decode cX7_advance 10 = .ok (.if_icmp .eq 16, 3) := by decide +kernel
theorem dX7_advance_13 : decode cX7_advance 13 = .ok (.aload_n 0, 1) := by decide +kernel
theorem dX7_advance_14 : decode cX7_advance 14 = .ok (.aload_n 0, 1) := by decide +kernel
theorem dX7_advance_15 : decode cX7_advance 15 = .ok (.getfield 53, 3) := by decide +kernel
theorem dX7_advance_18 : decode cX7_advance 18 = .ok (.invokevirtual 56, 3) := by decide +kernel
theorem dX7_advance_21 : decode cX7_advance 21 = .ok (.bipush 32, 2) := by decide +kernel
theorem dX7_advance_23 : decode cX7_advance 23 = .ok (.if_icmp .ne 16, 3) := by decide +kernel
theorem dX7_advance_26 : decode cX7_advance 26 = .ok (.aload_n 0, 1) := by decide +kernel
theorem dX7_advance_27 : decode cX7_advance 27 = .ok (.dup, 1) := by decide +kernel
theorem dX7_advance_28 : decode cX7_advance 28 = .ok (.getfield 53, 3) := by decide +kernel
theorem dX7_advance_31 : decode cX7_advance 31 = .ok (.iconst 1, 1) := by decide +kernel
theorem dX7_advance_32 : decode cX7_advance 32 = .ok (.iadd, 1) := by decide +kernel
theorem dX7_advance_33 : decode cX7_advance 33 = .ok (.putfield 53, 3) := by decide +kernel
theorem dX7_advance_36 : decode cX7_advance 36 = .ok (.goto (-36), 3) := by decide +kernel
theorem dX7_advance_39 : decode cX7_advance 39 = .ok (.aload_n 0, 1) := by decide +kernel
theorem dX7_advance_40 : decode cX7_advance 40 = .ok (.aload_n 0, 1) := by decide +kernel
theorem dX7_advance_41 : decode cX7_advance 41 = .ok (.getfield 53, 3) := by decide +kernel
theorem dX7_advance_44 : decode cX7_advance 44 = .ok (.putfield 60, 3) := by decide +kernel
theorem dX7_advance_47 : decode cX7_advance 47 = .ok (.aload_n 0, 1) := by decide +kernel
theorem dX7_advance_48 : decode cX7_advance 48 = .ok (.aload_n 0, 1) := by decide +kernel
theorem dX7_advance_49 : decode cX7_advance 49 = .ok (.getfield 53, 3) := by decide +kernel
theorem dX7_advance_52 : decode cX7_advance 52 = .ok (.invokevirtual 56, 3) := by decide +kernel
theorem dX7_advance_55 : decode cX7_advance 55 = .ok (.istore_n 1, 1) := by decide +kernel
theorem dX7_advance_56 : decode cX7_advance 56 = .ok (.iload_n 1, 1) := by decide +kernel
theorem dX7_advance_57 : decode cX7_advance 57 = .ok (.ifCond .ge 11, 3) := by decide +kernel
theorem dX7_advance_60 : decode cX7_advance 60 = .ok (.aload_n 0, 1) := by decide +kernel
theorem dX7_advance_61 : decode cX7_advance 61 = .ok (.iconst 0, 1) := by decide +kernel
theorem dX7_advance_62 : decode cX7_advance 62 = .ok (.putfield 63, 3) := by decide +kernel
theorem dX7_advance_65 : decode cX7_advance 65 = .ok (.goto 246, 3) := by decide +kernel
theorem dX7_advance_68 : decode cX7_advance 68 = .ok (.iload_n 1, 1) := by decide +kernel
theorem dX7_advance_69 : decode cX7_advance 69 = .ok (.invokestatic 66, 3) := by decide +kernel
theorem dX7_advance_72 : decode cX7_advance 72 = .ok (.ifCond .eq 114, 3) := by decide +kernel
theorem dX7_advance_75 : decode cX7_advance 75 = .ok (.lconst 0, 1) := by decide +kernel
theorem dX7_advance_76 : decode cX7_advance 76 = .ok (.lstore_n 2, 1) := by decide +kernel
theorem dX7_advance_77 : decode cX7_advance 77 = .ok (.aload_n 0, 1) := by decide +kernel
theorem dX7_advance_78 : decode cX7_advance 78 = .ok (.aload_n 0, 1) := by decide +kernel
theorem dX7_advance_79 : decode cX7_advance 79 = .ok (.getfield 53, 3) := by decide +kernel
theorem dX7_advance_82 : decode cX7_advance 82 = .ok (.invokevirtual 56, 3) := by decide +kernel
theorem dX7_advance_85 : decode cX7_advance 85 = .ok (.invokestatic 66, 3) := by decide +kernel
theorem dX7_advance_88 : decode cX7_advance 88 = .ok (.ifCond .eq 50, 3) := by decide +kernel
theorem dX7_advance_91 : decode cX7_advance 91 = .ok (.aload_n 0, 1) := by decide +kernel
theorem dX7_advance_92 : decode cX7_advance 92 = .ok (.getfield 53, 3) := by decide +kernel
theorem dX7_advance_95 : decode cX7_advance 95 = .ok (.aload_n 0, 1) := by decide +kernel
theorem dX7_advance_96 : decode cX7_advance 96 = .ok (.getfield 60, 3) := by decide +kernel
theorem dX7_advance_99 : decode cX7_advance 99 = .ok (.isub, 1) := by decide +kernel
theorem dX7_advance_100 : decode cX7_advance 100 = .ok (.bipush 8, 2) := by decide +kernel
theorem dX7_advance_102 : decode cX7_advance 102 = .ok (.if_icmp .ge 23, 3) := by decide +kernel
theorem dX7_advance_105 : decode cX7_advance 105 = .ok (.ldc2_w 70, 3) := by decide +kernel
theorem dX7_advance_108 : decode cX7_advance 108 = .ok (.lload_n 2, 1) := by decide +kernel
theorem dX7_advance_109 : decode cX7_advance 109 = .ok (.lmul, 1) := by decide +kernel
theorem dX7_advance_110 : decode cX7_advance 110 = .ok (.aload_n 0, 1) := by decide +kernel
theorem dX7_advance_111 : decode cX7_advance 111 = .ok (.aload_n 0, 1) := by decide +kernel
theorem dX7_advance_112 : decode cX7_advance 112 = .ok (.getfield 53, 3) := by decide +kernel
theorem dX7_advance_115 : decode cX7_advance 115 = .ok (.invokevirtual 56, 3) := by decide +kernel
theorem dX7_advance_118 : decode cX7_advance 118 = .ok (.i2l, 1) := by decide +kernel
theorem dX7_advance_119 : decode cX7_advance 119 = .ok (.ladd, 1) := by decide +kernel
theorem dX7_advance_120 : decode cX7_advance 120 = .ok (.ldc2_w 72, 3) := by decide +kernel
theorem dX7_advance_123 : decode cX7_advance 123 = .ok (.lsub, 1) := by decide +kernel
theorem dX7_advance_124 : decode cX7_advance 124 = .ok (.lstore_n 2, 1) := by decide +kernel
theorem dX7_advance_125 : decode cX7_advance 125 = .ok (.aload_n 0, 1) := by decide +kernel
theorem dX7_advance_126 : decode cX7_advance 126 = .ok (.dup, 1) := by decide +kernel
theorem dX7_advance_127 : decode cX7_advance 127 = .ok (.getfield 53, 3) := by decide +kernel
theorem dX7_advance_130 : decode cX7_advance 130 = .ok (.iconst 1, 1) := by decide +kernel
theorem dX7_advance_131 : decode cX7_advance 131 = .ok (.iadd, 1) := by decide +kernel
theorem dX7_advance_132 : decode cX7_advance 132 = .ok (.putfield 53, 3) := by decide +kernel
theorem dX7_advance_135 : decode cX7_advance 135 = .ok (.goto (-58), 3) := by decide +kernel
theorem dX7_advance_138 : decode cX7_advance 138 = .ok (.aload_n 0, 1) := by decide +kernel
theorem dX7_advance_139 : decode cX7_advance 139 = .ok (.aload_n 0, 1) := by decide +kernel
theorem dX7_advance_140 : decode cX7_advance 140 = .ok (.getfield 53, 3) := by decide +kernel
theorem dX7_advance_143 : decode cX7_advance 143 = .ok (.aload_n 0, 1) := by decide +kernel
theorem dX7_advance_144 : decode cX7_advance 144 = .ok (.getfield 60, 3) := by decide +kernel
theorem dX7_advance_147 : decode cX7_advance 147 = .ok (.isub, 1) := by decide +kernel
theorem dX7_advance_148 : decode cX7_advance 148 = .ok (.bipush 8, 2) := by decide +kernel
theorem dX7_advance_150 : decode cX7_advance 150 = .ok (.if_icmp .le 8, 3) := by decide +kernel
theorem dX7_advance_153 : decode cX7_advance 153 = .ok (.bipush 99, 2) := by decide +kernel
theorem dX7_advance_155 : decode cX7_advance 155 = .ok (.goto 7, 3) := by decide +kernel
theorem dX7_advance_158 : decode cX7_advance 158 = .ok (.lload_n 2, 1) := by decide +kernel
theorem dX7_advance_159 : decode cX7_advance 159 = .ok (.invokestatic 74, 3) := by decide +kernel
theorem dX7_advance_162 : decode cX7_advance 162 = .ok (.putfield 77, 3) := by decide +kernel
theorem dX7_advance_165 : decode cX7_advance 165 = .ok (.aload_n 0, 1) := by decide +kernel
theorem dX7_advance_166 : decode cX7_advance 166 = .ok (.aload_n 0, 1) := by decide +kernel
theorem dX7_advance_167 : decode cX7_advance 167 = .ok (.getfield 77, 3) := by decide +kernel
theorem dX7_advance_170 : decode cX7_advance 170 = .ok (.bipush 99, 2) := by decide +kernel
theorem dX7_advance_172 : decode cX7_advance 172 = .ok (.if_icmp .ne 7, 3) := by decide +kernel
theorem dX7_advance_175 : decode cX7_advance 175 = .ok (.iconst 4, 1) := by decide +kernel
theorem dX7_advance_176 : decode cX7_advance 176 = .ok (.goto 4, 3) := by decide +kernel
theorem dX7_advance_179 : decode cX7_advance 179 = .ok (.iconst 3, 1) := by decide +kernel
theorem dX7_advance_180 : decode cX7_advance 180 = .ok (.putfield 63, 3) := by decide +kernel
theorem dX7_advance_183 : decode cX7_advance 183 = .ok (.goto 128, 3) := by decide +kernel
theorem dX7_advance_186 : decode cX7_advance 186 = .ok (.iload_n 1, 1) := by decide +kernel
theorem dX7_advance_187 : decode cX7_advance 187 = .ok (.invokestatic 80, 3) := by decide +kernel
theorem dX7_advance_190 : decode cX7_advance 190 = .ok (.ifCond .eq 96, 3) := by decide +kernel
theorem dX7_advance_193 : decode cX7_advance 193 = .ok (.aload_n 0, 1) := by decide +kernel
theorem dX7_advance_194 : decode cX7_advance 194 = .ok (.iconst 0, 1) := by decide +kernel
theorem dX7_advance_195 : decode cX7_advance 195 = .ok (.putfield 83, 3) := by decide +kernel
theorem dX7_advance_198 : decode cX7_advance 198 = .ok (.aload_n 0, 1) := by decide +kernel
theorem dX7_advance_199 : decode cX7_advance 199 = .ok (.aload_n 0, 1) := by decide +kernel
theorem dX7_advance_200 : decode cX7_advance 200 = .ok (.getfield 53, 3) := by decide +kernel
theorem dX7_advance_203 : decode cX7_advance 203 = .ok (.invokevirtual 56, 3) := by decide +kernel
theorem dX7_advance_206 : decode cX7_advance 206 = .ok (.invokestatic 80, 3) := by decide +kernel
theorem dX7_advance_209 : decode cX7_advance 209 = .ok (.ifCond .eq 52, 3) := by decide +kernel
theorem dX7_advance_212 : decode cX7_advance 212 = .ok (.aload_n 0, 1) := by decide +kernel
theorem dX7_advance_213 : decode cX7_advance 213 = .ok (.getfield 53, 3) := by decide +kernel
theorem dX7_advance_216 : decode cX7_advance 216 = .ok (.aload_n 0, 1) := by decide +kernel
theorem dX7_advance_217 : decode cX7_advance 217 = .ok (.getfield 60, 3) := by decide +kernel
theorem dX7_advance_220 : decode cX7_advance 220 = .ok (.isub, 1) := by decide +kernel
theorem dX7_advance_221 : decode cX7_advance 221 = .ok (.iconst 2, 1) := by decide +kernel
theorem dX7_advance_222 : decode cX7_advance 222 = .ok (.if_icmp .ge 26, 3) := by decide +kernel
theorem dX7_advance_225 : decode cX7_advance 225 = .ok (.aload_n 0, 1) := by decide +kernel
theorem dX7_advance_226 : decode cX7_advance 226 = .ok (.bipush 10, 2) := by decide +kernel
theorem dX7_advance_228 : decode cX7_advance 228 = .ok (.aload_n 0, 1) := by decide +kernel
theorem dX7_advance_229 : decode cX7_advance 229 = .ok (.getfield 83, 3) := by decide +kernel
theorem dX7_advance_232 : decode cX7_advance 232 = .ok (.imul, 1) := by decide +kernel
theorem dX7_advance_233 : decode cX7_advance 233 = .ok (.aload_n 0, 1) := by decide +kernel
theorem dX7_advance_234 : decode cX7_advance 234 = .ok (.aload_n 0, 1) := by decide +kernel
theorem dX7_advance_235 : decode cX7_advance 235 = .ok (.getfield 53, 3) := by decide +kernel
theorem dX7_advance_238 : decode cX7_advance 238 = .ok (.invokevirtual 56, 3) := by decide +kernel
theorem dX7_advance_241 : decode cX7_advance 241 = .ok (.iadd, 1) := by decide +kernel
theorem dX7_advance_242 : decode cX7_advance 242 = .ok (.bipush 48, 2) := by decide +kernel
theorem dX7_advance_244 : decode cX7_advance 244 = .ok (.isub, 1) := by decide +kernel
theorem dX7_advance_245 : decode cX7_advance 245 = .ok (.putfield 83, 3) := by decide +kernel
theorem dX7_advance_248 : decode cX7_advance 248 = .ok (.aload_n 0, 1) := by decide +kernel
theorem dX7_advance_249 : decode cX7_advance 249 = .ok (.dup, 1) := by decide +kernel
theorem dX7_advance_250 : decode cX7_advance 250 = .ok (.getfield 53, 3) := by decide +kernel
theorem dX7_advance_253 : decode cX7_advance 253 = .ok (.iconst 1, 1) := by decide +kernel
theorem dX7_advance_254 : decode cX7_advance 254 = .ok (.iadd, 1) := by decide +kernel
theorem dX7_advance_255 : decode cX7_advance 255 = .ok (.putfield 53, 3) := by decide +kernel
theorem dX7_advance_258 : decode cX7_advance 258 = .ok (.goto (-60), 3) := by decide +kernel
theorem dX7_advance_261 : decode cX7_advance 261 = .ok (.aload_n 0, 1) := by decide +kernel
theorem dX7_advance_262 : decode cX7_advance 262 = .ok (.aload_n 0, 1) := by decide +kernel
theorem dX7_advance_263 : decode cX7_advance 263 = .ok (.getfield 53, 3) := by decide +kernel
theorem dX7_advance_266 : decode cX7_advance 266 = .ok (.aload_n 0, 1) := by decide +kernel
theorem dX7_advance_267 : decode cX7_advance 267 = .ok (.getfield 60, 3) := by decide +kernel
theorem dX7_advance_270 : decode cX7_advance 270 = .ok (.isub, 1) := by decide +kernel
theorem dX7_advance_271 : decode cX7_advance 271 = .ok (.iconst 2, 1) := by decide +kernel
theorem dX7_advance_272 : decode cX7_advance 272 = .ok (.if_icmp .le 7, 3) := by decide +kernel
theorem dX7_advance_275 : decode cX7_advance 275 = .ok (.iconst 4, 1) := by decide +kernel
theorem dX7_advance_276 : decode cX7_advance 276 = .ok (.goto 4, 3) := by decide +kernel
theorem dX7_advance_279 : decode cX7_advance 279 = .ok (.iconst 1, 1) := by decide +kernel
theorem dX7_advance_280 : decode cX7_advance 280 = .ok (.putfield 63, 3) := by decide +kernel
theorem dX7_advance_283 : decode cX7_advance 283 = .ok (.goto 28, 3) := by decide +kernel
theorem dX7_advance_286 : decode cX7_advance 286 = .ok (.aload_n 0, 1) := by decide +kernel
theorem dX7_advance_287 : decode cX7_advance 287 = .ok (.dup, 1) := by decide +kernel
theorem dX7_advance_288 : decode cX7_advance 288 = .ok (.getfield 53, 3) := by decide +kernel
theorem dX7_advance_291 : decode cX7_advance 291 = .ok (.iconst 1, 1) := by decide +kernel
theorem dX7_advance_292 : decode cX7_advance 292 = .ok (.iadd, 1) := by decide +kernel
theorem dX7_advance_293 : decode cX7_advance 293 = .ok (.putfield 53, 3) := by decide +kernel
theorem dX7_advance_296 : decode cX7_advance 296 = .ok (.aload_n 0, 1) := by decide +kernel
theorem dX7_advance_297 : decode cX7_advance 297 = .ok (.iload_n 1, 1) := by decide +kernel
theorem dX7_advance_298 : decode cX7_advance 298 = .ok (.bipush 59, 2) := by decide +kernel
theorem dX7_advance_300 : decode cX7_advance 300 = .ok (.if_icmp .ne 7, 3) := by decide +kernel
theorem dX7_advance_303 : decode cX7_advance 303 = .ok (.iconst 2, 1) := by decide +kernel
theorem dX7_advance_304 : decode cX7_advance 304 = .ok (.goto 4, 3) := by decide +kernel
theorem dX7_advance_307 : decode cX7_advance 307 = .ok (.iconst 4, 1) := by decide +kernel
theorem dX7_advance_308 : decode cX7_advance 308 = .ok (.putfield 63, 3) := by decide +kernel
theorem dX7_advance_311 : decode cX7_advance 311 = .ok (.return_, 1) := by decide +kernel
theorem dX7_again_0 : decode cX7_again 0 = .ok (.iload_n 1, 1) := by decide +kernel
theorem dX7_again_1 : decode cX7_again 1 = .ok (.iconst 0, 1) := by decide +kernel
theorem dX7_again_2 : decode cX7_again 2 = .ok (.iconst 2, 1) := by decide +kernel
theorem dX7_again_3 : decode cX7_again 3 = .ok (.invokestatic 93, 3) := by decide +kernel
theorem dX7_again_6 : decode cX7_again 6 = .ok (.ifCond .eq 12, 3) := by decide +kernel
theorem dX7_again_9 : decode cX7_again 9 = .ok (.aload_n 0, 1) := by decide +kernel
theorem dX7_again_10 : decode cX7_again 10 = .ok (.getfield 13, 3) := by decide +kernel
theorem dX7_again_13 : decode cX7_again 13 = .ok (.iload_n 1, 1) := by decide +kernel
theorem dX7_again_14 : decode cX7_again 14 = .ok (.baload, 1) := by decide +kernel
theorem dX7_again_15 : decode cX7_again 15 = .ok (.ifCond .ne 5, 3) := by decide +kernel
theorem dX7_again_18 : decode cX7_again 18 = .ok (.iconst 0, 1) := by decide +kernel
theorem dX7_again_19 : decode cX7_again 19 = .ok (.ireturn, 1) := by decide +kernel
theorem dX7_again_20 : decode cX7_again 20 = .ok (.iconst 0, 1) := by decide +kernel
theorem dX7_again_21 : decode cX7_again 21 = .ok (.istore_n 2, 1) := by decide +kernel
theorem dX7_again_22 : decode cX7_again 22 = .ok (.iload_n 2, 1) := by decide +kernel
theorem dX7_again_23 : decode cX7_again 23 = .ok (.sipush 1442, 3) := by decide +kernel
theorem dX7_again_26 : decode cX7_again 26 = .ok (.if_icmp .ge 29, 3) := by decide +kernel
theorem dX7_again_29 : decode cX7_again 29 = .ok (.aload_n 0, 1) := by decide +kernel
theorem dX7_again_30 : decode cX7_again 30 = .ok (.getfield 7, 3) := by decide +kernel
theorem dX7_again_33 : decode cX7_again 33 = .ok (.iload_n 2, 1) := by decide +kernel
theorem dX7_again_34 : decode cX7_again 34 = .ok (.aload_n 0, 1) := by decide +kernel
theorem dX7_again_35 : decode cX7_again 35 = .ok (.getfield 7, 3) := by decide +kernel
theorem dX7_again_38 : decode cX7_again 38 = .ok (.sipush 1442, 3) := by decide +kernel
theorem dX7_again_41 : decode cX7_again 41 = .ok (.iload_n 1, 1) := by decide +kernel
theorem dX7_again_42 : decode cX7_again 42 = .ok (.iconst 1, 1) := by decide +kernel
theorem dX7_again_43 : decode cX7_again 43 = .ok (.iadd, 1) := by decide +kernel
theorem dX7_again_44 : decode cX7_again 44 = .ok (.imul, 1) := by decide +kernel
theorem dX7_again_45 : decode cX7_again 45 = .ok (.iload_n 2, 1) := by decide +kernel
theorem dX7_again_46 : decode cX7_again 46 = .ok (.iadd, 1) := by decide +kernel
theorem dX7_again_47 : decode cX7_again 47 = .ok (.iaload, 1) := by decide +kernel
theorem dX7_again_48 : decode cX7_again 48 = .ok (.iastore, 1) := by decide +kernel
theorem dX7_again_49 : decode cX7_again 49 = .ok (.iinc 2 1, 3) := by decide +kernel
theorem dX7_again_52 : decode cX7_again 52 = .ok (.goto (-30), 3) := by decide +kernel
theorem dX7_again_55 : decode cX7_again 55 = .ok (.iconst 1, 1) := by decide +kernel
theorem dX7_again_56 : decode cX7_again 56 = .ok (.ireturn, 1) := by decide +kernel
theorem dX7_agreed_0 : decode cX7_agreed 0 = .ok (.aload_n 0, 1) := by decide +kernel
theorem dX7_agreed_1 : decode cX7_agreed 1 = .ok (.iload_n 1, 1) := by decide +kernel
theorem dX7_agreed_2 : decode cX7_agreed 2 = .ok (.iload_n 3, 1) := by decide +kernel
theorem dX7_agreed_3 : decode cX7_agreed 3 = .ok (.iload 4, 2) := by decide +kernel
theorem dX7_agreed_5 : decode cX7_agreed 5 = .ok (.iconst 0, 1) := by decide +kernel
theorem dX7_agreed_6 : decode cX7_agreed 6 = .ok (.iconst 0, 1) := by decide +kernel
theorem dX7_agreed_7 : decode cX7_agreed 7 = .ok (.iconst 0, 1) := by decide +kernel
theorem dX7_agreed_8 : decode cX7_agreed 8 = .ok (.invokevirtual 241, 3) := by decide +kernel
theorem dX7_agreed_11 : decode cX7_agreed 11 = .ok (.ifCond .eq 26, 3) := by decide +kernel
theorem dX7_agreed_14 : decode cX7_agreed 14 = .ok (.iload 5, 2) := by decide +kernel
theorem dX7_agreed_16 : decode cX7_agreed 16 = .ok (.iconst 0, 1) := by decide +kernel
theorem dX7_agreed_17 : decode cX7_agreed 17 = .ok (.iconst 2, 1) := by decide +kernel
theorem dX7_agreed_18 : decode cX7_agreed 18 = .ok (.invokestatic 93, 3) := by decide +kernel
theorem dX7_agreed_21 : decode cX7_agreed 21 = .ok (.ifCond .eq 16, 3) := by decide +kernel
theorem dX7_agreed_24 : decode cX7_agreed 24 = .ok (.iload_n 2, 1) := by decide +kernel
theorem dX7_agreed_25 : decode cX7_agreed 25 = .ok (.iconst (-1), 1) := by decide +kernel
theorem dX7_agreed_26 : decode cX7_agreed 26 = .ok (.if_icmp .eq 14, 3) := by decide +kernel
theorem dX7_agreed_29 : decode cX7_agreed 29 = .ok (.aload_n 0, 1) := by decide +kernel
theorem dX7_agreed_30 : decode cX7_agreed 30 = .ok (.iload_n 2, 1) := by decide +kernel
theorem dX7_agreed_31 : decode cX7_agreed 31 = .ok (.invokevirtual 254, 3) := by decide +kernel
theorem dX7_agreed_34 : decode cX7_agreed 34 = .ok (.ifCond .ne 6, 3) := by decide +kernel
theorem dX7_agreed_37 : decode cX7_agreed 37 = .ok (.bipush (-2), 2) := by decide +kernel
theorem dX7_agreed_39 : decode cX7_agreed 39 = .ok (.ireturn, 1) := by decide +kernel
theorem dX7_agreed_40 : decode cX7_agreed 40 = .ok (.iconst 0, 1) := by decide +kernel
theorem dX7_agreed_41 : decode cX7_agreed 41 = .ok (.istore 6, 2) := by decide +kernel
theorem dX7_agreed_43 : decode cX7_agreed 43 = .ok (.iconst (-1), 1) := by decide +kernel
theorem dX7_agreed_44 : decode cX7_agreed 44 = .ok (.istore 7, 2) := by decide +kernel
theorem dX7_agreed_46 : decode cX7_agreed 46 = .ok (.iconst 0, 1) := by decide +kernel
theorem dX7_agreed_47 : decode cX7_agreed 47 = .ok (.istore 8, 2) := by decide +kernel
theorem dX7_agreed_49 : decode cX7_agreed 49 = .ok (.iload 8, 2) := by decide +kernel
theorem dX7_agreed_51 : decode cX7_agreed 51 = .ok (.sipush 1000, 3) := by decide +kernel
theorem dX7_agreed_54 : decode cX7_agreed 54 = .ok (.if_icmp .ge 84, 3) := by decide +kernel
theorem dX7_agreed_57 : decode cX7_agreed 57 = .ok (.aload_n 0, 1) := by decide +kernel
theorem dX7_agreed_58 : decode cX7_agreed 58 = .ok (.iload 8, 2) := by decide +kernel
theorem dX7_agreed_60 : decode cX7_agreed 60 = .ok (.iload_n 2, 1) := by decide +kernel
theorem dX7_agreed_61 : decode cX7_agreed 61 = .ok (.iconst (-1), 1) := by decide +kernel
theorem dX7_agreed_62 : decode cX7_agreed 62 = .ok (.if_icmp .eq 7, 3) := by decide +kernel
theorem dX7_agreed_65 : decode cX7_agreed 65 = .ok (.iconst 1, 1) := by decide +kernel
theorem dX7_agreed_66 : decode cX7_agreed 66 = .ok (.goto 4, 3) := by decide +kernel
theorem dX7_agreed_69 : decode cX7_agreed 69 = .ok (.iconst 0, 1) := by decide +kernel
theorem dX7_agreed_70 : decode cX7_agreed 70 = .ok (.invokevirtual 336, 3) := by decide +kernel
theorem dX7_agreed_73 : decode cX7_agreed 73 = .ok (.ifCond .ne 6, 3) := by decide +kernel
theorem dX7_agreed_76 : decode cX7_agreed 76 = .ok (.goto 56, 3) := by decide +kernel
theorem dX7_agreed_79 : decode cX7_agreed 79 = .ok (.iinc 6 1, 3) := by decide +kernel
theorem dX7_agreed_82 : decode cX7_agreed 82 = .ok (.iload 7, 2) := by decide +kernel
theorem dX7_agreed_84 : decode cX7_agreed 84 = .ok (.iconst (-1), 1) := by decide +kernel
theorem dX7_agreed_85 : decode cX7_agreed 85 = .ok (.if_icmp .eq 38, 3) := by decide +kernel
theorem dX7_agreed_88 : decode cX7_agreed 88 = .ok (.iload 8, 2) := by decide +kernel
theorem dX7_agreed_90 : decode cX7_agreed 90 = .ok (.iload 5, 2) := by decide +kernel
theorem dX7_agreed_92 : decode cX7_agreed 92 = .ok (.iconst 2, 1) := by decide +kernel
theorem dX7_agreed_93 : decode cX7_agreed 93 = .ok (.if_icmp .ne 7, 3) := by decide +kernel
theorem dX7_agreed_96 : decode cX7_agreed 96 = .ok (.iconst 1, 1) := by decide +kernel
theorem dX7_agreed_97 : decode cX7_agreed 97 = .ok (.goto 4, 3) := by decide +kernel
theorem dX7_agreed_100 : decode cX7_agreed 100 = .ok (.iconst 0, 1) := by decide +kernel
theorem dX7_agreed_101 : decode cX7_agreed 101 = .ok (.invokestatic 340, 3) := by decide +kernel
theorem dX7_agreed_104 : decode cX7_agreed 104 = .ok (.iload 7, 2) := by decide +kernel
theorem dX7_agreed_106 : decode cX7_agreed 106 = .ok (.iload 5, 2) := by decide +kernel
theorem dX7_agreed_108 : decode cX7_agreed 108 = .ok (.iconst 2, 1) := by decide +kernel
theorem dX7_agreed_109 : decode cX7_agreed 109 = .ok (.if_icmp .ne 7, 3) := by decide +kernel
theorem dX7_agreed_112 : decode cX7_agreed 112 = .ok (.iconst 1, 1) := by decide +kernel
theorem dX7_agreed_113 : decode cX7_agreed 113 = .ok (.goto 4, 3) := by decide +kernel
theorem dX7_agreed_116 : decode cX7_agreed 116 = .ok (.iconst 0, 1) := by decide +kernel
theorem dX7_agreed_117 : decode cX7_agreed 117 = .ok (.invokestatic 340, 3) := by decide +kernel
theorem dX7_agreed_120 : decode cX7_agreed 120 = .ok (.if_icmp .le 8, 3) := by decide +kernel
theorem dX7_agreed_123 : decode cX7_agreed 123 = .ok (.iload 8, 2) := by decide +kernel
theorem dX7_agreed_125 : decode cX7_agreed 125 = .ok (.goto 5, 3) := by decide +kernel
theorem dX7_agreed_128 : decode cX7_agreed 128 = .ok (.iload 7, 2) := by decide +kernel
theorem dX7_agreed_130 : decode cX7_agreed 130 = .ok (.istore 7, 2) := by decide +kernel
theorem dX7_agreed_132 : decode cX7_agreed 132 = .ok (.iinc 8 1, 3) := by decide +kernel
theorem dX7_agreed_135 : decode cX7_agreed 135 = .ok (.goto (-86), 3) := by decide +kernel
theorem dX7_agreed_138 : decode cX7_agreed 138 = .ok (.iload 5, 2) := by decide +kernel
theorem dX7_agreed_140 : decode cX7_agreed 140 = .ok (.ifCond .ne 8, 3) := by decide +kernel
theorem dX7_agreed_143 : decode cX7_agreed 143 = .ok (.iload 6, 2) := by decide +kernel
theorem dX7_agreed_145 : decode cX7_agreed 145 = .ok (.goto 5, 3) := by decide +kernel
theorem dX7_agreed_148 : decode cX7_agreed 148 = .ok (.iload 7, 2) := by decide +kernel
theorem dX7_agreed_150 : decode cX7_agreed 150 = .ok (.ireturn, 1) := by decide +kernel
theorem dX7_areOrders_0 : decode cX7_areOrders 0 = .ok (.aload_n 0, 1) := by decide +kernel
theorem dX7_areOrders_1 : decode cX7_areOrders 1 = .ok (.iconst 1, 1) := by decide +kernel
theorem dX7_areOrders_2 : decode cX7_areOrders 2 = .ok (.iload_n 1, 1) := by decide +kernel
theorem dX7_areOrders_3 : decode cX7_areOrders 3 = .ok (.invokevirtual 144, 3) := by decide +kernel
theorem dX7_areOrders_6 : decode cX7_areOrders 6 = .ok (.ifCond .ne 5, 3) := by decide +kernel
theorem dX7_areOrders_9 : decode cX7_areOrders 9 = .ok (.iconst 0, 1) := by decide +kernel
theorem dX7_areOrders_10 : decode cX7_areOrders 10 = .ok (.ireturn, 1) := by decide +kernel
theorem dX7_areOrders_11 : decode cX7_areOrders 11 = .ok (.aload_n 0, 1) := by decide +kernel
theorem dX7_areOrders_12 : decode cX7_areOrders 12 = .ok (.iconst 1, 1) := by decide +kernel
theorem dX7_areOrders_13 : decode cX7_areOrders 13 = .ok (.iload_n 1, 1) := by decide +kernel
theorem dX7_areOrders_14 : decode cX7_areOrders 14 = .ok (.invokestatic 172, 3) := by decide +kernel
theorem dX7_areOrders_17 : decode cX7_areOrders 17 = .ok (.putfield 251, 3) := by decide +kernel
theorem dX7_areOrders_20 : decode cX7_areOrders 20 = .ok (.iconst 1, 1) := by decide +kernel
theorem dX7_areOrders_21 : decode cX7_areOrders 21 = .ok (.ireturn, 1) := by decide +kernel
theorem dX7_areTold_0 : decode cX7_areTold 0 = .ok (.aload_n 0, 1) := by decide +kernel
theorem dX7_areTold_1 : decode cX7_areTold 1 = .ok (.iload_n 1, 1) := by decide +kernel
theorem dX7_areTold_2 : decode cX7_areTold 2 = .ok (.invokevirtual 190, 3) := by decide +kernel
theorem dX7_areTold_5 : decode cX7_areTold 5 = .ok (.ifCond .eq 20, 3) := by decide +kernel
theorem dX7_areTold_8 : decode cX7_areTold 8 = .ok (.aload_n 0, 1) := by decide +kernel
theorem dX7_areTold_9 : decode cX7_areTold 9 = .ok (.iload_n 2, 1) := by decide +kernel
theorem dX7_areTold_10 : decode cX7_areTold 10 = .ok (.invokevirtual 254, 3) := by decide +kernel
theorem dX7_areTold_13 : decode cX7_areTold 13 = .ok (.ifCond .eq 12, 3) := by decide +kernel
theorem dX7_areTold_16 : decode cX7_areTold 16 = .ok (.aload_n 0, 1) := by decide +kernel
theorem dX7_areTold_17 : decode cX7_areTold 17 = .ok (.iconst 2, 1) := by decide +kernel
theorem dX7_areTold_18 : decode cX7_areTold 18 = .ok (.iload_n 3, 1) := by decide +kernel
theorem dX7_areTold_19 : decode cX7_areTold 19 = .ok (.invokevirtual 144, 3) := by decide +kernel
theorem dX7_areTold_22 : decode cX7_areTold 22 = .ok (.ifCond .ne 5, 3) := by decide +kernel
theorem dX7_areTold_25 : decode cX7_areTold 25 = .ok (.iconst 0, 1) := by decide +kernel
theorem dX7_areTold_26 : decode cX7_areTold 26 = .ok (.ireturn, 1) := by decide +kernel
theorem dX7_areTold_27 : decode cX7_areTold 27 = .ok (.aload_n 0, 1) := by decide +kernel
theorem dX7_areTold_28 : decode cX7_areTold 28 = .ok (.iconst 2, 1) := by decide +kernel
theorem dX7_areTold_29 : decode cX7_areTold 29 = .ok (.iload_n 3, 1) := by decide +kernel
theorem dX7_areTold_30 : decode cX7_areTold 30 = .ok (.invokestatic 172, 3) := by decide +kernel
theorem dX7_areTold_33 : decode cX7_areTold 33 = .ok (.putfield 305, 3) := by decide +kernel
theorem dX7_areTold_36 : decode cX7_areTold 36 = .ok (.iconst 1, 1) := by decide +kernel
theorem dX7_areTold_37 : decode cX7_areTold 37 = .ok (.ireturn, 1) := by decide +kernel
theorem dX7_bargain_0 : decode cX7_bargain 0 = .ok (.aload_n 0, 1) := by decide +kernel
theorem dX7_bargain_1 : decode cX7_bargain 1 = .ok (.iconst 5, 1) := by decide +kernel
theorem dX7_bargain_2 : decode cX7_bargain 2 = .ok (.iload_n 2, 1) := by decide +kernel
theorem dX7_bargain_3 : decode cX7_bargain 3 = .ok (.invokevirtual 144, 3) := by decide +kernel
theorem dX7_bargain_6 : decode cX7_bargain 6 = .ok (.ifCond .eq 11, 3) := by decide +kernel
theorem dX7_bargain_9 : decode cX7_bargain 9 = .ok (.aload_n 0, 1) := by decide +kernel
theorem dX7_bargain_10 : decode cX7_bargain 10 = .ok (.iload_n 1, 1) := by decide +kernel
theorem dX7_bargain_11 : decode cX7_bargain 11 = .ok (.invokevirtual 190, 3) := by decide +kernel
theorem dX7_bargain_14 : decode cX7_bargain 14 = .ok (.ifCond .ne 6, 3) := by decide +kernel
theorem dX7_bargain_17 : decode cX7_bargain 17 = .ok (.bipush (-2), 2) := by decide +kernel
theorem dX7_bargain_19 : decode cX7_bargain 19 = .ok (.ireturn, 1) := by decide +kernel
theorem dX7_bargain_20 : decode cX7_bargain 20 = .ok (.iconst 5, 1) := by decide +kernel
theorem dX7_bargain_21 : decode cX7_bargain 21 = .ok (.iload_n 2, 1) := by decide +kernel
theorem dX7_bargain_22 : decode cX7_bargain 22 = .ok (.invokestatic 172, 3) := by decide +kernel
theorem dX7_bargain_25 : decode cX7_bargain 25 = .ok (.istore 4, 2) := by decide +kernel
theorem dX7_bargain_27 : decode cX7_bargain 27 = .ok (.iload_n 3, 1) := by decide +kernel
theorem dX7_bargain_28 : decode cX7_bargain 28 = .ok (.iconst 0, 1) := by decide +kernel
theorem dX7_bargain_29 : decode cX7_bargain 29 = .ok (.iconst 5, 1) := by decide +kernel
theorem dX7_bargain_30 : decode cX7_bargain 30 = .ok (.invokestatic 93, 3) := by decide +kernel
theorem dX7_bargain_33 : decode cX7_bargain 33 = .ok (.ifCond .eq 13, 3) := by decide +kernel
theorem dX7_bargain_36 : decode cX7_bargain 36 = .ok (.aload_n 0, 1) := by decide +kernel
theorem dX7_bargain_37 : decode cX7_bargain 37 = .ok (.getfield 7, 3) := by decide +kernel
theorem dX7_bargain_40 : decode cX7_bargain 40 = .ok (.iload 4, 2) := by decide +kernel
theorem dX7_bargain_42 : decode cX7_bargain 42 = .ok (.iload_n 3, 1) := by decide +kernel
theorem dX7_bargain_43 : decode cX7_bargain 43 = .ok (.iadd, 1) := by decide +kernel
theorem dX7_bargain_44 : decode cX7_bargain 44 = .ok (.iaload, 1) := by decide +kernel
theorem dX7_bargain_45 : decode cX7_bargain 45 = .ok (.ireturn, 1) := by decide +kernel
theorem dX7_bargain_46 : decode cX7_bargain 46 = .ok (.iload_n 3, 1) := by decide +kernel
theorem dX7_bargain_47 : decode cX7_bargain 47 = .ok (.bipush 10, 2) := by decide +kernel
theorem dX7_bargain_49 : decode cX7_bargain 49 = .ok (.bipush 11, 2) := by decide +kernel
theorem dX7_bargain_51 : decode cX7_bargain 51 = .ok (.invokestatic 93, 3) := by decide +kernel
theorem dX7_bargain_54 : decode cX7_bargain 54 = .ok (.ifCond .ne 6, 3) := by decide +kernel
theorem dX7_bargain_57 : decode cX7_bargain 57 = .ok (.bipush (-2), 2) := by decide +kernel
theorem dX7_bargain_59 : decode cX7_bargain 59 = .ok (.ireturn, 1) := by decide +kernel
theorem dX7_bargain_60 : decode cX7_bargain 60 = .ok (.iconst 0, 1) := by decide +kernel
theorem dX7_bargain_61 : decode cX7_bargain 61 = .ok (.istore 5, 2) := by decide +kernel
theorem dX7_bargain_63 : decode cX7_bargain 63 = .ok (.iconst (-1), 1) := by decide +kernel
theorem dX7_bargain_64 : decode cX7_bargain 64 = .ok (.istore 6, 2) := by decide +kernel
theorem dX7_bargain_66 : decode cX7_bargain 66 = .ok (.iconst 0, 1) := by decide +kernel
theorem dX7_bargain_67 : decode cX7_bargain 67 = .ok (.istore 7, 2) := by decide +kernel
theorem dX7_bargain_69 : decode cX7_bargain 69 = .ok (.iload 7, 2) := by decide +kernel
theorem dX7_bargain_71 : decode cX7_bargain 71 = .ok (.aload_n 0, 1) := by decide +kernel
theorem dX7_bargain_72 : decode cX7_bargain 72 = .ok (.invokevirtual 347, 3) := by decide +kernel
theorem dX7_bargain_75 : decode cX7_bargain 75 = .ok (.if_icmp .gt 96, 3) := by decide +kernel
theorem dX7_bargain_78 : decode cX7_bargain 78 = .ok (.iconst 0, 1) := by decide +kernel
theorem dX7_bargain_79 : decode cX7_bargain 79 = .ok (.istore 8, 2) := by decide +kernel
theorem dX7_bargain_81 : decode cX7_bargain 81 = .ok (.iconst 0, 1) := by decide +kernel
theorem dX7_bargain_82 : decode cX7_bargain 82 = .ok (.istore 9, 2) := by decide +kernel
theorem dX7_bargain_84 : decode cX7_bargain 84 = .ok (.iload 9, 2) := by decide +kernel
theorem dX7_bargain_86 : decode cX7_bargain 86 = .ok (.aload_n 0, 1) := by decide +kernel
theorem dX7_bargain_87 : decode cX7_bargain 87 = .ok (.invokevirtual 184, 3) := by decide +kernel
theorem dX7_bargain_90 : decode cX7_bargain 90 = .ok (.if_icmp .ge 39, 3) := by decide +kernel
theorem dX7_bargain_93 : decode cX7_bargain 93 = .ok (.iload 8, 2) := by decide +kernel
theorem dX7_bargain_95 : decode cX7_bargain 95 = .ok (.iload 7, 2) := by decide +kernel
theorem dX7_bargain_97 : decode cX7_bargain 97 = .ok (.iload 9, 2) := by decide +kernel
theorem dX7_bargain_99 : decode cX7_bargain 99 = .ok (.ishr, 1) := by decide +kernel
theorem dX7_bargain_100 : decode cX7_bargain 100 = .ok (.iconst 1, 1) := by decide +kernel
theorem dX7_bargain_101 : decode cX7_bargain 101 = .ok (.iand, 1) := by decide +kernel
theorem dX7_bargain_102 : decode cX7_bargain 102 = .ok (.iconst 1, 1) := by decide +kernel
theorem dX7_bargain_103 : decode cX7_bargain 103 = .ok (.if_icmp .ne 16, 3) := by decide +kernel
theorem dX7_bargain_106 : decode cX7_bargain 106 = .ok (.aload_n 0, 1) := by decide +kernel
theorem dX7_bargain_107 : decode cX7_bargain 107 = .ok (.getfield 7, 3) := by decide +kernel
theorem dX7_bargain_110 : decode cX7_bargain 110 = .ok (.iload 4, 2) := by decide +kernel
theorem dX7_bargain_112 : decode cX7_bargain 112 = .ok (.iload 9, 2) := by decide +kernel
theorem dX7_bargain_114 : decode cX7_bargain 114 = .ok (.iadd, 1) := by decide +kernel
theorem dX7_bargain_115 : decode cX7_bargain 115 = .ok (.iaload, 1) := by decide +kernel
theorem dX7_bargain_116 : decode cX7_bargain 116 = .ok (.goto 4, 3) := by decide +kernel
theorem dX7_bargain_119 : decode cX7_bargain 119 = .ok (.iconst 0, 1) := by decide +kernel
theorem dX7_bargain_120 : decode cX7_bargain 120 = .ok (.iadd, 1) := by decide +kernel
theorem dX7_bargain_121 : decode cX7_bargain 121 = .ok (.istore 8, 2) := by decide +kernel
theorem dX7_bargain_123 : decode cX7_bargain 123 = .ok (.iinc 9 1, 3) := by decide +kernel
theorem dX7_bargain_126 : decode cX7_bargain 126 = .ok (.goto (-42), 3) := by decide +kernel
theorem dX7_bargain_129 : decode cX7_bargain 129 = .ok (.aload_n 0, 1) := by decide +kernel
theorem dX7_bargain_130 : decode cX7_bargain 130 = .ok (.iload 7, 2) := by decide +kernel
theorem dX7_bargain_132 : decode cX7_bargain 132 = .ok (.invokevirtual 350, 3) := by decide +kernel
theorem dX7_bargain_135 : decode cX7_bargain 135 = .ok (.ifCond .eq 30, 3) := by decide +kernel
theorem dX7_bargain_138 : decode cX7_bargain 138 = .ok (.iload 8, 2) := by decide +kernel
theorem dX7_bargain_140 : decode cX7_bargain 140 = .ok (.bipush 100, 2) := by decide +kernel
theorem dX7_bargain_142 : decode cX7_bargain 142 = .ok (.if_icmp .lt 6, 3) := by decide +kernel
theorem dX7_bargain_145 : decode cX7_bargain 145 = .ok (.goto 20, 3) := by decide +kernel
theorem dX7_bargain_148 : decode cX7_bargain 148 = .ok (.iload 5, 2) := by decide +kernel
theorem dX7_bargain_150 : decode cX7_bargain 150 = .ok (.ifCond .ne 8, 3) := by decide +kernel
theorem dX7_bargain_153 : decode cX7_bargain 153 = .ok (.iload 7, 2) := by decide +kernel
theorem dX7_bargain_155 : decode cX7_bargain 155 = .ok (.goto 5, 3) := by decide +kernel
theorem dX7_bargain_158 : decode cX7_bargain 158 = .ok (.iload 6, 2) := by decide +kernel
theorem dX7_bargain_160 : decode cX7_bargain 160 = .ok (.istore 6, 2) := by decide +kernel
theorem dX7_bargain_162 : decode cX7_bargain 162 = .ok (.iinc 5 1, 3) := by decide +kernel
theorem dX7_bargain_165 : decode cX7_bargain 165 = .ok (.iinc 7 1, 3) := by decide +kernel
theorem dX7_bargain_168 : decode cX7_bargain 168 = .ok (.goto (-99), 3) := by decide +kernel
theorem dX7_bargain_171 : decode cX7_bargain 171 = .ok (.iload_n 3, 1) := by decide +kernel
theorem dX7_bargain_172 : decode cX7_bargain 172 = .ok (.bipush 10, 2) := by decide +kernel
theorem dX7_bargain_174 : decode cX7_bargain 174 = .ok (.if_icmp .ne 8, 3) := by decide +kernel
theorem dX7_bargain_177 : decode cX7_bargain 177 = .ok (.iload 6, 2) := by decide +kernel
theorem dX7_bargain_179 : decode cX7_bargain 179 = .ok (.goto 5, 3) := by decide +kernel
theorem dX7_bargain_182 : decode cX7_bargain 182 = .ok (.iload 5, 2) := by decide +kernel
theorem dX7_bargain_184 : decode cX7_bargain 184 = .ok (.ireturn, 1) := by decide +kernel
theorem dX7_bribe_0 : decode cX7_bribe 0 = .ok (.aload_n 0, 1) := by decide +kernel
theorem dX7_bribe_1 : decode cX7_bribe 1 = .ok (.iload_n 1, 1) := by decide +kernel
theorem dX7_bribe_2 : decode cX7_bribe 2 = .ok (.iload_n 2, 1) := by decide +kernel
theorem dX7_bribe_3 : decode cX7_bribe 3 = .ok (.iload_n 3, 1) := by decide +kernel
theorem dX7_bribe_4 : decode cX7_bribe 4 = .ok (.iload 4, 2) := by decide +kernel
theorem dX7_bribe_6 : decode cX7_bribe 6 = .ok (.iload 5, 2) := by decide +kernel
theorem dX7_bribe_8 : decode cX7_bribe 8 = .ok (.iload 6, 2) := by decide +kernel
theorem dX7_bribe_10 : decode cX7_bribe 10 = .ok (.invokevirtual 241, 3) := by decide +kernel
theorem dX7_bribe_13 : decode cX7_bribe 13 = .ok (.ifCond .ne 5, 3) := by decide +kernel
theorem dX7_bribe_16 : decode cX7_bribe 16 = .ok (.iconst (-1), 1) := by decide +kernel
theorem dX7_bribe_17 : decode cX7_bribe 17 = .ok (.ireturn, 1) := by decide +kernel
theorem dX7_bribe_18 : decode cX7_bribe 18 = .ok (.aload_n 0, 1) := by decide +kernel
theorem dX7_bribe_19 : decode cX7_bribe 19 = .ok (.invokevirtual 245, 3) := by decide +kernel
theorem dX7_bribe_22 : decode cX7_bribe 22 = .ok (.istore 8, 2) := by decide +kernel
theorem dX7_bribe_24 : decode cX7_bribe 24 = .ok (.iconst (-1), 1) := by decide +kernel
theorem dX7_bribe_25 : decode cX7_bribe 25 = .ok (.istore 9, 2) := by decide +kernel
theorem dX7_bribe_27 : decode cX7_bribe 27 = .ok (.iconst 0, 1) := by decide +kernel
theorem dX7_bribe_28 : decode cX7_bribe 28 = .ok (.istore 10, 2) := by decide +kernel
theorem dX7_bribe_30 : decode cX7_bribe 30 = .ok (.iconst 0, 1) := by decide +kernel
theorem dX7_bribe_31 : decode cX7_bribe 31 = .ok (.istore 11, 2) := by decide +kernel
theorem dX7_bribe_33 : decode cX7_bribe 33 = .ok (.iload 11, 2) := by decide +kernel
theorem dX7_bribe_35 : decode cX7_bribe 35 = .ok (.aload_n 0, 1) := by decide +kernel
theorem dX7_bribe_36 : decode cX7_bribe 36 = .ok (.invokevirtual 347, 3) := by decide +kernel
theorem dX7_bribe_39 : decode cX7_bribe 39 = .ok (.if_icmp .gt 63, 3) := by decide +kernel
theorem dX7_bribe_42 : decode cX7_bribe 42 = .ok (.iload 11, 2) := by decide +kernel
theorem dX7_bribe_44 : decode cX7_bribe 44 = .ok (.iload 8, 2) := by decide +kernel
theorem dX7_bribe_46 : decode cX7_bribe 46 = .ok (.iand, 1) := by decide +kernel
theorem dX7_bribe_47 : decode cX7_bribe 47 = .ok (.ifCond .ne 49, 3) := by decide +kernel
theorem dX7_bribe_50 : decode cX7_bribe 50 = .ok (.aload_n 0, 1) := by decide +kernel
theorem dX7_bribe_51 : decode cX7_bribe 51 = .ok (.iload 8, 2) := by decide +kernel
theorem dX7_bribe_53 : decode cX7_bribe 53 = .ok (.iload 11, 2) := by decide +kernel
theorem dX7_bribe_55 : decode cX7_bribe 55 = .ok (.ior, 1) := by decide +kernel
theorem dX7_bribe_56 : decode cX7_bribe 56 = .ok (.invokevirtual 248, 3) := by decide +kernel
theorem dX7_bribe_59 : decode cX7_bribe 59 = .ok (.ifCond .ne 6, 3) := by decide +kernel
theorem dX7_bribe_62 : decode cX7_bribe 62 = .ok (.goto 34, 3) := by decide +kernel
theorem dX7_bribe_65 : decode cX7_bribe 65 = .ok (.aload_n 0, 1) := by decide +kernel
theorem dX7_bribe_66 : decode cX7_bribe 66 = .ok (.iload 11, 2) := by decide +kernel
theorem dX7_bribe_68 : decode cX7_bribe 68 = .ok (.invokevirtual 369, 3) := by decide +kernel
theorem dX7_bribe_71 : decode cX7_bribe 71 = .ok (.istore 12, 2) := by decide +kernel
theorem dX7_bribe_73 : decode cX7_bribe 73 = .ok (.iload 9, 2) := by decide +kernel
theorem dX7_bribe_75 : decode cX7_bribe 75 = .ok (.ifCond .lt 13, 3) := by decide +kernel
theorem dX7_bribe_78 : decode cX7_bribe 78 = .ok (.iload 12, 2) := by decide +kernel
theorem dX7_bribe_80 : decode cX7_bribe 80 = .ok (.iload 10, 2) := by decide +kernel
theorem dX7_bribe_82 : decode cX7_bribe 82 = .ok (.if_icmp .lt 6, 3) := by decide +kernel
theorem dX7_bribe_85 : decode cX7_bribe 85 = .ok (.goto 11, 3) := by decide +kernel
theorem dX7_bribe_88 : decode cX7_bribe 88 = .ok (.iload 11, 2) := by decide +kernel
theorem dX7_bribe_90 : decode cX7_bribe 90 = .ok (.istore 9, 2) := by decide +kernel
theorem dX7_bribe_92 : decode cX7_bribe 92 = .ok (.iload 12, 2) := by decide +kernel
theorem dX7_bribe_94 : decode cX7_bribe 94 = .ok (.istore 10, 2) := by decide +kernel
theorem dX7_bribe_96 : decode cX7_bribe 96 = .ok (.iinc 11 1, 3) := by decide +kernel
theorem dX7_bribe_99 : decode cX7_bribe 99 = .ok (.goto (-66), 3) := by decide +kernel
theorem dX7_bribe_102 : decode cX7_bribe 102 = .ok (.iload 9, 2) := by decide +kernel
theorem dX7_bribe_104 : decode cX7_bribe 104 = .ok (.ifCond .ge 7, 3) := by decide +kernel
theorem dX7_bribe_107 : decode cX7_bribe 107 = .ok (.iconst (-1), 1) := by decide +kernel
theorem dX7_bribe_108 : decode cX7_bribe 108 = .ok (.goto 15, 3) := by decide +kernel
theorem dX7_bribe_111 : decode cX7_bribe 111 = .ok (.iload 7, 2) := by decide +kernel
theorem dX7_bribe_113 : decode cX7_bribe 113 = .ok (.ifCond .eq 8, 3) := by decide +kernel
theorem dX7_bribe_116 : decode cX7_bribe 116 = .ok (.iload 9, 2) := by decide +kernel
theorem dX7_bribe_118 : decode cX7_bribe 118 = .ok (.goto 5, 3) := by decide +kernel
theorem dX7_bribe_121 : decode cX7_bribe 121 = .ok (.iload 10, 2) := by decide +kernel
theorem dX7_bribe_123 : decode cX7_bribe 123 = .ok (.ireturn, 1) := by decide +kernel
theorem dX7_broken_0 : decode cX7_broken 0 = .ok (.aload_n 0, 1) := by decide +kernel
theorem dX7_broken_1 : decode cX7_broken 1 = .ok (.iload_n 1, 1) := by decide +kernel
theorem dX7_broken_2 : decode cX7_broken 2 = .ok (.invokevirtual 254, 3) := by decide +kernel
theorem dX7_broken_5 : decode cX7_broken 5 = .ok (.ifCond .eq 35, 3) := by decide +kernel
theorem dX7_broken_8 : decode cX7_broken 8 = .ok (.iload_n 2, 1) := by decide +kernel
theorem dX7_broken_9 : decode cX7_broken 9 = .ok (.iconst 0, 1) := by decide +kernel
theorem dX7_broken_10 : decode cX7_broken 10 = .ok (.iconst 3, 1) := by decide +kernel
theorem dX7_broken_11 : decode cX7_broken 11 = .ok (.invokestatic 93, 3) := by decide +kernel
theorem dX7_broken_14 : decode cX7_broken 14 = .ok (.ifCond .eq 26, 3) := by decide +kernel
theorem dX7_broken_17 : decode cX7_broken 17 = .ok (.iload_n 3, 1) := by decide +kernel
theorem dX7_broken_18 : decode cX7_broken 18 = .ok (.iload 4, 2) := by decide +kernel
theorem dX7_broken_20 : decode cX7_broken 20 = .ok (.iload 5, 2) := by decide +kernel
theorem dX7_broken_22 : decode cX7_broken 22 = .ok (.invokestatic 235, 3) := by decide +kernel
theorem dX7_broken_25 : decode cX7_broken 25 = .ok (.ifCond .eq 15, 3) := by decide +kernel
theorem dX7_broken_28 : decode cX7_broken 28 = .ok (.iload 6, 2) := by decide +kernel
theorem dX7_broken_30 : decode cX7_broken 30 = .ok (.iconst (-1), 1) := by decide +kernel
theorem dX7_broken_31 : decode cX7_broken 31 = .ok (.sipush 999, 3) := by decide +kernel
theorem dX7_broken_34 : decode cX7_broken 34 = .ok (.invokestatic 93, 3) := by decide +kernel
theorem dX7_broken_37 : decode cX7_broken 37 = .ok (.ifCond .ne 5, 3) := by decide +kernel
theorem dX7_broken_40 : decode cX7_broken 40 = .ok (.iconst (-1), 1) := by decide +kernel
theorem dX7_broken_41 : decode cX7_broken 41 = .ok (.ireturn, 1) := by decide +kernel
theorem dX7_broken_42 : decode cX7_broken 42 = .ok (.aload_n 0, 1) := by decide +kernel
theorem dX7_broken_43 : decode cX7_broken 43 = .ok (.iload_n 2, 1) := by decide +kernel
theorem dX7_broken_44 : decode cX7_broken 44 = .ok (.putfield 205, 3) := by decide +kernel
theorem dX7_broken_47 : decode cX7_broken 47 = .ok (.aload_n 0, 1) := by decide +kernel
theorem dX7_broken_48 : decode cX7_broken 48 = .ok (.bipush 100, 2) := by decide +kernel
theorem dX7_broken_50 : decode cX7_broken 50 = .ok (.iload_n 3, 1) := by decide +kernel
theorem dX7_broken_51 : decode cX7_broken 51 = .ok (.imul, 1) := by decide +kernel
theorem dX7_broken_52 : decode cX7_broken 52 = .ok (.bipush 10, 2) := by decide +kernel
theorem dX7_broken_54 : decode cX7_broken 54 = .ok (.iload 4, 2) := by decide +kernel
theorem dX7_broken_56 : decode cX7_broken 56 = .ok (.imul, 1) := by decide +kernel
theorem dX7_broken_57 : decode cX7_broken 57 = .ok (.iadd, 1) := by decide +kernel
theorem dX7_broken_58 : decode cX7_broken 58 = .ok (.iload 5, 2) := by decide +kernel
theorem dX7_broken_60 : decode cX7_broken 60 = .ok (.iadd, 1) := by decide +kernel
theorem dX7_broken_61 : decode cX7_broken 61 = .ok (.invokevirtual 238, 3) := by decide +kernel
theorem dX7_broken_64 : decode cX7_broken 64 = .ok (.aload_n 0, 1) := by decide +kernel
theorem dX7_broken_65 : decode cX7_broken 65 = .ok (.iload 6, 2) := by decide +kernel
theorem dX7_broken_67 : decode cX7_broken 67 = .ok (.invokevirtual 269, 3) := by decide +kernel
theorem dX7_broken_70 : decode cX7_broken 70 = .ok (.ireturn, 1) := by decide +kernel
theorem dX7_byteAt_0 : decode cX7_byteAt 0 = .ok (.iload_n 1, 1) := by decide +kernel
theorem dX7_byteAt_1 : decode cX7_byteAt 1 = .ok (.aload_n 0, 1) := by decide +kernel
theorem dX7_byteAt_2 : decode cX7_byteAt 2 = .ok (.getfield 32, 3) := by decide +kernel
theorem dX7_byteAt_5 : decode cX7_byteAt 5 = .ok (.if_icmp .ge 15, 3) := by decide +kernel
theorem dX7_byteAt_8 : decode cX7_byteAt 8 = .ok (.aload_n 0, 1) := by decide +kernel
theorem dX7_byteAt_9 : decode cX7_byteAt 9 = .ok (.getfield 7, 3) := by decide +kernel
theorem dX7_byteAt_12 : decode cX7_byteAt 12 = .ok (.bipush 10, 2) := by decide +kernel
theorem dX7_byteAt_14 : decode cX7_byteAt 14 = .ok (.iload_n 1, 1) := by decide +kernel
theorem dX7_byteAt_15 : decode cX7_byteAt 15 = .ok (.iadd, 1) := by decide +kernel
theorem dX7_byteAt_16 : decode cX7_byteAt 16 = .ok (.iaload, 1) := by decide +kernel
theorem dX7_byteAt_17 : decode cX7_byteAt 17 = .ok (.goto 4, 3) := by decide +kernel
theorem dX7_byteAt_20 : decode cX7_byteAt 20 = .ok (.iconst (-1), 1) := by decide +kernel
theorem dX7_byteAt_21 : decode cX7_byteAt 21 = .ok (.ireturn, 1) := by decide +kernel
theorem dX7_clears_0 : decode cX7_clears 0 = .ok (.iconst 0, 1) := by decide +kernel
theorem dX7_clears_1 : decode cX7_clears 1 = .ok (.istore_n 2, 1) := by decide +kernel
theorem dX7_clears_2 : decode cX7_clears 2 = .ok (.iload_n 2, 1) := by decide +kernel
theorem dX7_clears_3 : decode cX7_clears 3 = .ok (.sipush 201, 3) := by decide +kernel
theorem dX7_clears_6 : decode cX7_clears 6 = .ok (.if_icmp .ge 16, 3) := by decide +kernel
theorem dX7_clears_9 : decode cX7_clears 9 = .ok (.aload_n 0, 1) := by decide +kernel
theorem dX7_clears_10 : decode cX7_clears 10 = .ok (.getfield 17, 3) := by decide +kernel
theorem dX7_clears_13 : decode cX7_clears 13 = .ok (.iload_n 2, 1) := by decide +kernel
theorem dX7_clears_14 : decode cX7_clears 14 = .ok (.iconst 0, 1) := by decide +kernel
theorem dX7_clears_15 : decode cX7_clears 15 = .ok (.iastore, 1) := by decide +kernel
theorem dX7_clears_16 : decode cX7_clears 16 = .ok (.iinc 2 1, 3) := by decide +kernel
theorem dX7_clears_19 : decode cX7_clears 19 = .ok (.goto (-17), 3) := by decide +kernel
theorem dX7_clears_22 : decode cX7_clears 22 = .ok (.iload_n 1, 1) := by decide +kernel
theorem dX7_clears_23 : decode cX7_clears 23 = .ok (.ifCond .eq 4, 3) := by decide +kernel
theorem dX7_clears_26 : decode cX7_clears 26 = .ok (.return_, 1) := by decide +kernel
theorem dX7_clears_27 : decode cX7_clears 27 = .ok (.aload_n 0, 1) := by decide +kernel
theorem dX7_clears_28 : decode cX7_clears 28 = .ok (.getfield 17, 3) := by decide +kernel
theorem dX7_clears_31 : decode cX7_clears 31 = .ok (.iconst 1, 1) := by decide +kernel
theorem dX7_clears_32 : decode cX7_clears 32 = .ok (.bipush 10, 2) := by decide +kernel
theorem dX7_clears_34 : decode cX7_clears 34 = .ok (.iastore, 1) := by decide +kernel
theorem dX7_clears_35 : decode cX7_clears 35 = .ok (.aload_n 0, 1) := by decide +kernel
theorem dX7_clears_36 : decode cX7_clears 36 = .ok (.getfield 17, 3) := by decide +kernel
theorem dX7_clears_39 : decode cX7_clears 39 = .ok (.iconst 2, 1) := by decide +kernel
theorem dX7_clears_40 : decode cX7_clears 40 = .ok (.iconst 2, 1) := by decide +kernel
theorem dX7_clears_41 : decode cX7_clears 41 = .ok (.iastore, 1) := by decide +kernel
theorem dX7_clears_42 : decode cX7_clears 42 = .ok (.aload_n 0, 1) := by decide +kernel
theorem dX7_clears_43 : decode cX7_clears 43 = .ok (.getfield 17, 3) := by decide +kernel
theorem dX7_clears_46 : decode cX7_clears 46 = .ok (.iconst 3, 1) := by decide +kernel
theorem dX7_clears_47 : decode cX7_clears 47 = .ok (.bipush 50, 2) := by decide +kernel
theorem dX7_clears_49 : decode cX7_clears 49 = .ok (.iastore, 1) := by decide +kernel
theorem dX7_clears_50 : decode cX7_clears 50 = .ok (.aload_n 0, 1) := by decide +kernel
theorem dX7_clears_51 : decode cX7_clears 51 = .ok (.getfield 17, 3) := by decide +kernel
theorem dX7_clears_54 : decode cX7_clears 54 = .ok (.iconst 4, 1) := by decide +kernel
theorem dX7_clears_55 : decode cX7_clears 55 = .ok (.bipush 50, 2) := by decide +kernel
theorem dX7_clears_57 : decode cX7_clears 57 = .ok (.iastore, 1) := by decide +kernel
theorem dX7_clears_58 : decode cX7_clears 58 = .ok (.aload_n 0, 1) := by decide +kernel
theorem dX7_clears_59 : decode cX7_clears 59 = .ok (.getfield 17, 3) := by decide +kernel
theorem dX7_clears_62 : decode cX7_clears 62 = .ok (.iconst 5, 1) := by decide +kernel
theorem dX7_clears_63 : decode cX7_clears 63 = .ok (.bipush 20, 2) := by decide +kernel
theorem dX7_clears_65 : decode cX7_clears 65 = .ok (.iastore, 1) := by decide +kernel
theorem dX7_clears_66 : decode cX7_clears 66 = .ok (.return_, 1) := by decide +kernel
theorem dX7_coalition_0 : decode cX7_coalition 0 = .ok (.aload_n 0, 1) := by decide +kernel
theorem dX7_coalition_1 : decode cX7_coalition 1 = .ok (.iload_n 1, 1) := by decide +kernel
theorem dX7_coalition_2 : decode cX7_coalition 2 = .ok (.invokevirtual 190, 3) := by decide +kernel
theorem dX7_coalition_5 : decode cX7_coalition 5 = .ok (.ifCond .eq 9, 3) := by decide +kernel
theorem dX7_coalition_8 : decode cX7_coalition 8 = .ok (.iload_n 2, 1) := by decide +kernel
theorem dX7_coalition_9 : decode cX7_coalition 9 = .ok (.bipush (-2), 2) := by decide +kernel
theorem dX7_coalition_11 : decode cX7_coalition 11 = .ok (.if_icmp .ge 6, 3) := by decide +kernel
theorem dX7_coalition_14 : decode cX7_coalition 14 = .ok (.bipush (-3), 2) := by decide +kernel
theorem dX7_coalition_16 : decode cX7_coalition 16 = .ok (.ireturn, 1) := by decide +kernel
theorem dX7_coalition_17 : decode cX7_coalition 17 = .ok (.iload_n 2, 1) := by decide +kernel
theorem dX7_coalition_18 : decode cX7_coalition 18 = .ok (.bipush (-2), 2) := by decide +kernel
theorem dX7_coalition_20 : decode cX7_coalition 20 = .ok (.if_icmp .ne 8, 3) := by decide +kernel
theorem dX7_coalition_23 : decode cX7_coalition 23 = .ok (.aload_n 0, 1) := by decide +kernel
theorem dX7_coalition_24 : decode cX7_coalition 24 = .ok (.invokevirtual 363, 3) := by decide +kernel
theorem dX7_coalition_27 : decode cX7_coalition 27 = .ok (.ireturn, 1) := by decide +kernel
theorem dX7_coalition_28 : decode cX7_coalition 28 = .ok (.iconst 0, 1) := by decide +kernel
theorem dX7_coalition_29 : decode cX7_coalition 29 = .ok (.istore_n 3, 1) := by decide +kernel
theorem dX7_coalition_30 : decode cX7_coalition 30 = .ok (.iconst 0, 1) := by decide +kernel
theorem dX7_coalition_31 : decode cX7_coalition 31 = .ok (.istore 4, 2) := by decide +kernel
theorem dX7_coalition_33 : decode cX7_coalition 33 = .ok (.iload 4, 2) := by decide +kernel
theorem dX7_coalition_35 : decode cX7_coalition 35 = .ok (.aload_n 0, 1) := by decide +kernel
theorem dX7_coalition_36 : decode cX7_coalition 36 = .ok (.invokevirtual 347, 3) := by decide +kernel
theorem dX7_coalition_39 : decode cX7_coalition 39 = .ok (.if_icmp .gt 32, 3) := by decide +kernel
theorem dX7_coalition_42 : decode cX7_coalition 42 = .ok (.aload_n 0, 1) := by decide +kernel
theorem dX7_coalition_43 : decode cX7_coalition 43 = .ok (.iload 4, 2) := by decide +kernel
theorem dX7_coalition_45 : decode cX7_coalition 45 = .ok (.invokevirtual 366, 3) := by decide +kernel
theorem dX7_coalition_48 : decode cX7_coalition 48 = .ok (.ifCond .ne 6, 3) := by decide +kernel
theorem dX7_coalition_51 : decode cX7_coalition 51 = .ok (.goto 14, 3) := by decide +kernel
theorem dX7_coalition_54 : decode cX7_coalition 54 = .ok (.iload_n 3, 1) := by decide +kernel
theorem dX7_coalition_55 : decode cX7_coalition 55 = .ok (.iload_n 2, 1) := by decide +kernel
theorem dX7_coalition_56 : decode cX7_coalition 56 = .ok (.if_icmp .ne 6, 3) := by decide +kernel
theorem dX7_coalition_59 : decode cX7_coalition 59 = .ok (.iload 4, 2) := by decide +kernel
theorem dX7_coalition_61 : decode cX7_coalition 61 = .ok (.ireturn, 1) := by decide +kernel
theorem dX7_coalition_62 : decode cX7_coalition 62 = .ok (.iinc 3 1, 3) := by decide +kernel
theorem dX7_coalition_65 : decode cX7_coalition 65 = .ok (.iinc 4 1, 3) := by decide +kernel
theorem dX7_coalition_68 : decode cX7_coalition 68 = .ok (.goto (-35), 3) := by decide +kernel
theorem dX7_coalition_71 : decode cX7_coalition 71 = .ok (.iload_n 2, 1) := by decide +kernel
theorem dX7_coalition_72 : decode cX7_coalition 72 = .ok (.iconst (-1), 1) := by decide +kernel
theorem dX7_coalition_73 : decode cX7_coalition 73 = .ok (.if_icmp .ne 7, 3) := by decide +kernel
theorem dX7_coalition_76 : decode cX7_coalition 76 = .ok (.iload_n 3, 1) := by decide +kernel
theorem dX7_coalition_77 : decode cX7_coalition 77 = .ok (.goto 5, 3) := by decide +kernel
theorem dX7_coalition_80 : decode cX7_coalition 80 = .ok (.bipush (-3), 2) := by decide +kernel
theorem dX7_coalition_82 : decode cX7_coalition 82 = .ok (.ireturn, 1) := by decide +kernel
theorem dX7_count_0 : decode cX7_count 0 = .ok (.iload_n 1, 1) := by decide +kernel
theorem dX7_count_1 : decode cX7_count 1 = .ok (.iconst 0, 1) := by decide +kernel
theorem dX7_count_2 : decode cX7_count 2 = .ok (.iconst 5, 1) := by decide +kernel
theorem dX7_count_3 : decode cX7_count 3 = .ok (.invokestatic 93, 3) := by decide +kernel
theorem dX7_count_6 : decode cX7_count 6 = .ok (.ifCond .eq 12, 3) := by decide +kernel
theorem dX7_count_9 : decode cX7_count 9 = .ok (.aload_n 0, 1) := by decide +kernel
theorem dX7_count_10 : decode cX7_count 10 = .ok (.getfield 7, 3) := by decide +kernel
theorem dX7_count_13 : decode cX7_count 13 = .ok (.iload_n 1, 1) := by decide +kernel
theorem dX7_count_14 : decode cX7_count 14 = .ok (.iaload, 1) := by decide +kernel
theorem dX7_count_15 : decode cX7_count 15 = .ok (.goto 5, 3) := by decide +kernel
theorem dX7_count_18 : decode cX7_count 18 = .ok (.bipush (-2), 2) := by decide +kernel
theorem dX7_count_20 : decode cX7_count 20 = .ok (.ireturn, 1) := by decide +kernel
theorem dX7_deed_0 : decode cX7_deed 0 = .ok (.aload_n 0, 1) := by decide +kernel
theorem dX7_deed_1 : decode cX7_deed 1 = .ok (.iconst 2, 1) := by decide +kernel
theorem dX7_deed_2 : decode cX7_deed 2 = .ok (.iload_n 1, 1) := by decide +kernel
theorem dX7_deed_3 : decode cX7_deed 3 = .ok (.invokevirtual 144, 3) := by decide +kernel
theorem dX7_deed_6 : decode cX7_deed 6 = .ok (.ifCond .ne 6, 3) := by decide +kernel
theorem dX7_deed_9 : decode cX7_deed 9 = .ok (.bipush (-2), 2) := by decide +kernel
theorem dX7_deed_11 : decode cX7_deed 11 = .ok (.ireturn, 1) := by decide +kernel
theorem dX7_deed_12 : decode cX7_deed 12 = .ok (.aload_n 0, 1) := by decide +kernel
theorem dX7_deed_13 : decode cX7_deed 13 = .ok (.iconst 2, 1) := by decide +kernel
theorem dX7_deed_14 : decode cX7_deed 14 = .ok (.iload_n 1, 1) := by decide +kernel
theorem dX7_deed_15 : decode cX7_deed 15 = .ok (.invokestatic 172, 3) := by decide +kernel
theorem dX7_deed_18 : decode cX7_deed 18 = .ok (.putfield 305, 3) := by decide +kernel
theorem dX7_deed_21 : decode cX7_deed 21 = .ok (.iload_n 2, 1) := by decide +kernel
theorem dX7_deed_22 : decode cX7_deed 22 = .ok (.iconst (-1), 1) := by decide +kernel
theorem dX7_deed_23 : decode cX7_deed 23 = .ok (.if_icmp .ne 17, 3) := by decide +kernel
theorem dX7_deed_26 : decode cX7_deed 26 = .ok (.iload_n 3, 1) := by decide +kernel
theorem dX7_deed_27 : decode cX7_deed 27 = .ok (.ifCond .ne 10, 3) := by decide +kernel
theorem dX7_deed_30 : decode cX7_deed 30 = .ok (.aload_n 0, 1) := by decide +kernel
theorem dX7_deed_31 : decode cX7_deed 31 = .ok (.invokevirtual 308, 3) := by decide +kernel
theorem dX7_deed_34 : decode cX7_deed 34 = .ok (.goto 5, 3) := by decide +kernel
theorem dX7_deed_37 : decode cX7_deed 37 = .ok (.bipush (-2), 2) := by decide +kernel
theorem dX7_deed_39 : decode cX7_deed 39 = .ok (.ireturn, 1) := by decide +kernel
theorem dX7_deed_40 : decode cX7_deed 40 = .ok (.iload_n 2, 1) := by decide +kernel
theorem dX7_deed_41 : decode cX7_deed 41 = .ok (.iconst 0, 1) := by decide +kernel
theorem dX7_deed_42 : decode cX7_deed 42 = .ok (.aload_n 0, 1) := by decide +kernel
theorem dX7_deed_43 : decode cX7_deed 43 = .ok (.invokevirtual 308, 3) := by decide +kernel
theorem dX7_deed_46 : decode cX7_deed 46 = .ok (.iconst 1, 1) := by decide +kernel
theorem dX7_deed_47 : decode cX7_deed 47 = .ok (.isub, 1) := by decide +kernel
theorem dX7_deed_48 : decode cX7_deed 48 = .ok (.invokestatic 93, 3) := by decide +kernel
theorem dX7_deed_51 : decode cX7_deed 51 = .ok (.ifCond .eq 21, 3) := by decide +kernel
theorem dX7_deed_54 : decode cX7_deed 54 = .ok (.iload_n 3, 1) := by decide +kernel
theorem dX7_deed_55 : decode cX7_deed 55 = .ok (.iconst 0, 1) := by decide +kernel
theorem dX7_deed_56 : decode cX7_deed 56 = .ok (.iconst 4, 1) := by decide +kernel
theorem dX7_deed_57 : decode cX7_deed 57 = .ok (.invokestatic 93, 3) := by decide +kernel
theorem dX7_deed_60 : decode cX7_deed 60 = .ok (.ifCond .eq 12, 3) := by decide +kernel
theorem dX7_deed_63 : decode cX7_deed 63 = .ok (.aload_n 0, 1) := by decide +kernel
theorem dX7_deed_64 : decode cX7_deed 64 = .ok (.iload_n 2, 1) := by decide +kernel
theorem dX7_deed_65 : decode cX7_deed 65 = .ok (.iload_n 3, 1) := by decide +kernel
theorem dX7_deed_66 : decode cX7_deed 66 = .ok (.invokevirtual 311, 3) := by decide +kernel
theorem dX7_deed_69 : decode cX7_deed 69 = .ok (.goto 5, 3) := by decide +kernel
theorem dX7_deed_72 : decode cX7_deed 72 = .ok (.bipush (-2), 2) := by decide +kernel
theorem dX7_deed_74 : decode cX7_deed 74 = .ok (.ireturn, 1) := by decide +kernel
theorem dX7_drawn_0 : decode cX7_drawn 0 = .ok (.aload_n 0, 1) := by decide +kernel
theorem dX7_drawn_1 : decode cX7_drawn 1 = .ok (.iload_n 1, 1) := by decide +kernel
theorem dX7_drawn_2 : decode cX7_drawn 2 = .ok (.invokevirtual 190, 3) := by decide +kernel
theorem dX7_drawn_5 : decode cX7_drawn 5 = .ok (.ifCond .eq 24, 3) := by decide +kernel
theorem dX7_drawn_8 : decode cX7_drawn 8 = .ok (.iload_n 3, 1) := by decide +kernel
theorem dX7_drawn_9 : decode cX7_drawn 9 = .ok (.iconst 0, 1) := by decide +kernel
theorem dX7_drawn_10 : decode cX7_drawn 10 = .ok (.bipush 60, 2) := by decide +kernel
theorem dX7_drawn_12 : decode cX7_drawn 12 = .ok (.invokestatic 93, 3) := by decide +kernel
theorem dX7_drawn_15 : decode cX7_drawn 15 = .ok (.ifCond .eq 14, 3) := by decide +kernel
theorem dX7_drawn_18 : decode cX7_drawn 18 = .ok (.iload 4, 2) := by decide +kernel
theorem dX7_drawn_20 : decode cX7_drawn 20 = .ok (.iconst 0, 1) := by decide +kernel
theorem dX7_drawn_21 : decode cX7_drawn 21 = .ok (.bipush 6, 2) := by decide +kernel
theorem dX7_drawn_23 : decode cX7_drawn 23 = .ok (.invokestatic 93, 3) := by decide +kernel
theorem dX7_drawn_26 : decode cX7_drawn 26 = .ok (.ifCond .ne 6, 3) := by decide +kernel
theorem dX7_drawn_29 : decode cX7_drawn 29 = .ok (.bipush (-2), 2) := by decide +kernel
theorem dX7_drawn_31 : decode cX7_drawn 31 = .ok (.ireturn, 1) := by decide +kernel
theorem dX7_drawn_32 : decode cX7_drawn 32 = .ok (.aload_n 0, 1) := by decide +kernel
theorem dX7_drawn_33 : decode cX7_drawn 33 = .ok (.iload_n 2, 1) := by decide +kernel
theorem dX7_drawn_34 : decode cX7_drawn 34 = .ok (.putfield 444, 3) := by decide +kernel
theorem dX7_drawn_37 : decode cX7_drawn 37 = .ok (.iconst 0, 1) := by decide +kernel
theorem dX7_drawn_38 : decode cX7_drawn 38 = .ok (.istore 5, 2) := by decide +kernel
theorem dX7_drawn_40 : decode cX7_drawn 40 = .ok (.iconst 0, 1) := by decide +kernel
theorem dX7_drawn_41 : decode cX7_drawn 41 = .ok (.istore 6, 2) := by decide +kernel
theorem dX7_drawn_43 : decode cX7_drawn 43 = .ok (.iconst 0, 1) := by decide +kernel
theorem dX7_drawn_44 : decode cX7_drawn 44 = .ok (.istore 7, 2) := by decide +kernel
theorem dX7_drawn_46 : decode cX7_drawn 46 = .ok (.iconst 0, 1) := by decide +kernel
theorem dX7_drawn_47 : decode cX7_drawn 47 = .ok (.istore 8, 2) := by decide +kernel
theorem dX7_drawn_49 : decode cX7_drawn 49 = .ok (.iload 8, 2) := by decide +kernel
theorem dX7_drawn_51 : decode cX7_drawn 51 = .ok (.iload_n 3, 1) := by decide +kernel
theorem dX7_drawn_52 : decode cX7_drawn 52 = .ok (.if_icmp .ge 164, 3) := by decide +kernel
theorem dX7_drawn_55 : decode cX7_drawn 55 = .ok (.aload_n 0, 1) := by decide +kernel
theorem dX7_drawn_56 : decode cX7_drawn 56 = .ok (.iload 8, 2) := by decide +kernel
theorem dX7_drawn_58 : decode cX7_drawn 58 = .ok (.iconst 5, 1) := by decide +kernel
theorem dX7_drawn_59 : decode cX7_drawn 59 = .ok (.idiv, 1) := by decide +kernel
theorem dX7_drawn_60 : decode cX7_drawn 60 = .ok (.iconst 4, 1) := by decide +kernel
theorem dX7_drawn_61 : decode cX7_drawn 61 = .ok (.irem, 1) := by decide +kernel
theorem dX7_drawn_62 : decode cX7_drawn 62 = .ok (.putfield 205, 3) := by decide +kernel
theorem dX7_drawn_65 : decode cX7_drawn 65 = .ok (.aload_n 0, 1) := by decide +kernel
theorem dX7_drawn_66 : decode cX7_drawn 66 = .ok (.getfield 226, 3) := by decide +kernel
theorem dX7_drawn_69 : decode cX7_drawn 69 = .ok (.ifCond .eq 7, 3) := by decide +kernel
theorem dX7_drawn_72 : decode cX7_drawn 72 = .ok (.iconst 1, 1) := by decide +kernel
theorem dX7_drawn_73 : decode cX7_drawn 73 = .ok (.goto 4, 3) := by decide +kernel
theorem dX7_drawn_76 : decode cX7_drawn 76 = .ok (.iconst 0, 1) := by decide +kernel
theorem dX7_drawn_77 : decode cX7_drawn 77 = .ok (.istore 9, 2) := by decide +kernel
theorem dX7_drawn_79 : decode cX7_drawn 79 = .ok (.iload 9, 2) := by decide +kernel
theorem dX7_drawn_81 : decode cX7_drawn 81 = .ok (.ifCond .eq 66, 3) := by decide +kernel
theorem dX7_drawn_84 : decode cX7_drawn 84 = .ok (.aload_n 0, 1) := by decide +kernel
theorem dX7_drawn_85 : decode cX7_drawn 85 = .ok (.aload_n 0, 1) := by decide +kernel
theorem dX7_drawn_86 : decode cX7_drawn 86 = .ok (.aload_n 0, 1) := by decide +kernel
theorem dX7_drawn_87 : decode cX7_drawn 87 = .ok (.aload_n 0, 1) := by decide +kernel
theorem dX7_drawn_88 : decode cX7_drawn 88 = .ok (.getfield 226, 3) := by decide +kernel
theorem dX7_drawn_91 : decode cX7_drawn 91 = .ok (.invokestatic 353, 3) := by decide +kernel
theorem dX7_drawn_94 : decode cX7_drawn 94 = .ok (.invokevirtual 448, 3) := by decide +kernel
theorem dX7_drawn_97 : decode cX7_drawn 97 = .ok (.invokevirtual 451, 3) := by decide +kernel
theorem dX7_drawn_100 : decode cX7_drawn 100 = .ok (.putfield 214, 3) := by decide +kernel
theorem dX7_drawn_103 : decode cX7_drawn 103 = .ok (.aload_n 0, 1) := by decide +kernel
theorem dX7_drawn_104 : decode cX7_drawn 104 = .ok (.bipush 10, 2) := by decide +kernel
theorem dX7_drawn_106 : decode cX7_drawn 106 = .ok (.invokevirtual 448, 3) := by decide +kernel
theorem dX7_drawn_109 : decode cX7_drawn 109 = .ok (.istore 10, 2) := by decide +kernel
theorem dX7_drawn_111 : decode cX7_drawn 111 = .ok (.aload_n 0, 1) := by decide +kernel
theorem dX7_drawn_112 : decode cX7_drawn 112 = .ok (.bipush 10, 2) := by decide +kernel
theorem dX7_drawn_114 : decode cX7_drawn 114 = .ok (.invokevirtual 448, 3) := by decide +kernel
theorem dX7_drawn_117 : decode cX7_drawn 117 = .ok (.istore 11, 2) := by decide +kernel
theorem dX7_drawn_119 : decode cX7_drawn 119 = .ok (.aload_n 0, 1) := by decide +kernel
theorem dX7_drawn_120 : decode cX7_drawn 120 = .ok (.bipush 100, 2) := by decide +kernel
theorem dX7_drawn_122 : decode cX7_drawn 122 = .ok (.iload 10, 2) := by decide +kernel
theorem dX7_drawn_124 : decode cX7_drawn 124 = .ok (.imul, 1) := by decide +kernel
theorem dX7_drawn_125 : decode cX7_drawn 125 = .ok (.bipush 10, 2) := by decide +kernel
theorem dX7_drawn_127 : decode cX7_drawn 127 = .ok (.iload 11, 2) := by decide +kernel
theorem dX7_drawn_129 : decode cX7_drawn 129 = .ok (.imul, 1) := by decide +kernel
theorem dX7_drawn_130 : decode cX7_drawn 130 = .ok (.iadd, 1) := by decide +kernel
theorem dX7_drawn_131 : decode cX7_drawn 131 = .ok (.aload_n 0, 1) := by decide +kernel
theorem dX7_drawn_132 : decode cX7_drawn 132 = .ok (.bipush 10, 2) := by decide +kernel
theorem dX7_drawn_134 : decode cX7_drawn 134 = .ok (.invokevirtual 448, 3) := by decide +kernel
theorem dX7_drawn_137 : decode cX7_drawn 137 = .ok (.iadd, 1) := by decide +kernel
theorem dX7_drawn_138 : decode cX7_drawn 138 = .ok (.invokevirtual 238, 3) := by decide +kernel
theorem dX7_drawn_141 : decode cX7_drawn 141 = .ok (.aload_n 0, 1) := by decide +kernel
theorem dX7_drawn_142 : decode cX7_drawn 142 = .ok (.invokevirtual 317, 3) := by decide +kernel
theorem dX7_drawn_145 : decode cX7_drawn 145 = .ok (.istore 9, 2) := by decide +kernel
theorem dX7_drawn_147 : decode cX7_drawn 147 = .ok (.iload 9, 2) := by decide +kernel
theorem dX7_drawn_149 : decode cX7_drawn 149 = .ok (.ifCond .eq 10, 3) := by decide +kernel
theorem dX7_drawn_152 : decode cX7_drawn 152 = .ok (.aload_n 0, 1) := by decide +kernel
theorem dX7_drawn_153 : decode cX7_drawn 153 = .ok (.invokevirtual 321, 3) := by decide +kernel
theorem dX7_drawn_156 : decode cX7_drawn 156 = .ok (.goto 7, 3) := by decide +kernel
theorem dX7_drawn_159 : decode cX7_drawn 159 = .ok (.aload_n 0, 1) := by decide +kernel
theorem dX7_drawn_160 : decode cX7_drawn 160 = .ok (.invokevirtual 299, 3) := by decide +kernel
theorem dX7_drawn_163 : decode cX7_drawn 163 = .ok (.iload 5, 2) := by decide +kernel
theorem dX7_drawn_165 : decode cX7_drawn 165 = .ok (.aload_n 0, 1) := by decide +kernel
theorem dX7_drawn_166 : decode cX7_drawn 166 = .ok (.getfield 290, 3) := by decide +kernel
theorem dX7_drawn_169 : decode cX7_drawn 169 = .ok (.bipush 100, 2) := by decide +kernel
theorem dX7_drawn_171 : decode cX7_drawn 171 = .ok (.idiv, 1) := by decide +kernel
theorem dX7_drawn_172 : decode cX7_drawn 172 = .ok (.iadd, 1) := by decide +kernel
theorem dX7_drawn_173 : decode cX7_drawn 173 = .ok (.istore 5, 2) := by decide +kernel
theorem dX7_drawn_175 : decode cX7_drawn 175 = .ok (.aload_n 0, 1) := by decide +kernel
theorem dX7_drawn_176 : decode cX7_drawn 176 = .ok (.getfield 290, 3) := by decide +kernel
theorem dX7_drawn_179 : decode cX7_drawn 179 = .ok (.bipush 100, 2) := by decide +kernel
theorem dX7_drawn_181 : decode cX7_drawn 181 = .ok (.if_icmp .ge 10, 3) := by decide +kernel
theorem dX7_drawn_184 : decode cX7_drawn 184 = .ok (.iload 6, 2) := by decide +kernel
theorem dX7_drawn_186 : decode cX7_drawn 186 = .ok (.iconst 1, 1) := by decide +kernel
theorem dX7_drawn_187 : decode cX7_drawn 187 = .ok (.iadd, 1) := by decide +kernel
theorem dX7_drawn_188 : decode cX7_drawn 188 = .ok (.goto 4, 3) := by decide +kernel
theorem dX7_drawn_191 : decode cX7_drawn 191 = .ok (.iconst 0, 1) := by decide +kernel
theorem dX7_drawn_192 : decode cX7_drawn 192 = .ok (.istore 6, 2) := by decide +kernel
theorem dX7_drawn_194 : decode cX7_drawn 194 = .ok (.iload 6, 2) := by decide +kernel
theorem dX7_drawn_196 : decode cX7_drawn 196 = .ok (.iload 7, 2) := by decide +kernel
theorem dX7_drawn_198 : decode cX7_drawn 198 = .ok (.if_icmp .le 8, 3) := by decide +kernel
theorem dX7_drawn_201 : decode cX7_drawn 201 = .ok (.iload 6, 2) := by decide +kernel
theorem dX7_drawn_203 : decode cX7_drawn 203 = .ok (.goto 5, 3) := by decide +kernel
theorem dX7_drawn_206 : decode cX7_drawn 206 = .ok (.iload 7, 2) := by decide +kernel
theorem dX7_drawn_208 : decode cX7_drawn 208 = .ok (.istore 7, 2) := by decide +kernel
theorem dX7_drawn_210 : decode cX7_drawn 210 = .ok (.iinc 8 1, 3) := by decide +kernel
theorem dX7_drawn_213 : decode cX7_drawn 213 = .ok (.goto (-164), 3) := by decide +kernel
theorem dX7_drawn_216 : decode cX7_drawn 216 = .ok (.iload 4, 2) := by decide +kernel
theorem dX7_drawn_218 : decode cX7_drawn 218 = .ok (.tableswitch 66 0 5 #[38, 43, 48, 53, 58, 63], 38) := by decide +kernel
theorem dX7_drawn_256 : decode cX7_drawn 256 = .ok (.aload_n 0, 1) := by decide +kernel
theorem dX7_drawn_257 : decode cX7_drawn 257 = .ok (.getfield 275, 3) := by decide +kernel
theorem dX7_drawn_260 : decode cX7_drawn 260 = .ok (.ireturn, 1) := by decide +kernel
theorem dX7_drawn_261 : decode cX7_drawn 261 = .ok (.aload_n 0, 1) := by decide +kernel
theorem dX7_drawn_262 : decode cX7_drawn 262 = .ok (.getfield 278, 3) := by decide +kernel
theorem dX7_drawn_265 : decode cX7_drawn 265 = .ok (.ireturn, 1) := by decide +kernel
theorem dX7_drawn_266 : decode cX7_drawn 266 = .ok (.aload_n 0, 1) := by decide +kernel
theorem dX7_drawn_267 : decode cX7_drawn 267 = .ok (.getfield 281, 3) := by decide +kernel
theorem dX7_drawn_270 : decode cX7_drawn 270 = .ok (.ireturn, 1) := by decide +kernel
theorem dX7_drawn_271 : decode cX7_drawn 271 = .ok (.aload_n 0, 1) := by decide +kernel
theorem dX7_drawn_272 : decode cX7_drawn 272 = .ok (.getfield 226, 3) := by decide +kernel
theorem dX7_drawn_275 : decode cX7_drawn 275 = .ok (.ireturn, 1) := by decide +kernel
theorem dX7_drawn_276 : decode cX7_drawn 276 = .ok (.aload_n 0, 1) := by decide +kernel
theorem dX7_drawn_277 : decode cX7_drawn 277 = .ok (.getfield 287, 3) := by decide +kernel
theorem dX7_drawn_280 : decode cX7_drawn 280 = .ok (.ireturn, 1) := by decide +kernel
theorem dX7_drawn_281 : decode cX7_drawn 281 = .ok (.iload 5, 2) := by decide +kernel
theorem dX7_drawn_283 : decode cX7_drawn 283 = .ok (.ireturn, 1) := by decide +kernel
theorem dX7_drawn_284 : decode cX7_drawn 284 = .ok (.iload 7, 2) := by decide +kernel
theorem dX7_drawn_286 : decode cX7_drawn 286 = .ok (.ireturn, 1) := by decide +kernel
theorem dX7_end_0 : decode cX7_end 0 = .ok (.iload_n 1, 1) := by decide +kernel
theorem dX7_end_1 : decode cX7_end 1 = .ok (.ifCond .lt 14, 3) := by decide +kernel
theorem dX7_end_4 : decode cX7_end 4 = .ok (.iload_n 1, 1) := by decide +kernel
theorem dX7_end_5 : decode cX7_end 5 = .ok (.aload_n 0, 1) := by decide +kernel
theorem dX7_end_6 : decode cX7_end 6 = .ok (.getfield 7, 3) := by decide +kernel
theorem dX7_end_9 : decode cX7_end 9 = .ok (.bipush 6, 2) := by decide +kernel
theorem dX7_end_11 : decode cX7_end 11 = .ok (.iaload, 1) := by decide +kernel
theorem dX7_end_12 : decode cX7_end 12 = .ok (.if_icmp .le 5, 3) := by decide +kernel
theorem dX7_end_15 : decode cX7_end 15 = .ok (.iconst (-1), 1) := by decide +kernel
theorem dX7_end_16 : decode cX7_end 16 = .ok (.ireturn, 1) := by decide +kernel
theorem dX7_end_17 : decode cX7_end 17 = .ok (.aload_n 0, 1) := by decide +kernel
theorem dX7_end_18 : decode cX7_end 18 = .ok (.getfield 7, 3) := by decide +kernel
theorem dX7_end_21 : decode cX7_end 21 = .ok (.bipush 6, 2) := by decide +kernel
theorem dX7_end_23 : decode cX7_end 23 = .ok (.iload_n 1, 1) := by decide +kernel
theorem dX7_end_24 : decode cX7_end 24 = .ok (.iastore, 1) := by decide +kernel
theorem dX7_end_25 : decode cX7_end 25 = .ok (.iload_n 1, 1) := by decide +kernel
theorem dX7_end_26 : decode cX7_end 26 = .ok (.ireturn, 1) := by decide +kernel
theorem dX7_fault_0 : decode cX7_fault 0 = .ok (.iload_n 1, 1) := by decide +kernel
theorem dX7_fault_1 : decode cX7_fault 1 = .ok (.ifCond .ne 13, 3) := by decide +kernel
theorem dX7_fault_4 : decode cX7_fault 4 = .ok (.aload_n 0, 1) := by decide +kernel
theorem dX7_fault_5 : decode cX7_fault 5 = .ok (.getfield 7, 3) := by decide +kernel
theorem dX7_fault_8 : decode cX7_fault 8 = .ok (.bipush 7, 2) := by decide +kernel
theorem dX7_fault_10 : decode cX7_fault 10 = .ok (.iaload, 1) := by decide +kernel
theorem dX7_fault_11 : decode cX7_fault 11 = .ok (.goto 19, 3) := by decide +kernel
theorem dX7_fault_14 : decode cX7_fault 14 = .ok (.iload_n 1, 1) := by decide +kernel
theorem dX7_fault_15 : decode cX7_fault 15 = .ok (.iconst 1, 1) := by decide +kernel
theorem dX7_fault_16 : decode cX7_fault 16 = .ok (.if_icmp .ne 13, 3) := by decide +kernel
theorem dX7_fault_19 : decode cX7_fault 19 = .ok (.aload_n 0, 1) := by decide +kernel
theorem dX7_fault_20 : decode cX7_fault 20 = .ok (.getfield 7, 3) := by decide +kernel
theorem dX7_fault_23 : decode cX7_fault 23 = .ok (.bipush 8, 2) := by decide +kernel
theorem dX7_fault_25 : decode cX7_fault 25 = .ok (.iaload, 1) := by decide +kernel
theorem dX7_fault_26 : decode cX7_fault 26 = .ok (.goto 4, 3) := by decide +kernel
theorem dX7_fault_29 : decode cX7_fault 29 = .ok (.iconst (-1), 1) := by decide +kernel
theorem dX7_fault_30 : decode cX7_fault 30 = .ok (.ireturn, 1) := by decide +kernel
theorem dX7_feed_0 : decode cX7_feed 0 = .ok (.aload_n 0, 1) := by decide +kernel
theorem dX7_feed_1 : decode cX7_feed 1 = .ok (.getfield 7, 3) := by decide +kernel
theorem dX7_feed_4 : decode cX7_feed 4 = .ok (.bipush 6, 2) := by decide +kernel
theorem dX7_feed_6 : decode cX7_feed 6 = .ok (.iaload, 1) := by decide +kernel
theorem dX7_feed_7 : decode cX7_feed 7 = .ok (.bipush 20, 2) := by decide +kernel
theorem dX7_feed_9 : decode cX7_feed 9 = .ok (.iadd, 1) := by decide +kernel
theorem dX7_feed_10 : decode cX7_feed 10 = .ok (.sipush 600, 3) := by decide +kernel
theorem dX7_feed_13 : decode cX7_feed 13 = .ok (.if_icmp .le 5, 3) := by decide +kernel
theorem dX7_feed_16 : decode cX7_feed 16 = .ok (.iconst (-1), 1) := by decide +kernel
theorem dX7_feed_17 : decode cX7_feed 17 = .ok (.ireturn, 1) := by decide +kernel
theorem dX7_feed_18 : decode cX7_feed 18 = .ok (.iconst 0, 1) := by decide +kernel
theorem dX7_feed_19 : decode cX7_feed 19 = .ok (.istore 6, 2) := by decide +kernel
theorem dX7_feed_21 : decode cX7_feed 21 = .ok (.iload 6, 2) := by decide +kernel
theorem dX7_feed_23 : decode cX7_feed 23 = .ok (.bipush 20, 2) := by decide +kernel
theorem dX7_feed_25 : decode cX7_feed 25 = .ok (.if_icmp .ge 100, 3) := by decide +kernel
theorem dX7_feed_28 : decode cX7_feed 28 = .ok (.iload 6, 2) := by decide +kernel
theorem dX7_feed_30 : decode cX7_feed 30 = .ok (.iconst 4, 1) := by decide +kernel
theorem dX7_feed_31 : decode cX7_feed 31 = .ok (.if_icmp .ge 7, 3) := by decide +kernel
theorem dX7_feed_34 : decode cX7_feed 34 = .ok (.iload_n 1, 1) := by decide +kernel
theorem dX7_feed_35 : decode cX7_feed 35 = .ok (.goto 39, 3) := by decide +kernel
theorem dX7_feed_38 : decode cX7_feed 38 = .ok (.iload 6, 2) := by decide +kernel
theorem dX7_feed_40 : decode cX7_feed 40 = .ok (.bipush 8, 2) := by decide +kernel
theorem dX7_feed_42 : decode cX7_feed 42 = .ok (.if_icmp .ge 7, 3) := by decide +kernel
theorem dX7_feed_45 : decode cX7_feed 45 = .ok (.iload_n 2, 1) := by decide +kernel
theorem dX7_feed_46 : decode cX7_feed 46 = .ok (.goto 28, 3) := by decide +kernel
theorem dX7_feed_49 : decode cX7_feed 49 = .ok (.iload 6, 2) := by decide +kernel
theorem dX7_feed_51 : decode cX7_feed 51 = .ok (.bipush 12, 2) := by decide +kernel
theorem dX7_feed_53 : decode cX7_feed 53 = .ok (.if_icmp .ge 7, 3) := by decide +kernel
theorem dX7_feed_56 : decode cX7_feed 56 = .ok (.iload_n 3, 1) := by decide +kernel
theorem dX7_feed_57 : decode cX7_feed 57 = .ok (.goto 17, 3) := by decide +kernel
theorem dX7_feed_60 : decode cX7_feed 60 = .ok (.iload 6, 2) := by decide +kernel
theorem dX7_feed_62 : decode cX7_feed 62 = .ok (.bipush 16, 2) := by decide +kernel
theorem dX7_feed_64 : decode cX7_feed 64 = .ok (.if_icmp .ge 8, 3) := by decide +kernel
theorem dX7_feed_67 : decode cX7_feed 67 = .ok (.iload 4, 2) := by decide +kernel
theorem dX7_feed_69 : decode cX7_feed 69 = .ok (.goto 5, 3) := by decide +kernel
theorem dX7_feed_72 : decode cX7_feed 72 = .ok (.iload 5, 2) := by decide +kernel
theorem dX7_feed_74 : decode cX7_feed 74 = .ok (.istore 7, 2) := by decide +kernel
theorem dX7_feed_76 : decode cX7_feed 76 = .ok (.aload_n 0, 1) := by decide +kernel
theorem dX7_feed_77 : decode cX7_feed 77 = .ok (.getfield 7, 3) := by decide +kernel
theorem dX7_feed_80 : decode cX7_feed 80 = .ok (.bipush 10, 2) := by decide +kernel
theorem dX7_feed_82 : decode cX7_feed 82 = .ok (.aload_n 0, 1) := by decide +kernel
theorem dX7_feed_83 : decode cX7_feed 83 = .ok (.getfield 7, 3) := by decide +kernel
theorem dX7_feed_86 : decode cX7_feed 86 = .ok (.bipush 6, 2) := by decide +kernel
theorem dX7_feed_88 : decode cX7_feed 88 = .ok (.iaload, 1) := by decide +kernel
theorem dX7_feed_89 : decode cX7_feed 89 = .ok (.iadd, 1) := by decide +kernel
theorem dX7_feed_90 : decode cX7_feed 90 = .ok (.iload 7, 2) := by decide +kernel
theorem dX7_feed_92 : decode cX7_feed 92 = .ok (.bipush 24, 2) := by decide +kernel
theorem dX7_feed_94 : decode cX7_feed 94 = .ok (.bipush 8, 2) := by decide +kernel
theorem dX7_feed_96 : decode cX7_feed 96 = .ok (.iload 6, 2) := by decide +kernel
theorem dX7_feed_98 : decode cX7_feed 98 = .ok (.iconst 4, 1) := by decide +kernel
theorem dX7_feed_99 : decode cX7_feed 99 = .ok (.irem, 1) := by decide +kernel
theorem dX7_feed_100 : decode cX7_feed 100 = .ok (.imul, 1) := by decide +kernel
theorem dX7_feed_101 : decode cX7_feed 101 = .ok (.isub, 1) := by decide +kernel
theorem dX7_feed_102 : decode cX7_feed 102 = .ok (.ishr, 1) := by decide +kernel
theorem dX7_feed_103 : decode cX7_feed 103 = .ok (.sipush 255, 3) := by decide +kernel
theorem dX7_feed_106 : decode cX7_feed 106 = .ok (.iand, 1) := by decide +kernel
theorem dX7_feed_107 : decode cX7_feed 107 = .ok (.iastore, 1) := by decide +kernel
theorem dX7_feed_108 : decode cX7_feed 108 = .ok (.aload_n 0, 1) := by decide +kernel
theorem dX7_feed_109 : decode cX7_feed 109 = .ok (.getfield 7, 3) := by decide +kernel
theorem dX7_feed_112 : decode cX7_feed 112 = .ok (.bipush 6, 2) := by decide +kernel
theorem dX7_feed_114 : decode cX7_feed 114 = .ok (.dup2, 1) := by decide +kernel
theorem dX7_feed_115 : decode cX7_feed 115 = .ok (.iaload, 1) := by decide +kernel
theorem dX7_feed_116 : decode cX7_feed 116 = .ok (.iconst 1, 1) := by decide +kernel
theorem dX7_feed_117 : decode cX7_feed 117 = .ok (.iadd, 1) := by decide +kernel
theorem dX7_feed_118 : decode cX7_feed 118 = .ok (.iastore, 1) := by decide +kernel
theorem dX7_feed_119 : decode cX7_feed 119 = .ok (.iinc 6 1, 3) := by decide +kernel
theorem dX7_feed_122 : decode cX7_feed 122 = .ok (.goto (-101), 3) := by decide +kernel
theorem dX7_feed_125 : decode cX7_feed 125 = .ok (.aload_n 0, 1) := by decide +kernel
theorem dX7_feed_126 : decode cX7_feed 126 = .ok (.getfield 7, 3) := by decide +kernel
theorem dX7_feed_129 : decode cX7_feed 129 = .ok (.bipush 6, 2) := by decide +kernel
theorem dX7_feed_131 : decode cX7_feed 131 = .ok (.iaload, 1) := by decide +kernel
theorem dX7_feed_132 : decode cX7_feed 132 = .ok (.ireturn, 1) := by decide +kernel
theorem dX7_fits_0 : decode cX7_fits 0 = .ok (.aload_n 0, 1) := by decide +kernel
theorem dX7_fits_1 : decode cX7_fits 1 = .ok (.iload_n 1, 1) := by decide +kernel
theorem dX7_fits_2 : decode cX7_fits 2 = .ok (.iload_n 3, 1) := by decide +kernel
theorem dX7_fits_3 : decode cX7_fits 3 = .ok (.iload 4, 2) := by decide +kernel
theorem dX7_fits_5 : decode cX7_fits 5 = .ok (.iconst 0, 1) := by decide +kernel
theorem dX7_fits_6 : decode cX7_fits 6 = .ok (.iconst 0, 1) := by decide +kernel
theorem dX7_fits_7 : decode cX7_fits 7 = .ok (.iconst 0, 1) := by decide +kernel
theorem dX7_fits_8 : decode cX7_fits 8 = .ok (.invokevirtual 241, 3) := by decide +kernel
theorem dX7_fits_11 : decode cX7_fits 11 = .ok (.ifCond .eq 12, 3) := by decide +kernel
theorem dX7_fits_14 : decode cX7_fits 14 = .ok (.aload_n 0, 1) := by decide +kernel
theorem dX7_fits_15 : decode cX7_fits 15 = .ok (.iconst 3, 1) := by decide +kernel
theorem dX7_fits_16 : decode cX7_fits 16 = .ok (.iload_n 2, 1) := by decide +kernel
theorem dX7_fits_17 : decode cX7_fits 17 = .ok (.invokevirtual 144, 3) := by decide +kernel
theorem dX7_fits_20 : decode cX7_fits 20 = .ok (.ifCond .ne 6, 3) := by decide +kernel
theorem dX7_fits_23 : decode cX7_fits 23 = .ok (.bipush (-2), 2) := by decide +kernel
theorem dX7_fits_25 : decode cX7_fits 25 = .ok (.ireturn, 1) := by decide +kernel
theorem dX7_fits_26 : decode cX7_fits 26 = .ok (.aload_n 0, 1) := by decide +kernel
theorem dX7_fits_27 : decode cX7_fits 27 = .ok (.iconst 3, 1) := by decide +kernel
theorem dX7_fits_28 : decode cX7_fits 28 = .ok (.iload_n 2, 1) := by decide +kernel
theorem dX7_fits_29 : decode cX7_fits 29 = .ok (.invokestatic 172, 3) := by decide +kernel
theorem dX7_fits_32 : decode cX7_fits 32 = .ok (.putfield 426, 3) := by decide +kernel
theorem dX7_fits_35 : decode cX7_fits 35 = .ok (.iconst 0, 1) := by decide +kernel
theorem dX7_fits_36 : decode cX7_fits 36 = .ok (.istore 6, 2) := by decide +kernel
theorem dX7_fits_38 : decode cX7_fits 38 = .ok (.iload 6, 2) := by decide +kernel
theorem dX7_fits_40 : decode cX7_fits 40 = .ok (.aload_n 0, 1) := by decide +kernel
theorem dX7_fits_41 : decode cX7_fits 41 = .ok (.getfield 7, 3) := by decide +kernel
theorem dX7_fits_44 : decode cX7_fits 44 = .ok (.aload_n 0, 1) := by decide +kernel
theorem dX7_fits_45 : decode cX7_fits 45 = .ok (.getfield 426, 3) := by decide +kernel
theorem dX7_fits_48 : decode cX7_fits 48 = .ok (.iaload, 1) := by decide +kernel
theorem dX7_fits_49 : decode cX7_fits 49 = .ok (.if_icmp .ge 26, 3) := by decide +kernel
theorem dX7_fits_52 : decode cX7_fits 52 = .ok (.aload_n 0, 1) := by decide +kernel
theorem dX7_fits_53 : decode cX7_fits 53 = .ok (.aload_n 0, 1) := by decide +kernel
theorem dX7_fits_54 : decode cX7_fits 54 = .ok (.iload 6, 2) := by decide +kernel
theorem dX7_fits_56 : decode cX7_fits 56 = .ok (.iconst 0, 1) := by decide +kernel
theorem dX7_fits_57 : decode cX7_fits 57 = .ok (.invokevirtual 429, 3) := by decide +kernel
theorem dX7_fits_60 : decode cX7_fits 60 = .ok (.invokevirtual 193, 3) := by decide +kernel
theorem dX7_fits_63 : decode cX7_fits 63 = .ok (.ifCond .ne 6, 3) := by decide +kernel
theorem dX7_fits_66 : decode cX7_fits 66 = .ok (.bipush (-2), 2) := by decide +kernel
theorem dX7_fits_68 : decode cX7_fits 68 = .ok (.ireturn, 1) := by decide +kernel
theorem dX7_fits_69 : decode cX7_fits 69 = .ok (.iinc 6 1, 3) := by decide +kernel
theorem dX7_fits_72 : decode cX7_fits 72 = .ok (.goto (-34), 3) := by decide +kernel
theorem dX7_fits_75 : decode cX7_fits 75 = .ok (.aload_n 0, 1) := by decide +kernel
theorem dX7_fits_76 : decode cX7_fits 76 = .ok (.iconst (-1), 1) := by decide +kernel
theorem dX7_fits_77 : decode cX7_fits 77 = .ok (.invokevirtual 435, 3) := by decide +kernel
theorem dX7_fits_80 : decode cX7_fits 80 = .ok (.istore 6, 2) := by decide +kernel
theorem dX7_fits_82 : decode cX7_fits 82 = .ok (.iload 5, 2) := by decide +kernel
theorem dX7_fits_84 : decode cX7_fits 84 = .ok (.ifCond .ne 6, 3) := by decide +kernel
theorem dX7_fits_87 : decode cX7_fits 87 = .ok (.iload 6, 2) := by decide +kernel
theorem dX7_fits_89 : decode cX7_fits 89 = .ok (.ireturn, 1) := by decide +kernel
theorem dX7_fits_90 : decode cX7_fits 90 = .ok (.iload 5, 2) := by decide +kernel
theorem dX7_fits_92 : decode cX7_fits 92 = .ok (.iconst 1, 1) := by decide +kernel
theorem dX7_fits_93 : decode cX7_fits 93 = .ok (.if_icmp .eq 9, 3) := by decide +kernel
theorem dX7_fits_96 : decode cX7_fits 96 = .ok (.iload 5, 2) := by decide +kernel
theorem dX7_fits_98 : decode cX7_fits 98 = .ok (.iconst 2, 1) := by decide +kernel
theorem dX7_fits_99 : decode cX7_fits 99 = .ok (.if_icmp .ne 33, 3) := by decide +kernel
theorem dX7_fits_102 : decode cX7_fits 102 = .ok (.iload 6, 2) := by decide +kernel
theorem dX7_fits_104 : decode cX7_fits 104 = .ok (.ifCond .ne 7, 3) := by decide +kernel
theorem dX7_fits_107 : decode cX7_fits 107 = .ok (.iconst (-1), 1) := by decide +kernel
theorem dX7_fits_108 : decode cX7_fits 108 = .ok (.goto 23, 3) := by decide +kernel
theorem dX7_fits_111 : decode cX7_fits 111 = .ok (.aload_n 0, 1) := by decide +kernel
theorem dX7_fits_112 : decode cX7_fits 112 = .ok (.invokevirtual 438, 3) := by decide +kernel
theorem dX7_fits_115 : decode cX7_fits 115 = .ok (.iload 6, 2) := by decide +kernel
theorem dX7_fits_117 : decode cX7_fits 117 = .ok (.iload 5, 2) := by decide +kernel
theorem dX7_fits_119 : decode cX7_fits 119 = .ok (.iconst 2, 1) := by decide +kernel
theorem dX7_fits_120 : decode cX7_fits 120 = .ok (.if_icmp .ne 7, 3) := by decide +kernel
theorem dX7_fits_123 : decode cX7_fits 123 = .ok (.iconst 1, 1) := by decide +kernel
theorem dX7_fits_124 : decode cX7_fits 124 = .ok (.goto 4, 3) := by decide +kernel
theorem dX7_fits_127 : decode cX7_fits 127 = .ok (.iconst 0, 1) := by decide +kernel
theorem dX7_fits_128 : decode cX7_fits 128 = .ok (.invokestatic 359, 3) := by decide +kernel
theorem dX7_fits_131 : decode cX7_fits 131 = .ok (.ireturn, 1) := by decide +kernel
theorem dX7_fits_132 : decode cX7_fits 132 = .ok (.iload 5, 2) := by decide +kernel
theorem dX7_fits_134 : decode cX7_fits 134 = .ok (.iconst 3, 1) := by decide +kernel
theorem dX7_fits_135 : decode cX7_fits 135 = .ok (.if_icmp .ne 59, 3) := by decide +kernel
theorem dX7_fits_138 : decode cX7_fits 138 = .ok (.iconst 0, 1) := by decide +kernel
theorem dX7_fits_139 : decode cX7_fits 139 = .ok (.istore 7, 2) := by decide +kernel
theorem dX7_fits_141 : decode cX7_fits 141 = .ok (.iconst 0, 1) := by decide +kernel
theorem dX7_fits_142 : decode cX7_fits 142 = .ok (.istore 8, 2) := by decide +kernel
theorem dX7_fits_144 : decode cX7_fits 144 = .ok (.iload 8, 2) := by decide +kernel
theorem dX7_fits_146 : decode cX7_fits 146 = .ok (.aload_n 0, 1) := by decide +kernel
theorem dX7_fits_147 : decode cX7_fits 147 = .ok (.getfield 7, 3) := by decide +kernel
theorem dX7_fits_150 : decode cX7_fits 150 = .ok (.aload_n 0, 1) := by decide +kernel
theorem dX7_fits_151 : decode cX7_fits 151 = .ok (.getfield 426, 3) := by decide +kernel
theorem dX7_fits_154 : decode cX7_fits 154 = .ok (.iaload, 1) := by decide +kernel
theorem dX7_fits_155 : decode cX7_fits 155 = .ok (.if_icmp .ge 36, 3) := by decide +kernel
theorem dX7_fits_158 : decode cX7_fits 158 = .ok (.iload 6, 2) := by decide +kernel
theorem dX7_fits_160 : decode cX7_fits 160 = .ok (.ifCond .ne 31, 3) := by decide +kernel
theorem dX7_fits_163 : decode cX7_fits 163 = .ok (.iload 7, 2) := by decide +kernel
theorem dX7_fits_165 : decode cX7_fits 165 = .ok (.aload_n 0, 1) := by decide +kernel
theorem dX7_fits_166 : decode cX7_fits 166 = .ok (.iload 8, 2) := by decide +kernel
theorem dX7_fits_168 : decode cX7_fits 168 = .ok (.invokevirtual 435, 3) := by decide +kernel
theorem dX7_fits_171 : decode cX7_fits 171 = .ok (.ifCond .le 10, 3) := by decide +kernel
theorem dX7_fits_174 : decode cX7_fits 174 = .ok (.iconst 1, 1) := by decide +kernel
theorem dX7_fits_175 : decode cX7_fits 175 = .ok (.iload 8, 2) := by decide +kernel
theorem dX7_fits_177 : decode cX7_fits 177 = .ok (.ishl, 1) := by decide +kernel
theorem dX7_fits_178 : decode cX7_fits 178 = .ok (.goto 4, 3) := by decide +kernel
theorem dX7_fits_181 : decode cX7_fits 181 = .ok (.iconst 0, 1) := by decide +kernel
theorem dX7_fits_182 : decode cX7_fits 182 = .ok (.ior, 1) := by decide +kernel
theorem dX7_fits_183 : decode cX7_fits 183 = .ok (.istore 7, 2) := by decide +kernel
theorem dX7_fits_185 : decode cX7_fits 185 = .ok (.iinc 8 1, 3) := by decide +kernel
theorem dX7_fits_188 : decode cX7_fits 188 = .ok (.goto (-44), 3) := by decide +kernel
theorem dX7_fits_191 : decode cX7_fits 191 = .ok (.iload 7, 2) := by decide +kernel
theorem dX7_fits_193 : decode cX7_fits 193 = .ok (.ireturn, 1) := by decide +kernel
theorem dX7_fits_194 : decode cX7_fits 194 = .ok (.iload 5, 2) := by decide +kernel
theorem dX7_fits_196 : decode cX7_fits 196 = .ok (.bipush 10, 2) := by decide +kernel
theorem dX7_fits_198 : decode cX7_fits 198 = .ok (.bipush 12, 2) := by decide +kernel
theorem dX7_fits_200 : decode cX7_fits 200 = .ok (.invokestatic 93, 3) := by decide +kernel
theorem dX7_fits_203 : decode cX7_fits 203 = .ok (.ifCond .eq 16, 3) := by decide +kernel
theorem dX7_fits_206 : decode cX7_fits 206 = .ok (.aload_n 0, 1) := by decide +kernel
theorem dX7_fits_207 : decode cX7_fits 207 = .ok (.iload 5, 2) := by decide +kernel
theorem dX7_fits_209 : decode cX7_fits 209 = .ok (.bipush 10, 2) := by decide +kernel
theorem dX7_fits_211 : decode cX7_fits 211 = .ok (.isub, 1) := by decide +kernel
theorem dX7_fits_212 : decode cX7_fits 212 = .ok (.iconst 0, 1) := by decide +kernel
theorem dX7_fits_213 : decode cX7_fits 213 = .ok (.invokevirtual 441, 3) := by decide +kernel
theorem dX7_fits_216 : decode cX7_fits 216 = .ok (.goto 30, 3) := by decide +kernel
theorem dX7_fits_219 : decode cX7_fits 219 = .ok (.iload 5, 2) := by decide +kernel
theorem dX7_fits_221 : decode cX7_fits 221 = .ok (.bipush 20, 2) := by decide +kernel
theorem dX7_fits_223 : decode cX7_fits 223 = .ok (.bipush 22, 2) := by decide +kernel
theorem dX7_fits_225 : decode cX7_fits 225 = .ok (.invokestatic 93, 3) := by decide +kernel
theorem dX7_fits_228 : decode cX7_fits 228 = .ok (.ifCond .eq 16, 3) := by decide +kernel
theorem dX7_fits_231 : decode cX7_fits 231 = .ok (.aload_n 0, 1) := by decide +kernel
theorem dX7_fits_232 : decode cX7_fits 232 = .ok (.iload 5, 2) := by decide +kernel
theorem dX7_fits_234 : decode cX7_fits 234 = .ok (.bipush 20, 2) := by decide +kernel
theorem dX7_fits_236 : decode cX7_fits 236 = .ok (.isub, 1) := by decide +kernel
theorem dX7_fits_237 : decode cX7_fits 237 = .ok (.iconst 1, 1) := by decide +kernel
theorem dX7_fits_238 : decode cX7_fits 238 = .ok (.invokevirtual 441, 3) := by decide +kernel
theorem dX7_fits_241 : decode cX7_fits 241 = .ok (.goto 5, 3) := by decide +kernel
theorem dX7_fits_244 : decode cX7_fits 244 = .ok (.bipush (-2), 2) := by decide +kernel
theorem dX7_fits_246 : decode cX7_fits 246 = .ok (.ireturn, 1) := by decide +kernel
theorem dX7_image_0 : decode cX7_image 0 = .ok (.iload_n 1, 1) := by decide +kernel
theorem dX7_image_1 : decode cX7_image 1 = .ok (.iconst 0, 1) := by decide +kernel
theorem dX7_image_2 : decode cX7_image 2 = .ok (.iconst 2, 1) := by decide +kernel
theorem dX7_image_3 : decode cX7_image 3 = .ok (.invokestatic 93, 3) := by decide +kernel
theorem dX7_image_6 : decode cX7_image 6 = .ok (.ifCond .ne 5, 3) := by decide +kernel
theorem dX7_image_9 : decode cX7_image 9 = .ok (.iconst 0, 1) := by decide +kernel
theorem dX7_image_10 : decode cX7_image 10 = .ok (.ireturn, 1) := by decide +kernel
theorem dX7_image_11 : decode cX7_image 11 = .ok (.aload_n 0, 1) := by decide +kernel
theorem dX7_image_12 : decode cX7_image 12 = .ok (.getfield 13, 3) := by decide +kernel
theorem dX7_image_15 : decode cX7_image 15 = .ok (.iload_n 1, 1) := by decide +kernel
theorem dX7_image_16 : decode cX7_image 16 = .ok (.iconst 1, 1) := by decide +kernel
theorem dX7_image_17 : decode cX7_image 17 = .ok (.bastore, 1) := by decide +kernel
theorem dX7_image_18 : decode cX7_image 18 = .ok (.iconst 0, 1) := by decide +kernel
theorem dX7_image_19 : decode cX7_image 19 = .ok (.istore_n 2, 1) := by decide +kernel
theorem dX7_image_20 : decode cX7_image 20 = .ok (.iload_n 2, 1) := by decide +kernel
theorem dX7_image_21 : decode cX7_image 21 = .ok (.sipush 1442, 3) := by decide +kernel
theorem dX7_image_24 : decode cX7_image 24 = .ok (.if_icmp .ge 29, 3) := by decide +kernel
theorem dX7_image_27 : decode cX7_image 27 = .ok (.aload_n 0, 1) := by decide +kernel
theorem dX7_image_28 : decode cX7_image 28 = .ok (.getfield 7, 3) := by decide +kernel
theorem dX7_image_31 : decode cX7_image 31 = .ok (.sipush 1442, 3) := by decide +kernel
theorem dX7_image_34 : decode cX7_image 34 = .ok (.iload_n 1, 1) := by decide +kernel
theorem dX7_image_35 : decode cX7_image 35 = .ok (.iconst 1, 1) := by decide +kernel
theorem dX7_image_36 : decode cX7_image 36 = .ok (.iadd, 1) := by decide +kernel
theorem dX7_image_37 : decode cX7_image 37 = .ok (.imul, 1) := by decide +kernel
theorem dX7_image_38 : decode cX7_image 38 = .ok (.iload_n 2, 1) := by decide +kernel
theorem dX7_image_39 : decode cX7_image 39 = .ok (.iadd, 1) := by decide +kernel
theorem dX7_image_40 : decode cX7_image 40 = .ok (.aload_n 0, 1) := by decide +kernel
theorem dX7_image_41 : decode cX7_image 41 = .ok (.getfield 7, 3) := by decide +kernel
theorem dX7_image_44 : decode cX7_image 44 = .ok (.iload_n 2, 1) := by decide +kernel
theorem dX7_image_45 : decode cX7_image 45 = .ok (.iaload, 1) := by decide +kernel
theorem dX7_image_46 : decode cX7_image 46 = .ok (.iastore, 1) := by decide +kernel
theorem dX7_image_47 : decode cX7_image 47 = .ok (.iinc 2 1, 3) := by decide +kernel
theorem dX7_image_50 : decode cX7_image 50 = .ok (.goto (-30), 3) := by decide +kernel
theorem dX7_image_53 : decode cX7_image 53 = .ok (.iconst 1, 1) := by decide +kernel
theorem dX7_image_54 : decode cX7_image 54 = .ok (.ireturn, 1) := by decide +kernel
theorem dX7_init_0 : decode cX7_init 0 = .ok (.aload_n 0, 1) := by decide +kernel
theorem dX7_init_1 : decode cX7_init 1 = .ok (.invokespecial 1, 3) := by decide +kernel
theorem dX7_init_4 : decode cX7_init 4 = .ok (.aload_n 0, 1) := by decide +kernel
theorem dX7_init_5 : decode cX7_init 5 = .ok (.sipush 5768, 3) := by decide +kernel
theorem dX7_init_8 : decode cX7_init 8 = .ok (.newarray .int, 2) := by decide +kernel
theorem dX7_init_10 : decode cX7_init 10 = .ok (.putfield 7, 3) := by decide +kernel
theorem dX7_init_13 : decode cX7_init 13 = .ok (.aload_n 0, 1) := by decide +kernel
theorem dX7_init_14 : decode cX7_init 14 = .ok (.iconst 3, 1) := by decide +kernel
theorem dX7_init_15 : decode cX7_init 15 = .ok (.newarray .boolean, 2) := by decide +kernel
theorem dX7_init_17 : decode cX7_init 17 = .ok (.putfield 13, 3) := by decide +kernel
theorem dX7_init_20 : decode cX7_init 20 = .ok (.aload_n 0, 1) := by decide +kernel
theorem dX7_init_21 : decode cX7_init 21 = .ok (.sipush 201, 3) := by decide +kernel
theorem dX7_init_24 : decode cX7_init 24 = .ok (.newarray .int, 2) := by decide +kernel
theorem dX7_init_26 : decode cX7_init 26 = .ok (.putfield 17, 3) := by decide +kernel
theorem dX7_init_29 : decode cX7_init 29 = .ok (.aload_n 0, 1) := by decide +kernel
theorem dX7_init_30 : decode cX7_init 30 = .ok (.iconst 3, 1) := by decide +kernel
theorem dX7_init_31 : decode cX7_init 31 = .ok (.newarray .int, 2) := by decide +kernel
theorem dX7_init_33 : decode cX7_init 33 = .ok (.putfield 20, 3) := by decide +kernel
theorem dX7_init_36 : decode cX7_init 36 = .ok (.aload_n 0, 1) := by decide +kernel
theorem dX7_init_37 : decode cX7_init 37 = .ok (.bipush 6, 2) := by decide +kernel
theorem dX7_init_39 : decode cX7_init 39 = .ok (.newarray .int, 2) := by decide +kernel
theorem dX7_init_41 : decode cX7_init 41 = .ok (.putfield 23, 3) := by decide +kernel
theorem dX7_init_44 : decode cX7_init 44 = .ok (.aload_n 0, 1) := by decide +kernel
theorem dX7_init_45 : decode cX7_init 45 = .ok (.sipush 1791, 3) := by decide +kernel
theorem dX7_init_48 : decode cX7_init 48 = .ok (.newarray .int, 2) := by decide +kernel
theorem dX7_init_50 : decode cX7_init 50 = .ok (.putfield 26, 3) := by decide +kernel
theorem dX7_init_53 : decode cX7_init 53 = .ok (.aload_n 0, 1) := by decide +kernel
theorem dX7_init_54 : decode cX7_init 54 = .ok (.sipush 1000, 3) := by decide +kernel
theorem dX7_init_57 : decode cX7_init 57 = .ok (.newarray .boolean, 2) := by decide +kernel
theorem dX7_init_59 : decode cX7_init 59 = .ok (.putfield 29, 3) := by decide +kernel
theorem dX7_init_62 : decode cX7_init 62 = .ok (.aload_n 0, 1) := by decide +kernel
theorem dX7_init_63 : decode cX7_init 63 = .ok (.getfield 7, 3) := by decide +kernel
theorem dX7_init_66 : decode cX7_init 66 = .ok (.bipush 8, 2) := by decide +kernel
theorem dX7_init_68 : decode cX7_init 68 = .ok (.iconst (-1), 1) := by decide +kernel
theorem dX7_init_69 : decode cX7_init 69 = .ok (.iastore, 1) := by decide +kernel
theorem dX7_init_70 : decode cX7_init 70 = .ok (.return_, 1) := by decide +kernel
theorem dX7_isIn_0 : decode cX7_isIn 0 = .ok (.iload_n 0, 1) := by decide +kernel
theorem dX7_isIn_1 : decode cX7_isIn 1 = .ok (.iload_n 1, 1) := by decide +kernel
theorem dX7_isIn_2 : decode cX7_isIn 2 = .ok (.if_icmp .lt 12, 3) := by decide +kernel
theorem dX7_isIn_5 : decode cX7_isIn 5 = .ok (.iload_n 0, 1) := by decide +kernel
theorem dX7_isIn_6 : decode cX7_isIn 6 = .ok (.iload_n 2, 1) := by decide +kernel
theorem dX7_isIn_7 : decode cX7_isIn 7 = .ok (.if_icmp .gt 7, 3) := by decide +kernel
theorem dX7_isIn_10 : decode cX7_isIn 10 = .ok (.iconst 1, 1) := by decide +kernel
theorem dX7_isIn_11 : decode cX7_isIn 11 = .ok (.goto 4, 3) := by decide +kernel
theorem dX7_isIn_14 : decode cX7_isIn 14 = .ok (.iconst 0, 1) := by decide +kernel
theorem dX7_isIn_15 : decode cX7_isIn 15 = .ok (.ireturn, 1) := by decide +kernel
theorem dX7_isMotion_0 : decode cX7_isMotion 0 = .ok (.aload_n 0, 1) := by decide +kernel
theorem dX7_isMotion_1 : decode cX7_isMotion 1 = .ok (.iload_n 1, 1) := by decide +kernel
theorem dX7_isMotion_2 : decode cX7_isMotion 2 = .ok (.invokevirtual 190, 3) := by decide +kernel
theorem dX7_isMotion_5 : decode cX7_isMotion 5 = .ok (.ifCond .eq 32, 3) := by decide +kernel
theorem dX7_isMotion_8 : decode cX7_isMotion 8 = .ok (.aload_n 0, 1) := by decide +kernel
theorem dX7_isMotion_9 : decode cX7_isMotion 9 = .ok (.iload_n 2, 1) := by decide +kernel
theorem dX7_isMotion_10 : decode cX7_isMotion 10 = .ok (.invokevirtual 193, 3) := by decide +kernel
theorem dX7_isMotion_13 : decode cX7_isMotion 13 = .ok (.ifCond .eq 24, 3) := by decide +kernel
theorem dX7_isMotion_16 : decode cX7_isMotion 16 = .ok (.iload_n 3, 1) := by decide +kernel
theorem dX7_isMotion_17 : decode cX7_isMotion 17 = .ok (.iconst 0, 1) := by decide +kernel
theorem dX7_isMotion_18 : decode cX7_isMotion 18 = .ok (.iconst 3, 1) := by decide +kernel
theorem dX7_isMotion_19 : decode cX7_isMotion 19 = .ok (.invokestatic 93, 3) := by decide +kernel
theorem dX7_isMotion_22 : decode cX7_isMotion 22 = .ok (.ifCond .eq 15, 3) := by decide +kernel
theorem dX7_isMotion_25 : decode cX7_isMotion 25 = .ok (.iload 4, 2) := by decide +kernel
theorem dX7_isMotion_27 : decode cX7_isMotion 27 = .ok (.iload 5, 2) := by decide +kernel
theorem dX7_isMotion_29 : decode cX7_isMotion 29 = .ok (.iload 6, 2) := by decide +kernel
theorem dX7_isMotion_31 : decode cX7_isMotion 31 = .ok (.invokestatic 235, 3) := by decide +kernel
theorem dX7_isMotion_34 : decode cX7_isMotion 34 = .ok (.ifCond .ne 5, 3) := by decide +kernel
theorem dX7_isMotion_37 : decode cX7_isMotion 37 = .ok (.iconst 0, 1) := by decide +kernel
theorem dX7_isMotion_38 : decode cX7_isMotion 38 = .ok (.ireturn, 1) := by decide +kernel
theorem dX7_isMotion_39 : decode cX7_isMotion 39 = .ok (.aload_n 0, 1) := by decide +kernel
theorem dX7_isMotion_40 : decode cX7_isMotion 40 = .ok (.iload_n 2, 1) := by decide +kernel
theorem dX7_isMotion_41 : decode cX7_isMotion 41 = .ok (.putfield 214, 3) := by decide +kernel
theorem dX7_isMotion_44 : decode cX7_isMotion 44 = .ok (.aload_n 0, 1) := by decide +kernel
theorem dX7_isMotion_45 : decode cX7_isMotion 45 = .ok (.iload_n 3, 1) := by decide +kernel
theorem dX7_isMotion_46 : decode cX7_isMotion 46 = .ok (.putfield 205, 3) := by decide +kernel
theorem dX7_isMotion_49 : decode cX7_isMotion 49 = .ok (.aload_n 0, 1) := by decide +kernel
theorem dX7_isMotion_50 : decode cX7_isMotion 50 = .ok (.bipush 100, 2) := by decide +kernel
theorem dX7_isMotion_52 : decode cX7_isMotion 52 = .ok (.iload 4, 2) := by decide +kernel
theorem dX7_isMotion_54 : decode cX7_isMotion 54 = .ok (.imul, 1) := by decide +kernel
theorem dX7_isMotion_55 : decode cX7_isMotion 55 = .ok (.bipush 10, 2) := by decide +kernel
theorem dX7_isMotion_57 : decode cX7_isMotion 57 = .ok (.iload 5, 2) := by decide +kernel
theorem dX7_isMotion_59 : decode cX7_isMotion 59 = .ok (.imul, 1) := by decide +kernel
theorem dX7_isMotion_60 : decode cX7_isMotion 60 = .ok (.iadd, 1) := by decide +kernel
theorem dX7_isMotion_61 : decode cX7_isMotion 61 = .ok (.iload 6, 2) := by decide +kernel
theorem dX7_isMotion_63 : decode cX7_isMotion 63 = .ok (.iadd, 1) := by decide +kernel
theorem dX7_isMotion_64 : decode cX7_isMotion 64 = .ok (.invokevirtual 238, 3) := by decide +kernel
theorem dX7_isMotion_67 : decode cX7_isMotion 67 = .ok (.iconst 1, 1) := by decide +kernel
theorem dX7_isMotion_68 : decode cX7_isMotion 68 = .ok (.ireturn, 1) := by decide +kernel
theorem dX7_isOf_0 : decode cX7_isOf 0 = .ok (.iload_n 2, 1) := by decide +kernel
theorem dX7_isOf_1 : decode cX7_isOf 1 = .ok (.iconst 0, 1) := by decide +kernel
theorem dX7_isOf_2 : decode cX7_isOf 2 = .ok (.aload_n 0, 1) := by decide +kernel
theorem dX7_isOf_3 : decode cX7_isOf 3 = .ok (.getfield 7, 3) := by decide +kernel
theorem dX7_isOf_6 : decode cX7_isOf 6 = .ok (.iload_n 1, 1) := by decide +kernel
theorem dX7_isOf_7 : decode cX7_isOf 7 = .ok (.iaload, 1) := by decide +kernel
theorem dX7_isOf_8 : decode cX7_isOf 8 = .ok (.iconst 1, 1) := by decide +kernel
theorem dX7_isOf_9 : decode cX7_isOf 9 = .ok (.isub, 1) := by decide +kernel
theorem dX7_isOf_10 : decode cX7_isOf 10 = .ok (.invokestatic 93, 3) := by decide +kernel
theorem dX7_isOf_13 : decode cX7_isOf 13 = .ok (.ireturn, 1) := by decide +kernel
theorem dX7_isRepublic_0 : decode cX7_isRepublic 0 = .ok (.aload_n 0, 1) := by decide +kernel
theorem dX7_isRepublic_1 : decode cX7_isRepublic 1 = .ok (.iconst 0, 1) := by decide +kernel
theorem dX7_isRepublic_2 : decode cX7_isRepublic 2 = .ok (.iload_n 1, 1) := by decide +kernel
theorem dX7_isRepublic_3 : decode cX7_isRepublic 3 = .ok (.invokevirtual 144, 3) := by decide +kernel
theorem dX7_isRepublic_6 : decode cX7_isRepublic 6 = .ok (.ifCond .ne 5, 3) := by decide +kernel
theorem dX7_isRepublic_9 : decode cX7_isRepublic 9 = .ok (.iconst 0, 1) := by decide +kernel
theorem dX7_isRepublic_10 : decode cX7_isRepublic 10 = .ok (.ireturn, 1) := by decide +kernel
theorem dX7_isRepublic_11 : decode cX7_isRepublic 11 = .ok (.aload_n 0, 1) := by decide +kernel
theorem dX7_isRepublic_12 : decode cX7_isRepublic 12 = .ok (.iconst 0, 1) := by decide +kernel
theorem dX7_isRepublic_13 : decode cX7_isRepublic 13 = .ok (.iload_n 1, 1) := by decide +kernel
theorem dX7_isRepublic_14 : decode cX7_isRepublic 14 = .ok (.invokestatic 172, 3) := by decide +kernel
theorem dX7_isRepublic_17 : decode cX7_isRepublic 17 = .ok (.putfield 175, 3) := by decide +kernel
theorem dX7_isRepublic_20 : decode cX7_isRepublic 20 = .ok (.aload_n 0, 1) := by decide +kernel
theorem dX7_isRepublic_21 : decode cX7_isRepublic 21 = .ok (.invokevirtual 178, 3) := by decide +kernel
theorem dX7_isRepublic_24 : decode cX7_isRepublic 24 = .ok (.iconst 1, 1) := by decide +kernel
theorem dX7_isRepublic_25 : decode cX7_isRepublic 25 = .ok (.ireturn, 1) := by decide +kernel
theorem dX7_isSummer_0 : decode cX7_isSummer 0 = .ok (.aload_n 0, 1) := by decide +kernel
theorem dX7_isSummer_1 : decode cX7_isSummer 1 = .ok (.iconst 4, 1) := by decide +kernel
theorem dX7_isSummer_2 : decode cX7_isSummer 2 = .ok (.iload_n 1, 1) := by decide +kernel
theorem dX7_isSummer_3 : decode cX7_isSummer 3 = .ok (.invokevirtual 144, 3) := by decide +kernel
theorem dX7_isSummer_6 : decode cX7_isSummer 6 = .ok (.ifCond .ne 5, 3) := by decide +kernel
theorem dX7_isSummer_9 : decode cX7_isSummer 9 = .ok (.iconst 0, 1) := by decide +kernel
theorem dX7_isSummer_10 : decode cX7_isSummer 10 = .ok (.ireturn, 1) := by decide +kernel
theorem dX7_isSummer_11 : decode cX7_isSummer 11 = .ok (.aload_n 0, 1) := by decide +kernel
theorem dX7_isSummer_12 : decode cX7_isSummer 12 = .ok (.iconst 4, 1) := by decide +kernel
theorem dX7_isSummer_13 : decode cX7_isSummer 13 = .ok (.iload_n 1, 1) := by decide +kernel
theorem dX7_isSummer_14 : decode cX7_isSummer 14 = .ok (.invokestatic 172, 3) := by decide +kernel
theorem dX7_isSummer_17 : decode cX7_isSummer 17 = .ok (.putfield 381, 3) := by decide +kernel
theorem dX7_isSummer_20 : decode cX7_isSummer 20 = .ok (.iconst 1, 1) := by decide +kernel
theorem dX7_isSummer_21 : decode cX7_isSummer 21 = .ok (.ireturn, 1) := by decide +kernel
theorem dX7_leak_0 : decode cX7_leak 0 = .ok (.aload_n 0, 1) := by decide +kernel
theorem dX7_leak_1 : decode cX7_leak 1 = .ok (.iconst 3, 1) := by decide +kernel
theorem dX7_leak_2 : decode cX7_leak 2 = .ok (.iload_n 1, 1) := by decide +kernel
theorem dX7_leak_3 : decode cX7_leak 3 = .ok (.invokevirtual 144, 3) := by decide +kernel
theorem dX7_leak_6 : decode cX7_leak 6 = .ok (.ifCond .ne 6, 3) := by decide +kernel
theorem dX7_leak_9 : decode cX7_leak 9 = .ok (.bipush (-2), 2) := by decide +kernel
theorem dX7_leak_11 : decode cX7_leak 11 = .ok (.ireturn, 1) := by decide +kernel
theorem dX7_leak_12 : decode cX7_leak 12 = .ok (.aload_n 0, 1) := by decide +kernel
theorem dX7_leak_13 : decode cX7_leak 13 = .ok (.iconst 3, 1) := by decide +kernel
theorem dX7_leak_14 : decode cX7_leak 14 = .ok (.iload_n 1, 1) := by decide +kernel
theorem dX7_leak_15 : decode cX7_leak 15 = .ok (.invokestatic 172, 3) := by decide +kernel
theorem dX7_leak_18 : decode cX7_leak 18 = .ok (.putfield 426, 3) := by decide +kernel
theorem dX7_leak_21 : decode cX7_leak 21 = .ok (.iload_n 2, 1) := by decide +kernel
theorem dX7_leak_22 : decode cX7_leak 22 = .ok (.iconst (-1), 1) := by decide +kernel
theorem dX7_leak_23 : decode cX7_leak 23 = .ok (.if_icmp .ne 22, 3) := by decide +kernel
theorem dX7_leak_26 : decode cX7_leak 26 = .ok (.iload_n 3, 1) := by decide +kernel
theorem dX7_leak_27 : decode cX7_leak 27 = .ok (.ifCond .ne 15, 3) := by decide +kernel
theorem dX7_leak_30 : decode cX7_leak 30 = .ok (.aload_n 0, 1) := by decide +kernel
theorem dX7_leak_31 : decode cX7_leak 31 = .ok (.getfield 7, 3) := by decide +kernel
theorem dX7_leak_34 : decode cX7_leak 34 = .ok (.aload_n 0, 1) := by decide +kernel
theorem dX7_leak_35 : decode cX7_leak 35 = .ok (.getfield 426, 3) := by decide +kernel
theorem dX7_leak_38 : decode cX7_leak 38 = .ok (.iaload, 1) := by decide +kernel
theorem dX7_leak_39 : decode cX7_leak 39 = .ok (.goto 5, 3) := by decide +kernel
theorem dX7_leak_42 : decode cX7_leak 42 = .ok (.bipush (-2), 2) := by decide +kernel
theorem dX7_leak_44 : decode cX7_leak 44 = .ok (.ireturn, 1) := by decide +kernel
theorem dX7_leak_45 : decode cX7_leak 45 = .ok (.iload_n 2, 1) := by decide +kernel
theorem dX7_leak_46 : decode cX7_leak 46 = .ok (.iconst 0, 1) := by decide +kernel
theorem dX7_leak_47 : decode cX7_leak 47 = .ok (.aload_n 0, 1) := by decide +kernel
theorem dX7_leak_48 : decode cX7_leak 48 = .ok (.getfield 7, 3) := by decide +kernel
theorem dX7_leak_51 : decode cX7_leak 51 = .ok (.aload_n 0, 1) := by decide +kernel
theorem dX7_leak_52 : decode cX7_leak 52 = .ok (.getfield 426, 3) := by decide +kernel
theorem dX7_leak_55 : decode cX7_leak 55 = .ok (.iaload, 1) := by decide +kernel
theorem dX7_leak_56 : decode cX7_leak 56 = .ok (.iconst 1, 1) := by decide +kernel
theorem dX7_leak_57 : decode cX7_leak 57 = .ok (.isub, 1) := by decide +kernel
theorem dX7_leak_58 : decode cX7_leak 58 = .ok (.invokestatic 93, 3) := by decide +kernel
theorem dX7_leak_61 : decode cX7_leak 61 = .ok (.ifCond .eq 21, 3) := by decide +kernel
theorem dX7_leak_64 : decode cX7_leak 64 = .ok (.iload_n 3, 1) := by decide +kernel
theorem dX7_leak_65 : decode cX7_leak 65 = .ok (.iconst 0, 1) := by decide +kernel
theorem dX7_leak_66 : decode cX7_leak 66 = .ok (.iconst 1, 1) := by decide +kernel
theorem dX7_leak_67 : decode cX7_leak 67 = .ok (.invokestatic 93, 3) := by decide +kernel
theorem dX7_leak_70 : decode cX7_leak 70 = .ok (.ifCond .eq 12, 3) := by decide +kernel
theorem dX7_leak_73 : decode cX7_leak 73 = .ok (.aload_n 0, 1) := by decide +kernel
theorem dX7_leak_74 : decode cX7_leak 74 = .ok (.iload_n 2, 1) := by decide +kernel
theorem dX7_leak_75 : decode cX7_leak 75 = .ok (.iload_n 3, 1) := by decide +kernel
theorem dX7_leak_76 : decode cX7_leak 76 = .ok (.invokevirtual 429, 3) := by decide +kernel
theorem dX7_leak_79 : decode cX7_leak 79 = .ok (.goto 5, 3) := by decide +kernel
theorem dX7_leak_82 : decode cX7_leak 82 = .ok (.bipush (-2), 2) := by decide +kernel
theorem dX7_leak_84 : decode cX7_leak 84 = .ok (.ireturn, 1) := by decide +kernel
theorem dX7_lobby_0 : decode cX7_lobby 0 = .ok (.aload_n 0, 1) := by decide +kernel
theorem dX7_lobby_1 : decode cX7_lobby 1 = .ok (.iload_n 1, 1) := by decide +kernel
theorem dX7_lobby_2 : decode cX7_lobby 2 = .ok (.iload_n 2, 1) := by decide +kernel
theorem dX7_lobby_3 : decode cX7_lobby 3 = .ok (.iload_n 3, 1) := by decide +kernel
theorem dX7_lobby_4 : decode cX7_lobby 4 = .ok (.iload 4, 2) := by decide +kernel
theorem dX7_lobby_6 : decode cX7_lobby 6 = .ok (.iload 5, 2) := by decide +kernel
theorem dX7_lobby_8 : decode cX7_lobby 8 = .ok (.iload 6, 2) := by decide +kernel
theorem dX7_lobby_10 : decode cX7_lobby 10 = .ok (.invokevirtual 241, 3) := by decide +kernel
theorem dX7_lobby_13 : decode cX7_lobby 13 = .ok (.ifCond .eq 9, 3) := by decide +kernel
theorem dX7_lobby_16 : decode cX7_lobby 16 = .ok (.iload 7, 2) := by decide +kernel
theorem dX7_lobby_18 : decode cX7_lobby 18 = .ok (.iconst (-1), 1) := by decide +kernel
theorem dX7_lobby_19 : decode cX7_lobby 19 = .ok (.if_icmp .ge 5, 3) := by decide +kernel
theorem dX7_lobby_22 : decode cX7_lobby 22 = .ok (.iconst (-1), 1) := by decide +kernel
theorem dX7_lobby_23 : decode cX7_lobby 23 = .ok (.ireturn, 1) := by decide +kernel
theorem dX7_lobby_24 : decode cX7_lobby 24 = .ok (.iconst 0, 1) := by decide +kernel
theorem dX7_lobby_25 : decode cX7_lobby 25 = .ok (.istore 8, 2) := by decide +kernel
theorem dX7_lobby_27 : decode cX7_lobby 27 = .ok (.iconst 0, 1) := by decide +kernel
theorem dX7_lobby_28 : decode cX7_lobby 28 = .ok (.istore 9, 2) := by decide +kernel
theorem dX7_lobby_30 : decode cX7_lobby 30 = .ok (.iload 9, 2) := by decide +kernel
theorem dX7_lobby_32 : decode cX7_lobby 32 = .ok (.aload_n 0, 1) := by decide +kernel
theorem dX7_lobby_33 : decode cX7_lobby 33 = .ok (.invokevirtual 184, 3) := by decide +kernel
theorem dX7_lobby_36 : decode cX7_lobby 36 = .ok (.if_icmp .gt 60, 3) := by decide +kernel
theorem dX7_lobby_39 : decode cX7_lobby 39 = .ok (.iconst 0, 1) := by decide +kernel
theorem dX7_lobby_40 : decode cX7_lobby 40 = .ok (.istore 10, 2) := by decide +kernel
theorem dX7_lobby_42 : decode cX7_lobby 42 = .ok (.iload 10, 2) := by decide +kernel
theorem dX7_lobby_44 : decode cX7_lobby 44 = .ok (.aload_n 0, 1) := by decide +kernel
theorem dX7_lobby_45 : decode cX7_lobby 45 = .ok (.invokevirtual 184, 3) := by decide +kernel
theorem dX7_lobby_48 : decode cX7_lobby 48 = .ok (.if_icmp .gt 42, 3) := by decide +kernel
theorem dX7_lobby_51 : decode cX7_lobby 51 = .ok (.aload_n 0, 1) := by decide +kernel
theorem dX7_lobby_52 : decode cX7_lobby 52 = .ok (.iload 9, 2) := by decide +kernel
theorem dX7_lobby_54 : decode cX7_lobby 54 = .ok (.iload 10, 2) := by decide +kernel
theorem dX7_lobby_56 : decode cX7_lobby 56 = .ok (.invokevirtual 378, 3) := by decide +kernel
theorem dX7_lobby_59 : decode cX7_lobby 59 = .ok (.ifCond .ne 6, 3) := by decide +kernel
theorem dX7_lobby_62 : decode cX7_lobby 62 = .ok (.goto 22, 3) := by decide +kernel
theorem dX7_lobby_65 : decode cX7_lobby 65 = .ok (.iload 8, 2) := by decide +kernel
theorem dX7_lobby_67 : decode cX7_lobby 67 = .ok (.iload 7, 2) := by decide +kernel
theorem dX7_lobby_69 : decode cX7_lobby 69 = .ok (.if_icmp .ne 12, 3) := by decide +kernel
theorem dX7_lobby_72 : decode cX7_lobby 72 = .ok (.bipush 7, 2) := by decide +kernel
theorem dX7_lobby_74 : decode cX7_lobby 74 = .ok (.iload 9, 2) := by decide +kernel
theorem dX7_lobby_76 : decode cX7_lobby 76 = .ok (.imul, 1) := by decide +kernel
theorem dX7_lobby_77 : decode cX7_lobby 77 = .ok (.iload 10, 2) := by decide +kernel
theorem dX7_lobby_79 : decode cX7_lobby 79 = .ok (.iadd, 1) := by decide +kernel
theorem dX7_lobby_80 : decode cX7_lobby 80 = .ok (.ireturn, 1) := by decide +kernel
theorem dX7_lobby_81 : decode cX7_lobby 81 = .ok (.iinc 8 1, 3) := by decide +kernel
theorem dX7_lobby_84 : decode cX7_lobby 84 = .ok (.iinc 10 1, 3) := by decide +kernel
theorem dX7_lobby_87 : decode cX7_lobby 87 = .ok (.goto (-45), 3) := by decide +kernel
theorem dX7_lobby_90 : decode cX7_lobby 90 = .ok (.iinc 9 1, 3) := by decide +kernel
theorem dX7_lobby_93 : decode cX7_lobby 93 = .ok (.goto (-63), 3) := by decide +kernel
theorem dX7_lobby_96 : decode cX7_lobby 96 = .ok (.iload 7, 2) := by decide +kernel
theorem dX7_lobby_98 : decode cX7_lobby 98 = .ok (.iconst (-1), 1) := by decide +kernel
theorem dX7_lobby_99 : decode cX7_lobby 99 = .ok (.if_icmp .ne 8, 3) := by decide +kernel
theorem dX7_lobby_102 : decode cX7_lobby 102 = .ok (.iload 8, 2) := by decide +kernel
theorem dX7_lobby_104 : decode cX7_lobby 104 = .ok (.goto 4, 3) := by decide +kernel
theorem dX7_lobby_107 : decode cX7_lobby 107 = .ok (.iconst (-1), 1) := by decide +kernel
theorem dX7_lobby_108 : decode cX7_lobby 108 = .ok (.ireturn, 1) := by decide +kernel
theorem dX7_minister_0 : decode cX7_minister 0 = .ok (.aload_n 0, 1) := by decide +kernel
theorem dX7_minister_1 : decode cX7_minister 1 = .ok (.iload_n 1, 1) := by decide +kernel
theorem dX7_minister_2 : decode cX7_minister 2 = .ok (.invokevirtual 190, 3) := by decide +kernel
theorem dX7_minister_5 : decode cX7_minister 5 = .ok (.ifCond .eq 11, 3) := by decide +kernel
theorem dX7_minister_8 : decode cX7_minister 8 = .ok (.aload_n 0, 1) := by decide +kernel
theorem dX7_minister_9 : decode cX7_minister 9 = .ok (.iload_n 2, 1) := by decide +kernel
theorem dX7_minister_10 : decode cX7_minister 10 = .ok (.invokevirtual 193, 3) := by decide +kernel
theorem dX7_minister_13 : decode cX7_minister 13 = .ok (.ifCond .ne 5, 3) := by decide +kernel
theorem dX7_minister_16 : decode cX7_minister 16 = .ok (.iconst (-1), 1) := by decide +kernel
theorem dX7_minister_17 : decode cX7_minister 17 = .ok (.ireturn, 1) := by decide +kernel
theorem dX7_minister_18 : decode cX7_minister 18 = .ok (.iload_n 3, 1) := by decide +kernel
theorem dX7_minister_19 : decode cX7_minister 19 = .ok (.iconst 0, 1) := by decide +kernel
theorem dX7_minister_20 : decode cX7_minister 20 = .ok (.iconst 5, 1) := by decide +kernel
theorem dX7_minister_21 : decode cX7_minister 21 = .ok (.invokestatic 93, 3) := by decide +kernel
theorem dX7_minister_24 : decode cX7_minister 24 = .ok (.ifCond .eq 12, 3) := by decide +kernel
theorem dX7_minister_27 : decode cX7_minister 27 = .ok (.aload_n 0, 1) := by decide +kernel
theorem dX7_minister_28 : decode cX7_minister 28 = .ok (.iload_n 2, 1) := by decide +kernel
theorem dX7_minister_29 : decode cX7_minister 29 = .ok (.iload_n 3, 1) := by decide +kernel
theorem dX7_minister_30 : decode cX7_minister 30 = .ok (.invokevirtual 187, 3) := by decide +kernel
theorem dX7_minister_33 : decode cX7_minister 33 = .ok (.goto 30, 3) := by decide +kernel
theorem dX7_minister_36 : decode cX7_minister 36 = .ok (.iload_n 3, 1) := by decide +kernel
theorem dX7_minister_37 : decode cX7_minister 37 = .ok (.bipush 10, 2) := by decide +kernel
theorem dX7_minister_39 : decode cX7_minister 39 = .ok (.bipush 21, 2) := by decide +kernel
theorem dX7_minister_41 : decode cX7_minister 41 = .ok (.invokestatic 93, 3) := by decide +kernel
theorem dX7_minister_44 : decode cX7_minister 44 = .ok (.ifCond .eq 18, 3) := by decide +kernel
theorem dX7_minister_47 : decode cX7_minister 47 = .ok (.aload_n 0, 1) := by decide +kernel
theorem dX7_minister_48 : decode cX7_minister 48 = .ok (.iload_n 2, 1) := by decide +kernel
theorem dX7_minister_49 : decode cX7_minister 49 = .ok (.bipush 6, 2) := by decide +kernel
theorem dX7_minister_51 : decode cX7_minister 51 = .ok (.iload_n 3, 1) := by decide +kernel
theorem dX7_minister_52 : decode cX7_minister 52 = .ok (.iadd, 1) := by decide +kernel
theorem dX7_minister_53 : decode cX7_minister 53 = .ok (.bipush 10, 2) := by decide +kernel
theorem dX7_minister_55 : decode cX7_minister 55 = .ok (.isub, 1) := by decide +kernel
theorem dX7_minister_56 : decode cX7_minister 56 = .ok (.invokevirtual 187, 3) := by decide +kernel
theorem dX7_minister_59 : decode cX7_minister 59 = .ok (.goto 4, 3) := by decide +kernel
theorem dX7_minister_62 : decode cX7_minister 62 = .ok (.iconst (-1), 1) := by decide +kernel
theorem dX7_minister_63 : decode cX7_minister 63 = .ok (.ireturn, 1) := by decide +kernel
theorem dX7_nature_0 : decode cX7_nature 0 = .ok (.aload_n 0, 1) := by decide +kernel
theorem dX7_nature_1 : decode cX7_nature 1 = .ok (.iload_n 1, 1) := by decide +kernel
theorem dX7_nature_2 : decode cX7_nature 2 = .ok (.invokevirtual 190, 3) := by decide +kernel
theorem dX7_nature_5 : decode cX7_nature 5 = .ok (.ifCond .eq 11, 3) := by decide +kernel
theorem dX7_nature_8 : decode cX7_nature 8 = .ok (.aload_n 0, 1) := by decide +kernel
theorem dX7_nature_9 : decode cX7_nature 9 = .ok (.iload_n 2, 1) := by decide +kernel
theorem dX7_nature_10 : decode cX7_nature 10 = .ok (.invokevirtual 387, 3) := by decide +kernel
theorem dX7_nature_13 : decode cX7_nature 13 = .ok (.ifCond .ne 6, 3) := by decide +kernel
theorem dX7_nature_16 : decode cX7_nature 16 = .ok (.bipush (-2), 2) := by decide +kernel
theorem dX7_nature_18 : decode cX7_nature 18 = .ok (.ireturn, 1) := by decide +kernel
theorem dX7_nature_19 : decode cX7_nature 19 = .ok (.iload_n 3, 1) := by decide +kernel
theorem dX7_nature_20 : decode cX7_nature 20 = .ok (.ifCond .ne 8, 3) := by decide +kernel
theorem dX7_nature_23 : decode cX7_nature 23 = .ok (.aload_n 0, 1) := by decide +kernel
theorem dX7_nature_24 : decode cX7_nature 24 = .ok (.invokevirtual 399, 3) := by decide +kernel
theorem dX7_nature_27 : decode cX7_nature 27 = .ok (.ireturn, 1) := by decide +kernel
theorem dX7_nature_28 : decode cX7_nature 28 = .ok (.aload_n 0, 1) := by decide +kernel
theorem dX7_nature_29 : decode cX7_nature 29 = .ok (.invokevirtual 402, 3) := by decide +kernel
theorem dX7_nature_32 : decode cX7_nature 32 = .ok (.istore 4, 2) := by decide +kernel
theorem dX7_nature_34 : decode cX7_nature 34 = .ok (.iload_n 3, 1) := by decide +kernel
theorem dX7_nature_35 : decode cX7_nature 35 = .ok (.iconst 1, 1) := by decide +kernel
theorem dX7_nature_36 : decode cX7_nature 36 = .ok (.if_icmp .ne 10, 3) := by decide +kernel
theorem dX7_nature_39 : decode cX7_nature 39 = .ok (.iload 4, 2) := by decide +kernel
theorem dX7_nature_41 : decode cX7_nature 41 = .ok (.ifCond .ne 5, 3) := by decide +kernel
theorem dX7_nature_44 : decode cX7_nature 44 = .ok (.iconst (-1), 1) := by decide +kernel
theorem dX7_nature_45 : decode cX7_nature 45 = .ok (.ireturn, 1) := by decide +kernel
theorem dX7_nature_46 : decode cX7_nature 46 = .ok (.iload_n 3, 1) := by decide +kernel
theorem dX7_nature_47 : decode cX7_nature 47 = .ok (.iconst 1, 1) := by decide +kernel
theorem dX7_nature_48 : decode cX7_nature 48 = .ok (.if_icmp .eq 27, 3) := by decide +kernel
theorem dX7_nature_51 : decode cX7_nature 51 = .ok (.iload 4, 2) := by decide +kernel
theorem dX7_nature_53 : decode cX7_nature 53 = .ok (.ifCond .eq 19, 3) := by decide +kernel
theorem dX7_nature_56 : decode cX7_nature 56 = .ok (.iload_n 3, 1) := by decide +kernel
theorem dX7_nature_57 : decode cX7_nature 57 = .ok (.bipush 10, 2) := by decide +kernel
theorem dX7_nature_59 : decode cX7_nature 59 = .ok (.bipush 9, 2) := by decide +kernel
theorem dX7_nature_61 : decode cX7_nature 61 = .ok (.aload_n 0, 1) := by decide +kernel
theorem dX7_nature_62 : decode cX7_nature 62 = .ok (.invokevirtual 390, 3) := by decide +kernel
theorem dX7_nature_65 : decode cX7_nature 65 = .ok (.iadd, 1) := by decide +kernel
theorem dX7_nature_66 : decode cX7_nature 66 = .ok (.invokestatic 93, 3) := by decide +kernel
theorem dX7_nature_69 : decode cX7_nature 69 = .ok (.ifCond .ne 6, 3) := by decide +kernel
theorem dX7_nature_72 : decode cX7_nature 72 = .ok (.bipush (-2), 2) := by decide +kernel
theorem dX7_nature_74 : decode cX7_nature 74 = .ok (.ireturn, 1) := by decide +kernel
theorem dX7_nature_75 : decode cX7_nature 75 = .ok (.aload_n 0, 1) := by decide +kernel
theorem dX7_nature_76 : decode cX7_nature 76 = .ok (.invokevirtual 405, 3) := by decide +kernel
theorem dX7_nature_79 : decode cX7_nature 79 = .ok (.iload_n 3, 1) := by decide +kernel
theorem dX7_nature_80 : decode cX7_nature 80 = .ok (.iconst 1, 1) := by decide +kernel
theorem dX7_nature_81 : decode cX7_nature 81 = .ok (.if_icmp .ne 16, 3) := by decide +kernel
theorem dX7_nature_84 : decode cX7_nature 84 = .ok (.aload_n 0, 1) := by decide +kernel
theorem dX7_nature_85 : decode cX7_nature 85 = .ok (.getfield 26, 3) := by decide +kernel
theorem dX7_nature_88 : decode cX7_nature 88 = .ok (.aload_n 0, 1) := by decide +kernel
theorem dX7_nature_89 : decode cX7_nature 89 = .ok (.iconst 3, 1) := by decide +kernel
theorem dX7_nature_90 : decode cX7_nature 90 = .ok (.invokevirtual 181, 3) := by decide +kernel
theorem dX7_nature_93 : decode cX7_nature 93 = .ok (.iaload, 1) := by decide +kernel
theorem dX7_nature_94 : decode cX7_nature 94 = .ok (.goto 11, 3) := by decide +kernel
theorem dX7_nature_97 : decode cX7_nature 97 = .ok (.aload_n 0, 1) := by decide +kernel
theorem dX7_nature_98 : decode cX7_nature 98 = .ok (.iload_n 3, 1) := by decide +kernel
theorem dX7_nature_99 : decode cX7_nature 99 = .ok (.bipush 10, 2) := by decide +kernel
theorem dX7_nature_101 : decode cX7_nature 101 = .ok (.isub, 1) := by decide +kernel
theorem dX7_nature_102 : decode cX7_nature 102 = .ok (.invokevirtual 408, 3) := by decide +kernel
theorem dX7_nature_105 : decode cX7_nature 105 = .ok (.ireturn, 1) := by decide +kernel
theorem dX7_off_0 : decode cX7_off 0 = .ok (.aload_n 0, 1) := by decide +kernel
theorem dX7_off_1 : decode cX7_off 1 = .ok (.iload_n 1, 1) := by decide +kernel
theorem dX7_off_2 : decode cX7_off 2 = .ok (.iload_n 2, 1) := by decide +kernel
theorem dX7_off_3 : decode cX7_off 3 = .ok (.iload_n 3, 1) := by decide +kernel
theorem dX7_off_4 : decode cX7_off 4 = .ok (.iload 4, 2) := by decide +kernel
theorem dX7_off_6 : decode cX7_off 6 = .ok (.iload 5, 2) := by decide +kernel
theorem dX7_off_8 : decode cX7_off 8 = .ok (.iload 6, 2) := by decide +kernel
theorem dX7_off_10 : decode cX7_off 10 = .ok (.invokevirtual 241, 3) := by decide +kernel
theorem dX7_off_13 : decode cX7_off 13 = .ok (.ifCond .eq 11, 3) := by decide +kernel
theorem dX7_off_16 : decode cX7_off 16 = .ok (.aload_n 0, 1) := by decide +kernel
theorem dX7_off_17 : decode cX7_off 17 = .ok (.iload_n 2, 1) := by decide +kernel
theorem dX7_off_18 : decode cX7_off 18 = .ok (.invokevirtual 217, 3) := by decide +kernel
theorem dX7_off_21 : decode cX7_off 21 = .ok (.goto 4, 3) := by decide +kernel
theorem dX7_off_24 : decode cX7_off 24 = .ok (.iconst (-1), 1) := by decide +kernel
theorem dX7_off_25 : decode cX7_off 25 = .ok (.ireturn, 1) := by decide +kernel
theorem dX7_order_0 : decode cX7_order 0 = .ok (.aload_n 0, 1) := by decide +kernel
theorem dX7_order_1 : decode cX7_order 1 = .ok (.iload_n 1, 1) := by decide +kernel
theorem dX7_order_2 : decode cX7_order 2 = .ok (.invokevirtual 254, 3) := by decide +kernel
theorem dX7_order_5 : decode cX7_order 5 = .ok (.ifCond .ne 6, 3) := by decide +kernel
theorem dX7_order_8 : decode cX7_order 8 = .ok (.bipush (-2), 2) := by decide +kernel
theorem dX7_order_10 : decode cX7_order 10 = .ok (.ireturn, 1) := by decide +kernel
theorem dX7_order_11 : decode cX7_order 11 = .ok (.iload_n 2, 1) := by decide +kernel
theorem dX7_order_12 : decode cX7_order 12 = .ok (.iconst (-1), 1) := by decide +kernel
theorem dX7_order_13 : decode cX7_order 13 = .ok (.if_icmp .ne 22, 3) := by decide +kernel
theorem dX7_order_16 : decode cX7_order 16 = .ok (.iload_n 3, 1) := by decide +kernel
theorem dX7_order_17 : decode cX7_order 17 = .ok (.ifCond .ne 15, 3) := by decide +kernel
theorem dX7_order_20 : decode cX7_order 20 = .ok (.aload_n 0, 1) := by decide +kernel
theorem dX7_order_21 : decode cX7_order 21 = .ok (.getfield 7, 3) := by decide +kernel
theorem dX7_order_24 : decode cX7_order 24 = .ok (.aload_n 0, 1) := by decide +kernel
theorem dX7_order_25 : decode cX7_order 25 = .ok (.getfield 251, 3) := by decide +kernel
theorem dX7_order_28 : decode cX7_order 28 = .ok (.iaload, 1) := by decide +kernel
theorem dX7_order_29 : decode cX7_order 29 = .ok (.goto 5, 3) := by decide +kernel
theorem dX7_order_32 : decode cX7_order 32 = .ok (.bipush (-2), 2) := by decide +kernel
theorem dX7_order_34 : decode cX7_order 34 = .ok (.ireturn, 1) := by decide +kernel
theorem dX7_order_35 : decode cX7_order 35 = .ok (.iload_n 2, 1) := by decide +kernel
theorem dX7_order_36 : decode cX7_order 36 = .ok (.iconst 0, 1) := by decide +kernel
theorem dX7_order_37 : decode cX7_order 37 = .ok (.aload_n 0, 1) := by decide +kernel
theorem dX7_order_38 : decode cX7_order 38 = .ok (.getfield 7, 3) := by decide +kernel
theorem dX7_order_41 : decode cX7_order 41 = .ok (.aload_n 0, 1) := by decide +kernel
theorem dX7_order_42 : decode cX7_order 42 = .ok (.getfield 251, 3) := by decide +kernel
theorem dX7_order_45 : decode cX7_order 45 = .ok (.iaload, 1) := by decide +kernel
theorem dX7_order_46 : decode cX7_order 46 = .ok (.iconst 1, 1) := by decide +kernel
theorem dX7_order_47 : decode cX7_order 47 = .ok (.isub, 1) := by decide +kernel
theorem dX7_order_48 : decode cX7_order 48 = .ok (.invokestatic 93, 3) := by decide +kernel
theorem dX7_order_51 : decode cX7_order 51 = .ok (.ifCond .eq 21, 3) := by decide +kernel
theorem dX7_order_54 : decode cX7_order 54 = .ok (.iload_n 3, 1) := by decide +kernel
theorem dX7_order_55 : decode cX7_order 55 = .ok (.iconst 0, 1) := by decide +kernel
theorem dX7_order_56 : decode cX7_order 56 = .ok (.iconst 4, 1) := by decide +kernel
theorem dX7_order_57 : decode cX7_order 57 = .ok (.invokestatic 93, 3) := by decide +kernel
theorem dX7_order_60 : decode cX7_order 60 = .ok (.ifCond .eq 12, 3) := by decide +kernel
theorem dX7_order_63 : decode cX7_order 63 = .ok (.aload_n 0, 1) := by decide +kernel
theorem dX7_order_64 : decode cX7_order 64 = .ok (.iload_n 2, 1) := by decide +kernel
theorem dX7_order_65 : decode cX7_order 65 = .ok (.iload_n 3, 1) := by decide +kernel
theorem dX7_order_66 : decode cX7_order 66 = .ok (.invokevirtual 257, 3) := by decide +kernel
theorem dX7_order_69 : decode cX7_order 69 = .ok (.goto 5, 3) := by decide +kernel
theorem dX7_order_72 : decode cX7_order 72 = .ok (.bipush (-2), 2) := by decide +kernel
theorem dX7_order_74 : decode cX7_order 74 = .ok (.ireturn, 1) := by decide +kernel
theorem dX7_placeOf_0 : decode cX7_placeOf 0 = .ok (.iload_n 0, 1) := by decide +kernel
theorem dX7_placeOf_1 : decode cX7_placeOf 1 = .ok (.tableswitch 81 0 4 #[35, 44, 53, 63, 72], 35) := by decide +kernel
theorem dX7_placeOf_36 : decode cX7_placeOf 36 = .ok (.sipush 610, 3) := by decide +kernel
theorem dX7_placeOf_39 : decode cX7_placeOf 39 = .ok (.bipush 118, 2) := by decide +kernel
theorem dX7_placeOf_41 : decode cX7_placeOf 41 = .ok (.iload_n 1, 1) := by decide +kernel
theorem dX7_placeOf_42 : decode cX7_placeOf 42 = .ok (.imul, 1) := by decide +kernel
theorem dX7_placeOf_43 : decode cX7_placeOf 43 = .ok (.iadd, 1) := by decide +kernel
theorem dX7_placeOf_44 : decode cX7_placeOf 44 = .ok (.ireturn, 1) := by decide +kernel
theorem dX7_placeOf_45 : decode cX7_placeOf 45 = .ok (.sipush 846, 3) := by decide +kernel
theorem dX7_placeOf_48 : decode cX7_placeOf 48 = .ok (.bipush 41, 2) := by decide +kernel
theorem dX7_placeOf_50 : decode cX7_placeOf 50 = .ok (.iload_n 1, 1) := by decide +kernel
theorem dX7_placeOf_51 : decode cX7_placeOf 51 = .ok (.imul, 1) := by decide +kernel
theorem dX7_placeOf_52 : decode cX7_placeOf 52 = .ok (.iadd, 1) := by decide +kernel
theorem dX7_placeOf_53 : decode cX7_placeOf 53 = .ok (.ireturn, 1) := by decide +kernel
theorem dX7_placeOf_54 : decode cX7_placeOf 54 = .ok (.sipush 928, 3) := by decide +kernel
theorem dX7_placeOf_57 : decode cX7_placeOf 57 = .ok (.sipush 201, 3) := by decide +kernel
theorem dX7_placeOf_60 : decode cX7_placeOf 60 = .ok (.iload_n 1, 1) := by decide +kernel
theorem dX7_placeOf_61 : decode cX7_placeOf 61 = .ok (.imul, 1) := by decide +kernel
theorem dX7_placeOf_62 : decode cX7_placeOf 62 = .ok (.iadd, 1) := by decide +kernel
theorem dX7_placeOf_63 : decode cX7_placeOf 63 = .ok (.ireturn, 1) := by decide +kernel
theorem dX7_placeOf_64 : decode cX7_placeOf 64 = .ok (.sipush 1330, 3) := by decide +kernel
theorem dX7_placeOf_67 : decode cX7_placeOf 67 = .ok (.bipush 17, 2) := by decide +kernel
theorem dX7_placeOf_69 : decode cX7_placeOf 69 = .ok (.iload_n 1, 1) := by decide +kernel
theorem dX7_placeOf_70 : decode cX7_placeOf 70 = .ok (.imul, 1) := by decide +kernel
theorem dX7_placeOf_71 : decode cX7_placeOf 71 = .ok (.iadd, 1) := by decide +kernel
theorem dX7_placeOf_72 : decode cX7_placeOf 72 = .ok (.ireturn, 1) := by decide +kernel
theorem dX7_placeOf_73 : decode cX7_placeOf 73 = .ok (.sipush 1364, 3) := by decide +kernel
theorem dX7_placeOf_76 : decode cX7_placeOf 76 = .ok (.bipush 33, 2) := by decide +kernel
theorem dX7_placeOf_78 : decode cX7_placeOf 78 = .ok (.iload_n 1, 1) := by decide +kernel
theorem dX7_placeOf_79 : decode cX7_placeOf 79 = .ok (.imul, 1) := by decide +kernel
theorem dX7_placeOf_80 : decode cX7_placeOf 80 = .ok (.iadd, 1) := by decide +kernel
theorem dX7_placeOf_81 : decode cX7_placeOf 81 = .ok (.ireturn, 1) := by decide +kernel
theorem dX7_placeOf_82 : decode cX7_placeOf 82 = .ok (.sipush 1430, 3) := by decide +kernel
theorem dX7_placeOf_85 : decode cX7_placeOf 85 = .ok (.bipush 6, 2) := by decide +kernel
theorem dX7_placeOf_87 : decode cX7_placeOf 87 = .ok (.iload_n 1, 1) := by decide +kernel
theorem dX7_placeOf_88 : decode cX7_placeOf 88 = .ok (.imul, 1) := by decide +kernel
theorem dX7_placeOf_89 : decode cX7_placeOf 89 = .ok (.iadd, 1) := by decide +kernel
theorem dX7_placeOf_90 : decode cX7_placeOf 90 = .ok (.ireturn, 1) := by decide +kernel
theorem dX7_power_0 : decode cX7_power 0 = .ok (.aload_n 0, 1) := by decide +kernel
theorem dX7_power_1 : decode cX7_power 1 = .ok (.iload_n 1, 1) := by decide +kernel
theorem dX7_power_2 : decode cX7_power 2 = .ok (.invokevirtual 190, 3) := by decide +kernel
theorem dX7_power_5 : decode cX7_power 5 = .ok (.ifCond .eq 11, 3) := by decide +kernel
theorem dX7_power_8 : decode cX7_power 8 = .ok (.aload_n 0, 1) := by decide +kernel
theorem dX7_power_9 : decode cX7_power 9 = .ok (.iload_n 2, 1) := by decide +kernel
theorem dX7_power_10 : decode cX7_power 10 = .ok (.invokevirtual 193, 3) := by decide +kernel
theorem dX7_power_13 : decode cX7_power 13 = .ok (.ifCond .ne 5, 3) := by decide +kernel
theorem dX7_power_16 : decode cX7_power 16 = .ok (.iconst (-1), 1) := by decide +kernel
theorem dX7_power_17 : decode cX7_power 17 = .ok (.ireturn, 1) := by decide +kernel
theorem dX7_power_18 : decode cX7_power 18 = .ok (.aload_n 0, 1) := by decide +kernel
theorem dX7_power_19 : decode cX7_power 19 = .ok (.invokevirtual 184, 3) := by decide +kernel
theorem dX7_power_22 : decode cX7_power 22 = .ok (.istore 4, 2) := by decide +kernel
theorem dX7_power_24 : decode cX7_power 24 = .ok (.iconst 0, 1) := by decide +kernel
theorem dX7_power_25 : decode cX7_power 25 = .ok (.istore 5, 2) := by decide +kernel
theorem dX7_power_27 : decode cX7_power 27 = .ok (.iconst 0, 1) := by decide +kernel
theorem dX7_power_28 : decode cX7_power 28 = .ok (.istore 6, 2) := by decide +kernel
theorem dX7_power_30 : decode cX7_power 30 = .ok (.iload 6, 2) := by decide +kernel
theorem dX7_power_32 : decode cX7_power 32 = .ok (.aload_n 0, 1) := by decide +kernel
theorem dX7_power_33 : decode cX7_power 33 = .ok (.invokevirtual 347, 3) := by decide +kernel
theorem dX7_power_36 : decode cX7_power 36 = .ok (.if_icmp .gt 71, 3) := by decide +kernel
theorem dX7_power_39 : decode cX7_power 39 = .ok (.iload 6, 2) := by decide +kernel
theorem dX7_power_41 : decode cX7_power 41 = .ok (.iload_n 2, 1) := by decide +kernel
theorem dX7_power_42 : decode cX7_power 42 = .ok (.ishr, 1) := by decide +kernel
theorem dX7_power_43 : decode cX7_power 43 = .ok (.iconst 1, 1) := by decide +kernel
theorem dX7_power_44 : decode cX7_power 44 = .ok (.iand, 1) := by decide +kernel
theorem dX7_power_45 : decode cX7_power 45 = .ok (.iconst 1, 1) := by decide +kernel
theorem dX7_power_46 : decode cX7_power 46 = .ok (.if_icmp .eq 55, 3) := by decide +kernel
theorem dX7_power_49 : decode cX7_power 49 = .ok (.aload_n 0, 1) := by decide +kernel
theorem dX7_power_50 : decode cX7_power 50 = .ok (.iload 6, 2) := by decide +kernel
theorem dX7_power_52 : decode cX7_power 52 = .ok (.invokevirtual 350, 3) := by decide +kernel
theorem dX7_power_55 : decode cX7_power 55 = .ok (.ifCond .ne 46, 3) := by decide +kernel
theorem dX7_power_58 : decode cX7_power 58 = .ok (.aload_n 0, 1) := by decide +kernel
theorem dX7_power_59 : decode cX7_power 59 = .ok (.iload 6, 2) := by decide +kernel
theorem dX7_power_61 : decode cX7_power 61 = .ok (.iconst 1, 1) := by decide +kernel
theorem dX7_power_62 : decode cX7_power 62 = .ok (.iload_n 2, 1) := by decide +kernel
theorem dX7_power_63 : decode cX7_power 63 = .ok (.ishl, 1) := by decide +kernel
theorem dX7_power_64 : decode cX7_power 64 = .ok (.ior, 1) := by decide +kernel
theorem dX7_power_65 : decode cX7_power 65 = .ok (.invokevirtual 350, 3) := by decide +kernel
theorem dX7_power_68 : decode cX7_power 68 = .ok (.ifCond .ne 6, 3) := by decide +kernel
theorem dX7_power_71 : decode cX7_power 71 = .ok (.goto 30, 3) := by decide +kernel
theorem dX7_power_74 : decode cX7_power 74 = .ok (.iload 5, 2) := by decide +kernel
theorem dX7_power_76 : decode cX7_power 76 = .ok (.iload 6, 2) := by decide +kernel
theorem dX7_power_78 : decode cX7_power 78 = .ok (.invokestatic 353, 3) := by decide +kernel
theorem dX7_power_81 : decode cX7_power 81 = .ok (.invokestatic 356, 3) := by decide +kernel
theorem dX7_power_84 : decode cX7_power 84 = .ok (.iload 4, 2) := by decide +kernel
theorem dX7_power_86 : decode cX7_power 86 = .ok (.iconst 1, 1) := by decide +kernel
theorem dX7_power_87 : decode cX7_power 87 = .ok (.isub, 1) := by decide +kernel
theorem dX7_power_88 : decode cX7_power 88 = .ok (.iload 6, 2) := by decide +kernel
theorem dX7_power_90 : decode cX7_power 90 = .ok (.invokestatic 353, 3) := by decide +kernel
theorem dX7_power_93 : decode cX7_power 93 = .ok (.isub, 1) := by decide +kernel
theorem dX7_power_94 : decode cX7_power 94 = .ok (.invokestatic 356, 3) := by decide +kernel
theorem dX7_power_97 : decode cX7_power 97 = .ok (.imul, 1) := by decide +kernel
theorem dX7_power_98 : decode cX7_power 98 = .ok (.iadd, 1) := by decide +kernel
theorem dX7_power_99 : decode cX7_power 99 = .ok (.istore 5, 2) := by decide +kernel
theorem dX7_power_101 : decode cX7_power 101 = .ok (.iinc 6 1, 3) := by decide +kernel
theorem dX7_power_104 : decode cX7_power 104 = .ok (.goto (-74), 3) := by decide +kernel
theorem dX7_power_107 : decode cX7_power 107 = .ok (.iload 5, 2) := by decide +kernel
theorem dX7_power_109 : decode cX7_power 109 = .ok (.iload 4, 2) := by decide +kernel
theorem dX7_power_111 : decode cX7_power 111 = .ok (.invokestatic 356, 3) := by decide +kernel
theorem dX7_power_114 : decode cX7_power 114 = .ok (.iload_n 3, 1) := by decide +kernel
theorem dX7_power_115 : decode cX7_power 115 = .ok (.invokestatic 359, 3) := by decide +kernel
theorem dX7_power_118 : decode cX7_power 118 = .ok (.ireturn, 1) := by decide +kernel
theorem dX7_republic_0 : decode cX7_republic 0 = .ok (.aload_n 0, 1) := by decide +kernel
theorem dX7_republic_1 : decode cX7_republic 1 = .ok (.iload_n 1, 1) := by decide +kernel
theorem dX7_republic_2 : decode cX7_republic 2 = .ok (.invokevirtual 190, 3) := by decide +kernel
theorem dX7_republic_5 : decode cX7_republic 5 = .ok (.ifCond .ne 5, 3) := by decide +kernel
theorem dX7_republic_8 : decode cX7_republic 8 = .ok (.iconst (-1), 1) := by decide +kernel
theorem dX7_republic_9 : decode cX7_republic 9 = .ok (.ireturn, 1) := by decide +kernel
theorem dX7_republic_10 : decode cX7_republic 10 = .ok (.iload_n 2, 1) := by decide +kernel
theorem dX7_republic_11 : decode cX7_republic 11 = .ok (.iconst 0, 1) := by decide +kernel
theorem dX7_republic_12 : decode cX7_republic 12 = .ok (.iconst 5, 1) := by decide +kernel
theorem dX7_republic_13 : decode cX7_republic 13 = .ok (.invokestatic 93, 3) := by decide +kernel
theorem dX7_republic_16 : decode cX7_republic 16 = .ok (.ifCond .eq 11, 3) := by decide +kernel
theorem dX7_republic_19 : decode cX7_republic 19 = .ok (.aload_n 0, 1) := by decide +kernel
theorem dX7_republic_20 : decode cX7_republic 20 = .ok (.iload_n 2, 1) := by decide +kernel
theorem dX7_republic_21 : decode cX7_republic 21 = .ok (.invokevirtual 181, 3) := by decide +kernel
theorem dX7_republic_24 : decode cX7_republic 24 = .ok (.goto 29, 3) := by decide +kernel
theorem dX7_republic_27 : decode cX7_republic 27 = .ok (.iload_n 2, 1) := by decide +kernel
theorem dX7_republic_28 : decode cX7_republic 28 = .ok (.bipush 10, 2) := by decide +kernel
theorem dX7_republic_30 : decode cX7_republic 30 = .ok (.bipush 12, 2) := by decide +kernel
theorem dX7_republic_32 : decode cX7_republic 32 = .ok (.invokestatic 93, 3) := by decide +kernel
theorem dX7_republic_35 : decode cX7_republic 35 = .ok (.ifCond .eq 17, 3) := by decide +kernel
theorem dX7_republic_38 : decode cX7_republic 38 = .ok (.aload_n 0, 1) := by decide +kernel
theorem dX7_republic_39 : decode cX7_republic 39 = .ok (.bipush 6, 2) := by decide +kernel
theorem dX7_republic_41 : decode cX7_republic 41 = .ok (.iload_n 2, 1) := by decide +kernel
theorem dX7_republic_42 : decode cX7_republic 42 = .ok (.iadd, 1) := by decide +kernel
theorem dX7_republic_43 : decode cX7_republic 43 = .ok (.bipush 10, 2) := by decide +kernel
theorem dX7_republic_45 : decode cX7_republic 45 = .ok (.isub, 1) := by decide +kernel
theorem dX7_republic_46 : decode cX7_republic 46 = .ok (.invokevirtual 181, 3) := by decide +kernel
theorem dX7_republic_49 : decode cX7_republic 49 = .ok (.goto 4, 3) := by decide +kernel
theorem dX7_republic_52 : decode cX7_republic 52 = .ok (.iconst (-1), 1) := by decide +kernel
theorem dX7_republic_53 : decode cX7_republic 53 = .ok (.ireturn, 1) := by decide +kernel
theorem dX7_reshuffle_0 : decode cX7_reshuffle 0 = .ok (.aload_n 0, 1) := by decide +kernel
theorem dX7_reshuffle_1 : decode cX7_reshuffle 1 = .ok (.iload_n 1, 1) := by decide +kernel
theorem dX7_reshuffle_2 : decode cX7_reshuffle 2 = .ok (.invokevirtual 190, 3) := by decide +kernel
theorem dX7_reshuffle_5 : decode cX7_reshuffle 5 = .ok (.ifCond .ne 5, 3) := by decide +kernel
theorem dX7_reshuffle_8 : decode cX7_reshuffle 8 = .ok (.iconst (-1), 1) := by decide +kernel
theorem dX7_reshuffle_9 : decode cX7_reshuffle 9 = .ok (.ireturn, 1) := by decide +kernel
theorem dX7_reshuffle_10 : decode cX7_reshuffle 10 = .ok (.iconst (-1), 1) := by decide +kernel
theorem dX7_reshuffle_11 : decode cX7_reshuffle 11 = .ok (.istore_n 3, 1) := by decide +kernel
theorem dX7_reshuffle_12 : decode cX7_reshuffle 12 = .ok (.iconst (-1), 1) := by decide +kernel
theorem dX7_reshuffle_13 : decode cX7_reshuffle 13 = .ok (.istore 4, 2) := by decide +kernel
theorem dX7_reshuffle_15 : decode cX7_reshuffle 15 = .ok (.iconst 0, 1) := by decide +kernel
theorem dX7_reshuffle_16 : decode cX7_reshuffle 16 = .ok (.istore 5, 2) := by decide +kernel
theorem dX7_reshuffle_18 : decode cX7_reshuffle 18 = .ok (.iload 5, 2) := by decide +kernel
theorem dX7_reshuffle_20 : decode cX7_reshuffle 20 = .ok (.sipush 216, 3) := by decide +kernel
theorem dX7_reshuffle_23 : decode cX7_reshuffle 23 = .ok (.if_icmp .ge 59, 3) := by decide +kernel
theorem dX7_reshuffle_26 : decode cX7_reshuffle 26 = .ok (.aload_n 0, 1) := by decide +kernel
theorem dX7_reshuffle_27 : decode cX7_reshuffle 27 = .ok (.iload 5, 2) := by decide +kernel
theorem dX7_reshuffle_29 : decode cX7_reshuffle 29 = .ok (.invokevirtual 411, 3) := by decide +kernel
theorem dX7_reshuffle_32 : decode cX7_reshuffle 32 = .ok (.ifCond .ne 6, 3) := by decide +kernel
theorem dX7_reshuffle_35 : decode cX7_reshuffle 35 = .ok (.goto 41, 3) := by decide +kernel
theorem dX7_reshuffle_38 : decode cX7_reshuffle 38 = .ok (.aload_n 0, 1) := by decide +kernel
theorem dX7_reshuffle_39 : decode cX7_reshuffle 39 = .ok (.iload 5, 2) := by decide +kernel
theorem dX7_reshuffle_41 : decode cX7_reshuffle 41 = .ok (.invokevirtual 423, 3) := by decide +kernel
theorem dX7_reshuffle_44 : decode cX7_reshuffle 44 = .ok (.istore 6, 2) := by decide +kernel
theorem dX7_reshuffle_46 : decode cX7_reshuffle 46 = .ok (.iload 6, 2) := by decide +kernel
theorem dX7_reshuffle_48 : decode cX7_reshuffle 48 = .ok (.iload 4, 2) := by decide +kernel
theorem dX7_reshuffle_50 : decode cX7_reshuffle 50 = .ok (.if_icmp .le 8, 3) := by decide +kernel
theorem dX7_reshuffle_53 : decode cX7_reshuffle 53 = .ok (.iload 5, 2) := by decide +kernel
theorem dX7_reshuffle_55 : decode cX7_reshuffle 55 = .ok (.goto 4, 3) := by decide +kernel
theorem dX7_reshuffle_58 : decode cX7_reshuffle 58 = .ok (.iload_n 3, 1) := by decide +kernel
theorem dX7_reshuffle_59 : decode cX7_reshuffle 59 = .ok (.istore_n 3, 1) := by decide +kernel
theorem dX7_reshuffle_60 : decode cX7_reshuffle 60 = .ok (.iload 6, 2) := by decide +kernel
theorem dX7_reshuffle_62 : decode cX7_reshuffle 62 = .ok (.iload 4, 2) := by decide +kernel
theorem dX7_reshuffle_64 : decode cX7_reshuffle 64 = .ok (.if_icmp .le 8, 3) := by decide +kernel
theorem dX7_reshuffle_67 : decode cX7_reshuffle 67 = .ok (.iload 6, 2) := by decide +kernel
theorem dX7_reshuffle_69 : decode cX7_reshuffle 69 = .ok (.goto 5, 3) := by decide +kernel
theorem dX7_reshuffle_72 : decode cX7_reshuffle 72 = .ok (.iload 4, 2) := by decide +kernel
theorem dX7_reshuffle_74 : decode cX7_reshuffle 74 = .ok (.istore 4, 2) := by decide +kernel
theorem dX7_reshuffle_76 : decode cX7_reshuffle 76 = .ok (.iinc 5 1, 3) := by decide +kernel
theorem dX7_reshuffle_79 : decode cX7_reshuffle 79 = .ok (.goto (-61), 3) := by decide +kernel
theorem dX7_reshuffle_82 : decode cX7_reshuffle 82 = .ok (.iload_n 2, 1) := by decide +kernel
theorem dX7_reshuffle_83 : decode cX7_reshuffle 83 = .ok (.ifCond .eq 8, 3) := by decide +kernel
theorem dX7_reshuffle_86 : decode cX7_reshuffle 86 = .ok (.iload 4, 2) := by decide +kernel
theorem dX7_reshuffle_88 : decode cX7_reshuffle 88 = .ok (.goto 4, 3) := by decide +kernel
theorem dX7_reshuffle_91 : decode cX7_reshuffle 91 = .ok (.iload_n 3, 1) := by decide +kernel
theorem dX7_reshuffle_92 : decode cX7_reshuffle 92 = .ok (.ireturn, 1) := by decide +kernel
theorem dX7_seats_0 : decode cX7_seats 0 = .ok (.aload_n 0, 1) := by decide +kernel
theorem dX7_seats_1 : decode cX7_seats 1 = .ok (.iload_n 1, 1) := by decide +kernel
theorem dX7_seats_2 : decode cX7_seats 2 = .ok (.invokevirtual 190, 3) := by decide +kernel
theorem dX7_seats_5 : decode cX7_seats 5 = .ok (.ifCond .eq 17, 3) := by decide +kernel
theorem dX7_seats_8 : decode cX7_seats 8 = .ok (.aload_n 0, 1) := by decide +kernel
theorem dX7_seats_9 : decode cX7_seats 9 = .ok (.iload_n 2, 1) := by decide +kernel
theorem dX7_seats_10 : decode cX7_seats 10 = .ok (.invokevirtual 387, 3) := by decide +kernel
theorem dX7_seats_13 : decode cX7_seats 13 = .ok (.ifCond .eq 9, 3) := by decide +kernel
theorem dX7_seats_16 : decode cX7_seats 16 = .ok (.iload_n 3, 1) := by decide +kernel
theorem dX7_seats_17 : decode cX7_seats 17 = .ok (.bipush (-3), 2) := by decide +kernel
theorem dX7_seats_19 : decode cX7_seats 19 = .ok (.if_icmp .ge 6, 3) := by decide +kernel
theorem dX7_seats_22 : decode cX7_seats 22 = .ok (.bipush (-4), 2) := by decide +kernel
theorem dX7_seats_24 : decode cX7_seats 24 = .ok (.ireturn, 1) := by decide +kernel
theorem dX7_seats_25 : decode cX7_seats 25 = .ok (.iload_n 3, 1) := by decide +kernel
theorem dX7_seats_26 : decode cX7_seats 26 = .ok (.iconst (-1), 1) := by decide +kernel
theorem dX7_seats_27 : decode cX7_seats 27 = .ok (.if_icmp .ge 76, 3) := by decide +kernel
theorem dX7_seats_30 : decode cX7_seats 30 = .ok (.iconst 0, 1) := by decide +kernel
theorem dX7_seats_31 : decode cX7_seats 31 = .ok (.istore 4, 2) := by decide +kernel
theorem dX7_seats_33 : decode cX7_seats 33 = .ok (.iconst 1, 1) := by decide +kernel
theorem dX7_seats_34 : decode cX7_seats 34 = .ok (.istore 5, 2) := by decide +kernel
theorem dX7_seats_36 : decode cX7_seats 36 = .ok (.iload 5, 2) := by decide +kernel
theorem dX7_seats_38 : decode cX7_seats 38 = .ok (.iconst 4, 1) := by decide +kernel
theorem dX7_seats_39 : decode cX7_seats 39 = .ok (.if_icmp .ge 33, 3) := by decide +kernel
theorem dX7_seats_42 : decode cX7_seats 42 = .ok (.aload_n 0, 1) := by decide +kernel
theorem dX7_seats_43 : decode cX7_seats 43 = .ok (.iload 5, 2) := by decide +kernel
theorem dX7_seats_45 : decode cX7_seats 45 = .ok (.invokevirtual 420, 3) := by decide +kernel
theorem dX7_seats_48 : decode cX7_seats 48 = .ok (.aload_n 0, 1) := by decide +kernel
theorem dX7_seats_49 : decode cX7_seats 49 = .ok (.iload 4, 2) := by decide +kernel
theorem dX7_seats_51 : decode cX7_seats 51 = .ok (.invokevirtual 420, 3) := by decide +kernel
theorem dX7_seats_54 : decode cX7_seats 54 = .ok (.if_icmp .le 8, 3) := by decide +kernel
theorem dX7_seats_57 : decode cX7_seats 57 = .ok (.iload 5, 2) := by decide +kernel
theorem dX7_seats_59 : decode cX7_seats 59 = .ok (.goto 5, 3) := by decide +kernel
theorem dX7_seats_62 : decode cX7_seats 62 = .ok (.iload 4, 2) := by decide +kernel
theorem dX7_seats_64 : decode cX7_seats 64 = .ok (.istore 4, 2) := by decide +kernel
theorem dX7_seats_66 : decode cX7_seats 66 = .ok (.iinc 5 1, 3) := by decide +kernel
theorem dX7_seats_69 : decode cX7_seats 69 = .ok (.goto (-33), 3) := by decide +kernel
theorem dX7_seats_72 : decode cX7_seats 72 = .ok (.aload_n 0, 1) := by decide +kernel
theorem dX7_seats_73 : decode cX7_seats 73 = .ok (.iload 4, 2) := by decide +kernel
theorem dX7_seats_75 : decode cX7_seats 75 = .ok (.invokevirtual 420, 3) := by decide +kernel
theorem dX7_seats_78 : decode cX7_seats 78 = .ok (.ifCond .ne 7, 3) := by decide +kernel
theorem dX7_seats_81 : decode cX7_seats 81 = .ok (.iconst (-1), 1) := by decide +kernel
theorem dX7_seats_82 : decode cX7_seats 82 = .ok (.goto 20, 3) := by decide +kernel
theorem dX7_seats_85 : decode cX7_seats 85 = .ok (.iload_n 3, 1) := by decide +kernel
theorem dX7_seats_86 : decode cX7_seats 86 = .ok (.bipush (-2), 2) := by decide +kernel
theorem dX7_seats_88 : decode cX7_seats 88 = .ok (.if_icmp .ne 8, 3) := by decide +kernel
theorem dX7_seats_91 : decode cX7_seats 91 = .ok (.iload 4, 2) := by decide +kernel
theorem dX7_seats_93 : decode cX7_seats 93 = .ok (.goto 9, 3) := by decide +kernel
theorem dX7_seats_96 : decode cX7_seats 96 = .ok (.aload_n 0, 1) := by decide +kernel
theorem dX7_seats_97 : decode cX7_seats 97 = .ok (.iload 4, 2) := by decide +kernel
theorem dX7_seats_99 : decode cX7_seats 99 = .ok (.invokevirtual 420, 3) := by decide +kernel
theorem dX7_seats_102 : decode cX7_seats 102 = .ok (.ireturn, 1) := by decide +kernel
theorem dX7_seats_103 : decode cX7_seats 103 = .ok (.iconst 0, 1) := by decide +kernel
theorem dX7_seats_104 : decode cX7_seats 104 = .ok (.istore 4, 2) := by decide +kernel
theorem dX7_seats_106 : decode cX7_seats 106 = .ok (.iconst 0, 1) := by decide +kernel
theorem dX7_seats_107 : decode cX7_seats 107 = .ok (.istore 5, 2) := by decide +kernel
theorem dX7_seats_109 : decode cX7_seats 109 = .ok (.iload 5, 2) := by decide +kernel
theorem dX7_seats_111 : decode cX7_seats 111 = .ok (.sipush 216, 3) := by decide +kernel
theorem dX7_seats_114 : decode cX7_seats 114 = .ok (.if_icmp .ge 33, 3) := by decide +kernel
theorem dX7_seats_117 : decode cX7_seats 117 = .ok (.aload_n 0, 1) := by decide +kernel
theorem dX7_seats_118 : decode cX7_seats 118 = .ok (.iload 5, 2) := by decide +kernel
theorem dX7_seats_120 : decode cX7_seats 120 = .ok (.invokevirtual 417, 3) := by decide +kernel
theorem dX7_seats_123 : decode cX7_seats 123 = .ok (.ifCond .ne 6, 3) := by decide +kernel
theorem dX7_seats_126 : decode cX7_seats 126 = .ok (.goto 15, 3) := by decide +kernel
theorem dX7_seats_129 : decode cX7_seats 129 = .ok (.iload 4, 2) := by decide +kernel
theorem dX7_seats_131 : decode cX7_seats 131 = .ok (.iload_n 3, 1) := by decide +kernel
theorem dX7_seats_132 : decode cX7_seats 132 = .ok (.if_icmp .ne 6, 3) := by decide +kernel
theorem dX7_seats_135 : decode cX7_seats 135 = .ok (.iload 5, 2) := by decide +kernel
theorem dX7_seats_137 : decode cX7_seats 137 = .ok (.ireturn, 1) := by decide +kernel
theorem dX7_seats_138 : decode cX7_seats 138 = .ok (.iinc 4 1, 3) := by decide +kernel
theorem dX7_seats_141 : decode cX7_seats 141 = .ok (.iinc 5 1, 3) := by decide +kernel
theorem dX7_seats_144 : decode cX7_seats 144 = .ok (.goto (-35), 3) := by decide +kernel
theorem dX7_seats_147 : decode cX7_seats 147 = .ok (.iload_n 3, 1) := by decide +kernel
theorem dX7_seats_148 : decode cX7_seats 148 = .ok (.iconst (-1), 1) := by decide +kernel
theorem dX7_seats_149 : decode cX7_seats 149 = .ok (.if_icmp .ne 8, 3) := by decide +kernel
theorem dX7_seats_152 : decode cX7_seats 152 = .ok (.iload 4, 2) := by decide +kernel
theorem dX7_seats_154 : decode cX7_seats 154 = .ok (.goto 5, 3) := by decide +kernel
theorem dX7_seats_157 : decode cX7_seats 157 = .ok (.bipush (-4), 2) := by decide +kernel
theorem dX7_seats_159 : decode cX7_seats 159 = .ok (.ireturn, 1) := by decide +kernel
theorem dX7_sizeOf_0 : decode cX7_sizeOf 0 = .ok (.iload_n 0, 1) := by decide +kernel
theorem dX7_sizeOf_1 : decode cX7_sizeOf 1 = .ok (.tableswitch 51 0 4 #[35, 38, 41, 45, 48], 35) := by decide +kernel
theorem dX7_sizeOf_36 : decode cX7_sizeOf 36 = .ok (.bipush 118, 2) := by decide +kernel
theorem dX7_sizeOf_38 : decode cX7_sizeOf 38 = .ok (.ireturn, 1) := by decide +kernel
theorem dX7_sizeOf_39 : decode cX7_sizeOf 39 = .ok (.bipush 41, 2) := by decide +kernel
theorem dX7_sizeOf_41 : decode cX7_sizeOf 41 = .ok (.ireturn, 1) := by decide +kernel
theorem dX7_sizeOf_42 : decode cX7_sizeOf 42 = .ok (.sipush 201, 3) := by decide +kernel
theorem dX7_sizeOf_45 : decode cX7_sizeOf 45 = .ok (.ireturn, 1) := by decide +kernel
theorem dX7_sizeOf_46 : decode cX7_sizeOf 46 = .ok (.bipush 17, 2) := by decide +kernel
theorem dX7_sizeOf_48 : decode cX7_sizeOf 48 = .ok (.ireturn, 1) := by decide +kernel
theorem dX7_sizeOf_49 : decode cX7_sizeOf 49 = .ok (.bipush 33, 2) := by decide +kernel
theorem dX7_sizeOf_51 : decode cX7_sizeOf 51 = .ok (.ireturn, 1) := by decide +kernel
theorem dX7_sizeOf_52 : decode cX7_sizeOf 52 = .ok (.bipush 6, 2) := by decide +kernel
theorem dX7_sizeOf_54 : decode cX7_sizeOf 54 = .ok (.ireturn, 1) := by decide +kernel
theorem dX7_state_0 : decode cX7_state 0 = .ok (.aload_n 0, 1) := by decide +kernel
theorem dX7_state_1 : decode cX7_state 1 = .ok (.iload_n 1, 1) := by decide +kernel
theorem dX7_state_2 : decode cX7_state 2 = .ok (.iload_n 2, 1) := by decide +kernel
theorem dX7_state_3 : decode cX7_state 3 = .ok (.iload_n 3, 1) := by decide +kernel
theorem dX7_state_4 : decode cX7_state 4 = .ok (.invokevirtual 330, 3) := by decide +kernel
theorem dX7_state_7 : decode cX7_state 7 = .ok (.ifCond .eq 8, 3) := by decide +kernel
theorem dX7_state_10 : decode cX7_state 10 = .ok (.iload 4, 2) := by decide +kernel
theorem dX7_state_12 : decode cX7_state 12 = .ok (.ifCond .ge 6, 3) := by decide +kernel
theorem dX7_state_15 : decode cX7_state 15 = .ok (.bipush (-2), 2) := by decide +kernel
theorem dX7_state_17 : decode cX7_state 17 = .ok (.ireturn, 1) := by decide +kernel
theorem dX7_state_18 : decode cX7_state 18 = .ok (.aload_n 0, 1) := by decide +kernel
theorem dX7_state_19 : decode cX7_state 19 = .ok (.iload 4, 2) := by decide +kernel
theorem dX7_state_21 : decode cX7_state 21 = .ok (.invokevirtual 333, 3) := by decide +kernel
theorem dX7_state_24 : decode cX7_state 24 = .ok (.aload_n 0, 1) := by decide +kernel
theorem dX7_state_25 : decode cX7_state 25 = .ok (.getfield 293, 3) := by decide +kernel
theorem dX7_state_28 : decode cX7_state 28 = .ok (.iload 4, 2) := by decide +kernel
theorem dX7_state_30 : decode cX7_state 30 = .ok (.if_icmp .eq 6, 3) := by decide +kernel
theorem dX7_state_33 : decode cX7_state 33 = .ok (.bipush (-2), 2) := by decide +kernel
theorem dX7_state_35 : decode cX7_state 35 = .ok (.ireturn, 1) := by decide +kernel
theorem dX7_state_36 : decode cX7_state 36 = .ok (.aload_n 0, 1) := by decide +kernel
theorem dX7_state_37 : decode cX7_state 37 = .ok (.iload 5, 2) := by decide +kernel
theorem dX7_state_39 : decode cX7_state 39 = .ok (.bipush 20, 2) := by decide +kernel
theorem dX7_state_41 : decode cX7_state 41 = .ok (.isub, 1) := by decide +kernel
theorem dX7_state_42 : decode cX7_state 42 = .ok (.invokevirtual 193, 3) := by decide +kernel
theorem dX7_state_45 : decode cX7_state 45 = .ok (.ifCond .eq 14, 3) := by decide +kernel
theorem dX7_state_48 : decode cX7_state 48 = .ok (.aload_n 0, 1) := by decide +kernel
theorem dX7_state_49 : decode cX7_state 49 = .ok (.getfield 23, 3) := by decide +kernel
theorem dX7_state_52 : decode cX7_state 52 = .ok (.iload 5, 2) := by decide +kernel
theorem dX7_state_54 : decode cX7_state 54 = .ok (.bipush 20, 2) := by decide +kernel
theorem dX7_state_56 : decode cX7_state 56 = .ok (.isub, 1) := by decide +kernel
theorem dX7_state_57 : decode cX7_state 57 = .ok (.iaload, 1) := by decide +kernel
theorem dX7_state_58 : decode cX7_state 58 = .ok (.ireturn, 1) := by decide +kernel
theorem dX7_state_59 : decode cX7_state 59 = .ok (.iload 5, 2) := by decide +kernel
theorem dX7_state_61 : decode cX7_state 61 = .ok (.bipush 10, 2) := by decide +kernel
theorem dX7_state_63 : decode cX7_state 63 = .ok (.bipush 12, 2) := by decide +kernel
theorem dX7_state_65 : decode cX7_state 65 = .ok (.invokestatic 93, 3) := by decide +kernel
theorem dX7_state_68 : decode cX7_state 68 = .ok (.ifCond .eq 14, 3) := by decide +kernel
theorem dX7_state_71 : decode cX7_state 71 = .ok (.aload_n 0, 1) := by decide +kernel
theorem dX7_state_72 : decode cX7_state 72 = .ok (.getfield 20, 3) := by decide +kernel
theorem dX7_state_75 : decode cX7_state 75 = .ok (.iload 5, 2) := by decide +kernel
theorem dX7_state_77 : decode cX7_state 77 = .ok (.bipush 10, 2) := by decide +kernel
theorem dX7_state_79 : decode cX7_state 79 = .ok (.isub, 1) := by decide +kernel
theorem dX7_state_80 : decode cX7_state 80 = .ok (.iaload, 1) := by decide +kernel
theorem dX7_state_81 : decode cX7_state 81 = .ok (.ireturn, 1) := by decide +kernel
theorem dX7_state_82 : decode cX7_state 82 = .ok (.iload 5, 2) := by decide +kernel
theorem dX7_state_84 : decode cX7_state 84 = .ok (.tableswitch 123 0 9 #[56, 61, 66, 71, 76, 81, 86, 91, 96, 118], 56) := by decide +kernel
theorem dX7_state_140 : decode cX7_state 140 = .ok (.aload_n 0, 1) := by decide +kernel
theorem dX7_state_141 : decode cX7_state 141 = .ok (.getfield 284, 3) := by decide +kernel
theorem dX7_state_144 : decode cX7_state 144 = .ok (.ireturn, 1) := by decide +kernel
theorem dX7_state_145 : decode cX7_state 145 = .ok (.aload_n 0, 1) := by decide +kernel
theorem dX7_state_146 : decode cX7_state 146 = .ok (.getfield 205, 3) := by decide +kernel
theorem dX7_state_149 : decode cX7_state 149 = .ok (.ireturn, 1) := by decide +kernel
theorem dX7_state_150 : decode cX7_state 150 = .ok (.aload_n 0, 1) := by decide +kernel
theorem dX7_state_151 : decode cX7_state 151 = .ok (.getfield 226, 3) := by decide +kernel
theorem dX7_state_154 : decode cX7_state 154 = .ok (.ireturn, 1) := by decide +kernel
theorem dX7_state_155 : decode cX7_state 155 = .ok (.aload_n 0, 1) := by decide +kernel
theorem dX7_state_156 : decode cX7_state 156 = .ok (.getfield 272, 3) := by decide +kernel
theorem dX7_state_159 : decode cX7_state 159 = .ok (.ireturn, 1) := by decide +kernel
theorem dX7_state_160 : decode cX7_state 160 = .ok (.aload_n 0, 1) := by decide +kernel
theorem dX7_state_161 : decode cX7_state 161 = .ok (.getfield 275, 3) := by decide +kernel
theorem dX7_state_164 : decode cX7_state 164 = .ok (.ireturn, 1) := by decide +kernel
theorem dX7_state_165 : decode cX7_state 165 = .ok (.aload_n 0, 1) := by decide +kernel
theorem dX7_state_166 : decode cX7_state 166 = .ok (.getfield 278, 3) := by decide +kernel
theorem dX7_state_169 : decode cX7_state 169 = .ok (.ireturn, 1) := by decide +kernel
theorem dX7_state_170 : decode cX7_state 170 = .ok (.aload_n 0, 1) := by decide +kernel
theorem dX7_state_171 : decode cX7_state 171 = .ok (.getfield 281, 3) := by decide +kernel
theorem dX7_state_174 : decode cX7_state 174 = .ok (.ireturn, 1) := by decide +kernel
theorem dX7_state_175 : decode cX7_state 175 = .ok (.aload_n 0, 1) := by decide +kernel
theorem dX7_state_176 : decode cX7_state 176 = .ok (.getfield 287, 3) := by decide +kernel
theorem dX7_state_179 : decode cX7_state 179 = .ok (.ireturn, 1) := by decide +kernel
theorem dX7_state_180 : decode cX7_state 180 = .ok (.aload_n 0, 1) := by decide +kernel
theorem dX7_state_181 : decode cX7_state 181 = .ok (.aload_n 0, 1) := by decide +kernel
theorem dX7_state_182 : decode cX7_state 182 = .ok (.getfield 226, 3) := by decide +kernel
theorem dX7_state_185 : decode cX7_state 185 = .ok (.invokevirtual 229, 3) := by decide +kernel
theorem dX7_state_188 : decode cX7_state 188 = .ok (.aload_n 0, 1) := by decide +kernel
theorem dX7_state_189 : decode cX7_state 189 = .ok (.iconst 1, 1) := by decide +kernel
theorem dX7_state_190 : decode cX7_state 190 = .ok (.invokevirtual 181, 3) := by decide +kernel
theorem dX7_state_193 : decode cX7_state 193 = .ok (.if_icmp .ge 7, 3) := by decide +kernel
theorem dX7_state_196 : decode cX7_state 196 = .ok (.iconst 1, 1) := by decide +kernel
theorem dX7_state_197 : decode cX7_state 197 = .ok (.goto 4, 3) := by decide +kernel
theorem dX7_state_200 : decode cX7_state 200 = .ok (.iconst 0, 1) := by decide +kernel
theorem dX7_state_201 : decode cX7_state 201 = .ok (.ireturn, 1) := by decide +kernel
theorem dX7_state_202 : decode cX7_state 202 = .ok (.aload_n 0, 1) := by decide +kernel
theorem dX7_state_203 : decode cX7_state 203 = .ok (.getfield 290, 3) := by decide +kernel
theorem dX7_state_206 : decode cX7_state 206 = .ok (.ireturn, 1) := by decide +kernel
theorem dX7_state_207 : decode cX7_state 207 = .ok (.bipush (-2), 2) := by decide +kernel
theorem dX7_state_209 : decode cX7_state 209 = .ok (.ireturn, 1) := by decide +kernel
theorem dX7_stop_0 : decode cX7_stop 0 = .ok (.aload_n 0, 1) := by decide +kernel
theorem dX7_stop_1 : decode cX7_stop 1 = .ok (.iload_n 1, 1) := by decide +kernel
theorem dX7_stop_2 : decode cX7_stop 2 = .ok (.iload_n 2, 1) := by decide +kernel
theorem dX7_stop_3 : decode cX7_stop 3 = .ok (.iload_n 3, 1) := by decide +kernel
theorem dX7_stop_4 : decode cX7_stop 4 = .ok (.invokevirtual 330, 3) := by decide +kernel
theorem dX7_stop_7 : decode cX7_stop 7 = .ok (.ifCond .ne 5, 3) := by decide +kernel
theorem dX7_stop_10 : decode cX7_stop 10 = .ok (.iconst (-1), 1) := by decide +kernel
theorem dX7_stop_11 : decode cX7_stop 11 = .ok (.ireturn, 1) := by decide +kernel
theorem dX7_stop_12 : decode cX7_stop 12 = .ok (.aload_n 0, 1) := by decide +kernel
theorem dX7_stop_13 : decode cX7_stop 13 = .ok (.bipush 40, 2) := by decide +kernel
theorem dX7_stop_15 : decode cX7_stop 15 = .ok (.invokevirtual 333, 3) := by decide +kernel
theorem dX7_stop_18 : decode cX7_stop 18 = .ok (.aload_n 0, 1) := by decide +kernel
theorem dX7_stop_19 : decode cX7_stop 19 = .ok (.getfield 293, 3) := by decide +kernel
theorem dX7_stop_22 : decode cX7_stop 22 = .ok (.ireturn, 1) := by decide +kernel
theorem dX7_text_0 : decode cX7_text 0 = .ok (.aload_n 0, 1) := by decide +kernel
theorem dX7_text_1 : decode cX7_text 1 = .ok (.aload_n 0, 1) := by decide +kernel
theorem dX7_text_2 : decode cX7_text 2 = .ok (.getfield 7, 3) := by decide +kernel
theorem dX7_text_5 : decode cX7_text 5 = .ok (.bipush 6, 2) := by decide +kernel
theorem dX7_text_7 : decode cX7_text 7 = .ok (.iaload, 1) := by decide +kernel
theorem dX7_text_8 : decode cX7_text 8 = .ok (.putfield 32, 3) := by decide +kernel
theorem dX7_text_11 : decode cX7_text 11 = .ok (.aload_n 0, 1) := by decide +kernel
theorem dX7_text_12 : decode cX7_text 12 = .ok (.getfield 7, 3) := by decide +kernel
theorem dX7_text_15 : decode cX7_text 15 = .ok (.bipush 6, 2) := by decide +kernel
theorem dX7_text_17 : decode cX7_text 17 = .ok (.iconst 0, 1) := by decide +kernel
theorem dX7_text_18 : decode cX7_text 18 = .ok (.iastore, 1) := by decide +kernel
theorem dX7_text_19 : decode cX7_text 19 = .ok (.aload_n 0, 1) := by decide +kernel
theorem dX7_text_20 : decode cX7_text 20 = .ok (.getfield 7, 3) := by decide +kernel
theorem dX7_text_23 : decode cX7_text 23 = .ok (.bipush 7, 2) := by decide +kernel
theorem dX7_text_25 : decode cX7_text 25 = .ok (.iconst 0, 1) := by decide +kernel
theorem dX7_text_26 : decode cX7_text 26 = .ok (.iastore, 1) := by decide +kernel
theorem dX7_text_27 : decode cX7_text 27 = .ok (.aload_n 0, 1) := by decide +kernel
theorem dX7_text_28 : decode cX7_text 28 = .ok (.getfield 7, 3) := by decide +kernel
theorem dX7_text_31 : decode cX7_text 31 = .ok (.bipush 8, 2) := by decide +kernel
theorem dX7_text_33 : decode cX7_text 33 = .ok (.iconst (-1), 1) := by decide +kernel
theorem dX7_text_34 : decode cX7_text 34 = .ok (.iastore, 1) := by decide +kernel
theorem dX7_text_35 : decode cX7_text 35 = .ok (.iload_n 1, 1) := by decide +kernel
theorem dX7_text_36 : decode cX7_text 36 = .ok (.iconst 0, 1) := by decide +kernel
theorem dX7_text_37 : decode cX7_text 37 = .ok (.iconst 5, 1) := by decide +kernel
theorem dX7_text_38 : decode cX7_text 38 = .ok (.invokestatic 93, 3) := by decide +kernel
theorem dX7_text_41 : decode cX7_text 41 = .ok (.ifCond .eq 30, 3) := by decide +kernel
theorem dX7_text_44 : decode cX7_text 44 = .ok (.iload_n 2, 1) := by decide +kernel
theorem dX7_text_45 : decode cX7_text 45 = .ok (.iconst (-1), 1) := by decide +kernel
theorem dX7_text_46 : decode cX7_text 46 = .ok (.if_icmp .ne 16, 3) := by decide +kernel
theorem dX7_text_49 : decode cX7_text 49 = .ok (.aload_n 0, 1) := by decide +kernel
theorem dX7_text_50 : decode cX7_text 50 = .ok (.getfield 7, 3) := by decide +kernel
theorem dX7_text_53 : decode cX7_text 53 = .ok (.iload_n 1, 1) := by decide +kernel
theorem dX7_text_54 : decode cX7_text 54 = .ok (.iaload, 1) := by decide +kernel
theorem dX7_text_55 : decode cX7_text 55 = .ok (.iconst 2, 1) := by decide +kernel
theorem dX7_text_56 : decode cX7_text 56 = .ok (.if_icmp .lt 18, 3) := by decide +kernel
theorem dX7_text_59 : decode cX7_text 59 = .ok (.goto 12, 3) := by decide +kernel
theorem dX7_text_62 : decode cX7_text 62 = .ok (.aload_n 0, 1) := by decide +kernel
theorem dX7_text_63 : decode cX7_text 63 = .ok (.iload_n 1, 1) := by decide +kernel
theorem dX7_text_64 : decode cX7_text 64 = .ok (.iload_n 2, 1) := by decide +kernel
theorem dX7_text_65 : decode cX7_text 65 = .ok (.invokevirtual 144, 3) := by decide +kernel
theorem dX7_text_68 : decode cX7_text 68 = .ok (.ifCond .ne 6, 3) := by decide +kernel
theorem dX7_text_71 : decode cX7_text 71 = .ok (.bipush (-2), 2) := by decide +kernel
theorem dX7_text_73 : decode cX7_text 73 = .ok (.ireturn, 1) := by decide +kernel
theorem dX7_text_74 : decode cX7_text 74 = .ok (.aload_n 0, 1) := by decide +kernel
theorem dX7_text_75 : decode cX7_text 75 = .ok (.iconst 0, 1) := by decide +kernel
theorem dX7_text_76 : decode cX7_text 76 = .ok (.putfield 53, 3) := by decide +kernel
theorem dX7_text_79 : decode cX7_text 79 = .ok (.aload_n 0, 1) := by decide +kernel
theorem dX7_text_80 : decode cX7_text 80 = .ok (.iconst 0, 1) := by decide +kernel
theorem dX7_text_81 : decode cX7_text 81 = .ok (.putfield 86, 3) := by decide +kernel
theorem dX7_text_84 : decode cX7_text 84 = .ok (.aload_n 0, 1) := by decide +kernel
theorem dX7_text_85 : decode cX7_text 85 = .ok (.iconst (-1), 1) := by decide +kernel
theorem dX7_text_86 : decode cX7_text 86 = .ok (.putfield 111, 3) := by decide +kernel
theorem dX7_text_89 : decode cX7_text 89 = .ok (.aload_n 0, 1) := by decide +kernel
theorem dX7_text_90 : decode cX7_text 90 = .ok (.iload_n 1, 1) := by decide +kernel
theorem dX7_text_91 : decode cX7_text 91 = .ok (.invokevirtual 148, 3) := by decide +kernel
theorem dX7_text_94 : decode cX7_text 94 = .ok (.aload_n 0, 1) := by decide +kernel
theorem dX7_text_95 : decode cX7_text 95 = .ok (.invokevirtual 101, 3) := by decide +kernel
theorem dX7_text_98 : decode cX7_text 98 = .ok (.aload_n 0, 1) := by decide +kernel
theorem dX7_text_99 : decode cX7_text 99 = .ok (.getfield 86, 3) := by decide +kernel
theorem dX7_text_102 : decode cX7_text 102 = .ok (.ifCond .ne 88, 3) := by decide +kernel
theorem dX7_text_105 : decode cX7_text 105 = .ok (.aload_n 0, 1) := by decide +kernel
theorem dX7_text_106 : decode cX7_text 106 = .ok (.getfield 63, 3) := by decide +kernel
theorem dX7_text_109 : decode cX7_text 109 = .ok (.ifCond .eq 81, 3) := by decide +kernel
theorem dX7_text_112 : decode cX7_text 112 = .ok (.iload_n 1, 1) := by decide +kernel
theorem dX7_text_113 : decode cX7_text 113 = .ok (.tableswitch 70 0 4 #[35, 42, 49, 56, 63], 35) := by decide +kernel
theorem dX7_text_148 : decode cX7_text 148 = .ok (.aload_n 0, 1) := by decide +kernel
theorem dX7_text_149 : decode cX7_text 149 = .ok (.invokevirtual 151, 3) := by decide +kernel
theorem dX7_text_152 : decode cX7_text 152 = .ok (.goto (-54), 3) := by decide +kernel
theorem dX7_text_155 : decode cX7_text 155 = .ok (.aload_n 0, 1) := by decide +kernel
theorem dX7_text_156 : decode cX7_text 156 = .ok (.invokevirtual 154, 3) := by decide +kernel
theorem dX7_text_159 : decode cX7_text 159 = .ok (.goto (-61), 3) := by decide +kernel
theorem dX7_text_162 : decode cX7_text 162 = .ok (.aload_n 0, 1) := by decide +kernel
theorem dX7_text_163 : decode cX7_text 163 = .ok (.invokevirtual 157, 3) := by decide +kernel
theorem dX7_text_166 : decode cX7_text 166 = .ok (.goto (-68), 3) := by decide +kernel
theorem dX7_text_169 : decode cX7_text 169 = .ok (.aload_n 0, 1) := by decide +kernel
theorem dX7_text_170 : decode cX7_text 170 = .ok (.invokevirtual 160, 3) := by decide +kernel
theorem dX7_text_173 : decode cX7_text 173 = .ok (.goto (-75), 3) := by decide +kernel
theorem dX7_text_176 : decode cX7_text 176 = .ok (.aload_n 0, 1) := by decide +kernel
theorem dX7_text_177 : decode cX7_text 177 = .ok (.invokevirtual 163, 3) := by decide +kernel
theorem dX7_text_180 : decode cX7_text 180 = .ok (.goto (-82), 3) := by decide +kernel
theorem dX7_text_183 : decode cX7_text 183 = .ok (.aload_n 0, 1) := by decide +kernel
theorem dX7_text_184 : decode cX7_text 184 = .ok (.invokevirtual 166, 3) := by decide +kernel
theorem dX7_text_187 : decode cX7_text 187 = .ok (.goto (-89), 3) := by decide +kernel
theorem dX7_text_190 : decode cX7_text 190 = .ok (.aload_n 0, 1) := by decide +kernel
theorem dX7_text_191 : decode cX7_text 191 = .ok (.getfield 7, 3) := by decide +kernel
theorem dX7_text_194 : decode cX7_text 194 = .ok (.bipush 7, 2) := by decide +kernel
theorem dX7_text_196 : decode cX7_text 196 = .ok (.iaload, 1) := by decide +kernel
theorem dX7_text_197 : decode cX7_text 197 = .ok (.ifCond .ne 29, 3) := by decide +kernel
theorem dX7_text_200 : decode cX7_text 200 = .ok (.iload_n 1, 1) := by decide +kernel
theorem dX7_text_201 : decode cX7_text 201 = .ok (.ifCond .ne 25, 3) := by decide +kernel
theorem dX7_text_204 : decode cX7_text 204 = .ok (.aload_n 0, 1) := by decide +kernel
theorem dX7_text_205 : decode cX7_text 205 = .ok (.getfield 111, 3) := by decide +kernel
theorem dX7_text_208 : decode cX7_text 208 = .ok (.aload_n 0, 1) := by decide +kernel
theorem dX7_text_209 : decode cX7_text 209 = .ok (.getfield 17, 3) := by decide +kernel
theorem dX7_text_212 : decode cX7_text 212 = .ok (.iconst 0, 1) := by decide +kernel
theorem dX7_text_213 : decode cX7_text 213 = .ok (.iaload, 1) := by decide +kernel
theorem dX7_text_214 : decode cX7_text 214 = .ok (.if_icmp .lt 12, 3) := by decide +kernel
theorem dX7_text_217 : decode cX7_text 217 = .ok (.aload_n 0, 1) := by decide +kernel
theorem dX7_text_218 : decode cX7_text 218 = .ok (.iconst 4, 1) := by decide +kernel
theorem dX7_text_219 : decode cX7_text 219 = .ok (.aload_n 0, 1) := by decide +kernel
theorem dX7_text_220 : decode cX7_text 220 = .ok (.getfield 60, 3) := by decide +kernel
theorem dX7_text_223 : decode cX7_text 223 = .ok (.invokevirtual 97, 3) := by decide +kernel
theorem dX7_text_226 : decode cX7_text 226 = .ok (.aload_n 0, 1) := by decide +kernel
theorem dX7_text_227 : decode cX7_text 227 = .ok (.getfield 7, 3) := by decide +kernel
theorem dX7_text_230 : decode cX7_text 230 = .ok (.bipush 7, 2) := by decide +kernel
theorem dX7_text_232 : decode cX7_text 232 = .ok (.iaload, 1) := by decide +kernel
theorem dX7_text_233 : decode cX7_text 233 = .ok (.ifCond .eq 5, 3) := by decide +kernel
theorem dX7_text_236 : decode cX7_text 236 = .ok (.iconst (-1), 1) := by decide +kernel
theorem dX7_text_237 : decode cX7_text 237 = .ok (.ireturn, 1) := by decide +kernel
theorem dX7_text_238 : decode cX7_text 238 = .ok (.iload_n 2, 1) := by decide +kernel
theorem dX7_text_239 : decode cX7_text 239 = .ok (.iconst (-1), 1) := by decide +kernel
theorem dX7_text_240 : decode cX7_text 240 = .ok (.if_icmp .ne 12, 3) := by decide +kernel
theorem dX7_text_243 : decode cX7_text 243 = .ok (.aload_n 0, 1) := by decide +kernel
theorem dX7_text_244 : decode cX7_text 244 = .ok (.getfield 7, 3) := by decide +kernel
theorem dX7_text_247 : decode cX7_text 247 = .ok (.iload_n 1, 1) := by decide +kernel
theorem dX7_text_248 : decode cX7_text 248 = .ok (.iaload, 1) := by decide +kernel
theorem dX7_text_249 : decode cX7_text 249 = .ok (.goto 4, 3) := by decide +kernel
theorem dX7_text_252 : decode cX7_text 252 = .ok (.iload_n 2, 1) := by decide +kernel
theorem dX7_text_253 : decode cX7_text 253 = .ok (.istore_n 3, 1) := by decide +kernel
theorem dX7_text_254 : decode cX7_text 254 = .ok (.iload_n 2, 1) := by decide +kernel
theorem dX7_text_255 : decode cX7_text 255 = .ok (.iconst (-1), 1) := by decide +kernel
theorem dX7_text_256 : decode cX7_text 256 = .ok (.if_icmp .ne 13, 3) := by decide +kernel
theorem dX7_text_259 : decode cX7_text 259 = .ok (.aload_n 0, 1) := by decide +kernel
theorem dX7_text_260 : decode cX7_text 260 = .ok (.getfield 7, 3) := by decide +kernel
theorem dX7_text_263 : decode cX7_text 263 = .ok (.iload_n 1, 1) := by decide +kernel
theorem dX7_text_264 : decode cX7_text 264 = .ok (.dup2, 1) := by decide +kernel
theorem dX7_text_265 : decode cX7_text 265 = .ok (.iaload, 1) := by decide +kernel
theorem dX7_text_266 : decode cX7_text 266 = .ok (.iconst 1, 1) := by decide +kernel
theorem dX7_text_267 : decode cX7_text 267 = .ok (.iadd, 1) := by decide +kernel
theorem dX7_text_268 : decode cX7_text 268 = .ok (.iastore, 1) := by decide +kernel
theorem dX7_text_269 : decode cX7_text 269 = .ok (.iconst 0, 1) := by decide +kernel
theorem dX7_text_270 : decode cX7_text 270 = .ok (.istore 4, 2) := by decide +kernel
theorem dX7_text_272 : decode cX7_text 272 = .ok (.iload 4, 2) := by decide +kernel
theorem dX7_text_274 : decode cX7_text 274 = .ok (.iload_n 1, 1) := by decide +kernel
theorem dX7_text_275 : decode cX7_text 275 = .ok (.invokestatic 169, 3) := by decide +kernel
theorem dX7_text_278 : decode cX7_text 278 = .ok (.if_icmp .ge 29, 3) := by decide +kernel
theorem dX7_text_281 : decode cX7_text 281 = .ok (.aload_n 0, 1) := by decide +kernel
theorem dX7_text_282 : decode cX7_text 282 = .ok (.getfield 7, 3) := by decide +kernel
theorem dX7_text_285 : decode cX7_text 285 = .ok (.iload_n 1, 1) := by decide +kernel
theorem dX7_text_286 : decode cX7_text 286 = .ok (.iload_n 3, 1) := by decide +kernel
theorem dX7_text_287 : decode cX7_text 287 = .ok (.invokestatic 172, 3) := by decide +kernel
theorem dX7_text_290 : decode cX7_text 290 = .ok (.iload 4, 2) := by decide +kernel
theorem dX7_text_292 : decode cX7_text 292 = .ok (.iadd, 1) := by decide +kernel
theorem dX7_text_293 : decode cX7_text 293 = .ok (.aload_n 0, 1) := by decide +kernel
theorem dX7_text_294 : decode cX7_text 294 = .ok (.getfield 17, 3) := by decide +kernel
theorem dX7_text_297 : decode cX7_text 297 = .ok (.iload 4, 2) := by decide +kernel
theorem dX7_text_299 : decode cX7_text 299 = .ok (.iaload, 1) := by decide +kernel
theorem dX7_text_300 : decode cX7_text 300 = .ok (.iastore, 1) := by decide +kernel
theorem dX7_text_301 : decode cX7_text 301 = .ok (.iinc 4 1, 3) := by decide +kernel
theorem dX7_text_304 : decode cX7_text 304 = .ok (.goto (-32), 3) := by decide +kernel
theorem dX7_text_307 : decode cX7_text 307 = .ok (.iload_n 3, 1) := by decide +kernel
theorem dX7_text_308 : decode cX7_text 308 = .ok (.ireturn, 1) := by decide +kernel
theorem dX7_vote_0 : decode cX7_vote 0 = .ok (.aload_n 0, 1) := by decide +kernel
theorem dX7_vote_1 : decode cX7_vote 1 = .ok (.iload_n 1, 1) := by decide +kernel
theorem dX7_vote_2 : decode cX7_vote 2 = .ok (.iload_n 2, 1) := by decide +kernel
theorem dX7_vote_3 : decode cX7_vote 3 = .ok (.iload_n 3, 1) := by decide +kernel
theorem dX7_vote_4 : decode cX7_vote 4 = .ok (.iload 4, 2) := by decide +kernel
theorem dX7_vote_6 : decode cX7_vote 6 = .ok (.iload 5, 2) := by decide +kernel
theorem dX7_vote_8 : decode cX7_vote 8 = .ok (.iload 6, 2) := by decide +kernel
theorem dX7_vote_10 : decode cX7_vote 10 = .ok (.invokevirtual 241, 3) := by decide +kernel
theorem dX7_vote_13 : decode cX7_vote 13 = .ok (.ifCond .ne 5, 3) := by decide +kernel
theorem dX7_vote_16 : decode cX7_vote 16 = .ok (.iconst (-1), 1) := by decide +kernel
theorem dX7_vote_17 : decode cX7_vote 17 = .ok (.ireturn, 1) := by decide +kernel
theorem dX7_vote_18 : decode cX7_vote 18 = .ok (.iload 7, 2) := by decide +kernel
theorem dX7_vote_20 : decode cX7_vote 20 = .ok (.ifCond .eq 22, 3) := by decide +kernel
theorem dX7_vote_23 : decode cX7_vote 23 = .ok (.aload_n 0, 1) := by decide +kernel
theorem dX7_vote_24 : decode cX7_vote 24 = .ok (.aload_n 0, 1) := by decide +kernel
theorem dX7_vote_25 : decode cX7_vote 25 = .ok (.invokevirtual 245, 3) := by decide +kernel
theorem dX7_vote_28 : decode cX7_vote 28 = .ok (.invokevirtual 248, 3) := by decide +kernel
theorem dX7_vote_31 : decode cX7_vote 31 = .ok (.ifCond .eq 7, 3) := by decide +kernel
theorem dX7_vote_34 : decode cX7_vote 34 = .ok (.iconst 1, 1) := by decide +kernel
theorem dX7_vote_35 : decode cX7_vote 35 = .ok (.goto 11, 3) := by decide +kernel
theorem dX7_vote_38 : decode cX7_vote 38 = .ok (.iconst 0, 1) := by decide +kernel
theorem dX7_vote_39 : decode cX7_vote 39 = .ok (.goto 7, 3) := by decide +kernel
theorem dX7_vote_42 : decode cX7_vote 42 = .ok (.aload_n 0, 1) := by decide +kernel
theorem dX7_vote_43 : decode cX7_vote 43 = .ok (.invokevirtual 245, 3) := by decide +kernel
theorem dX7_vote_46 : decode cX7_vote 46 = .ok (.ireturn, 1) := by decide +kernel
theorem dX7_was_0 : decode cX7_was 0 = .ok (.aload_n 0, 1) := by decide +kernel
theorem dX7_was_1 : decode cX7_was 1 = .ok (.iload_n 1, 1) := by decide +kernel
theorem dX7_was_2 : decode cX7_was 2 = .ok (.invokevirtual 387, 3) := by decide +kernel
theorem dX7_was_5 : decode cX7_was 5 = .ok (.ifCond .ne 6, 3) := by decide +kernel
theorem dX7_was_8 : decode cX7_was 8 = .ok (.bipush (-2), 2) := by decide +kernel
theorem dX7_was_10 : decode cX7_was 10 = .ok (.ireturn, 1) := by decide +kernel
theorem dX7_was_11 : decode cX7_was 11 = .ok (.iload_n 2, 1) := by decide +kernel
theorem dX7_was_12 : decode cX7_was 12 = .ok (.iconst (-1), 1) := by decide +kernel
theorem dX7_was_13 : decode cX7_was 13 = .ok (.if_icmp .ne 17, 3) := by decide +kernel
theorem dX7_was_16 : decode cX7_was 16 = .ok (.iload_n 3, 1) := by decide +kernel
theorem dX7_was_17 : decode cX7_was 17 = .ok (.ifCond .ne 10, 3) := by decide +kernel
theorem dX7_was_20 : decode cX7_was 20 = .ok (.aload_n 0, 1) := by decide +kernel
theorem dX7_was_21 : decode cX7_was 21 = .ok (.invokevirtual 390, 3) := by decide +kernel
theorem dX7_was_24 : decode cX7_was 24 = .ok (.goto 5, 3) := by decide +kernel
theorem dX7_was_27 : decode cX7_was 27 = .ok (.bipush (-2), 2) := by decide +kernel
theorem dX7_was_29 : decode cX7_was 29 = .ok (.ireturn, 1) := by decide +kernel
theorem dX7_was_30 : decode cX7_was 30 = .ok (.iload_n 2, 1) := by decide +kernel
theorem dX7_was_31 : decode cX7_was 31 = .ok (.iconst 0, 1) := by decide +kernel
theorem dX7_was_32 : decode cX7_was 32 = .ok (.aload_n 0, 1) := by decide +kernel
theorem dX7_was_33 : decode cX7_was 33 = .ok (.invokevirtual 390, 3) := by decide +kernel
theorem dX7_was_36 : decode cX7_was 36 = .ok (.iconst 1, 1) := by decide +kernel
theorem dX7_was_37 : decode cX7_was 37 = .ok (.isub, 1) := by decide +kernel
theorem dX7_was_38 : decode cX7_was 38 = .ok (.invokestatic 93, 3) := by decide +kernel
theorem dX7_was_41 : decode cX7_was 41 = .ok (.ifCond .eq 21, 3) := by decide +kernel
theorem dX7_was_44 : decode cX7_was 44 = .ok (.iload_n 3, 1) := by decide +kernel
theorem dX7_was_45 : decode cX7_was 45 = .ok (.iconst 0, 1) := by decide +kernel
theorem dX7_was_46 : decode cX7_was 46 = .ok (.iconst 3, 1) := by decide +kernel
theorem dX7_was_47 : decode cX7_was 47 = .ok (.invokestatic 93, 3) := by decide +kernel
theorem dX7_was_50 : decode cX7_was 50 = .ok (.ifCond .eq 12, 3) := by decide +kernel
theorem dX7_was_53 : decode cX7_was 53 = .ok (.aload_n 0, 1) := by decide +kernel
theorem dX7_was_54 : decode cX7_was 54 = .ok (.iload_n 2, 1) := by decide +kernel
theorem dX7_was_55 : decode cX7_was 55 = .ok (.iload_n 3, 1) := by decide +kernel
theorem dX7_was_56 : decode cX7_was 56 = .ok (.invokevirtual 384, 3) := by decide +kernel
theorem dX7_was_59 : decode cX7_was 59 = .ok (.goto 5, 3) := by decide +kernel
theorem dX7_was_62 : decode cX7_was 62 = .ok (.bipush (-2), 2) := by decide +kernel
theorem dX7_was_64 : decode cX7_was 64 = .ok (.ireturn, 1) := by decide +kernel
