/-! RedSkyModel.holds(IIII)Z -/
theorem d_M_holds_0 : decode b_M_holds 0 = .ok (.iconst 0, 1) := by decide +kernel
theorem d_M_holds_1 : decode b_M_holds 1 = .ok (.istore 5, 2) := by decide +kernel
theorem d_M_holds_3 : decode b_M_holds 3 = .ok (.iconst 0, 1) := by decide +kernel
theorem d_M_holds_4 : decode b_M_holds 4 = .ok (.istore 6, 2) := by decide +kernel
theorem d_M_holds_6 : decode b_M_holds 6 = .ok (.iload 6, 2) := by decide +kernel
theorem d_M_holds_8 : decode b_M_holds 8 = .ok (.aload_n 0, 1) := by decide +kernel
theorem d_M_holds_9 : decode b_M_holds 9 = .ok (.getfield 55, 3) := by decide +kernel
theorem d_M_holds_12 : decode b_M_holds 12 = .ok (.iconst 2, 1) := by decide +kernel
theorem d_M_holds_13 : decode b_M_holds 13 = .ok (.iload_n 1, 1) := by decide +kernel
theorem d_M_holds_14 : decode b_M_holds 14 = .ok (.imul, 1) := by decide +kernel
theorem d_M_holds_15 : decode b_M_holds 15 = .ok (.iload_n 2, 1) := by decide +kernel
theorem d_M_holds_16 : decode b_M_holds 16 = .ok (.iadd, 1) := by decide +kernel
theorem d_M_holds_17 : decode b_M_holds 17 = .ok (.iaload, 1) := by decide +kernel
theorem d_M_holds_18 : decode b_M_holds 18 = .ok (.if_icmp .ge (251), 3) := by decide +kernel
theorem d_M_holds_21 : decode b_M_holds 21 = .ok (.aload_n 0, 1) := by decide +kernel
theorem d_M_holds_22 : decode b_M_holds 22 = .ok (.getfield 49, 3) := by decide +kernel
theorem d_M_holds_25 : decode b_M_holds 25 = .ok (.bipush (80), 2) := by decide +kernel
theorem d_M_holds_27 : decode b_M_holds 27 = .ok (.iconst 2, 1) := by decide +kernel
theorem d_M_holds_28 : decode b_M_holds 28 = .ok (.iload_n 1, 1) := by decide +kernel
theorem d_M_holds_29 : decode b_M_holds 29 = .ok (.imul, 1) := by decide +kernel
theorem d_M_holds_30 : decode b_M_holds 30 = .ok (.iload_n 2, 1) := by decide +kernel
theorem d_M_holds_31 : decode b_M_holds 31 = .ok (.iadd, 1) := by decide +kernel
theorem d_M_holds_32 : decode b_M_holds 32 = .ok (.imul, 1) := by decide +kernel
theorem d_M_holds_33 : decode b_M_holds 33 = .ok (.iload 6, 2) := by decide +kernel
theorem d_M_holds_35 : decode b_M_holds 35 = .ok (.iadd, 1) := by decide +kernel
theorem d_M_holds_36 : decode b_M_holds 36 = .ok (.iaload, 1) := by decide +kernel
theorem d_M_holds_37 : decode b_M_holds 37 = .ok (.istore 7, 2) := by decide +kernel
theorem d_M_holds_39 : decode b_M_holds 39 = .ok (.iload 7, 2) := by decide +kernel
theorem d_M_holds_41 : decode b_M_holds 41 = .ok (.bipush (12), 2) := by decide +kernel
theorem d_M_holds_43 : decode b_M_holds 43 = .ok (.if_icmp .ge (108), 3) := by decide +kernel
theorem d_M_holds_46 : decode b_M_holds 46 = .ok (.aload_n 0, 1) := by decide +kernel
theorem d_M_holds_47 : decode b_M_holds 47 = .ok (.getfield 22, 3) := by decide +kernel
theorem d_M_holds_50 : decode b_M_holds 50 = .ok (.iload_n 3, 1) := by decide +kernel
theorem d_M_holds_51 : decode b_M_holds 51 = .ok (.iload 4, 2) := by decide +kernel
theorem d_M_holds_53 : decode b_M_holds 53 = .ok (.iload 7, 2) := by decide +kernel
theorem d_M_holds_55 : decode b_M_holds 55 = .ok (.iconst 3, 1) := by decide +kernel
theorem d_M_holds_56 : decode b_M_holds 56 = .ok (.idiv, 1) := by decide +kernel
theorem d_M_holds_57 : decode b_M_holds 57 = .ok (.invokestatic 167, 3) := by decide +kernel
theorem d_M_holds_60 : decode b_M_holds 60 = .ok (.iaload, 1) := by decide +kernel
theorem d_M_holds_61 : decode b_M_holds 61 = .ok (.istore 8, 2) := by decide +kernel
theorem d_M_holds_63 : decode b_M_holds 63 = .ok (.aload_n 0, 1) := by decide +kernel
theorem d_M_holds_64 : decode b_M_holds 64 = .ok (.getfield 52, 3) := by decide +kernel
theorem d_M_holds_67 : decode b_M_holds 67 = .ok (.bipush (80), 2) := by decide +kernel
theorem d_M_holds_69 : decode b_M_holds 69 = .ok (.iconst 2, 1) := by decide +kernel
theorem d_M_holds_70 : decode b_M_holds 70 = .ok (.iload_n 1, 1) := by decide +kernel
theorem d_M_holds_71 : decode b_M_holds 71 = .ok (.imul, 1) := by decide +kernel
theorem d_M_holds_72 : decode b_M_holds 72 = .ok (.iload_n 2, 1) := by decide +kernel
theorem d_M_holds_73 : decode b_M_holds 73 = .ok (.iadd, 1) := by decide +kernel
theorem d_M_holds_74 : decode b_M_holds 74 = .ok (.imul, 1) := by decide +kernel
theorem d_M_holds_75 : decode b_M_holds 75 = .ok (.iload 6, 2) := by decide +kernel
theorem d_M_holds_77 : decode b_M_holds 77 = .ok (.iadd, 1) := by decide +kernel
theorem d_M_holds_78 : decode b_M_holds 78 = .ok (.iaload, 1) := by decide +kernel
theorem d_M_holds_79 : decode b_M_holds 79 = .ok (.istore 9, 2) := by decide +kernel
theorem d_M_holds_81 : decode b_M_holds 81 = .ok (.aload_n 0, 1) := by decide +kernel
theorem d_M_holds_82 : decode b_M_holds 82 = .ok (.getfield 73, 3) := by decide +kernel
theorem d_M_holds_85 : decode b_M_holds 85 = .ok (.iload 5, 2) := by decide +kernel
theorem d_M_holds_87 : decode b_M_holds 87 = .ok (.iload 7, 2) := by decide +kernel
theorem d_M_holds_89 : decode b_M_holds 89 = .ok (.iconst 3, 1) := by decide +kernel
theorem d_M_holds_90 : decode b_M_holds 90 = .ok (.irem, 1) := by decide +kernel
theorem d_M_holds_91 : decode b_M_holds 91 = .ok (.ifCond .ne (18), 3) := by decide +kernel
theorem d_M_holds_94 : decode b_M_holds 94 = .ok (.iload 8, 2) := by decide +kernel
theorem d_M_holds_96 : decode b_M_holds 96 = .ok (.iload 9, 2) := by decide +kernel
theorem d_M_holds_98 : decode b_M_holds 98 = .ok (.if_icmp .ge (7), 3) := by decide +kernel
theorem d_M_holds_101 : decode b_M_holds 101 = .ok (.iconst 1, 1) := by decide +kernel
theorem d_M_holds_102 : decode b_M_holds 102 = .ok (.goto (42), 3) := by decide +kernel
theorem d_M_holds_105 : decode b_M_holds 105 = .ok (.iconst 0, 1) := by decide +kernel
theorem d_M_holds_106 : decode b_M_holds 106 = .ok (.goto (38), 3) := by decide +kernel
theorem d_M_holds_109 : decode b_M_holds 109 = .ok (.iload 7, 2) := by decide +kernel
theorem d_M_holds_111 : decode b_M_holds 111 = .ok (.iconst 3, 1) := by decide +kernel
theorem d_M_holds_112 : decode b_M_holds 112 = .ok (.irem, 1) := by decide +kernel
theorem d_M_holds_113 : decode b_M_holds 113 = .ok (.iconst 1, 1) := by decide +kernel
theorem d_M_holds_114 : decode b_M_holds 114 = .ok (.if_icmp .ne (18), 3) := by decide +kernel
theorem d_M_holds_117 : decode b_M_holds 117 = .ok (.iload 8, 2) := by decide +kernel
theorem d_M_holds_119 : decode b_M_holds 119 = .ok (.iload 9, 2) := by decide +kernel
theorem d_M_holds_121 : decode b_M_holds 121 = .ok (.if_icmp .ne (7), 3) := by decide +kernel
theorem d_M_holds_124 : decode b_M_holds 124 = .ok (.iconst 1, 1) := by decide +kernel
theorem d_M_holds_125 : decode b_M_holds 125 = .ok (.goto (19), 3) := by decide +kernel
theorem d_M_holds_128 : decode b_M_holds 128 = .ok (.iconst 0, 1) := by decide +kernel
theorem d_M_holds_129 : decode b_M_holds 129 = .ok (.goto (15), 3) := by decide +kernel
theorem d_M_holds_132 : decode b_M_holds 132 = .ok (.iload 8, 2) := by decide +kernel
theorem d_M_holds_134 : decode b_M_holds 134 = .ok (.iload 9, 2) := by decide +kernel
theorem d_M_holds_136 : decode b_M_holds 136 = .ok (.if_icmp .le (7), 3) := by decide +kernel
theorem d_M_holds_139 : decode b_M_holds 139 = .ok (.iconst 1, 1) := by decide +kernel
theorem d_M_holds_140 : decode b_M_holds 140 = .ok (.goto (4), 3) := by decide +kernel
theorem d_M_holds_143 : decode b_M_holds 143 = .ok (.iconst 0, 1) := by decide +kernel
theorem d_M_holds_144 : decode b_M_holds 144 = .ok (.bastore, 1) := by decide +kernel
theorem d_M_holds_145 : decode b_M_holds 145 = .ok (.iinc 5 (1), 3) := by decide +kernel
theorem d_M_holds_148 : decode b_M_holds 148 = .ok (.goto (115), 3) := by decide +kernel
theorem d_M_holds_151 : decode b_M_holds 151 = .ok (.iload 7, 2) := by decide +kernel
theorem d_M_holds_153 : decode b_M_holds 153 = .ok (.bipush (12), 2) := by decide +kernel
theorem d_M_holds_155 : decode b_M_holds 155 = .ok (.if_icmp .ne (32), 3) := by decide +kernel
theorem d_M_holds_158 : decode b_M_holds 158 = .ok (.aload_n 0, 1) := by decide +kernel
theorem d_M_holds_159 : decode b_M_holds 159 = .ok (.getfield 73, 3) := by decide +kernel
theorem d_M_holds_162 : decode b_M_holds 162 = .ok (.iload 5, 2) := by decide +kernel
theorem d_M_holds_164 : decode b_M_holds 164 = .ok (.iconst 1, 1) := by decide +kernel
theorem d_M_holds_165 : decode b_M_holds 165 = .ok (.isub, 1) := by decide +kernel
theorem d_M_holds_166 : decode b_M_holds 166 = .ok (.aload_n 0, 1) := by decide +kernel
theorem d_M_holds_167 : decode b_M_holds 167 = .ok (.getfield 73, 3) := by decide +kernel
theorem d_M_holds_170 : decode b_M_holds 170 = .ok (.iload 5, 2) := by decide +kernel
theorem d_M_holds_172 : decode b_M_holds 172 = .ok (.iconst 1, 1) := by decide +kernel
theorem d_M_holds_173 : decode b_M_holds 173 = .ok (.isub, 1) := by decide +kernel
theorem d_M_holds_174 : decode b_M_holds 174 = .ok (.baload, 1) := by decide +kernel
theorem d_M_holds_175 : decode b_M_holds 175 = .ok (.ifCond .ne (7), 3) := by decide +kernel
theorem d_M_holds_178 : decode b_M_holds 178 = .ok (.iconst 1, 1) := by decide +kernel
theorem d_M_holds_179 : decode b_M_holds 179 = .ok (.goto (4), 3) := by decide +kernel
theorem d_M_holds_182 : decode b_M_holds 182 = .ok (.iconst 0, 1) := by decide +kernel
theorem d_M_holds_183 : decode b_M_holds 183 = .ok (.bastore, 1) := by decide +kernel
theorem d_M_holds_184 : decode b_M_holds 184 = .ok (.goto (79), 3) := by decide +kernel
theorem d_M_holds_187 : decode b_M_holds 187 = .ok (.iinc 5 (-1), 3) := by decide +kernel
theorem d_M_holds_190 : decode b_M_holds 190 = .ok (.aload_n 0, 1) := by decide +kernel
theorem d_M_holds_191 : decode b_M_holds 191 = .ok (.getfield 73, 3) := by decide +kernel
theorem d_M_holds_194 : decode b_M_holds 194 = .ok (.iload 5, 2) := by decide +kernel
theorem d_M_holds_196 : decode b_M_holds 196 = .ok (.iconst 1, 1) := by decide +kernel
theorem d_M_holds_197 : decode b_M_holds 197 = .ok (.isub, 1) := by decide +kernel
theorem d_M_holds_198 : decode b_M_holds 198 = .ok (.iload 7, 2) := by decide +kernel
theorem d_M_holds_200 : decode b_M_holds 200 = .ok (.bipush (13), 2) := by decide +kernel
theorem d_M_holds_202 : decode b_M_holds 202 = .ok (.if_icmp .ne (33), 3) := by decide +kernel
theorem d_M_holds_205 : decode b_M_holds 205 = .ok (.aload_n 0, 1) := by decide +kernel
theorem d_M_holds_206 : decode b_M_holds 206 = .ok (.getfield 73, 3) := by decide +kernel
theorem d_M_holds_209 : decode b_M_holds 209 = .ok (.iload 5, 2) := by decide +kernel
theorem d_M_holds_211 : decode b_M_holds 211 = .ok (.iconst 1, 1) := by decide +kernel
theorem d_M_holds_212 : decode b_M_holds 212 = .ok (.isub, 1) := by decide +kernel
theorem d_M_holds_213 : decode b_M_holds 213 = .ok (.baload, 1) := by decide +kernel
theorem d_M_holds_214 : decode b_M_holds 214 = .ok (.ifCond .eq (17), 3) := by decide +kernel
theorem d_M_holds_217 : decode b_M_holds 217 = .ok (.aload_n 0, 1) := by decide +kernel
theorem d_M_holds_218 : decode b_M_holds 218 = .ok (.getfield 73, 3) := by decide +kernel
theorem d_M_holds_221 : decode b_M_holds 221 = .ok (.iload 5, 2) := by decide +kernel
theorem d_M_holds_223 : decode b_M_holds 223 = .ok (.baload, 1) := by decide +kernel
theorem d_M_holds_224 : decode b_M_holds 224 = .ok (.ifCond .eq (7), 3) := by decide +kernel
theorem d_M_holds_227 : decode b_M_holds 227 = .ok (.iconst 1, 1) := by decide +kernel
theorem d_M_holds_228 : decode b_M_holds 228 = .ok (.goto (34), 3) := by decide +kernel
theorem d_M_holds_231 : decode b_M_holds 231 = .ok (.iconst 0, 1) := by decide +kernel
theorem d_M_holds_232 : decode b_M_holds 232 = .ok (.goto (30), 3) := by decide +kernel
theorem d_M_holds_235 : decode b_M_holds 235 = .ok (.aload_n 0, 1) := by decide +kernel
theorem d_M_holds_236 : decode b_M_holds 236 = .ok (.getfield 73, 3) := by decide +kernel
theorem d_M_holds_239 : decode b_M_holds 239 = .ok (.iload 5, 2) := by decide +kernel
theorem d_M_holds_241 : decode b_M_holds 241 = .ok (.iconst 1, 1) := by decide +kernel
theorem d_M_holds_242 : decode b_M_holds 242 = .ok (.isub, 1) := by decide +kernel
theorem d_M_holds_243 : decode b_M_holds 243 = .ok (.baload, 1) := by decide +kernel
theorem d_M_holds_244 : decode b_M_holds 244 = .ok (.ifCond .ne (13), 3) := by decide +kernel
theorem d_M_holds_247 : decode b_M_holds 247 = .ok (.aload_n 0, 1) := by decide +kernel
theorem d_M_holds_248 : decode b_M_holds 248 = .ok (.getfield 73, 3) := by decide +kernel
theorem d_M_holds_251 : decode b_M_holds 251 = .ok (.iload 5, 2) := by decide +kernel
theorem d_M_holds_253 : decode b_M_holds 253 = .ok (.baload, 1) := by decide +kernel
theorem d_M_holds_254 : decode b_M_holds 254 = .ok (.ifCond .eq (7), 3) := by decide +kernel
theorem d_M_holds_257 : decode b_M_holds 257 = .ok (.iconst 1, 1) := by decide +kernel
theorem d_M_holds_258 : decode b_M_holds 258 = .ok (.goto (4), 3) := by decide +kernel
theorem d_M_holds_261 : decode b_M_holds 261 = .ok (.iconst 0, 1) := by decide +kernel
theorem d_M_holds_262 : decode b_M_holds 262 = .ok (.bastore, 1) := by decide +kernel
theorem d_M_holds_263 : decode b_M_holds 263 = .ok (.iinc 6 (1), 3) := by decide +kernel
theorem d_M_holds_266 : decode b_M_holds 266 = .ok (.goto (-260), 3) := by decide +kernel
theorem d_M_holds_269 : decode b_M_holds 269 = .ok (.aload_n 0, 1) := by decide +kernel
theorem d_M_holds_270 : decode b_M_holds 270 = .ok (.getfield 73, 3) := by decide +kernel
theorem d_M_holds_273 : decode b_M_holds 273 = .ok (.iconst 0, 1) := by decide +kernel
theorem d_M_holds_274 : decode b_M_holds 274 = .ok (.baload, 1) := by decide +kernel
theorem d_M_holds_275 : decode b_M_holds 275 = .ok (.ireturn, 1) := by decide +kernel
def F_M_holds_257 (rec6 : Nat → Int32 → Int32 → Int32 → Int32 → Int32 → Int32 → AW → Option (Int32 × AW)) (a0 : Nat) (x1 : Int32) (x2 : Int32) (x3 : Int32) (x4 : Int32) (x5 : Int32) (x6 : Int32) (s1 : Int32) (s0 : Nat) (w : AW) : Option (Int32 × AW) :=
  gd (wk w s0 == 104) <|
  gd (inb s1 (wn w s0)) <|
  let w3 : AW := upI w s0 (Int32.toNatClampNeg s1) ((1 : Int32) &&& 1)
  let v4 : Int32 := (x6 + (1 : Int32))
  rec6 a0 x1 x2 x3 x4 x5 v4 w3
theorem P_M_holds_257 {X : AX} {l : Launch} {G : AG} {rec6 : Nat → Int32 → Int32 → Int32 → Int32 → Int32 → Int32 → AW → Option (Int32 × AW)} (hX : XOK X b_M_holds "RedSkyModel" 10) (hM : XM X l G { frames := 1, cells := 0, slots := 0, locals := 22 }) {o : Int32 × AW} (hR : XR X (some .boolean) 0 0 (some (vi o.1)) o.2) (hrec6 : ∀ (a0 : Nat) (x1 : Int32) (x2 : Int32) (x3 : Int32) (x4 : Int32) (x5 : Int32) (x6 : Int32) (w : AW), rec6 a0 x1 x2 x3 x4 x5 x6 w = some o → RJ X 10 0 0 6 [(0, vr a0), (1, vi x1), (2, vi x2), (3, vi x3), (4, vi x4), (5, vi x5), (6, vi x6)] [] w) (a0 : Nat) (x1 : Int32) (x2 : Int32) (x3 : Int32) (x4 : Int32) (x5 : Int32) (x6 : Int32) (s1 : Int32) (s0 : Nat) (w : AW) (h : F_M_holds_257 rec6 a0 x1 x2 x3 x4 x5 x6 s1 s0 w = some o) : RJ X 10 0 0 257 [(0, vr a0), (1, vi x1), (2, vi x2), (3, vi x3), (4, vi x4), (5, vi x5), (6, vi x6)] [vi s1, vr s0] w := by
  unfold F_M_holds_257 at h
  refine r_iconst (v := (1 : Int32)) hX d_M_holds_257 rfl ?_
  refine r_goto hX d_M_holds_258 rfl ?_
  obtain ⟨hk1, h⟩ := gd_e h
  obtain ⟨hg2, h⟩ := gd_e h
  refine r_zast hX hk1 hg2 d_M_holds_262 ?_
  refine r_iinc (i := 6) (v := (1 : Int32)) hX d_M_holds_263 6 rfl rfl (by decide) ?_
  refine r_goto hX d_M_holds_266 rfl ?_
  exact rj_sub [1, 2, 3, 4, 5, 6, 0] rfl (hrec6 _ _ _ _ _ _ _ _ h)
def F_M_holds_231 (rec6 : Nat → Int32 → Int32 → Int32 → Int32 → Int32 → Int32 → AW → Option (Int32 × AW)) (a0 : Nat) (x1 : Int32) (x2 : Int32) (x3 : Int32) (x4 : Int32) (x5 : Int32) (x6 : Int32) (s1 : Int32) (s0 : Nat) (w : AW) : Option (Int32 × AW) :=
  gd (wk w s0 == 104) <|
  gd (inb s1 (wn w s0)) <|
  let w3 : AW := upI w s0 (Int32.toNatClampNeg s1) ((0 : Int32) &&& 1)
  let v4 : Int32 := (x6 + (1 : Int32))
  rec6 a0 x1 x2 x3 x4 x5 v4 w3
theorem P_M_holds_231 {X : AX} {l : Launch} {G : AG} {rec6 : Nat → Int32 → Int32 → Int32 → Int32 → Int32 → Int32 → AW → Option (Int32 × AW)} (hX : XOK X b_M_holds "RedSkyModel" 10) (hM : XM X l G { frames := 1, cells := 0, slots := 0, locals := 22 }) {o : Int32 × AW} (hR : XR X (some .boolean) 0 0 (some (vi o.1)) o.2) (hrec6 : ∀ (a0 : Nat) (x1 : Int32) (x2 : Int32) (x3 : Int32) (x4 : Int32) (x5 : Int32) (x6 : Int32) (w : AW), rec6 a0 x1 x2 x3 x4 x5 x6 w = some o → RJ X 10 0 0 6 [(0, vr a0), (1, vi x1), (2, vi x2), (3, vi x3), (4, vi x4), (5, vi x5), (6, vi x6)] [] w) (a0 : Nat) (x1 : Int32) (x2 : Int32) (x3 : Int32) (x4 : Int32) (x5 : Int32) (x6 : Int32) (s1 : Int32) (s0 : Nat) (w : AW) (h : F_M_holds_231 rec6 a0 x1 x2 x3 x4 x5 x6 s1 s0 w = some o) : RJ X 10 0 0 231 [(0, vr a0), (1, vi x1), (2, vi x2), (3, vi x3), (4, vi x4), (5, vi x5), (6, vi x6)] [vi s1, vr s0] w := by
  unfold F_M_holds_231 at h
  refine r_iconst (v := (0 : Int32)) hX d_M_holds_231 rfl ?_
  refine r_goto hX d_M_holds_232 rfl ?_
  obtain ⟨hk1, h⟩ := gd_e h
  obtain ⟨hg2, h⟩ := gd_e h
  refine r_zast hX hk1 hg2 d_M_holds_262 ?_
  refine r_iinc (i := 6) (v := (1 : Int32)) hX d_M_holds_263 6 rfl rfl (by decide) ?_
  refine r_goto hX d_M_holds_266 rfl ?_
  exact rj_sub [1, 2, 3, 4, 5, 6, 0] rfl (hrec6 _ _ _ _ _ _ _ _ h)
def F_M_holds_144 (rec6 : Nat → Int32 → Int32 → Int32 → Int32 → Int32 → Int32 → AW → Option (Int32 × AW)) (a0 : Nat) (x1 : Int32) (x2 : Int32) (x3 : Int32) (x4 : Int32) (x5 : Int32) (x6 : Int32) (s2 : Int32) (s1 : Int32) (s0 : Nat) (w : AW) : Option (Int32 × AW) :=
  gd (wk w s0 == 104) <|
  gd (inb s1 (wn w s0)) <|
  let w3 : AW := upI w s0 (Int32.toNatClampNeg s1) (s2 &&& 1)
  let v4 : Int32 := (x5 + (1 : Int32))
  let v5 : Int32 := (x6 + (1 : Int32))
  rec6 a0 x1 x2 x3 x4 v4 v5 w3
theorem P_M_holds_144 {X : AX} {l : Launch} {G : AG} {rec6 : Nat → Int32 → Int32 → Int32 → Int32 → Int32 → Int32 → AW → Option (Int32 × AW)} (hX : XOK X b_M_holds "RedSkyModel" 10) (hM : XM X l G { frames := 1, cells := 0, slots := 0, locals := 22 }) {o : Int32 × AW} (hR : XR X (some .boolean) 0 0 (some (vi o.1)) o.2) (hrec6 : ∀ (a0 : Nat) (x1 : Int32) (x2 : Int32) (x3 : Int32) (x4 : Int32) (x5 : Int32) (x6 : Int32) (w : AW), rec6 a0 x1 x2 x3 x4 x5 x6 w = some o → RJ X 10 0 0 6 [(0, vr a0), (1, vi x1), (2, vi x2), (3, vi x3), (4, vi x4), (5, vi x5), (6, vi x6)] [] w) (a0 : Nat) (x1 : Int32) (x2 : Int32) (x3 : Int32) (x4 : Int32) (x5 : Int32) (x6 : Int32) (s2 : Int32) (s1 : Int32) (s0 : Nat) (w : AW) (h : F_M_holds_144 rec6 a0 x1 x2 x3 x4 x5 x6 s2 s1 s0 w = some o) : RJ X 10 0 0 144 [(0, vr a0), (1, vi x1), (2, vi x2), (3, vi x3), (4, vi x4), (5, vi x5), (6, vi x6)] [vi s2, vi s1, vr s0] w := by
  unfold F_M_holds_144 at h
  obtain ⟨hk1, h⟩ := gd_e h
  obtain ⟨hg2, h⟩ := gd_e h
  refine r_zast hX hk1 hg2 d_M_holds_144 ?_
  refine r_iinc (i := 5) (v := (1 : Int32)) hX d_M_holds_145 5 rfl rfl (by decide) ?_
  refine r_goto hX d_M_holds_148 rfl ?_
  refine r_iinc (i := 6) (v := (1 : Int32)) hX d_M_holds_263 6 rfl rfl (by decide) ?_
  refine r_goto hX d_M_holds_266 rfl ?_
  exact rj_sub [2, 3, 4, 5, 6, 1, 0] rfl (hrec6 _ _ _ _ _ _ _ _ h)
def F_M_holds_6_B (rec6 : Nat → Int32 → Int32 → Int32 → Int32 → Int32 → Int32 → AW → Option (Int32 × AW)) (a0 : Nat) (x1 : Int32) (x2 : Int32) (x3 : Int32) (x4 : Int32) (x5 : Int32) (x6 : Int32) (w : AW) : Option (Int32 × AW) :=
  gd (wk w a0 == 13) <|
  gd (wk w (wr w a0 33) == 100) <|
  gd (inb (((2 : Int32) * x1) + x2) (wn w (wr w a0 33))) <|
  if (wi w (wr w a0 33) (Int32.toNatClampNeg (((2 : Int32) * x1) + x2))) ≤ x6 then
    gd (wk w (wr w a0 39) == 104) <|
    gd (inb (0 : Int32) (wn w (wr w a0 39))) <|
    gd ((wi w (wr w a0 39) (Int32.toNatClampNeg (0 : Int32))) == 0 || (wi w (wr w a0 39) (Int32.toNatClampNeg (0 : Int32))) == 1) <|
    some ((wi w (wr w a0 39) (Int32.toNatClampNeg (0 : Int32))), w)
  else
    gd (wk w (wr w a0 31) == 100) <|
    gd (inb (((80 : Int32) * (((2 : Int32) * x1) + x2)) + x6) (wn w (wr w a0 31))) <|
    let v9 : Int32 := (wi w (wr w a0 31) (Int32.toNatClampNeg (((80 : Int32) * (((2 : Int32) * x1) + x2)) + x6)))
    if (12 : Int32) ≤ v9 then
      if v9 = (12 : Int32) then
        gd (wk w (wr w a0 39) == 104) <|
        gd (inb (x5 - (1 : Int32)) (wn w (wr w a0 39))) <|
        if (wi w (wr w a0 39) (Int32.toNatClampNeg (x5 - (1 : Int32)))) = 0 then
          gd (inb (x5 - (1 : Int32)) (wn w (wr w a0 39))) <|
          let w29 : AW := upI w (wr w a0 39) (Int32.toNatClampNeg (x5 - (1 : Int32))) ((1 : Int32) &&& 1)
          let v30 : Int32 := (x6 + (1 : Int32))
          rec6 a0 x1 x2 x3 x4 x5 v30 w29
        else
          gd (inb (x5 - (1 : Int32)) (wn w (wr w a0 39))) <|
          let w26 : AW := upI w (wr w a0 39) (Int32.toNatClampNeg (x5 - (1 : Int32))) ((0 : Int32) &&& 1)
          let v27 : Int32 := (x6 + (1 : Int32))
          rec6 a0 x1 x2 x3 x4 x5 v27 w26
      else
        let v10 : Int32 := (x5 + (-1 : Int32))
        if v9 = (13 : Int32) then
          gd (wk w (wr w a0 39) == 104) <|
          gd (inb (v10 - (1 : Int32)) (wn w (wr w a0 39))) <|
          if (wi w (wr w a0 39) (Int32.toNatClampNeg (v10 - (1 : Int32)))) = 0 then
            F_M_holds_231 rec6 a0 x1 x2 x3 x4 v10 x6 (v10 - (1 : Int32)) (wr w a0 39) w
          else
            gd (inb v10 (wn w (wr w a0 39))) <|
            if (wi w (wr w a0 39) (Int32.toNatClampNeg v10)) = 0 then
              F_M_holds_231 rec6 a0 x1 x2 x3 x4 v10 x6 (v10 - (1 : Int32)) (wr w a0 39) w
            else
              gd (inb (v10 - (1 : Int32)) (wn w (wr w a0 39))) <|
              let w21 : AW := upI w (wr w a0 39) (Int32.toNatClampNeg (v10 - (1 : Int32))) ((1 : Int32) &&& 1)
              let v22 : Int32 := (x6 + (1 : Int32))
              rec6 a0 x1 x2 x3 x4 v10 v22 w21
        else
          gd (wk w (wr w a0 39) == 104) <|
          gd (inb (v10 - (1 : Int32)) (wn w (wr w a0 39))) <|
          if (wi w (wr w a0 39) (Int32.toNatClampNeg (v10 - (1 : Int32)))) = 0 then
            gd (inb v10 (wn w (wr w a0 39))) <|
            if (wi w (wr w a0 39) (Int32.toNatClampNeg v10)) = 0 then
              gd (inb (v10 - (1 : Int32)) (wn w (wr w a0 39))) <|
              let w15 : AW := upI w (wr w a0 39) (Int32.toNatClampNeg (v10 - (1 : Int32))) ((0 : Int32) &&& 1)
              let v16 : Int32 := (x6 + (1 : Int32))
              rec6 a0 x1 x2 x3 x4 v10 v16 w15
            else
              F_M_holds_257 rec6 a0 x1 x2 x3 x4 v10 x6 (v10 - (1 : Int32)) (wr w a0 39) w
          else
            F_M_holds_257 rec6 a0 x1 x2 x3 x4 v10 x6 (v10 - (1 : Int32)) (wr w a0 39) w
    else
      gd (wk w (wr w a0 5) == 100) <|
      gd (inb (F_M_at x3 x4 (v9 / (3 : Int32))) (wn w (wr w a0 5))) <|
      let v33 : Int32 := (wi w (wr w a0 5) (Int32.toNatClampNeg (F_M_at x3 x4 (v9 / (3 : Int32)))))
      gd (wk w (wr w a0 32) == 100) <|
      gd (inb (((80 : Int32) * (((2 : Int32) * x1) + x2)) + x6) (wn w (wr w a0 32))) <|
      let v36 : Int32 := (wi w (wr w a0 32) (Int32.toNatClampNeg (((80 : Int32) * (((2 : Int32) * x1) + x2)) + x6)))
      if (irem v9 (3 : Int32)) = 0 then
        if v36 ≤ v33 then
          F_M_holds_144 rec6 a0 x1 x2 x3 x4 x5 x6 (0 : Int32) x5 (wr w a0 39) w
        else
          F_M_holds_144 rec6 a0 x1 x2 x3 x4 x5 x6 (1 : Int32) x5 (wr w a0 39) w
      else
        if (irem v9 (3 : Int32)) = (1 : Int32) then
          if v33 = v36 then
            F_M_holds_144 rec6 a0 x1 x2 x3 x4 x5 x6 (1 : Int32) x5 (wr w a0 39) w
          else
            F_M_holds_144 rec6 a0 x1 x2 x3 x4 x5 x6 (0 : Int32) x5 (wr w a0 39) w
        else
          if v33 ≤ v36 then
            F_M_holds_144 rec6 a0 x1 x2 x3 x4 x5 x6 (0 : Int32) x5 (wr w a0 39) w
          else
            F_M_holds_144 rec6 a0 x1 x2 x3 x4 x5 x6 (1 : Int32) x5 (wr w a0 39) w
theorem P_M_holds_6_B {X : AX} {l : Launch} {G : AG} {rec6 : Nat → Int32 → Int32 → Int32 → Int32 → Int32 → Int32 → AW → Option (Int32 × AW)} (hX : XOK X b_M_holds "RedSkyModel" 10) (hM : XM X l G { frames := 1, cells := 0, slots := 0, locals := 22 }) {o : Int32 × AW} (hR : XR X (some .boolean) 0 0 (some (vi o.1)) o.2) (hrec6 : ∀ (a0 : Nat) (x1 : Int32) (x2 : Int32) (x3 : Int32) (x4 : Int32) (x5 : Int32) (x6 : Int32) (w : AW), rec6 a0 x1 x2 x3 x4 x5 x6 w = some o → RJ X 10 0 0 6 [(0, vr a0), (1, vi x1), (2, vi x2), (3, vi x3), (4, vi x4), (5, vi x5), (6, vi x6)] [] w) (a0 : Nat) (x1 : Int32) (x2 : Int32) (x3 : Int32) (x4 : Int32) (x5 : Int32) (x6 : Int32) (w : AW) (h : F_M_holds_6_B rec6 a0 x1 x2 x3 x4 x5 x6 w = some o) : RJ X 10 0 0 6 [(0, vr a0), (1, vi x1), (2, vi x2), (3, vi x3), (4, vi x4), (5, vi x5), (6, vi x6)] [] w := by
  unfold F_M_holds_6_B at h
  refine r_iload (i := 6) hX d_M_holds_6 6  rfl ?_
  refine r_aload_n (i := 0) hX d_M_holds_8 0 rfl rfl ?_
  obtain ⟨hk1, h⟩ := gd_e h
  refine r_getR (i := 12) (f := 33) hX ci_12 (by decide) rfl fl_M_55 hk1 d_M_holds_9 ?_
  refine r_iconst (v := (2 : Int32)) hX d_M_holds_12 rfl ?_
  refine r_iload_n (i := 1) hX d_M_holds_13 1 rfl rfl ?_
  refine r_imul hX d_M_holds_14 ?_
  refine r_iload_n (i := 2) hX d_M_holds_15 2 rfl rfl ?_
  refine r_iadd hX d_M_holds_16 ?_
  obtain ⟨hk2, h⟩ := gd_e h
  obtain ⟨hg3, h⟩ := gd_e h
  refine r_iald hX hk2 hg3 d_M_holds_17 ?_
  refine r_icmp_ge hX d_M_holds_18 rfl h (fun h => ?_) (fun h => ?_)
  · refine r_aload_n (i := 0) hX d_M_holds_269 0 rfl rfl ?_
    refine r_getR (i := 12) (f := 39) hX ci_12 (by decide) rfl fl_M_73 hk1 d_M_holds_270 ?_
    refine r_iconst (v := (0 : Int32)) hX d_M_holds_273 rfl ?_
    obtain ⟨hk4, h⟩ := gd_e h
    obtain ⟨hg5, h⟩ := gd_e h
    refine r_zald hX hk4 hg5 d_M_holds_274 ?_
    obtain ⟨hg6, h⟩ := gd_e h
    cases h; exact r_zret hX hR (zn_ok hg6) d_M_holds_275
  · refine r_aload_n (i := 0) hX d_M_holds_21 0 rfl rfl ?_
    refine r_getR (i := 12) (f := 31) hX ci_12 (by decide) rfl fl_M_49 hk1 d_M_holds_22 ?_
    refine r_bipush (v := (80 : Int32)) hX d_M_holds_25 rfl ?_
    refine r_iconst (v := (2 : Int32)) hX d_M_holds_27 rfl ?_
    refine r_iload_n (i := 1) hX d_M_holds_28 1 rfl rfl ?_
    refine r_imul hX d_M_holds_29 ?_
    refine r_iload_n (i := 2) hX d_M_holds_30 2 rfl rfl ?_
    refine r_iadd hX d_M_holds_31 ?_
    refine r_imul hX d_M_holds_32 ?_
    refine r_iload (i := 6) hX d_M_holds_33 6  rfl ?_
    refine r_iadd hX d_M_holds_35 ?_
    obtain ⟨hk7, h⟩ := gd_e h
    obtain ⟨hg8, h⟩ := gd_e h
    refine r_iald hX hk7 hg8 d_M_holds_36 ?_
    refine r_istore (i := 7) hX d_M_holds_37  (by decide) ?_
    refine r_iload (i := 7) hX d_M_holds_39 0  rfl ?_
    refine r_bipush (v := (12 : Int32)) hX d_M_holds_41 rfl ?_
    refine r_icmp_ge hX d_M_holds_43 rfl h (fun h => ?_) (fun h => ?_)
    · refine r_iload (i := 7) hX d_M_holds_151 0  rfl ?_
      refine r_bipush (v := (12 : Int32)) hX d_M_holds_153 rfl ?_
      refine r_icmp_ne hX d_M_holds_155 rfl h (fun h => ?_) (fun h => ?_)
      · refine r_iinc (i := 5) (v := (-1 : Int32)) hX d_M_holds_187 6 rfl rfl (by decide) ?_
        refine r_aload_n (i := 0) hX d_M_holds_190 2 rfl rfl ?_
        refine r_getR (i := 12) (f := 39) hX ci_12 (by decide) rfl fl_M_73 hk1 d_M_holds_191 ?_
        refine r_iload (i := 5) hX d_M_holds_194 0  rfl ?_
        refine r_iconst (v := (1 : Int32)) hX d_M_holds_196 rfl ?_
        refine r_isub hX d_M_holds_197 ?_
        refine r_iload (i := 7) hX d_M_holds_198 1  rfl ?_
        refine r_bipush (v := (13 : Int32)) hX d_M_holds_200 rfl ?_
        refine r_icmp_ne hX d_M_holds_202 rfl h (fun h => ?_) (fun h => ?_)
        · refine r_aload_n (i := 0) hX d_M_holds_235 2 rfl rfl ?_
          refine r_getR (i := 12) (f := 39) hX ci_12 (by decide) rfl fl_M_73 hk1 d_M_holds_236 ?_
          refine r_iload (i := 5) hX d_M_holds_239 0  rfl ?_
          refine r_iconst (v := (1 : Int32)) hX d_M_holds_241 rfl ?_
          refine r_isub hX d_M_holds_242 ?_
          obtain ⟨hk11, h⟩ := gd_e h
          obtain ⟨hg12, h⟩ := gd_e h
          refine r_zald hX hk11 hg12 d_M_holds_243 ?_
          refine r_if_ne hX d_M_holds_244 rfl h (fun h => ?_) (fun h => ?_)
          · exact rj_sub [2, 3, 4, 5, 6, 0, 7] rfl (P_M_holds_257 hX hM hR hrec6 _ _ _ _ _ _ _ _ _ _ h)
          · refine r_aload_n (i := 0) hX d_M_holds_247 2 rfl rfl ?_
            refine r_getR (i := 12) (f := 39) hX ci_12 (by decide) rfl fl_M_73 hk1 d_M_holds_248 ?_
            refine r_iload (i := 5) hX d_M_holds_251 0  rfl ?_
            obtain ⟨hg13, h⟩ := gd_e h
            refine r_zald hX hk11 hg13 d_M_holds_253 ?_
            refine r_if_eq hX d_M_holds_254 rfl h (fun h => ?_) (fun h => ?_)
            · refine r_iconst (v := (0 : Int32)) hX d_M_holds_261 rfl ?_
              obtain ⟨hg14, h⟩ := gd_e h
              refine r_zast hX hk11 hg14 d_M_holds_262 ?_
              refine r_iinc (i := 6) (v := (1 : Int32)) hX d_M_holds_263 7 rfl rfl (by decide) ?_
              refine r_goto hX d_M_holds_266 rfl ?_
              exact rj_sub [3, 4, 5, 6, 7, 1, 0] rfl (hrec6 _ _ _ _ _ _ _ _ h)
            · exact rj_sub [2, 3, 4, 5, 6, 0, 7] rfl (P_M_holds_257 hX hM hR hrec6 _ _ _ _ _ _ _ _ _ _ h)
        · refine r_aload_n (i := 0) hX d_M_holds_205 2 rfl rfl ?_
          refine r_getR (i := 12) (f := 39) hX ci_12 (by decide) rfl fl_M_73 hk1 d_M_holds_206 ?_
          refine r_iload (i := 5) hX d_M_holds_209 0  rfl ?_
          refine r_iconst (v := (1 : Int32)) hX d_M_holds_211 rfl ?_
          refine r_isub hX d_M_holds_212 ?_
          obtain ⟨hk17, h⟩ := gd_e h
          obtain ⟨hg18, h⟩ := gd_e h
          refine r_zald hX hk17 hg18 d_M_holds_213 ?_
          refine r_if_eq hX d_M_holds_214 rfl h (fun h => ?_) (fun h => ?_)
          · exact rj_sub [2, 3, 4, 5, 6, 0, 7] rfl (P_M_holds_231 hX hM hR hrec6 _ _ _ _ _ _ _ _ _ _ h)
          · refine r_aload_n (i := 0) hX d_M_holds_217 2 rfl rfl ?_
            refine r_getR (i := 12) (f := 39) hX ci_12 (by decide) rfl fl_M_73 hk1 d_M_holds_218 ?_
            refine r_iload (i := 5) hX d_M_holds_221 0  rfl ?_
            obtain ⟨hg19, h⟩ := gd_e h
            refine r_zald hX hk17 hg19 d_M_holds_223 ?_
            refine r_if_eq hX d_M_holds_224 rfl h (fun h => ?_) (fun h => ?_)
            · exact rj_sub [2, 3, 4, 5, 6, 0, 7] rfl (P_M_holds_231 hX hM hR hrec6 _ _ _ _ _ _ _ _ _ _ h)
            · refine r_iconst (v := (1 : Int32)) hX d_M_holds_227 rfl ?_
              refine r_goto hX d_M_holds_228 rfl ?_
              obtain ⟨hg20, h⟩ := gd_e h
              refine r_zast hX hk17 hg20 d_M_holds_262 ?_
              refine r_iinc (i := 6) (v := (1 : Int32)) hX d_M_holds_263 7 rfl rfl (by decide) ?_
              refine r_goto hX d_M_holds_266 rfl ?_
              exact rj_sub [3, 4, 5, 6, 7, 1, 0] rfl (hrec6 _ _ _ _ _ _ _ _ h)
      · refine r_aload_n (i := 0) hX d_M_holds_158 1 rfl rfl ?_
        refine r_getR (i := 12) (f := 39) hX ci_12 (by decide) rfl fl_M_73 hk1 d_M_holds_159 ?_
        refine r_iload (i := 5) hX d_M_holds_162 6  rfl ?_
        refine r_iconst (v := (1 : Int32)) hX d_M_holds_164 rfl ?_
        refine r_isub hX d_M_holds_165 ?_
        refine r_aload_n (i := 0) hX d_M_holds_166 1 rfl rfl ?_
        refine r_getR (i := 12) (f := 39) hX ci_12 (by decide) rfl fl_M_73 hk1 d_M_holds_167 ?_
        refine r_iload (i := 5) hX d_M_holds_170 6  rfl ?_
        refine r_iconst (v := (1 : Int32)) hX d_M_holds_172 rfl ?_
        refine r_isub hX d_M_holds_173 ?_
        obtain ⟨hk23, h⟩ := gd_e h
        obtain ⟨hg24, h⟩ := gd_e h
        refine r_zald hX hk23 hg24 d_M_holds_174 ?_
        refine r_if_ne hX d_M_holds_175 rfl h (fun h => ?_) (fun h => ?_)
        · refine r_iconst (v := (0 : Int32)) hX d_M_holds_182 rfl ?_
          obtain ⟨hg25, h⟩ := gd_e h
          refine r_zast hX hk23 hg25 d_M_holds_183 ?_
          refine r_goto hX d_M_holds_184 rfl ?_
          refine r_iinc (i := 6) (v := (1 : Int32)) hX d_M_holds_263 7 rfl rfl (by decide) ?_
          refine r_goto hX d_M_holds_266 rfl ?_
          exact rj_sub [2, 3, 4, 5, 6, 7, 0] rfl (hrec6 _ _ _ _ _ _ _ _ h)
        · refine r_iconst (v := (1 : Int32)) hX d_M_holds_178 rfl ?_
          refine r_goto hX d_M_holds_179 rfl ?_
          obtain ⟨hg28, h⟩ := gd_e h
          refine r_zast hX hk23 hg28 d_M_holds_183 ?_
          refine r_goto hX d_M_holds_184 rfl ?_
          refine r_iinc (i := 6) (v := (1 : Int32)) hX d_M_holds_263 7 rfl rfl (by decide) ?_
          refine r_goto hX d_M_holds_266 rfl ?_
          exact rj_sub [2, 3, 4, 5, 6, 7, 0] rfl (hrec6 _ _ _ _ _ _ _ _ h)
    · refine r_aload_n (i := 0) hX d_M_holds_46 1 rfl rfl ?_
      refine r_getR (i := 12) (f := 5) hX ci_12 (by decide) rfl fl_M_22 hk1 d_M_holds_47 ?_
      refine r_iload_n (i := 3) hX d_M_holds_50 4 rfl rfl ?_
      refine r_iload (i := 4) hX d_M_holds_51 5  rfl ?_
      refine r_iload (i := 7) hX d_M_holds_53 0  rfl ?_
      refine r_iconst (v := (3 : Int32)) hX d_M_holds_55 rfl ?_
      refine r_idiv hX d_M_holds_56 (by decide) ?_
      refine r_callS1 (As := [_, _, _]) hX hM mw_M_167 (T_M_at _ _ _ _) rfl rfl ⟨Nat.le_refl _, Nat.le_refl _⟩ rfl rfl d_M_holds_57 ?_
      obtain ⟨hk31, h⟩ := gd_e h
      obtain ⟨hg32, h⟩ := gd_e h
      refine r_iald hX hk31 hg32 d_M_holds_60 ?_
      refine r_istore (i := 8) hX d_M_holds_61  (by decide) ?_
      refine r_aload_n (i := 0) hX d_M_holds_63 2 rfl rfl ?_
      refine r_getR (i := 12) (f := 32) hX ci_12 (by decide) rfl fl_M_52 hk1 d_M_holds_64 ?_
      refine r_bipush (v := (80 : Int32)) hX d_M_holds_67 rfl ?_
      refine r_iconst (v := (2 : Int32)) hX d_M_holds_69 rfl ?_
      refine r_iload_n (i := 1) hX d_M_holds_70 3 rfl rfl ?_
      refine r_imul hX d_M_holds_71 ?_
      refine r_iload_n (i := 2) hX d_M_holds_72 4 rfl rfl ?_
      refine r_iadd hX d_M_holds_73 ?_
      refine r_imul hX d_M_holds_74 ?_
      refine r_iload (i := 6) hX d_M_holds_75 8  rfl ?_
      refine r_iadd hX d_M_holds_77 ?_
      obtain ⟨hk34, h⟩ := gd_e h
      obtain ⟨hg35, h⟩ := gd_e h
      refine r_iald hX hk34 hg35 d_M_holds_78 ?_
      refine r_istore (i := 9) hX d_M_holds_79  (by decide) ?_
      refine r_aload_n (i := 0) hX d_M_holds_81 3 rfl rfl ?_
      refine r_getR (i := 12) (f := 39) hX ci_12 (by decide) rfl fl_M_73 hk1 d_M_holds_82 ?_
      refine r_iload (i := 5) hX d_M_holds_85 8  rfl ?_
      refine r_iload (i := 7) hX d_M_holds_87 2  rfl ?_
      refine r_iconst (v := (3 : Int32)) hX d_M_holds_89 rfl ?_
      refine r_irem hX d_M_holds_90 (by decide) ?_
      refine r_if_ne hX d_M_holds_91 rfl h (fun h => ?_) (fun h => ?_)
      · refine r_iload (i := 7) hX d_M_holds_109 2  rfl ?_
        refine r_iconst (v := (3 : Int32)) hX d_M_holds_111 rfl ?_
        refine r_irem hX d_M_holds_112 (by decide) ?_
        refine r_iconst (v := (1 : Int32)) hX d_M_holds_113 rfl ?_
        refine r_icmp_ne hX d_M_holds_114 rfl h (fun h => ?_) (fun h => ?_)
        · refine r_iload (i := 8) hX d_M_holds_132 1  rfl ?_
          refine r_iload (i := 9) hX d_M_holds_134 0  rfl ?_
          refine r_icmp_le hX d_M_holds_136 rfl h (fun h => ?_) (fun h => ?_)
          · refine r_iconst (v := (0 : Int32)) hX d_M_holds_143 rfl ?_
            exact rj_sub [3, 4, 5, 6, 7, 8, 9] rfl (P_M_holds_144 hX hM hR hrec6 _ _ _ _ _ _ _ _ _ _ _ h)
          · refine r_iconst (v := (1 : Int32)) hX d_M_holds_139 rfl ?_
            refine r_goto hX d_M_holds_140 rfl ?_
            exact rj_sub [3, 4, 5, 6, 7, 8, 9] rfl (P_M_holds_144 hX hM hR hrec6 _ _ _ _ _ _ _ _ _ _ _ h)
        · refine r_iload (i := 8) hX d_M_holds_117 1  rfl ?_
          refine r_iload (i := 9) hX d_M_holds_119 0  rfl ?_
          refine r_icmp_ne hX d_M_holds_121 rfl h (fun h => ?_) (fun h => ?_)
          · refine r_iconst (v := (0 : Int32)) hX d_M_holds_128 rfl ?_
            refine r_goto hX d_M_holds_129 rfl ?_
            exact rj_sub [3, 4, 5, 6, 7, 8, 9] rfl (P_M_holds_144 hX hM hR hrec6 _ _ _ _ _ _ _ _ _ _ _ h)
          · refine r_iconst (v := (1 : Int32)) hX d_M_holds_124 rfl ?_
            refine r_goto hX d_M_holds_125 rfl ?_
            exact rj_sub [3, 4, 5, 6, 7, 8, 9] rfl (P_M_holds_144 hX hM hR hrec6 _ _ _ _ _ _ _ _ _ _ _ h)
      · refine r_iload (i := 8) hX d_M_holds_94 1  rfl ?_
        refine r_iload (i := 9) hX d_M_holds_96 0  rfl ?_
        refine r_icmp_ge hX d_M_holds_98 rfl h (fun h => ?_) (fun h => ?_)
        · refine r_iconst (v := (0 : Int32)) hX d_M_holds_105 rfl ?_
          refine r_goto hX d_M_holds_106 rfl ?_
          exact rj_sub [3, 4, 5, 6, 7, 8, 9] rfl (P_M_holds_144 hX hM hR hrec6 _ _ _ _ _ _ _ _ _ _ _ h)
        · refine r_iconst (v := (1 : Int32)) hX d_M_holds_101 rfl ?_
          refine r_goto hX d_M_holds_102 rfl ?_
          exact rj_sub [3, 4, 5, 6, 7, 8, 9] rfl (P_M_holds_144 hX hM hR hrec6 _ _ _ _ _ _ _ _ _ _ _ h)
def F_M_holds_6 : Nat → Nat → Int32 → Int32 → Int32 → Int32 → Int32 → Int32 → AW → Option (Int32 × AW)
  | 0 => fun _ _ _ _ _ _ _ _ => none
  | n + 1 => fun a0 x1 x2 x3 x4 x5 x6 w => F_M_holds_6_B (F_M_holds_6 n) a0 x1 x2 x3 x4 x5 x6 w
theorem P_M_holds_6 {X : AX} {l : Launch} {G : AG} (hX : XOK X b_M_holds "RedSkyModel" 10) (hM : XM X l G { frames := 1, cells := 0, slots := 0, locals := 22 }) {o : Int32 × AW} (hR : XR X (some .boolean) 0 0 (some (vi o.1)) o.2) (fu : Nat) : ∀ (a0 : Nat) (x1 : Int32) (x2 : Int32) (x3 : Int32) (x4 : Int32) (x5 : Int32) (x6 : Int32) (w : AW), F_M_holds_6 fu a0 x1 x2 x3 x4 x5 x6 w = some o → RJ X 10 0 0 6 [(0, vr a0), (1, vi x1), (2, vi x2), (3, vi x3), (4, vi x4), (5, vi x5), (6, vi x6)] [] w := by
  induction fu with
  | zero => intro a0 x1 x2 x3 x4 x5 x6 w h; cases h
  | succ n9 ih => intro a0 x1 x2 x3 x4 x5 x6 w h; exact P_M_holds_6_B hX hM hR ih _ _ _ _ _ _ _ _ h
def F_M_holds (a0 : Nat) (x1 : Int32) (x2 : Int32) (x3 : Int32) (x4 : Int32) (w : AW) : Option (Int32 × AW) :=
  F_M_holds_6 FUEL a0 x1 x2 x3 x4 (0 : Int32) (0 : Int32) w
theorem P_M_holds_0 {X : AX} {l : Launch} {G : AG} (hX : XOK X b_M_holds "RedSkyModel" 10) (hM : XM X l G { frames := 1, cells := 0, slots := 0, locals := 22 }) {o : Int32 × AW} (hR : XR X (some .boolean) 0 0 (some (vi o.1)) o.2) (a0 : Nat) (x1 : Int32) (x2 : Int32) (x3 : Int32) (x4 : Int32) (w : AW) (h : F_M_holds a0 x1 x2 x3 x4 w = some o) : RJ X 10 0 0 0 [(0, vr a0), (1, vi x1), (2, vi x2), (3, vi x3), (4, vi x4)] [] w := by
  unfold F_M_holds at h
  refine r_iconst (v := (0 : Int32)) hX d_M_holds_0 rfl ?_
  refine r_istore (i := 5) hX d_M_holds_1  (by decide) ?_
  refine r_iconst (v := (0 : Int32)) hX d_M_holds_3 rfl ?_
  refine r_istore (i := 6) hX d_M_holds_4  (by decide) ?_
  exact rj_sub [2, 3, 4, 5, 6, 1, 0] rfl (P_M_holds_6 hX hM hR FUEL _ _ _ _ _ _ _ _ h)
theorem T_M_holds {l : Launch} {G : AG} (a0 : Nat) (x1 : Int32) (x2 : Int32) (x3 : Int32) (x4 : Int32) (w : AW) {o : Int32 × AW} (h : F_M_holds a0 x1 x2 x3 x4 w = some o) : Mt l G y_M_holds b_M_holds 10 (some (.boolean)) 1 22 0 0 [vr a0, vi x1, vi x2, vi x3, vi x4] w (some (vi o.1)) o.2 := mt_of (by decide) (Nat.le_of_ble_eq_true rfl) (fun X hX hR hM hI => P_M_holds_0 hX hM hR _ _ _ _ _ _ h)
/-! RedSkyModel.firstOf(III)I -/
theorem d_M_firstOf_0 : decode b_M_firstOf 0 = .ok (.aload_n 0, 1) := by decide +kernel
theorem d_M_firstOf_1 : decode b_M_firstOf 1 = .ok (.iload_n 1, 1) := by decide +kernel
theorem d_M_firstOf_2 : decode b_M_firstOf 2 = .ok (.iconst 0, 1) := by decide +kernel
theorem d_M_firstOf_3 : decode b_M_firstOf 3 = .ok (.iload_n 2, 1) := by decide +kernel
theorem d_M_firstOf_4 : decode b_M_firstOf 4 = .ok (.iload_n 3, 1) := by decide +kernel
theorem d_M_firstOf_5 : decode b_M_firstOf 5 = .ok (.invokevirtual 311, 3) := by decide +kernel
theorem d_M_firstOf_8 : decode b_M_firstOf 8 = .ok (.ifCond .eq (7), 3) := by decide +kernel
theorem d_M_firstOf_11 : decode b_M_firstOf 11 = .ok (.iconst (-1), 1) := by decide +kernel
theorem d_M_firstOf_12 : decode b_M_firstOf 12 = .ok (.goto (19), 3) := by decide +kernel
theorem d_M_firstOf_15 : decode b_M_firstOf 15 = .ok (.aload_n 0, 1) := by decide +kernel
theorem d_M_firstOf_16 : decode b_M_firstOf 16 = .ok (.iload_n 1, 1) := by decide +kernel
theorem d_M_firstOf_17 : decode b_M_firstOf 17 = .ok (.iconst 0, 1) := by decide +kernel
theorem d_M_firstOf_18 : decode b_M_firstOf 18 = .ok (.iload_n 2, 1) := by decide +kernel
theorem d_M_firstOf_19 : decode b_M_firstOf 19 = .ok (.iload_n 3, 1) := by decide +kernel
theorem d_M_firstOf_20 : decode b_M_firstOf 20 = .ok (.invokevirtual 315, 3) := by decide +kernel
theorem d_M_firstOf_23 : decode b_M_firstOf 23 = .ok (.ifCond .eq (7), 3) := by decide +kernel
theorem d_M_firstOf_26 : decode b_M_firstOf 26 = .ok (.iconst 1, 1) := by decide +kernel
theorem d_M_firstOf_27 : decode b_M_firstOf 27 = .ok (.goto (4), 3) := by decide +kernel
theorem d_M_firstOf_30 : decode b_M_firstOf 30 = .ok (.iconst 0, 1) := by decide +kernel
theorem d_M_firstOf_31 : decode b_M_firstOf 31 = .ok (.ireturn, 1) := by decide +kernel
def F_M_firstOf (a0 : Nat) (x1 : Int32) (x2 : Int32) (x3 : Int32) (w : AW) : Option (Int32 × AW) :=
  gd (wk w a0 == 13) <|
  (F_M_isOpen w a0 x1 (0 : Int32) x2 x3).bind fun r2 =>
  if r2 = 0 then
    (F_M_holds a0 x1 (0 : Int32) x2 x3 w).bind fun r4 =>
    if r4.1 = 0 then
      some ((0 : Int32), r4.2)
    else
      some ((1 : Int32), r4.2)
  else
    some ((-1 : Int32), w)
theorem P_M_firstOf_0 {X : AX} {l : Launch} {G : AG} (hX : XOK X b_M_firstOf "RedSkyModel" 4) (hM : XM X l G { frames := 2, cells := 0, slots := 0, locals := 51 }) {o : Int32 × AW} (hR : XR X (some .int) 0 0 (some (vi o.1)) o.2) (a0 : Nat) (x1 : Int32) (x2 : Int32) (x3 : Int32) (w : AW) (h : F_M_firstOf a0 x1 x2 x3 w = some o) : RJ X 4 0 0 0 [(0, vr a0), (1, vi x1), (2, vi x2), (3, vi x3)] [] w := by
  unfold F_M_firstOf at h
  refine r_aload_n (i := 0) hX d_M_firstOf_0 0 rfl rfl ?_
  refine r_iload_n (i := 1) hX d_M_firstOf_1 1 rfl rfl ?_
  refine r_iconst (v := (0 : Int32)) hX d_M_firstOf_2 rfl ?_
  refine r_iload_n (i := 2) hX d_M_firstOf_3 2 rfl rfl ?_
  refine r_iload_n (i := 3) hX d_M_firstOf_4 3 rfl rfl ?_
  obtain ⟨hk1, h⟩ := gd_e h
  obtain ⟨r2, hr3, h⟩ := bd_e h
  refine r_callV1 (As := [_, _, _, _]) hX hM mw_M_311 (T_M_isOpen _ _ _ _ _ _ hr3) (rc_of ci_12 hk1) rfl rfl ⟨Nat.le_refl _, Nat.le_refl _⟩ rfl rfl d_M_firstOf_5 ?_
  refine r_if_eq hX d_M_firstOf_8 rfl h (fun h => ?_) (fun h => ?_)
  · refine r_aload_n (i := 0) hX d_M_firstOf_15 0 rfl rfl ?_
    refine r_iload_n (i := 1) hX d_M_firstOf_16 1 rfl rfl ?_
    refine r_iconst (v := (0 : Int32)) hX d_M_firstOf_17 rfl ?_
    refine r_iload_n (i := 2) hX d_M_firstOf_18 2 rfl rfl ?_
    refine r_iload_n (i := 3) hX d_M_firstOf_19 3 rfl rfl ?_
    obtain ⟨r4, hr5, h⟩ := bd_e h
    refine r_callV1 (As := [_, _, _, _]) hX hM mw_M_315 (T_M_holds _ _ _ _ _ _ hr5) (rc_of ci_12 hk1) rfl rfl ⟨Nat.le_refl _, Nat.le_refl _⟩ rfl rfl d_M_firstOf_20 ?_
    refine r_if_eq hX d_M_firstOf_23 rfl h (fun h => ?_) (fun h => ?_)
    · refine r_iconst (v := (0 : Int32)) hX d_M_firstOf_30 rfl ?_
      cases h; exact r_iret hX hR d_M_firstOf_31
    · refine r_iconst (v := (1 : Int32)) hX d_M_firstOf_26 rfl ?_
      refine r_goto hX d_M_firstOf_27 rfl ?_
      cases h; exact r_iret hX hR d_M_firstOf_31
  · refine r_iconst (v := (-1 : Int32)) hX d_M_firstOf_11 rfl ?_
    refine r_goto hX d_M_firstOf_12 rfl ?_
    cases h; exact r_iret hX hR d_M_firstOf_31
theorem T_M_firstOf {l : Launch} {G : AG} (a0 : Nat) (x1 : Int32) (x2 : Int32) (x3 : Int32) (w : AW) {o : Int32 × AW} (h : F_M_firstOf a0 x1 x2 x3 w = some o) : Mt l G y_M_firstOf b_M_firstOf 4 (some (.int)) 2 51 0 0 [vr a0, vi x1, vi x2, vi x3] w (some (vi o.1)) o.2 := mt_of (by decide) (Nat.le_of_ble_eq_true rfl) (fun X hX hR hM hI => P_M_firstOf_0 hX hM hR _ _ _ _ _ h)
/-! RedSkyModel.secondOf(III)I -/
theorem d_M_secondOf_0 : decode b_M_secondOf 0 = .ok (.iload_n 3, 1) := by decide +kernel
theorem d_M_secondOf_1 : decode b_M_secondOf 1 = .ok (.aload_n 0, 1) := by decide +kernel
theorem d_M_secondOf_2 : decode b_M_secondOf 2 = .ok (.getfield 46, 3) := by decide +kernel
theorem d_M_secondOf_5 : decode b_M_secondOf 5 = .ok (.bipush (12), 2) := by decide +kernel
theorem d_M_secondOf_7 : decode b_M_secondOf 7 = .ok (.iload_n 1, 1) := by decide +kernel
theorem d_M_secondOf_8 : decode b_M_secondOf 8 = .ok (.imul, 1) := by decide +kernel
theorem d_M_secondOf_9 : decode b_M_secondOf 9 = .ok (.iconst 2, 1) := by decide +kernel
theorem d_M_secondOf_10 : decode b_M_secondOf 10 = .ok (.iadd, 1) := by decide +kernel
theorem d_M_secondOf_11 : decode b_M_secondOf 11 = .ok (.iaload, 1) := by decide +kernel
theorem d_M_secondOf_12 : decode b_M_secondOf 12 = .ok (.iadd, 1) := by decide +kernel
theorem d_M_secondOf_13 : decode b_M_secondOf 13 = .ok (.istore 4, 2) := by decide +kernel
theorem d_M_secondOf_15 : decode b_M_secondOf 15 = .ok (.iload_n 3, 1) := by decide +kernel
theorem d_M_secondOf_16 : decode b_M_secondOf 16 = .ok (.aload_n 0, 1) := by decide +kernel
theorem d_M_secondOf_17 : decode b_M_secondOf 17 = .ok (.getfield 46, 3) := by decide +kernel
theorem d_M_secondOf_20 : decode b_M_secondOf 20 = .ok (.bipush (12), 2) := by decide +kernel
theorem d_M_secondOf_22 : decode b_M_secondOf 22 = .ok (.iload_n 1, 1) := by decide +kernel
theorem d_M_secondOf_23 : decode b_M_secondOf 23 = .ok (.imul, 1) := by decide +kernel
theorem d_M_secondOf_24 : decode b_M_secondOf 24 = .ok (.iconst 3, 1) := by decide +kernel
theorem d_M_secondOf_25 : decode b_M_secondOf 25 = .ok (.iadd, 1) := by decide +kernel
theorem d_M_secondOf_26 : decode b_M_secondOf 26 = .ok (.iaload, 1) := by decide +kernel
theorem d_M_secondOf_27 : decode b_M_secondOf 27 = .ok (.iadd, 1) := by decide +kernel
theorem d_M_secondOf_28 : decode b_M_secondOf 28 = .ok (.istore 5, 2) := by decide +kernel
theorem d_M_secondOf_30 : decode b_M_secondOf 30 = .ok (.iload 5, 2) := by decide +kernel
theorem d_M_secondOf_32 : decode b_M_secondOf 32 = .ok (.sipush (1461), 3) := by decide +kernel
theorem d_M_secondOf_35 : decode b_M_secondOf 35 = .ok (.if_icmp .lt (5), 3) := by decide +kernel
theorem d_M_secondOf_38 : decode b_M_secondOf 38 = .ok (.iconst (-1), 1) := by decide +kernel
theorem d_M_secondOf_39 : decode b_M_secondOf 39 = .ok (.ireturn, 1) := by decide +kernel
theorem d_M_secondOf_40 : decode b_M_secondOf 40 = .ok (.iconst 0, 1) := by decide +kernel
theorem d_M_secondOf_41 : decode b_M_secondOf 41 = .ok (.istore 6, 2) := by decide +kernel
theorem d_M_secondOf_43 : decode b_M_secondOf 43 = .ok (.iconst 1, 1) := by decide +kernel
theorem d_M_secondOf_44 : decode b_M_secondOf 44 = .ok (.istore 7, 2) := by decide +kernel
theorem d_M_secondOf_46 : decode b_M_secondOf 46 = .ok (.iload 4, 2) := by decide +kernel
theorem d_M_secondOf_48 : decode b_M_secondOf 48 = .ok (.istore 8, 2) := by decide +kernel
theorem d_M_secondOf_50 : decode b_M_secondOf 50 = .ok (.iload 8, 2) := by decide +kernel
theorem d_M_secondOf_52 : decode b_M_secondOf 52 = .ok (.iload 5, 2) := by decide +kernel
theorem d_M_secondOf_54 : decode b_M_secondOf 54 = .ok (.if_icmp .gt (68), 3) := by decide +kernel
theorem d_M_secondOf_57 : decode b_M_secondOf 57 = .ok (.aload_n 0, 1) := by decide +kernel
theorem d_M_secondOf_58 : decode b_M_secondOf 58 = .ok (.iload_n 1, 1) := by decide +kernel
theorem d_M_secondOf_59 : decode b_M_secondOf 59 = .ok (.iconst 1, 1) := by decide +kernel
theorem d_M_secondOf_60 : decode b_M_secondOf 60 = .ok (.iload_n 2, 1) := by decide +kernel
theorem d_M_secondOf_61 : decode b_M_secondOf 61 = .ok (.iload 8, 2) := by decide +kernel
theorem d_M_secondOf_63 : decode b_M_secondOf 63 = .ok (.invokevirtual 311, 3) := by decide +kernel
theorem d_M_secondOf_66 : decode b_M_secondOf 66 = .ok (.ifCond .eq (5), 3) := by decide +kernel
theorem d_M_secondOf_69 : decode b_M_secondOf 69 = .ok (.iconst (-1), 1) := by decide +kernel
theorem d_M_secondOf_70 : decode b_M_secondOf 70 = .ok (.ireturn, 1) := by decide +kernel
theorem d_M_secondOf_71 : decode b_M_secondOf 71 = .ok (.aload_n 0, 1) := by decide +kernel
theorem d_M_secondOf_72 : decode b_M_secondOf 72 = .ok (.iload_n 1, 1) := by decide +kernel
theorem d_M_secondOf_73 : decode b_M_secondOf 73 = .ok (.iconst 1, 1) := by decide +kernel
theorem d_M_secondOf_74 : decode b_M_secondOf 74 = .ok (.iload_n 2, 1) := by decide +kernel
theorem d_M_secondOf_75 : decode b_M_secondOf 75 = .ok (.iload 8, 2) := by decide +kernel
theorem d_M_secondOf_77 : decode b_M_secondOf 77 = .ok (.invokevirtual 315, 3) := by decide +kernel
theorem d_M_secondOf_80 : decode b_M_secondOf 80 = .ok (.istore 9, 2) := by decide +kernel
theorem d_M_secondOf_82 : decode b_M_secondOf 82 = .ok (.iload 6, 2) := by decide +kernel
theorem d_M_secondOf_84 : decode b_M_secondOf 84 = .ok (.ifCond .ne (8), 3) := by decide +kernel
theorem d_M_secondOf_87 : decode b_M_secondOf 87 = .ok (.iload 9, 2) := by decide +kernel
theorem d_M_secondOf_89 : decode b_M_secondOf 89 = .ok (.ifCond .eq (7), 3) := by decide +kernel
theorem d_M_secondOf_92 : decode b_M_secondOf 92 = .ok (.iconst 1, 1) := by decide +kernel
theorem d_M_secondOf_93 : decode b_M_secondOf 93 = .ok (.goto (4), 3) := by decide +kernel
theorem d_M_secondOf_96 : decode b_M_secondOf 96 = .ok (.iconst 0, 1) := by decide +kernel
theorem d_M_secondOf_97 : decode b_M_secondOf 97 = .ok (.istore 6, 2) := by decide +kernel
theorem d_M_secondOf_99 : decode b_M_secondOf 99 = .ok (.iload 7, 2) := by decide +kernel
theorem d_M_secondOf_101 : decode b_M_secondOf 101 = .ok (.ifCond .eq (12), 3) := by decide +kernel
theorem d_M_secondOf_104 : decode b_M_secondOf 104 = .ok (.iload 9, 2) := by decide +kernel
theorem d_M_secondOf_106 : decode b_M_secondOf 106 = .ok (.ifCond .eq (7), 3) := by decide +kernel
theorem d_M_secondOf_109 : decode b_M_secondOf 109 = .ok (.iconst 1, 1) := by decide +kernel
theorem d_M_secondOf_110 : decode b_M_secondOf 110 = .ok (.goto (4), 3) := by decide +kernel
theorem d_M_secondOf_113 : decode b_M_secondOf 113 = .ok (.iconst 0, 1) := by decide +kernel
theorem d_M_secondOf_114 : decode b_M_secondOf 114 = .ok (.istore 7, 2) := by decide +kernel
theorem d_M_secondOf_116 : decode b_M_secondOf 116 = .ok (.iinc 8 (1), 3) := by decide +kernel
theorem d_M_secondOf_119 : decode b_M_secondOf 119 = .ok (.goto (-69), 3) := by decide +kernel
theorem d_M_secondOf_122 : decode b_M_secondOf 122 = .ok (.aload_n 0, 1) := by decide +kernel
theorem d_M_secondOf_123 : decode b_M_secondOf 123 = .ok (.getfield 46, 3) := by decide +kernel
theorem d_M_secondOf_126 : decode b_M_secondOf 126 = .ok (.bipush (12), 2) := by decide +kernel
theorem d_M_secondOf_128 : decode b_M_secondOf 128 = .ok (.iload_n 1, 1) := by decide +kernel
theorem d_M_secondOf_129 : decode b_M_secondOf 129 = .ok (.imul, 1) := by decide +kernel
theorem d_M_secondOf_130 : decode b_M_secondOf 130 = .ok (.iconst 4, 1) := by decide +kernel
theorem d_M_secondOf_131 : decode b_M_secondOf 131 = .ok (.iadd, 1) := by decide +kernel
theorem d_M_secondOf_132 : decode b_M_secondOf 132 = .ok (.iaload, 1) := by decide +kernel
theorem d_M_secondOf_133 : decode b_M_secondOf 133 = .ok (.iconst 1, 1) := by decide +kernel
theorem d_M_secondOf_134 : decode b_M_secondOf 134 = .ok (.if_icmp .ne (11), 3) := by decide +kernel
theorem d_M_secondOf_137 : decode b_M_secondOf 137 = .ok (.iload 7, 2) := by decide +kernel
theorem d_M_secondOf_139 : decode b_M_secondOf 139 = .ok (.ifCond .eq (15), 3) := by decide +kernel
theorem d_M_secondOf_142 : decode b_M_secondOf 142 = .ok (.goto (8), 3) := by decide +kernel
theorem d_M_secondOf_145 : decode b_M_secondOf 145 = .ok (.iload 6, 2) := by decide +kernel
theorem d_M_secondOf_147 : decode b_M_secondOf 147 = .ok (.ifCond .eq (7), 3) := by decide +kernel
theorem d_M_secondOf_150 : decode b_M_secondOf 150 = .ok (.iconst 1, 1) := by decide +kernel
theorem d_M_secondOf_151 : decode b_M_secondOf 151 = .ok (.goto (4), 3) := by decide +kernel
theorem d_M_secondOf_154 : decode b_M_secondOf 154 = .ok (.iconst 0, 1) := by decide +kernel
theorem d_M_secondOf_155 : decode b_M_secondOf 155 = .ok (.ireturn, 1) := by decide +kernel
def F_M_secondOf_97 (rec50 : Nat → Int32 → Int32 → Int32 → Int32 → Int32 → Int32 → AW → Option (Int32 × AW)) (a0 : Nat) (x1 : Int32) (x2 : Int32) (x5 : Int32) (x7 : Int32) (x8 : Int32) (x9 : Int32) (s0 : Int32) (w : AW) : Option (Int32 × AW) :=
  if x7 = 0 then
    let v1 : Int32 := (x8 + (1 : Int32))
    rec50 a0 x1 x2 x5 s0 (0 : Int32) v1 w
  else
    if x9 = 0 then
      let v2 : Int32 := (x8 + (1 : Int32))
      rec50 a0 x1 x2 x5 s0 (0 : Int32) v2 w
    else
      let v3 : Int32 := (x8 + (1 : Int32))
      rec50 a0 x1 x2 x5 s0 (1 : Int32) v3 w
theorem P_M_secondOf_97 {X : AX} {l : Launch} {G : AG} {rec50 : Nat → Int32 → Int32 → Int32 → Int32 → Int32 → Int32 → AW → Option (Int32 × AW)} (hX : XOK X b_M_secondOf "RedSkyModel" 10) (hM : XM X l G { frames := 2, cells := 0, slots := 0, locals := 51 }) {o : Int32 × AW} (hR : XR X (some .int) 0 0 (some (vi o.1)) o.2) (hrec50 : ∀ (a0 : Nat) (x1 : Int32) (x2 : Int32) (x5 : Int32) (x6 : Int32) (x7 : Int32) (x8 : Int32) (w : AW), rec50 a0 x1 x2 x5 x6 x7 x8 w = some o → RJ X 10 0 0 50 [(0, vr a0), (1, vi x1), (2, vi x2), (5, vi x5), (6, vi x6), (7, vi x7), (8, vi x8)] [] w) (a0 : Nat) (x1 : Int32) (x2 : Int32) (x5 : Int32) (x7 : Int32) (x8 : Int32) (x9 : Int32) (s0 : Int32) (w : AW) (h : F_M_secondOf_97 rec50 a0 x1 x2 x5 x7 x8 x9 s0 w = some o) : RJ X 10 0 0 97 [(0, vr a0), (1, vi x1), (2, vi x2), (5, vi x5), (7, vi x7), (8, vi x8), (9, vi x9)] [vi s0] w := by
  unfold F_M_secondOf_97 at h
  refine r_istore (i := 6) hX d_M_secondOf_97  (by decide) ?_
  refine r_iload (i := 7) hX d_M_secondOf_99 5  rfl ?_
  refine r_if_eq hX d_M_secondOf_101 rfl h (fun h => ?_) (fun h => ?_)
  · refine r_iconst (v := (0 : Int32)) hX d_M_secondOf_113 rfl ?_
    refine r_istore (i := 7) hX d_M_secondOf_114  (by decide) ?_
    refine r_iinc (i := 8) (v := (1 : Int32)) hX d_M_secondOf_116 6 rfl rfl (by decide) ?_
    refine r_goto hX d_M_secondOf_119 rfl ?_
    exact rj_sub [3, 4, 5, 6, 2, 1, 0] rfl (hrec50 _ _ _ _ _ _ _ _ h)
  · refine r_iload (i := 9) hX d_M_secondOf_104 7  rfl ?_
    refine r_if_eq hX d_M_secondOf_106 rfl h (fun h => ?_) (fun h => ?_)
    · refine r_iconst (v := (0 : Int32)) hX d_M_secondOf_113 rfl ?_
      refine r_istore (i := 7) hX d_M_secondOf_114  (by decide) ?_
      refine r_iinc (i := 8) (v := (1 : Int32)) hX d_M_secondOf_116 6 rfl rfl (by decide) ?_
      refine r_goto hX d_M_secondOf_119 rfl ?_
      exact rj_sub [3, 4, 5, 6, 2, 1, 0] rfl (hrec50 _ _ _ _ _ _ _ _ h)
    · refine r_iconst (v := (1 : Int32)) hX d_M_secondOf_109 rfl ?_
      refine r_goto hX d_M_secondOf_110 rfl ?_
      refine r_istore (i := 7) hX d_M_secondOf_114  (by decide) ?_
      refine r_iinc (i := 8) (v := (1 : Int32)) hX d_M_secondOf_116 6 rfl rfl (by decide) ?_
      refine r_goto hX d_M_secondOf_119 rfl ?_
      exact rj_sub [3, 4, 5, 6, 2, 1, 0] rfl (hrec50 _ _ _ _ _ _ _ _ h)
def F_M_secondOf_50_B (rec50 : Nat → Int32 → Int32 → Int32 → Int32 → Int32 → Int32 → AW → Option (Int32 × AW)) (a0 : Nat) (x1 : Int32) (x2 : Int32) (x5 : Int32) (x6 : Int32) (x7 : Int32) (x8 : Int32) (w : AW) : Option (Int32 × AW) :=
  if x5 < x8 then
    gd (wk w a0 == 13) <|
    gd (wk w (wr w a0 30) == 100) <|
    gd (inb (((12 : Int32) * x1) + (4 : Int32)) (wn w (wr w a0 30))) <|
    if (wi w (wr w a0 30) (Int32.toNatClampNeg (((12 : Int32) * x1) + (4 : Int32)))) = (1 : Int32) then
      if x7 = 0 then
        some ((0 : Int32), w)
      else
        some ((1 : Int32), w)
    else
      if x6 = 0 then
        some ((0 : Int32), w)
      else
        some ((1 : Int32), w)
  else
    gd (wk w a0 == 13) <|
    (F_M_isOpen w a0 x1 (1 : Int32) x2 x8).bind fun r5 =>
    if r5 = 0 then
      (F_M_holds a0 x1 (1 : Int32) x2 x8 w).bind fun r7 =>
      let v9 : Int32 := r7.1
      if x6 = 0 then
        if v9 = 0 then
          F_M_secondOf_97 rec50 a0 x1 x2 x5 x7 x8 v9 (0 : Int32) r7.2
        else
          F_M_secondOf_97 rec50 a0 x1 x2 x5 x7 x8 v9 (1 : Int32) r7.2
      else
        F_M_secondOf_97 rec50 a0 x1 x2 x5 x7 x8 v9 (1 : Int32) r7.2
    else
      some ((-1 : Int32), w)
theorem P_M_secondOf_50_B {X : AX} {l : Launch} {G : AG} {rec50 : Nat → Int32 → Int32 → Int32 → Int32 → Int32 → Int32 → AW → Option (Int32 × AW)} (hX : XOK X b_M_secondOf "RedSkyModel" 10) (hM : XM X l G { frames := 2, cells := 0, slots := 0, locals := 51 }) {o : Int32 × AW} (hR : XR X (some .int) 0 0 (some (vi o.1)) o.2) (hrec50 : ∀ (a0 : Nat) (x1 : Int32) (x2 : Int32) (x5 : Int32) (x6 : Int32) (x7 : Int32) (x8 : Int32) (w : AW), rec50 a0 x1 x2 x5 x6 x7 x8 w = some o → RJ X 10 0 0 50 [(0, vr a0), (1, vi x1), (2, vi x2), (5, vi x5), (6, vi x6), (7, vi x7), (8, vi x8)] [] w) (a0 : Nat) (x1 : Int32) (x2 : Int32) (x5 : Int32) (x6 : Int32) (x7 : Int32) (x8 : Int32) (w : AW) (h : F_M_secondOf_50_B rec50 a0 x1 x2 x5 x6 x7 x8 w = some o) : RJ X 10 0 0 50 [(0, vr a0), (1, vi x1), (2, vi x2), (5, vi x5), (6, vi x6), (7, vi x7), (8, vi x8)] [] w := by
  unfold F_M_secondOf_50_B at h
  refine r_iload (i := 8) hX d_M_secondOf_50 6  rfl ?_
  refine r_iload (i := 5) hX d_M_secondOf_52 3  rfl ?_
  refine r_icmp_gt hX d_M_secondOf_54 rfl h (fun h => ?_) (fun h => ?_)
  · refine r_aload_n (i := 0) hX d_M_secondOf_122 0 rfl rfl ?_
    obtain ⟨hk1, h⟩ := gd_e h
    refine r_getR (i := 12) (f := 30) hX ci_12 (by decide) rfl fl_M_46 hk1 d_M_secondOf_123 ?_
    refine r_bipush (v := (12 : Int32)) hX d_M_secondOf_126 rfl ?_
    refine r_iload_n (i := 1) hX d_M_secondOf_128 1 rfl rfl ?_
    refine r_imul hX d_M_secondOf_129 ?_
    refine r_iconst (v := (4 : Int32)) hX d_M_secondOf_130 rfl ?_
    refine r_iadd hX d_M_secondOf_131 ?_
    obtain ⟨hk2, h⟩ := gd_e h
    obtain ⟨hg3, h⟩ := gd_e h
    refine r_iald hX hk2 hg3 d_M_secondOf_132 ?_
    refine r_iconst (v := (1 : Int32)) hX d_M_secondOf_133 rfl ?_
    refine r_icmp_ne hX d_M_secondOf_134 rfl h (fun h => ?_) (fun h => ?_)
    · refine r_iload (i := 6) hX d_M_secondOf_145 4  rfl ?_
      refine r_if_eq hX d_M_secondOf_147 rfl h (fun h => ?_) (fun h => ?_)
      · refine r_iconst (v := (0 : Int32)) hX d_M_secondOf_154 rfl ?_
        cases h; exact r_iret hX hR d_M_secondOf_155
      · refine r_iconst (v := (1 : Int32)) hX d_M_secondOf_150 rfl ?_
        refine r_goto hX d_M_secondOf_151 rfl ?_
        cases h; exact r_iret hX hR d_M_secondOf_155
    · refine r_iload (i := 7) hX d_M_secondOf_137 5  rfl ?_
      refine r_if_eq hX d_M_secondOf_139 rfl h (fun h => ?_) (fun h => ?_)
      · refine r_iconst (v := (0 : Int32)) hX d_M_secondOf_154 rfl ?_
        cases h; exact r_iret hX hR d_M_secondOf_155
      · refine r_goto hX d_M_secondOf_142 rfl ?_
        refine r_iconst (v := (1 : Int32)) hX d_M_secondOf_150 rfl ?_
        refine r_goto hX d_M_secondOf_151 rfl ?_
        cases h; exact r_iret hX hR d_M_secondOf_155
  · refine r_aload_n (i := 0) hX d_M_secondOf_57 0 rfl rfl ?_
    refine r_iload_n (i := 1) hX d_M_secondOf_58 1 rfl rfl ?_
    refine r_iconst (v := (1 : Int32)) hX d_M_secondOf_59 rfl ?_
    refine r_iload_n (i := 2) hX d_M_secondOf_60 2 rfl rfl ?_
    refine r_iload (i := 8) hX d_M_secondOf_61 6  rfl ?_
    obtain ⟨hk4, h⟩ := gd_e h
    obtain ⟨r5, hr6, h⟩ := bd_e h
    refine r_callV1 (As := [_, _, _, _]) hX hM mw_M_311 (T_M_isOpen _ _ _ _ _ _ hr6) (rc_of ci_12 hk4) rfl rfl ⟨Nat.le_refl _, Nat.le_refl _⟩ rfl rfl d_M_secondOf_63 ?_
    refine r_if_eq hX d_M_secondOf_66 rfl h (fun h => ?_) (fun h => ?_)
    · refine r_aload_n (i := 0) hX d_M_secondOf_71 0 rfl rfl ?_
      refine r_iload_n (i := 1) hX d_M_secondOf_72 1 rfl rfl ?_
      refine r_iconst (v := (1 : Int32)) hX d_M_secondOf_73 rfl ?_
      refine r_iload_n (i := 2) hX d_M_secondOf_74 2 rfl rfl ?_
      refine r_iload (i := 8) hX d_M_secondOf_75 6  rfl ?_
      obtain ⟨r7, hr8, h⟩ := bd_e h
      refine r_callV1 (As := [_, _, _, _]) hX hM mw_M_315 (T_M_holds _ _ _ _ _ _ hr8) (rc_of ci_12 hk4) rfl rfl ⟨Nat.le_refl _, Nat.le_refl _⟩ rfl rfl d_M_secondOf_77 ?_
      refine r_istore (i := 9) hX d_M_secondOf_80  (by decide) ?_
      refine r_iload (i := 6) hX d_M_secondOf_82 5  rfl ?_
      refine r_if_ne hX d_M_secondOf_84 rfl h (fun h => ?_) (fun h => ?_)
      · refine r_iconst (v := (1 : Int32)) hX d_M_secondOf_92 rfl ?_
        refine r_goto hX d_M_secondOf_93 rfl ?_
        exact rj_sub [1, 2, 3, 4, 6, 7, 0] rfl (P_M_secondOf_97 hX hM hR hrec50 _ _ _ _ _ _ _ _ _ h)
      · refine r_iload (i := 9) hX d_M_secondOf_87 0  rfl ?_
        refine r_if_eq hX d_M_secondOf_89 rfl h (fun h => ?_) (fun h => ?_)
        · refine r_iconst (v := (0 : Int32)) hX d_M_secondOf_96 rfl ?_
          exact rj_sub [1, 2, 3, 4, 6, 7, 0] rfl (P_M_secondOf_97 hX hM hR hrec50 _ _ _ _ _ _ _ _ _ h)
        · refine r_iconst (v := (1 : Int32)) hX d_M_secondOf_92 rfl ?_
          refine r_goto hX d_M_secondOf_93 rfl ?_
          exact rj_sub [1, 2, 3, 4, 6, 7, 0] rfl (P_M_secondOf_97 hX hM hR hrec50 _ _ _ _ _ _ _ _ _ h)
    · refine r_iconst (v := (-1 : Int32)) hX d_M_secondOf_69 rfl ?_
      cases h; exact r_iret hX hR d_M_secondOf_70
def F_M_secondOf_50 : Nat → Nat → Int32 → Int32 → Int32 → Int32 → Int32 → Int32 → AW → Option (Int32 × AW)
  | 0 => fun _ _ _ _ _ _ _ _ => none
  | n + 1 => fun a0 x1 x2 x5 x6 x7 x8 w => F_M_secondOf_50_B (F_M_secondOf_50 n) a0 x1 x2 x5 x6 x7 x8 w
theorem P_M_secondOf_50 {X : AX} {l : Launch} {G : AG} (hX : XOK X b_M_secondOf "RedSkyModel" 10) (hM : XM X l G { frames := 2, cells := 0, slots := 0, locals := 51 }) {o : Int32 × AW} (hR : XR X (some .int) 0 0 (some (vi o.1)) o.2) (fu : Nat) : ∀ (a0 : Nat) (x1 : Int32) (x2 : Int32) (x5 : Int32) (x6 : Int32) (x7 : Int32) (x8 : Int32) (w : AW), F_M_secondOf_50 fu a0 x1 x2 x5 x6 x7 x8 w = some o → RJ X 10 0 0 50 [(0, vr a0), (1, vi x1), (2, vi x2), (5, vi x5), (6, vi x6), (7, vi x7), (8, vi x8)] [] w := by
  induction fu with
  | zero => intro a0 x1 x2 x5 x6 x7 x8 w h; cases h
  | succ n9 ih => intro a0 x1 x2 x5 x6 x7 x8 w h; exact P_M_secondOf_50_B hX hM hR ih _ _ _ _ _ _ _ _ h
def F_M_secondOf (a0 : Nat) (x1 : Int32) (x2 : Int32) (x3 : Int32) (w : AW) : Option (Int32 × AW) :=
  gd (wk w a0 == 13) <|
  gd (wk w (wr w a0 30) == 100) <|
  gd (inb (((12 : Int32) * x1) + (2 : Int32)) (wn w (wr w a0 30))) <|
  let v4 : Int32 := (x3 + (wi w (wr w a0 30) (Int32.toNatClampNeg (((12 : Int32) * x1) + (2 : Int32)))))
  gd (inb (((12 : Int32) * x1) + (3 : Int32)) (wn w (wr w a0 30))) <|
  let v6 : Int32 := (x3 + (wi w (wr w a0 30) (Int32.toNatClampNeg (((12 : Int32) * x1) + (3 : Int32)))))
  if v6 < (1461 : Int32) then
    F_M_secondOf_50 FUEL a0 x1 x2 v6 (0 : Int32) (1 : Int32) v4 w
  else
    some ((-1 : Int32), w)
theorem P_M_secondOf_0 {X : AX} {l : Launch} {G : AG} (hX : XOK X b_M_secondOf "RedSkyModel" 10) (hM : XM X l G { frames := 2, cells := 0, slots := 0, locals := 51 }) {o : Int32 × AW} (hR : XR X (some .int) 0 0 (some (vi o.1)) o.2) (a0 : Nat) (x1 : Int32) (x2 : Int32) (x3 : Int32) (w : AW) (h : F_M_secondOf a0 x1 x2 x3 w = some o) : RJ X 10 0 0 0 [(0, vr a0), (1, vi x1), (2, vi x2), (3, vi x3)] [] w := by
  unfold F_M_secondOf at h
  refine r_iload_n (i := 3) hX d_M_secondOf_0 3 rfl rfl ?_
  refine r_aload_n (i := 0) hX d_M_secondOf_1 0 rfl rfl ?_
  obtain ⟨hk1, h⟩ := gd_e h
  refine r_getR (i := 12) (f := 30) hX ci_12 (by decide) rfl fl_M_46 hk1 d_M_secondOf_2 ?_
  refine r_bipush (v := (12 : Int32)) hX d_M_secondOf_5 rfl ?_
  refine r_iload_n (i := 1) hX d_M_secondOf_7 1 rfl rfl ?_
  refine r_imul hX d_M_secondOf_8 ?_
  refine r_iconst (v := (2 : Int32)) hX d_M_secondOf_9 rfl ?_
  refine r_iadd hX d_M_secondOf_10 ?_
  obtain ⟨hk2, h⟩ := gd_e h
  obtain ⟨hg3, h⟩ := gd_e h
  refine r_iald hX hk2 hg3 d_M_secondOf_11 ?_
  refine r_iadd hX d_M_secondOf_12 ?_
  refine r_istore (i := 4) hX d_M_secondOf_13  (by decide) ?_
  refine r_iload_n (i := 3) hX d_M_secondOf_15 4 rfl rfl ?_
  refine r_aload_n (i := 0) hX d_M_secondOf_16 1 rfl rfl ?_
  refine r_getR (i := 12) (f := 30) hX ci_12 (by decide) rfl fl_M_46 hk1 d_M_secondOf_17 ?_
  refine r_bipush (v := (12 : Int32)) hX d_M_secondOf_20 rfl ?_
  refine r_iload_n (i := 1) hX d_M_secondOf_22 2 rfl rfl ?_
  refine r_imul hX d_M_secondOf_23 ?_
  refine r_iconst (v := (3 : Int32)) hX d_M_secondOf_24 rfl ?_
  refine r_iadd hX d_M_secondOf_25 ?_
  obtain ⟨hg5, h⟩ := gd_e h
  refine r_iald hX hk2 hg5 d_M_secondOf_26 ?_
  refine r_iadd hX d_M_secondOf_27 ?_
  refine r_istore (i := 5) hX d_M_secondOf_28  (by decide) ?_
  refine r_iload (i := 5) hX d_M_secondOf_30 0  rfl ?_
  refine r_sipush (v := (1461 : Int32)) hX d_M_secondOf_32 rfl ?_
  refine r_icmp_lt hX d_M_secondOf_35 rfl h (fun h => ?_) (fun h => ?_)
  · refine r_iconst (v := (0 : Int32)) hX d_M_secondOf_40 rfl ?_
    refine r_istore (i := 6) hX d_M_secondOf_41  (by decide) ?_
    refine r_iconst (v := (1 : Int32)) hX d_M_secondOf_43 rfl ?_
    refine r_istore (i := 7) hX d_M_secondOf_44  (by decide) ?_
    refine r_iload (i := 4) hX d_M_secondOf_46 3  rfl ?_
    refine r_istore (i := 8) hX d_M_secondOf_48  (by decide) ?_
    exact rj_sub [5, 6, 7, 3, 2, 1, 0] rfl (P_M_secondOf_50 hX hM hR FUEL _ _ _ _ _ _ _ _ h)
  · refine r_iconst (v := (-1 : Int32)) hX d_M_secondOf_38 rfl ?_
    cases h; exact r_iret hX hR d_M_secondOf_39
theorem T_M_secondOf {l : Launch} {G : AG} (a0 : Nat) (x1 : Int32) (x2 : Int32) (x3 : Int32) (w : AW) {o : Int32 × AW} (h : F_M_secondOf a0 x1 x2 x3 w = some o) : Mt l G y_M_secondOf b_M_secondOf 10 (some (.int)) 2 51 0 0 [vr a0, vi x1, vi x2, vi x3] w (some (vi o.1)) o.2 := mt_of (by decide) (Nat.le_of_ble_eq_true rfl) (fun X hX hR hM hI => P_M_secondOf_0 hX hM hR _ _ _ _ _ h)
/-! RedSkyModel.isInSeason(II)Z -/
theorem d_M_isInSeason_0 : decode b_M_isInSeason 0 = .ok (.aload_n 0, 1) := by decide +kernel
theorem d_M_isInSeason_1 : decode b_M_isInSeason 1 = .ok (.getfield 46, 3) := by decide +kernel
theorem d_M_isInSeason_4 : decode b_M_isInSeason 4 = .ok (.bipush (12), 2) := by decide +kernel
theorem d_M_isInSeason_6 : decode b_M_isInSeason 6 = .ok (.iload_n 1, 1) := by decide +kernel
theorem d_M_isInSeason_7 : decode b_M_isInSeason 7 = .ok (.imul, 1) := by decide +kernel
theorem d_M_isInSeason_8 : decode b_M_isInSeason 8 = .ok (.iconst 5, 1) := by decide +kernel
theorem d_M_isInSeason_9 : decode b_M_isInSeason 9 = .ok (.iadd, 1) := by decide +kernel
theorem d_M_isInSeason_10 : decode b_M_isInSeason 10 = .ok (.iaload, 1) := by decide +kernel
theorem d_M_isInSeason_11 : decode b_M_isInSeason 11 = .ok (.istore_n 3, 1) := by decide +kernel
theorem d_M_isInSeason_12 : decode b_M_isInSeason 12 = .ok (.aload_n 0, 1) := by decide +kernel
theorem d_M_isInSeason_13 : decode b_M_isInSeason 13 = .ok (.getfield 46, 3) := by decide +kernel
theorem d_M_isInSeason_16 : decode b_M_isInSeason 16 = .ok (.bipush (12), 2) := by decide +kernel
theorem d_M_isInSeason_18 : decode b_M_isInSeason 18 = .ok (.iload_n 1, 1) := by decide +kernel
theorem d_M_isInSeason_19 : decode b_M_isInSeason 19 = .ok (.imul, 1) := by decide +kernel
theorem d_M_isInSeason_20 : decode b_M_isInSeason 20 = .ok (.bipush (6), 2) := by decide +kernel
theorem d_M_isInSeason_22 : decode b_M_isInSeason 22 = .ok (.iadd, 1) := by decide +kernel
theorem d_M_isInSeason_23 : decode b_M_isInSeason 23 = .ok (.iaload, 1) := by decide +kernel
theorem d_M_isInSeason_24 : decode b_M_isInSeason 24 = .ok (.istore 4, 2) := by decide +kernel
theorem d_M_isInSeason_26 : decode b_M_isInSeason 26 = .ok (.aload_n 0, 1) := by decide +kernel
theorem d_M_isInSeason_27 : decode b_M_isInSeason 27 = .ok (.getfield 46, 3) := by decide +kernel
theorem d_M_isInSeason_30 : decode b_M_isInSeason 30 = .ok (.bipush (12), 2) := by decide +kernel
theorem d_M_isInSeason_32 : decode b_M_isInSeason 32 = .ok (.iload_n 1, 1) := by decide +kernel
theorem d_M_isInSeason_33 : decode b_M_isInSeason 33 = .ok (.imul, 1) := by decide +kernel
theorem d_M_isInSeason_34 : decode b_M_isInSeason 34 = .ok (.bipush (7), 2) := by decide +kernel
theorem d_M_isInSeason_36 : decode b_M_isInSeason 36 = .ok (.iadd, 1) := by decide +kernel
theorem d_M_isInSeason_37 : decode b_M_isInSeason 37 = .ok (.iaload, 1) := by decide +kernel
theorem d_M_isInSeason_38 : decode b_M_isInSeason 38 = .ok (.istore 5, 2) := by decide +kernel
theorem d_M_isInSeason_40 : decode b_M_isInSeason 40 = .ok (.iload 5, 2) := by decide +kernel
theorem d_M_isInSeason_42 : decode b_M_isInSeason 42 = .ok (.iconst (-1), 1) := by decide +kernel
theorem d_M_isInSeason_43 : decode b_M_isInSeason 43 = .ok (.if_icmp .eq (48), 3) := by decide +kernel
theorem d_M_isInSeason_46 : decode b_M_isInSeason 46 = .ok (.iconst 0, 1) := by decide +kernel
theorem d_M_isInSeason_47 : decode b_M_isInSeason 47 = .ok (.istore 6, 2) := by decide +kernel
theorem d_M_isInSeason_49 : decode b_M_isInSeason 49 = .ok (.iconst 0, 1) := by decide +kernel
theorem d_M_isInSeason_50 : decode b_M_isInSeason 50 = .ok (.istore 7, 2) := by decide +kernel
theorem d_M_isInSeason_52 : decode b_M_isInSeason 52 = .ok (.iload 7, 2) := by decide +kernel
theorem d_M_isInSeason_54 : decode b_M_isInSeason 54 = .ok (.iconst 4, 1) := by decide +kernel
theorem d_M_isInSeason_55 : decode b_M_isInSeason 55 = .ok (.if_icmp .ge (33), 3) := by decide +kernel
theorem d_M_isInSeason_58 : decode b_M_isInSeason 58 = .ok (.iload 6, 2) := by decide +kernel
theorem d_M_isInSeason_60 : decode b_M_isInSeason 60 = .ok (.ifCond .ne (15), 3) := by decide +kernel
theorem d_M_isInSeason_63 : decode b_M_isInSeason 63 = .ok (.aload_n 0, 1) := by decide +kernel
theorem d_M_isInSeason_64 : decode b_M_isInSeason 64 = .ok (.iload 5, 2) := by decide +kernel
theorem d_M_isInSeason_66 : decode b_M_isInSeason 66 = .ok (.iload 7, 2) := by decide +kernel
theorem d_M_isInSeason_68 : decode b_M_isInSeason 68 = .ok (.invokevirtual 148, 3) := by decide +kernel
theorem d_M_isInSeason_71 : decode b_M_isInSeason 71 = .ok (.iload_n 2, 1) := by decide +kernel
theorem d_M_isInSeason_72 : decode b_M_isInSeason 72 = .ok (.if_icmp .ne (7), 3) := by decide +kernel
theorem d_M_isInSeason_75 : decode b_M_isInSeason 75 = .ok (.iconst 1, 1) := by decide +kernel
theorem d_M_isInSeason_76 : decode b_M_isInSeason 76 = .ok (.goto (4), 3) := by decide +kernel
theorem d_M_isInSeason_79 : decode b_M_isInSeason 79 = .ok (.iconst 0, 1) := by decide +kernel
theorem d_M_isInSeason_80 : decode b_M_isInSeason 80 = .ok (.istore 6, 2) := by decide +kernel
theorem d_M_isInSeason_82 : decode b_M_isInSeason 82 = .ok (.iinc 7 (1), 3) := by decide +kernel
theorem d_M_isInSeason_85 : decode b_M_isInSeason 85 = .ok (.goto (-33), 3) := by decide +kernel
theorem d_M_isInSeason_88 : decode b_M_isInSeason 88 = .ok (.iload 6, 2) := by decide +kernel
theorem d_M_isInSeason_90 : decode b_M_isInSeason 90 = .ok (.ireturn, 1) := by decide +kernel
theorem d_M_isInSeason_91 : decode b_M_isInSeason 91 = .ok (.iload_n 3, 1) := by decide +kernel
theorem d_M_isInSeason_92 : decode b_M_isInSeason 92 = .ok (.iconst (-1), 1) := by decide +kernel
theorem d_M_isInSeason_93 : decode b_M_isInSeason 93 = .ok (.if_icmp .ne (5), 3) := by decide +kernel
theorem d_M_isInSeason_96 : decode b_M_isInSeason 96 = .ok (.iconst 1, 1) := by decide +kernel
theorem d_M_isInSeason_97 : decode b_M_isInSeason 97 = .ok (.ireturn, 1) := by decide +kernel
theorem d_M_isInSeason_98 : decode b_M_isInSeason 98 = .ok (.aload_n 0, 1) := by decide +kernel
theorem d_M_isInSeason_99 : decode b_M_isInSeason 99 = .ok (.iload_n 2, 1) := by decide +kernel
theorem d_M_isInSeason_100 : decode b_M_isInSeason 100 = .ok (.invokevirtual 117, 3) := by decide +kernel
theorem d_M_isInSeason_103 : decode b_M_isInSeason 103 = .ok (.istore 6, 2) := by decide +kernel
theorem d_M_isInSeason_105 : decode b_M_isInSeason 105 = .ok (.iload_n 3, 1) := by decide +kernel
theorem d_M_isInSeason_106 : decode b_M_isInSeason 106 = .ok (.iload 4, 2) := by decide +kernel
theorem d_M_isInSeason_108 : decode b_M_isInSeason 108 = .ok (.if_icmp .gt (17), 3) := by decide +kernel
theorem d_M_isInSeason_111 : decode b_M_isInSeason 111 = .ok (.iload 6, 2) := by decide +kernel
theorem d_M_isInSeason_113 : decode b_M_isInSeason 113 = .ok (.i2l, 1) := by decide +kernel
theorem d_M_isInSeason_114 : decode b_M_isInSeason 114 = .ok (.iload_n 3, 1) := by decide +kernel
theorem d_M_isInSeason_115 : decode b_M_isInSeason 115 = .ok (.i2l, 1) := by decide +kernel
theorem d_M_isInSeason_116 : decode b_M_isInSeason 116 = .ok (.iload 4, 2) := by decide +kernel
theorem d_M_isInSeason_118 : decode b_M_isInSeason 118 = .ok (.i2l, 1) := by decide +kernel
theorem d_M_isInSeason_119 : decode b_M_isInSeason 119 = .ok (.invokestatic 122, 3) := by decide +kernel
theorem d_M_isInSeason_122 : decode b_M_isInSeason 122 = .ok (.goto (21), 3) := by decide +kernel
theorem d_M_isInSeason_125 : decode b_M_isInSeason 125 = .ok (.iload 6, 2) := by decide +kernel
theorem d_M_isInSeason_127 : decode b_M_isInSeason 127 = .ok (.iload_n 3, 1) := by decide +kernel
theorem d_M_isInSeason_128 : decode b_M_isInSeason 128 = .ok (.if_icmp .ge (10), 3) := by decide +kernel
theorem d_M_isInSeason_131 : decode b_M_isInSeason 131 = .ok (.iload 6, 2) := by decide +kernel
theorem d_M_isInSeason_133 : decode b_M_isInSeason 133 = .ok (.iload 4, 2) := by decide +kernel
theorem d_M_isInSeason_135 : decode b_M_isInSeason 135 = .ok (.if_icmp .gt (7), 3) := by decide +kernel
theorem d_M_isInSeason_138 : decode b_M_isInSeason 138 = .ok (.iconst 1, 1) := by decide +kernel
theorem d_M_isInSeason_139 : decode b_M_isInSeason 139 = .ok (.goto (4), 3) := by decide +kernel
theorem d_M_isInSeason_142 : decode b_M_isInSeason 142 = .ok (.iconst 0, 1) := by decide +kernel
theorem d_M_isInSeason_143 : decode b_M_isInSeason 143 = .ok (.ireturn, 1) := by decide +kernel
def F_M_isInSeason_75 (rec52 : Nat → Int32 → Int32 → Int32 → Int32 → Option (Int32)) (w : AW) (a0 : Nat) (x2 : Int32) (x5 : Int32) (x7 : Int32) : Option (Int32) :=
  let v1 : Int32 := (x7 + (1 : Int32))
  rec52 a0 x2 x5 (1 : Int32) v1
theorem P_M_isInSeason_75 {X : AX} {l : Launch} {G : AG} {w : AW} {rec52 : Nat → Int32 → Int32 → Int32 → Int32 → Option (Int32)} (hX : XOK X b_M_isInSeason "RedSkyModel" 8) (hM : XM X l G { frames := 5, cells := 0, slots := 0, locals := 113 }) {o : Int32} (hR : XR X (some .boolean) 0 0 (some (vi o)) w) (hrec52 : ∀ (a0 : Nat) (x2 : Int32) (x5 : Int32) (x6 : Int32) (x7 : Int32), rec52 a0 x2 x5 x6 x7 = some o → RJ X 8 0 0 52 [(0, vr a0), (2, vi x2), (5, vi x5), (6, vi x6), (7, vi x7)] [] w) (a0 : Nat) (x2 : Int32) (x5 : Int32) (x7 : Int32) (h : F_M_isInSeason_75 rec52 w a0 x2 x5 x7 = some o) : RJ X 8 0 0 75 [(0, vr a0), (2, vi x2), (5, vi x5), (7, vi x7)] [] w := by
  unfold F_M_isInSeason_75 at h
  refine r_iconst (v := (1 : Int32)) hX d_M_isInSeason_75 rfl ?_
  refine r_goto hX d_M_isInSeason_76 rfl ?_
  refine r_istore (i := 6) hX d_M_isInSeason_80  (by decide) ?_
  refine r_iinc (i := 7) (v := (1 : Int32)) hX d_M_isInSeason_82 4 rfl rfl (by decide) ?_
  refine r_goto hX d_M_isInSeason_85 rfl ?_
  exact rj_sub [2, 3, 4, 1, 0] rfl (hrec52 _ _ _ _ _ h)
def F_M_isInSeason_52_B (rec52 : Nat → Int32 → Int32 → Int32 → Int32 → Option (Int32)) (w : AW) (a0 : Nat) (x2 : Int32) (x5 : Int32) (x6 : Int32) (x7 : Int32) : Option (Int32) :=
  if (4 : Int32) ≤ x7 then
    gd (x6 == 0 || x6 == 1) <|
    some x6
  else
    if x6 = 0 then
      gd (wk w a0 == 13) <|
      (F_M_feastOf w a0 x5 x7).bind fun r3 =>
      if r3 = x2 then
        F_M_isInSeason_75 rec52 w a0 x2 x5 x7
      else
        let v5 : Int32 := (x7 + (1 : Int32))
        rec52 a0 x2 x5 (0 : Int32) v5
    else
      F_M_isInSeason_75 rec52 w a0 x2 x5 x7
theorem P_M_isInSeason_52_B {X : AX} {l : Launch} {G : AG} {w : AW} {rec52 : Nat → Int32 → Int32 → Int32 → Int32 → Option (Int32)} (hX : XOK X b_M_isInSeason "RedSkyModel" 8) (hM : XM X l G { frames := 5, cells := 0, slots := 0, locals := 113 }) {o : Int32} (hR : XR X (some .boolean) 0 0 (some (vi o)) w) (hrec52 : ∀ (a0 : Nat) (x2 : Int32) (x5 : Int32) (x6 : Int32) (x7 : Int32), rec52 a0 x2 x5 x6 x7 = some o → RJ X 8 0 0 52 [(0, vr a0), (2, vi x2), (5, vi x5), (6, vi x6), (7, vi x7)] [] w) (a0 : Nat) (x2 : Int32) (x5 : Int32) (x6 : Int32) (x7 : Int32) (h : F_M_isInSeason_52_B rec52 w a0 x2 x5 x6 x7 = some o) : RJ X 8 0 0 52 [(0, vr a0), (2, vi x2), (5, vi x5), (6, vi x6), (7, vi x7)] [] w := by
  unfold F_M_isInSeason_52_B at h
  refine r_iload (i := 7) hX d_M_isInSeason_52 4  rfl ?_
  refine r_iconst (v := (4 : Int32)) hX d_M_isInSeason_54 rfl ?_
  refine r_icmp_ge hX d_M_isInSeason_55 rfl h (fun h => ?_) (fun h => ?_)
  · refine r_iload (i := 6) hX d_M_isInSeason_88 3  rfl ?_
    obtain ⟨hg1, h⟩ := gd_e h
    cases h; exact r_zret hX hR (zn_ok hg1) d_M_isInSeason_90
  · refine r_iload (i := 6) hX d_M_isInSeason_58 3  rfl ?_
    refine r_if_ne hX d_M_isInSeason_60 rfl h (fun h => ?_) (fun h => ?_)
    · exact rj_sub [0, 1, 2, 4] rfl (P_M_isInSeason_75 hX hM hR hrec52 _ _ _ _ h)
    · refine r_aload_n (i := 0) hX d_M_isInSeason_63 0 rfl rfl ?_
      refine r_iload (i := 5) hX d_M_isInSeason_64 2  rfl ?_
      refine r_iload (i := 7) hX d_M_isInSeason_66 4  rfl ?_
      obtain ⟨hk2, h⟩ := gd_e h
      obtain ⟨r3, hr4, h⟩ := bd_e h
      refine r_callV1 (As := [_, _]) hX hM mw_M_148 (T_M_feastOf _ _ _ _ hr4) (rc_of ci_12 hk2) rfl rfl ⟨Nat.le_refl _, Nat.le_refl _⟩ rfl rfl d_M_isInSeason_68 ?_
      refine r_iload_n (i := 2) hX d_M_isInSeason_71 1 rfl rfl ?_
      refine r_icmp_ne hX d_M_isInSeason_72 rfl h (fun h => ?_) (fun h => ?_)
      · refine r_iconst (v := (0 : Int32)) hX d_M_isInSeason_79 rfl ?_
        refine r_istore (i := 6) hX d_M_isInSeason_80  (by decide) ?_
        refine r_iinc (i := 7) (v := (1 : Int32)) hX d_M_isInSeason_82 4 rfl rfl (by decide) ?_
        refine r_goto hX d_M_isInSeason_85 rfl ?_
        exact rj_sub [2, 3, 4, 1, 0] rfl (hrec52 _ _ _ _ _ h)
      · exact rj_sub [0, 1, 2, 4] rfl (P_M_isInSeason_75 hX hM hR hrec52 _ _ _ _ h)
def F_M_isInSeason_52 (w : AW) : Nat → Nat → Int32 → Int32 → Int32 → Int32 → Option (Int32)
  | 0 => fun _ _ _ _ _ => none
  | n + 1 => fun a0 x2 x5 x6 x7 => F_M_isInSeason_52_B (F_M_isInSeason_52 w n) w a0 x2 x5 x6 x7
theorem P_M_isInSeason_52 {X : AX} {l : Launch} {G : AG} {w : AW} (hX : XOK X b_M_isInSeason "RedSkyModel" 8) (hM : XM X l G { frames := 5, cells := 0, slots := 0, locals := 113 }) {o : Int32} (hR : XR X (some .boolean) 0 0 (some (vi o)) w) (fu : Nat) : ∀ (a0 : Nat) (x2 : Int32) (x5 : Int32) (x6 : Int32) (x7 : Int32), F_M_isInSeason_52 w fu a0 x2 x5 x6 x7 = some o → RJ X 8 0 0 52 [(0, vr a0), (2, vi x2), (5, vi x5), (6, vi x6), (7, vi x7)] [] w := by
  induction fu with
  | zero => intro a0 x2 x5 x6 x7 h; cases h
  | succ n9 ih => intro a0 x2 x5 x6 x7 h; exact P_M_isInSeason_52_B hX hM hR ih _ _ _ _ _ h
def F_M_isInSeason (w : AW) (a0 : Nat) (x1 : Int32) (x2 : Int32) : Option (Int32) :=
  gd (wk w a0 == 13) <|
  gd (wk w (wr w a0 30) == 100) <|
  gd (inb (((12 : Int32) * x1) + (5 : Int32)) (wn w (wr w a0 30))) <|
  let v4 : Int32 := (wi w (wr w a0 30) (Int32.toNatClampNeg (((12 : Int32) * x1) + (5 : Int32))))
  gd (inb (((12 : Int32) * x1) + (6 : Int32)) (wn w (wr w a0 30))) <|
  let v6 : Int32 := (wi w (wr w a0 30) (Int32.toNatClampNeg (((12 : Int32) * x1) + (6 : Int32))))
  gd (inb (((12 : Int32) * x1) + (7 : Int32)) (wn w (wr w a0 30))) <|
  let v8 : Int32 := (wi w (wr w a0 30) (Int32.toNatClampNeg (((12 : Int32) * x1) + (7 : Int32))))
  if v8 = (-1 : Int32) then
    if v4 = (-1 : Int32) then
      some (1 : Int32)
    else
      (F_M_monthOf w a0 x2).bind fun r9 =>
      if v6 < v4 then
        if v4 ≤ r9 then
          some (1 : Int32)
        else
          if v6 < r9 then
            some (0 : Int32)
          else
            some (1 : Int32)
      else
        some (F_M_in (Int32.toInt64 r9) (Int32.toInt64 v4) (Int32.toInt64 v6))
  else
    F_M_isInSeason_52 w FUEL a0 x2 v8 (0 : Int32) (0 : Int32)
theorem P_M_isInSeason_0 {X : AX} {l : Launch} {G : AG} {w : AW} (hX : XOK X b_M_isInSeason "RedSkyModel" 8) (hM : XM X l G { frames := 5, cells := 0, slots := 0, locals := 113 }) {o : Int32} (hR : XR X (some .boolean) 0 0 (some (vi o)) w) (a0 : Nat) (x1 : Int32) (x2 : Int32) (h : F_M_isInSeason w a0 x1 x2 = some o) : RJ X 8 0 0 0 [(0, vr a0), (1, vi x1), (2, vi x2)] [] w := by
  unfold F_M_isInSeason at h
  refine r_aload_n (i := 0) hX d_M_isInSeason_0 0 rfl rfl ?_
  obtain ⟨hk1, h⟩ := gd_e h
  refine r_getR (i := 12) (f := 30) hX ci_12 (by decide) rfl fl_M_46 hk1 d_M_isInSeason_1 ?_
  refine r_bipush (v := (12 : Int32)) hX d_M_isInSeason_4 rfl ?_
  refine r_iload_n (i := 1) hX d_M_isInSeason_6 1 rfl rfl ?_
  refine r_imul hX d_M_isInSeason_7 ?_
  refine r_iconst (v := (5 : Int32)) hX d_M_isInSeason_8 rfl ?_
  refine r_iadd hX d_M_isInSeason_9 ?_
  obtain ⟨hk2, h⟩ := gd_e h
  obtain ⟨hg3, h⟩ := gd_e h
  refine r_iald hX hk2 hg3 d_M_isInSeason_10 ?_
  refine r_istore_n (i := 3) hX d_M_isInSeason_11 rfl (by decide) ?_
  refine r_aload_n (i := 0) hX d_M_isInSeason_12 1 rfl rfl ?_
  refine r_getR (i := 12) (f := 30) hX ci_12 (by decide) rfl fl_M_46 hk1 d_M_isInSeason_13 ?_
  refine r_bipush (v := (12 : Int32)) hX d_M_isInSeason_16 rfl ?_
  refine r_iload_n (i := 1) hX d_M_isInSeason_18 2 rfl rfl ?_
  refine r_imul hX d_M_isInSeason_19 ?_
  refine r_bipush (v := (6 : Int32)) hX d_M_isInSeason_20 rfl ?_
  refine r_iadd hX d_M_isInSeason_22 ?_
  obtain ⟨hg5, h⟩ := gd_e h
  refine r_iald hX hk2 hg5 d_M_isInSeason_23 ?_
  refine r_istore (i := 4) hX d_M_isInSeason_24  (by decide) ?_
  refine r_aload_n (i := 0) hX d_M_isInSeason_26 2 rfl rfl ?_
  refine r_getR (i := 12) (f := 30) hX ci_12 (by decide) rfl fl_M_46 hk1 d_M_isInSeason_27 ?_
  refine r_bipush (v := (12 : Int32)) hX d_M_isInSeason_30 rfl ?_
  refine r_iload_n (i := 1) hX d_M_isInSeason_32 3 rfl rfl ?_
  refine r_imul hX d_M_isInSeason_33 ?_
  refine r_bipush (v := (7 : Int32)) hX d_M_isInSeason_34 rfl ?_
  refine r_iadd hX d_M_isInSeason_36 ?_
  obtain ⟨hg7, h⟩ := gd_e h
  refine r_iald hX hk2 hg7 d_M_isInSeason_37 ?_
  refine r_istore (i := 5) hX d_M_isInSeason_38  (by decide) ?_
  refine r_iload (i := 5) hX d_M_isInSeason_40 0  rfl ?_
  refine r_iconst (v := (-1 : Int32)) hX d_M_isInSeason_42 rfl ?_
  refine r_icmp_eq hX d_M_isInSeason_43 rfl h (fun h => ?_) (fun h => ?_)
  · refine r_iload_n (i := 3) hX d_M_isInSeason_91 2 rfl rfl ?_
    refine r_iconst (v := (-1 : Int32)) hX d_M_isInSeason_92 rfl ?_
    refine r_icmp_ne hX d_M_isInSeason_93 rfl h (fun h => ?_) (fun h => ?_)
    · refine r_aload_n (i := 0) hX d_M_isInSeason_98 3 rfl rfl ?_
      refine r_iload_n (i := 2) hX d_M_isInSeason_99 5 rfl rfl ?_
      obtain ⟨r9, hr10, h⟩ := bd_e h
      refine r_callV1 (As := [_]) hX hM mw_M_117 (T_M_monthOf _ _ _ hr10) (rc_of ci_12 hk1) rfl rfl ⟨Nat.le_refl _, Nat.le_refl _⟩ rfl rfl d_M_isInSeason_100 ?_
      refine r_istore (i := 6) hX d_M_isInSeason_103  (by decide) ?_
      refine r_iload_n (i := 3) hX d_M_isInSeason_105 3 rfl rfl ?_
      refine r_iload (i := 4) hX d_M_isInSeason_106 2  rfl ?_
      refine r_icmp_gt hX d_M_isInSeason_108 rfl h (fun h => ?_) (fun h => ?_)
      · refine r_iload (i := 6) hX d_M_isInSeason_125 0  rfl ?_
        refine r_iload_n (i := 3) hX d_M_isInSeason_127 3 rfl rfl ?_
        refine r_icmp_ge hX d_M_isInSeason_128 rfl h (fun h => ?_) (fun h => ?_)
        · refine r_iconst (v := (1 : Int32)) hX d_M_isInSeason_138 rfl ?_
          refine r_goto hX d_M_isInSeason_139 rfl ?_
          cases h; exact r_zret hX hR rfl d_M_isInSeason_143
        · refine r_iload (i := 6) hX d_M_isInSeason_131 0  rfl ?_
          refine r_iload (i := 4) hX d_M_isInSeason_133 2  rfl ?_
          refine r_icmp_gt hX d_M_isInSeason_135 rfl h (fun h => ?_) (fun h => ?_)
          · refine r_iconst (v := (0 : Int32)) hX d_M_isInSeason_142 rfl ?_
            cases h; exact r_zret hX hR rfl d_M_isInSeason_143
          · refine r_iconst (v := (1 : Int32)) hX d_M_isInSeason_138 rfl ?_
            refine r_goto hX d_M_isInSeason_139 rfl ?_
            cases h; exact r_zret hX hR rfl d_M_isInSeason_143
      · refine r_iload (i := 6) hX d_M_isInSeason_111 0  rfl ?_
        refine r_i2l hX d_M_isInSeason_113 ?_
        refine r_iload_n (i := 3) hX d_M_isInSeason_114 3 rfl rfl ?_
        refine r_i2l hX d_M_isInSeason_115 ?_
        refine r_iload (i := 4) hX d_M_isInSeason_116 2  rfl ?_
        refine r_i2l hX d_M_isInSeason_118 ?_
        refine r_callS1 (As := [_, _, _]) hX hM mw_M_122 (T_M_in _ _ _ _) rfl rfl ⟨Nat.le_refl _, Nat.le_refl _⟩ rfl rfl d_M_isInSeason_119 ?_
        refine r_goto hX d_M_isInSeason_122 rfl ?_
        cases h; exact r_zret hX hR (zn_ok (z_M_in _ _ _)) d_M_isInSeason_143
    · refine r_iconst (v := (1 : Int32)) hX d_M_isInSeason_96 rfl ?_
      cases h; exact r_zret hX hR rfl d_M_isInSeason_97
  · refine r_iconst (v := (0 : Int32)) hX d_M_isInSeason_46 rfl ?_
    refine r_istore (i := 6) hX d_M_isInSeason_47  (by decide) ?_
    refine r_iconst (v := (0 : Int32)) hX d_M_isInSeason_49 rfl ?_
    refine r_istore (i := 7) hX d_M_isInSeason_50  (by decide) ?_
    exact rj_sub [5, 7, 2, 1, 0] rfl (P_M_isInSeason_52 hX hM hR FUEL _ _ _ _ _ h)
theorem T_M_isInSeason {l : Launch} {G : AG} (w : AW) (a0 : Nat) (x1 : Int32) (x2 : Int32) {o : Int32} (h : F_M_isInSeason w a0 x1 x2 = some o) : Mt l G y_M_isInSeason b_M_isInSeason 8 (some (.boolean)) 5 113 0 0 [vr a0, vi x1, vi x2] w (some (vi o)) w := mt_of (by decide) (Nat.le_of_ble_eq_true rfl) (fun X hX hR hM hI => P_M_isInSeason_0 hX hM hR _ _ _ h)
/-! RedSkyModel.truth(IIII)I -/
theorem d_M_truth_0 : decode b_M_truth 0 = .ok (.aload_n 0, 1) := by decide +kernel
theorem d_M_truth_1 : decode b_M_truth 1 = .ok (.iload_n 1, 1) := by decide +kernel
theorem d_M_truth_2 : decode b_M_truth 2 = .ok (.invokevirtual 306, 3) := by decide +kernel
theorem d_M_truth_5 : decode b_M_truth 5 = .ok (.ifCond .eq (17), 3) := by decide +kernel
theorem d_M_truth_8 : decode b_M_truth 8 = .ok (.iload_n 2, 1) := by decide +kernel
theorem d_M_truth_9 : decode b_M_truth 9 = .ok (.invokestatic 155, 3) := by decide +kernel
theorem d_M_truth_12 : decode b_M_truth 12 = .ok (.ifCond .eq (10), 3) := by decide +kernel
theorem d_M_truth_15 : decode b_M_truth 15 = .ok (.iload_n 3, 1) := by decide +kernel
theorem d_M_truth_16 : decode b_M_truth 16 = .ok (.invokestatic 136, 3) := by decide +kernel
theorem d_M_truth_19 : decode b_M_truth 19 = .ok (.ifCond .ne (6), 3) := by decide +kernel
theorem d_M_truth_22 : decode b_M_truth 22 = .ok (.bipush (-101), 2) := by decide +kernel
theorem d_M_truth_24 : decode b_M_truth 24 = .ok (.ireturn, 1) := by decide +kernel
theorem d_M_truth_25 : decode b_M_truth 25 = .ok (.iload 4, 2) := by decide +kernel
theorem d_M_truth_27 : decode b_M_truth 27 = .ok (.ifCond .ne (13), 3) := by decide +kernel
theorem d_M_truth_30 : decode b_M_truth 30 = .ok (.aload_n 0, 1) := by decide +kernel
theorem d_M_truth_31 : decode b_M_truth 31 = .ok (.iload_n 1, 1) := by decide +kernel
theorem d_M_truth_32 : decode b_M_truth 32 = .ok (.iload_n 2, 1) := by decide +kernel
theorem d_M_truth_33 : decode b_M_truth 33 = .ok (.iload_n 3, 1) := by decide +kernel
theorem d_M_truth_34 : decode b_M_truth 34 = .ok (.invokevirtual 318, 3) := by decide +kernel
theorem d_M_truth_37 : decode b_M_truth 37 = .ok (.goto (44), 3) := by decide +kernel
theorem d_M_truth_40 : decode b_M_truth 40 = .ok (.iload 4, 2) := by decide +kernel
theorem d_M_truth_42 : decode b_M_truth 42 = .ok (.iconst 1, 1) := by decide +kernel
theorem d_M_truth_43 : decode b_M_truth 43 = .ok (.if_icmp .ne (13), 3) := by decide +kernel
theorem d_M_truth_46 : decode b_M_truth 46 = .ok (.aload_n 0, 1) := by decide +kernel
theorem d_M_truth_47 : decode b_M_truth 47 = .ok (.iload_n 1, 1) := by decide +kernel
theorem d_M_truth_48 : decode b_M_truth 48 = .ok (.iload_n 2, 1) := by decide +kernel
theorem d_M_truth_49 : decode b_M_truth 49 = .ok (.iload_n 3, 1) := by decide +kernel
theorem d_M_truth_50 : decode b_M_truth 50 = .ok (.invokevirtual 321, 3) := by decide +kernel
theorem d_M_truth_53 : decode b_M_truth 53 = .ok (.goto (28), 3) := by decide +kernel
theorem d_M_truth_56 : decode b_M_truth 56 = .ok (.iload 4, 2) := by decide +kernel
theorem d_M_truth_58 : decode b_M_truth 58 = .ok (.iconst 2, 1) := by decide +kernel
theorem d_M_truth_59 : decode b_M_truth 59 = .ok (.if_icmp .ne (20), 3) := by decide +kernel
theorem d_M_truth_62 : decode b_M_truth 62 = .ok (.aload_n 0, 1) := by decide +kernel
theorem d_M_truth_63 : decode b_M_truth 63 = .ok (.iload_n 1, 1) := by decide +kernel
theorem d_M_truth_64 : decode b_M_truth 64 = .ok (.iload_n 3, 1) := by decide +kernel
theorem d_M_truth_65 : decode b_M_truth 65 = .ok (.invokevirtual 324, 3) := by decide +kernel
theorem d_M_truth_68 : decode b_M_truth 68 = .ok (.ifCond .eq (7), 3) := by decide +kernel
theorem d_M_truth_71 : decode b_M_truth 71 = .ok (.iconst 1, 1) := by decide +kernel
theorem d_M_truth_72 : decode b_M_truth 72 = .ok (.goto (9), 3) := by decide +kernel
theorem d_M_truth_75 : decode b_M_truth 75 = .ok (.iconst 0, 1) := by decide +kernel
theorem d_M_truth_76 : decode b_M_truth 76 = .ok (.goto (5), 3) := by decide +kernel
theorem d_M_truth_79 : decode b_M_truth 79 = .ok (.bipush (-102), 2) := by decide +kernel
theorem d_M_truth_81 : decode b_M_truth 81 = .ok (.ireturn, 1) := by decide +kernel
def F_M_truth (a0 : Nat) (x1 : Int32) (x2 : Int32) (x3 : Int32) (x4 : Int32) (w : AW) : Option (Int32 × AW) :=
  gd (wk w a0 == 13) <|
  (F_M_isSaying w a0 x1).bind fun r2 =>
  if r2 = 0 then
    some ((-101 : Int32), w)
  else
    if (F_M_isValley x2) = 0 then
      some ((-101 : Int32), w)
    else
      if (F_M_isDay x3) = 0 then
        some ((-101 : Int32), w)
      else
        if x4 = 0 then
          (F_M_firstOf a0 x1 x2 x3 w).bind fun r8 =>
          some (r8.1, r8.2)
        else
          if x4 = (1 : Int32) then
            (F_M_secondOf a0 x1 x2 x3 w).bind fun r6 =>
            some (r6.1, r6.2)
          else
            if x4 = (2 : Int32) then
              (F_M_isInSeason w a0 x1 x3).bind fun r4 =>
              if r4 = 0 then
                some ((0 : Int32), w)
              else
                some ((1 : Int32), w)
            else
              some ((-102 : Int32), w)
theorem P_M_truth_0 {X : AX} {l : Launch} {G : AG} (hX : XOK X b_M_truth "RedSkyModel" 5) (hM : XM X l G { frames := 6, cells := 0, slots := 0, locals := 140 }) {o : Int32 × AW} (hR : XR X (some .int) 0 0 (some (vi o.1)) o.2) (a0 : Nat) (x1 : Int32) (x2 : Int32) (x3 : Int32) (x4 : Int32) (w : AW) (h : F_M_truth a0 x1 x2 x3 x4 w = some o) : RJ X 5 0 0 0 [(0, vr a0), (1, vi x1), (2, vi x2), (3, vi x3), (4, vi x4)] [] w := by
  unfold F_M_truth at h
  refine r_aload_n (i := 0) hX d_M_truth_0 0 rfl rfl ?_
  refine r_iload_n (i := 1) hX d_M_truth_1 1 rfl rfl ?_
  obtain ⟨hk1, h⟩ := gd_e h
  obtain ⟨r2, hr3, h⟩ := bd_e h
  refine r_callV1 (As := [_]) hX hM mw_M_306 (T_M_isSaying _ _ _ hr3) (rc_of ci_12 hk1) rfl rfl ⟨Nat.le_refl _, Nat.le_refl _⟩ rfl rfl d_M_truth_2 ?_
  refine r_if_eq hX d_M_truth_5 rfl h (fun h => ?_) (fun h => ?_)
  · refine r_bipush (v := (-101 : Int32)) hX d_M_truth_22 rfl ?_
    cases h; exact r_iret hX hR d_M_truth_24
  · refine r_iload_n (i := 2) hX d_M_truth_8 2 rfl rfl ?_
    refine r_callS1 (As := [_]) hX hM mw_M_155 (T_M_isValley _ _) rfl rfl ⟨Nat.le_refl _, Nat.le_refl _⟩ rfl rfl d_M_truth_9 ?_
    refine r_if_eq hX d_M_truth_12 rfl h (fun h => ?_) (fun h => ?_)
    · refine r_bipush (v := (-101 : Int32)) hX d_M_truth_22 rfl ?_
      cases h; exact r_iret hX hR d_M_truth_24
    · refine r_iload_n (i := 3) hX d_M_truth_15 3 rfl rfl ?_
      refine r_callS1 (As := [_]) hX hM mw_M_136 (T_M_isDay _ _) rfl rfl ⟨Nat.le_refl _, Nat.le_refl _⟩ rfl rfl d_M_truth_16 ?_
      refine r_if_ne hX d_M_truth_19 rfl h (fun h => ?_) (fun h => ?_)
      · refine r_iload (i := 4) hX d_M_truth_25 4  rfl ?_
        refine r_if_ne hX d_M_truth_27 rfl h (fun h => ?_) (fun h => ?_)
        · refine r_iload (i := 4) hX d_M_truth_40 4  rfl ?_
          refine r_iconst (v := (1 : Int32)) hX d_M_truth_42 rfl ?_
          refine r_icmp_ne hX d_M_truth_43 rfl h (fun h => ?_) (fun h => ?_)
          · refine r_iload (i := 4) hX d_M_truth_56 4  rfl ?_
            refine r_iconst (v := (2 : Int32)) hX d_M_truth_58 rfl ?_
            refine r_icmp_ne hX d_M_truth_59 rfl h (fun h => ?_) (fun h => ?_)
            · refine r_bipush (v := (-102 : Int32)) hX d_M_truth_79 rfl ?_
              cases h; exact r_iret hX hR d_M_truth_81
            · refine r_aload_n (i := 0) hX d_M_truth_62 0 rfl rfl ?_
              refine r_iload_n (i := 1) hX d_M_truth_63 1 rfl rfl ?_
              refine r_iload_n (i := 3) hX d_M_truth_64 3 rfl rfl ?_
              obtain ⟨r4, hr5, h⟩ := bd_e h
              refine r_callV1 (As := [_, _]) hX hM mw_M_324 (T_M_isInSeason _ _ _ _ hr5) (rc_of ci_12 hk1) rfl rfl ⟨Nat.le_refl _, Nat.le_refl _⟩ rfl rfl d_M_truth_65 ?_
              refine r_if_eq hX d_M_truth_68 rfl h (fun h => ?_) (fun h => ?_)
              · refine r_iconst (v := (0 : Int32)) hX d_M_truth_75 rfl ?_
                refine r_goto hX d_M_truth_76 rfl ?_
                cases h; exact r_iret hX hR d_M_truth_81
              · refine r_iconst (v := (1 : Int32)) hX d_M_truth_71 rfl ?_
                refine r_goto hX d_M_truth_72 rfl ?_
                cases h; exact r_iret hX hR d_M_truth_81
          · refine r_aload_n (i := 0) hX d_M_truth_46 0 rfl rfl ?_
            refine r_iload_n (i := 1) hX d_M_truth_47 1 rfl rfl ?_
            refine r_iload_n (i := 2) hX d_M_truth_48 2 rfl rfl ?_
            refine r_iload_n (i := 3) hX d_M_truth_49 3 rfl rfl ?_
            obtain ⟨r6, hr7, h⟩ := bd_e h
            refine r_callV1 (As := [_, _, _]) hX hM mw_M_321 (T_M_secondOf _ _ _ _ _ hr7) (rc_of ci_12 hk1) rfl rfl ⟨Nat.le_refl _, Nat.le_refl _⟩ rfl rfl d_M_truth_50 ?_
            refine r_goto hX d_M_truth_53 rfl ?_
            cases h; exact r_iret hX hR d_M_truth_81
        · refine r_aload_n (i := 0) hX d_M_truth_30 0 rfl rfl ?_
          refine r_iload_n (i := 1) hX d_M_truth_31 1 rfl rfl ?_
          refine r_iload_n (i := 2) hX d_M_truth_32 2 rfl rfl ?_
          refine r_iload_n (i := 3) hX d_M_truth_33 3 rfl rfl ?_
          obtain ⟨r8, hr9, h⟩ := bd_e h
          refine r_callV1 (As := [_, _, _]) hX hM mw_M_318 (T_M_firstOf _ _ _ _ _ hr9) (rc_of ci_12 hk1) rfl rfl ⟨Nat.le_refl _, Nat.le_refl _⟩ rfl rfl d_M_truth_34 ?_
          refine r_goto hX d_M_truth_37 rfl ?_
          cases h; exact r_iret hX hR d_M_truth_81
      · refine r_bipush (v := (-101 : Int32)) hX d_M_truth_22 rfl ?_
        cases h; exact r_iret hX hR d_M_truth_24
theorem T_M_truth {l : Launch} {G : AG} (a0 : Nat) (x1 : Int32) (x2 : Int32) (x3 : Int32) (x4 : Int32) (w : AW) {o : Int32 × AW} (h : F_M_truth a0 x1 x2 x3 x4 w = some o) : Mt l G y_M_truth b_M_truth 5 (some (.int)) 6 140 0 0 [vr a0, vi x1, vi x2, vi x3, vi x4] w (some (vi o.1)) o.2 := mt_of (by decide) (Nat.le_of_ble_eq_true rfl) (fun X hX hR hM hI => P_M_truth_0 hX hM hR _ _ _ _ _ _ h)
/-! RedSky$Reading.part(I)LRedSky$Days; -/
theorem d_Rd_part_0 : decode b_Rd_part 0 = .ok (.iload_n 1, 1) := by decide +kernel
theorem d_Rd_part_1 : decode b_Rd_part 1 = .ok (.tableswitch (42) 0 2 #[27, 32, 37], 27) := by decide +kernel
theorem d_Rd_part_28 : decode b_Rd_part 28 = .ok (.aload_n 0, 1) := by decide +kernel
theorem d_Rd_part_29 : decode b_Rd_part 29 = .ok (.getfield 30, 3) := by decide +kernel
theorem d_Rd_part_32 : decode b_Rd_part 32 = .ok (.areturn, 1) := by decide +kernel
theorem d_Rd_part_33 : decode b_Rd_part 33 = .ok (.aload_n 0, 1) := by decide +kernel
theorem d_Rd_part_34 : decode b_Rd_part 34 = .ok (.getfield 33, 3) := by decide +kernel
theorem d_Rd_part_37 : decode b_Rd_part 37 = .ok (.areturn, 1) := by decide +kernel
theorem d_Rd_part_38 : decode b_Rd_part 38 = .ok (.aload_n 0, 1) := by decide +kernel
theorem d_Rd_part_39 : decode b_Rd_part 39 = .ok (.getfield 36, 3) := by decide +kernel
theorem d_Rd_part_42 : decode b_Rd_part 42 = .ok (.areturn, 1) := by decide +kernel
theorem d_Rd_part_43 : decode b_Rd_part 43 = .ok (.aload_n 0, 1) := by decide +kernel
theorem d_Rd_part_44 : decode b_Rd_part 44 = .ok (.getfield 39, 3) := by decide +kernel
theorem d_Rd_part_47 : decode b_Rd_part 47 = .ok (.areturn, 1) := by decide +kernel
def F_Rd_part (w : AW) (a0 : Nat) (x1 : Int32) : Option (Nat) :=
  if Int32.toInt x1 < 0 ∨ 2 < Int32.toInt x1 then
    gd (wk w a0 == 9) <|
    some (wr w a0 8)
  else if x1 = (0 : Int32) then
    gd (wk w a0 == 9) <|
    some (wr w a0 5)
  else if x1 = (1 : Int32) then
    gd (wk w a0 == 9) <|
    some (wr w a0 6)
  else if x1 = (2 : Int32) then
    gd (wk w a0 == 9) <|
    some (wr w a0 7)
  else none
theorem P_Rd_part_0 {X : AX} {l : Launch} {G : AG} {w : AW} (hX : XOK X b_Rd_part "RedSky$Reading" 2) (hM : XM X l G { frames := 0, cells := 0, slots := 0, locals := 0 }) {o : Nat} (hR : XR X (some (.object "RedSky$Days")) 0 0 (some (vr o)) w) (a0 : Nat) (x1 : Int32) (h : F_Rd_part w a0 x1 = some o) : RJ X 2 0 0 0 [(0, vr a0), (1, vi x1)] [] w := by
  unfold F_Rd_part at h
  refine r_iload_n (i := 1) hX d_Rd_part_0 1 rfl rfl ?_
  rcases it_e h with ⟨hc, h⟩ | ⟨-, h⟩
  · refine r_tsOut hX hc d_Rd_part_1 rfl ?_
    refine r_aload_n (i := 0) hX d_Rd_part_43 0 rfl rfl ?_
    obtain ⟨hk1, h⟩ := gd_e h
    refine r_getR (i := 8) (f := 8) hX ci_8 (by decide) rfl fl_Rd_39 hk1 d_Rd_part_44 ?_
    cases h; exact r_aret hX hR d_Rd_part_47
  rcases it_e h with ⟨hc, h⟩ | ⟨-, h⟩
  · refine r_tsIn (v := (0 : Int32)) hX hc d_Rd_part_1 (by decide) (by decide) rfl rfl ?_
    refine r_aload_n (i := 0) hX d_Rd_part_28 0 rfl rfl ?_
    obtain ⟨hk2, h⟩ := gd_e h
    refine r_getR (i := 8) (f := 5) hX ci_8 (by decide) rfl fl_Rd_30 hk2 d_Rd_part_29 ?_
    cases h; exact r_aret hX hR d_Rd_part_32
  rcases it_e h with ⟨hc, h⟩ | ⟨-, h⟩
  · refine r_tsIn (v := (1 : Int32)) hX hc d_Rd_part_1 (by decide) (by decide) rfl rfl ?_
    refine r_aload_n (i := 0) hX d_Rd_part_33 0 rfl rfl ?_
    obtain ⟨hk3, h⟩ := gd_e h
    refine r_getR (i := 8) (f := 6) hX ci_8 (by decide) rfl fl_Rd_33 hk3 d_Rd_part_34 ?_
    cases h; exact r_aret hX hR d_Rd_part_37
  rcases it_e h with ⟨hc, h⟩ | ⟨-, h⟩
  · refine r_tsIn (v := (2 : Int32)) hX hc d_Rd_part_1 (by decide) (by decide) rfl rfl ?_
    refine r_aload_n (i := 0) hX d_Rd_part_38 0 rfl rfl ?_
    obtain ⟨hk4, h⟩ := gd_e h
    refine r_getR (i := 8) (f := 7) hX ci_8 (by decide) rfl fl_Rd_36 hk4 d_Rd_part_39 ?_
    cases h; exact r_aret hX hR d_Rd_part_42
  cases h
theorem T_Rd_part {l : Launch} {G : AG} (w : AW) (a0 : Nat) (x1 : Int32) {o : Nat} (h : F_Rd_part w a0 x1 = some o) : Mt l G y_Rd_part b_Rd_part 2 (some (.object "RedSky$Days")) 0 0 0 0 [vr a0, vi x1] w (some (vr o)) w := mt_of (by decide) (Nat.le_of_ble_eq_true rfl) (fun X hX hR hM hI => P_Rd_part_0 hX hM hR _ _ h)
/-! java/lang/Long.bitCount(J)I -/
theorem d_Jlong_bitCount_0 : decode b_Jlong_bitCount 0 = .ok (.lload_n 0, 1) := by decide +kernel
theorem d_Jlong_bitCount_1 : decode b_Jlong_bitCount 1 = .ok (.lload_n 0, 1) := by decide +kernel
theorem d_Jlong_bitCount_2 : decode b_Jlong_bitCount 2 = .ok (.iconst 1, 1) := by decide +kernel
theorem d_Jlong_bitCount_3 : decode b_Jlong_bitCount 3 = .ok (.lushr, 1) := by decide +kernel
theorem d_Jlong_bitCount_4 : decode b_Jlong_bitCount 4 = .ok (.ldc2_w 314, 3) := by decide +kernel
theorem d_Jlong_bitCount_7 : decode b_Jlong_bitCount 7 = .ok (.land, 1) := by decide +kernel
theorem d_Jlong_bitCount_8 : decode b_Jlong_bitCount 8 = .ok (.lsub, 1) := by decide +kernel
theorem d_Jlong_bitCount_9 : decode b_Jlong_bitCount 9 = .ok (.lstore_n 0, 1) := by decide +kernel
theorem d_Jlong_bitCount_10 : decode b_Jlong_bitCount 10 = .ok (.lload_n 0, 1) := by decide +kernel
theorem d_Jlong_bitCount_11 : decode b_Jlong_bitCount 11 = .ok (.ldc2_w 316, 3) := by decide +kernel
theorem d_Jlong_bitCount_14 : decode b_Jlong_bitCount 14 = .ok (.land, 1) := by decide +kernel
theorem d_Jlong_bitCount_15 : decode b_Jlong_bitCount 15 = .ok (.lload_n 0, 1) := by decide +kernel
theorem d_Jlong_bitCount_16 : decode b_Jlong_bitCount 16 = .ok (.iconst 2, 1) := by decide +kernel
theorem d_Jlong_bitCount_17 : decode b_Jlong_bitCount 17 = .ok (.lushr, 1) := by decide +kernel
theorem d_Jlong_bitCount_18 : decode b_Jlong_bitCount 18 = .ok (.ldc2_w 316, 3) := by decide +kernel
theorem d_Jlong_bitCount_21 : decode b_Jlong_bitCount 21 = .ok (.land, 1) := by decide +kernel
theorem d_Jlong_bitCount_22 : decode b_Jlong_bitCount 22 = .ok (.ladd, 1) := by decide +kernel
theorem d_Jlong_bitCount_23 : decode b_Jlong_bitCount 23 = .ok (.lstore_n 0, 1) := by decide +kernel
theorem d_Jlong_bitCount_24 : decode b_Jlong_bitCount 24 = .ok (.lload_n 0, 1) := by decide +kernel
theorem d_Jlong_bitCount_25 : decode b_Jlong_bitCount 25 = .ok (.lload_n 0, 1) := by decide +kernel
theorem d_Jlong_bitCount_26 : decode b_Jlong_bitCount 26 = .ok (.iconst 4, 1) := by decide +kernel
theorem d_Jlong_bitCount_27 : decode b_Jlong_bitCount 27 = .ok (.lushr, 1) := by decide +kernel
theorem d_Jlong_bitCount_28 : decode b_Jlong_bitCount 28 = .ok (.ladd, 1) := by decide +kernel
theorem d_Jlong_bitCount_29 : decode b_Jlong_bitCount 29 = .ok (.ldc2_w 318, 3) := by decide +kernel
theorem d_Jlong_bitCount_32 : decode b_Jlong_bitCount 32 = .ok (.land, 1) := by decide +kernel
theorem d_Jlong_bitCount_33 : decode b_Jlong_bitCount 33 = .ok (.lstore_n 0, 1) := by decide +kernel
theorem d_Jlong_bitCount_34 : decode b_Jlong_bitCount 34 = .ok (.lload_n 0, 1) := by decide +kernel
theorem d_Jlong_bitCount_35 : decode b_Jlong_bitCount 35 = .ok (.lload_n 0, 1) := by decide +kernel
theorem d_Jlong_bitCount_36 : decode b_Jlong_bitCount 36 = .ok (.bipush (8), 2) := by decide +kernel
theorem d_Jlong_bitCount_38 : decode b_Jlong_bitCount 38 = .ok (.lushr, 1) := by decide +kernel
theorem d_Jlong_bitCount_39 : decode b_Jlong_bitCount 39 = .ok (.ladd, 1) := by decide +kernel
theorem d_Jlong_bitCount_40 : decode b_Jlong_bitCount 40 = .ok (.lstore_n 0, 1) := by decide +kernel
theorem d_Jlong_bitCount_41 : decode b_Jlong_bitCount 41 = .ok (.lload_n 0, 1) := by decide +kernel
theorem d_Jlong_bitCount_42 : decode b_Jlong_bitCount 42 = .ok (.lload_n 0, 1) := by decide +kernel
theorem d_Jlong_bitCount_43 : decode b_Jlong_bitCount 43 = .ok (.bipush (16), 2) := by decide +kernel
theorem d_Jlong_bitCount_45 : decode b_Jlong_bitCount 45 = .ok (.lushr, 1) := by decide +kernel
theorem d_Jlong_bitCount_46 : decode b_Jlong_bitCount 46 = .ok (.ladd, 1) := by decide +kernel
theorem d_Jlong_bitCount_47 : decode b_Jlong_bitCount 47 = .ok (.lstore_n 0, 1) := by decide +kernel
theorem d_Jlong_bitCount_48 : decode b_Jlong_bitCount 48 = .ok (.lload_n 0, 1) := by decide +kernel
theorem d_Jlong_bitCount_49 : decode b_Jlong_bitCount 49 = .ok (.lload_n 0, 1) := by decide +kernel
theorem d_Jlong_bitCount_50 : decode b_Jlong_bitCount 50 = .ok (.bipush (32), 2) := by decide +kernel
theorem d_Jlong_bitCount_52 : decode b_Jlong_bitCount 52 = .ok (.lushr, 1) := by decide +kernel
theorem d_Jlong_bitCount_53 : decode b_Jlong_bitCount 53 = .ok (.ladd, 1) := by decide +kernel
theorem d_Jlong_bitCount_54 : decode b_Jlong_bitCount 54 = .ok (.lstore_n 0, 1) := by decide +kernel
theorem d_Jlong_bitCount_55 : decode b_Jlong_bitCount 55 = .ok (.lload_n 0, 1) := by decide +kernel
theorem d_Jlong_bitCount_56 : decode b_Jlong_bitCount 56 = .ok (.l2i, 1) := by decide +kernel
theorem d_Jlong_bitCount_57 : decode b_Jlong_bitCount 57 = .ok (.bipush (127), 2) := by decide +kernel
theorem d_Jlong_bitCount_59 : decode b_Jlong_bitCount 59 = .ok (.iand, 1) := by decide +kernel
theorem d_Jlong_bitCount_60 : decode b_Jlong_bitCount 60 = .ok (.ireturn, 1) := by decide +kernel
def Fo_Jlong_bitCount_55 (w : AW) (x0 : Int64) : Option (Int32) :=
  some ((Int64.toInt32 x0) &&& (127 : Int32))
theorem P_Jlong_bitCount_55 {X : AX} {l : Launch} {G : AG} {w : AW} (hX : XOK X b_Jlong_bitCount "java/lang/Long" 2) (hM : XM X l G { frames := 0, cells := 0, slots := 0, locals := 0 }) {o : Int32} (hR : XR X (some .int) 0 0 (some (vi o)) w) (x0 : Int64) (h : Fo_Jlong_bitCount_55 w x0 = some o) : RJ X 2 0 0 55 [(0, vl x0)] [] w := by
  unfold Fo_Jlong_bitCount_55 at h
  refine r_lload_n (i := 0) hX d_Jlong_bitCount_55 0 rfl rfl ?_
  refine r_l2i hX d_Jlong_bitCount_56 ?_
  refine r_bipush (v := (127 : Int32)) hX d_Jlong_bitCount_57 rfl ?_
  refine r_iand hX d_Jlong_bitCount_59 ?_
  cases h; exact r_iret hX hR d_Jlong_bitCount_60
def F_Jlong_bitCount_55 (x0 : Int64) : Int32 :=
  ((Int64.toInt32 x0) &&& (127 : Int32))
theorem E_Jlong_bitCount_55 (w : AW) (x0 : Int64) : Fo_Jlong_bitCount_55 w x0 = some (F_Jlong_bitCount_55 x0) := by
  simp only [Fo_Jlong_bitCount_55, F_Jlong_bitCount_55, apply_ite (some : Int32 → Option Int32)]
def Fo_Jlong_bitCount_48 (w : AW) (x0 : Int64) : Option (Int32) :=
  let v1 : Int64 := (x0 + (lshr6 x0 (32 : Int32)))
  Fo_Jlong_bitCount_55 w v1
theorem P_Jlong_bitCount_48 {X : AX} {l : Launch} {G : AG} {w : AW} (hX : XOK X b_Jlong_bitCount "java/lang/Long" 2) (hM : XM X l G { frames := 0, cells := 0, slots := 0, locals := 0 }) {o : Int32} (hR : XR X (some .int) 0 0 (some (vi o)) w) (x0 : Int64) (h : Fo_Jlong_bitCount_48 w x0 = some o) : RJ X 2 0 0 48 [(0, vl x0)] [] w := by
  unfold Fo_Jlong_bitCount_48 at h
  refine r_lload_n (i := 0) hX d_Jlong_bitCount_48 0 rfl rfl ?_
  refine r_lload_n (i := 0) hX d_Jlong_bitCount_49 0 rfl rfl ?_
  refine r_bipush (v := (32 : Int32)) hX d_Jlong_bitCount_50 rfl ?_
  refine r_lushr hX d_Jlong_bitCount_52 ?_
  refine r_ladd hX d_Jlong_bitCount_53 ?_
  refine r_lstore_n (i := 0) hX d_Jlong_bitCount_54 rfl (by decide) ?_
  exact rj_sub [0] rfl (P_Jlong_bitCount_55 hX hM hR _ h)
def F_Jlong_bitCount_48 (x0 : Int64) : Int32 :=
  let v1 : Int64 := (x0 + (lshr6 x0 (32 : Int32)))
  F_Jlong_bitCount_55 v1
theorem E_Jlong_bitCount_48 (w : AW) (x0 : Int64) : Fo_Jlong_bitCount_48 w x0 = some (F_Jlong_bitCount_48 x0) := by
  simp only [Fo_Jlong_bitCount_48, F_Jlong_bitCount_48, E_Jlong_bitCount_55, apply_ite (some : Int32 → Option Int32)]
def Fo_Jlong_bitCount_41 (w : AW) (x0 : Int64) : Option (Int32) :=
  let v1 : Int64 := (x0 + (lshr6 x0 (16 : Int32)))
  Fo_Jlong_bitCount_48 w v1
theorem P_Jlong_bitCount_41 {X : AX} {l : Launch} {G : AG} {w : AW} (hX : XOK X b_Jlong_bitCount "java/lang/Long" 2) (hM : XM X l G { frames := 0, cells := 0, slots := 0, locals := 0 }) {o : Int32} (hR : XR X (some .int) 0 0 (some (vi o)) w) (x0 : Int64) (h : Fo_Jlong_bitCount_41 w x0 = some o) : RJ X 2 0 0 41 [(0, vl x0)] [] w := by
  unfold Fo_Jlong_bitCount_41 at h
  refine r_lload_n (i := 0) hX d_Jlong_bitCount_41 0 rfl rfl ?_
  refine r_lload_n (i := 0) hX d_Jlong_bitCount_42 0 rfl rfl ?_
  refine r_bipush (v := (16 : Int32)) hX d_Jlong_bitCount_43 rfl ?_
  refine r_lushr hX d_Jlong_bitCount_45 ?_
  refine r_ladd hX d_Jlong_bitCount_46 ?_
  refine r_lstore_n (i := 0) hX d_Jlong_bitCount_47 rfl (by decide) ?_
  exact rj_sub [0] rfl (P_Jlong_bitCount_48 hX hM hR _ h)
def F_Jlong_bitCount_41 (x0 : Int64) : Int32 :=
  let v1 : Int64 := (x0 + (lshr6 x0 (16 : Int32)))
  F_Jlong_bitCount_48 v1
theorem E_Jlong_bitCount_41 (w : AW) (x0 : Int64) : Fo_Jlong_bitCount_41 w x0 = some (F_Jlong_bitCount_41 x0) := by
  simp only [Fo_Jlong_bitCount_41, F_Jlong_bitCount_41, E_Jlong_bitCount_48, apply_ite (some : Int32 → Option Int32)]
def Fo_Jlong_bitCount_34 (w : AW) (x0 : Int64) : Option (Int32) :=
  let v1 : Int64 := (x0 + (lshr6 x0 (8 : Int32)))
  Fo_Jlong_bitCount_41 w v1
theorem P_Jlong_bitCount_34 {X : AX} {l : Launch} {G : AG} {w : AW} (hX : XOK X b_Jlong_bitCount "java/lang/Long" 2) (hM : XM X l G { frames := 0, cells := 0, slots := 0, locals := 0 }) {o : Int32} (hR : XR X (some .int) 0 0 (some (vi o)) w) (x0 : Int64) (h : Fo_Jlong_bitCount_34 w x0 = some o) : RJ X 2 0 0 34 [(0, vl x0)] [] w := by
  unfold Fo_Jlong_bitCount_34 at h
  refine r_lload_n (i := 0) hX d_Jlong_bitCount_34 0 rfl rfl ?_
  refine r_lload_n (i := 0) hX d_Jlong_bitCount_35 0 rfl rfl ?_
  refine r_bipush (v := (8 : Int32)) hX d_Jlong_bitCount_36 rfl ?_
  refine r_lushr hX d_Jlong_bitCount_38 ?_
  refine r_ladd hX d_Jlong_bitCount_39 ?_
  refine r_lstore_n (i := 0) hX d_Jlong_bitCount_40 rfl (by decide) ?_
  exact rj_sub [0] rfl (P_Jlong_bitCount_41 hX hM hR _ h)
def F_Jlong_bitCount_34 (x0 : Int64) : Int32 :=
  let v1 : Int64 := (x0 + (lshr6 x0 (8 : Int32)))
  F_Jlong_bitCount_41 v1
theorem E_Jlong_bitCount_34 (w : AW) (x0 : Int64) : Fo_Jlong_bitCount_34 w x0 = some (F_Jlong_bitCount_34 x0) := by
  simp only [Fo_Jlong_bitCount_34, F_Jlong_bitCount_34, E_Jlong_bitCount_41, apply_ite (some : Int32 → Option Int32)]
def Fo_Jlong_bitCount_24 (w : AW) (x0 : Int64) : Option (Int32) :=
  let v1 : Int64 := ((x0 + (lshr6 x0 (4 : Int32))) &&& (1085102592571150095 : Int64))
  Fo_Jlong_bitCount_34 w v1
theorem P_Jlong_bitCount_24 {X : AX} {l : Launch} {G : AG} {w : AW} (hX : XOK X b_Jlong_bitCount "java/lang/Long" 2) (hM : XM X l G { frames := 0, cells := 0, slots := 0, locals := 0 }) {o : Int32} (hR : XR X (some .int) 0 0 (some (vi o)) w) (x0 : Int64) (h : Fo_Jlong_bitCount_24 w x0 = some o) : RJ X 2 0 0 24 [(0, vl x0)] [] w := by
  unfold Fo_Jlong_bitCount_24 at h
  refine r_lload_n (i := 0) hX d_Jlong_bitCount_24 0 rfl rfl ?_
  refine r_lload_n (i := 0) hX d_Jlong_bitCount_25 0 rfl rfl ?_
  refine r_iconst (v := (4 : Int32)) hX d_Jlong_bitCount_26 rfl ?_
  refine r_lushr hX d_Jlong_bitCount_27 ?_
  refine r_ladd hX d_Jlong_bitCount_28 ?_
  refine r_ldc2 hX d_Jlong_bitCount_29 cw_Jlong_318 ?_
  refine r_land hX d_Jlong_bitCount_32 ?_
  refine r_lstore_n (i := 0) hX d_Jlong_bitCount_33 rfl (by decide) ?_
  exact rj_sub [0] rfl (P_Jlong_bitCount_34 hX hM hR _ h)
def F_Jlong_bitCount_24 (x0 : Int64) : Int32 :=
  let v1 : Int64 := ((x0 + (lshr6 x0 (4 : Int32))) &&& (1085102592571150095 : Int64))
  F_Jlong_bitCount_34 v1
theorem E_Jlong_bitCount_24 (w : AW) (x0 : Int64) : Fo_Jlong_bitCount_24 w x0 = some (F_Jlong_bitCount_24 x0) := by
  simp only [Fo_Jlong_bitCount_24, F_Jlong_bitCount_24, E_Jlong_bitCount_34, apply_ite (some : Int32 → Option Int32)]
def Fo_Jlong_bitCount_10 (w : AW) (x0 : Int64) : Option (Int32) :=
  let v1 : Int64 := ((x0 &&& (3689348814741910323 : Int64)) + ((lshr6 x0 (2 : Int32)) &&& (3689348814741910323 : Int64)))
  Fo_Jlong_bitCount_24 w v1
theorem P_Jlong_bitCount_10 {X : AX} {l : Launch} {G : AG} {w : AW} (hX : XOK X b_Jlong_bitCount "java/lang/Long" 2) (hM : XM X l G { frames := 0, cells := 0, slots := 0, locals := 0 }) {o : Int32} (hR : XR X (some .int) 0 0 (some (vi o)) w) (x0 : Int64) (h : Fo_Jlong_bitCount_10 w x0 = some o) : RJ X 2 0 0 10 [(0, vl x0)] [] w := by
  unfold Fo_Jlong_bitCount_10 at h
  refine r_lload_n (i := 0) hX d_Jlong_bitCount_10 0 rfl rfl ?_
  refine r_ldc2 hX d_Jlong_bitCount_11 cw_Jlong_316 ?_
  refine r_land hX d_Jlong_bitCount_14 ?_
  refine r_lload_n (i := 0) hX d_Jlong_bitCount_15 0 rfl rfl ?_
  refine r_iconst (v := (2 : Int32)) hX d_Jlong_bitCount_16 rfl ?_
  refine r_lushr hX d_Jlong_bitCount_17 ?_
  refine r_ldc2 hX d_Jlong_bitCount_18 cw_Jlong_316 ?_
  refine r_land hX d_Jlong_bitCount_21 ?_
  refine r_ladd hX d_Jlong_bitCount_22 ?_
  refine r_lstore_n (i := 0) hX d_Jlong_bitCount_23 rfl (by decide) ?_
  exact rj_sub [0] rfl (P_Jlong_bitCount_24 hX hM hR _ h)
def F_Jlong_bitCount_10 (x0 : Int64) : Int32 :=
  let v1 : Int64 := ((x0 &&& (3689348814741910323 : Int64)) + ((lshr6 x0 (2 : Int32)) &&& (3689348814741910323 : Int64)))
  F_Jlong_bitCount_24 v1
theorem E_Jlong_bitCount_10 (w : AW) (x0 : Int64) : Fo_Jlong_bitCount_10 w x0 = some (F_Jlong_bitCount_10 x0) := by
  simp only [Fo_Jlong_bitCount_10, F_Jlong_bitCount_10, E_Jlong_bitCount_24, apply_ite (some : Int32 → Option Int32)]
def Fo_Jlong_bitCount (w : AW) (x0 : Int64) : Option (Int32) :=
  let v1 : Int64 := (x0 - ((lshr6 x0 (1 : Int32)) &&& (6148914691236517205 : Int64)))
  Fo_Jlong_bitCount_10 w v1
theorem P_Jlong_bitCount_0 {X : AX} {l : Launch} {G : AG} {w : AW} (hX : XOK X b_Jlong_bitCount "java/lang/Long" 2) (hM : XM X l G { frames := 0, cells := 0, slots := 0, locals := 0 }) {o : Int32} (hR : XR X (some .int) 0 0 (some (vi o)) w) (x0 : Int64) (h : Fo_Jlong_bitCount w x0 = some o) : RJ X 2 0 0 0 [(0, vl x0)] [] w := by
  unfold Fo_Jlong_bitCount at h
  refine r_lload_n (i := 0) hX d_Jlong_bitCount_0 0 rfl rfl ?_
  refine r_lload_n (i := 0) hX d_Jlong_bitCount_1 0 rfl rfl ?_
  refine r_iconst (v := (1 : Int32)) hX d_Jlong_bitCount_2 rfl ?_
  refine r_lushr hX d_Jlong_bitCount_3 ?_
  refine r_ldc2 hX d_Jlong_bitCount_4 cw_Jlong_314 ?_
  refine r_land hX d_Jlong_bitCount_7 ?_
  refine r_lsub hX d_Jlong_bitCount_8 ?_
  refine r_lstore_n (i := 0) hX d_Jlong_bitCount_9 rfl (by decide) ?_
  exact rj_sub [0] rfl (P_Jlong_bitCount_10 hX hM hR _ h)
def F_Jlong_bitCount (x0 : Int64) : Int32 :=
  let v1 : Int64 := (x0 - ((lshr6 x0 (1 : Int32)) &&& (6148914691236517205 : Int64)))
  F_Jlong_bitCount_10 v1
theorem E_Jlong_bitCount (w : AW) (x0 : Int64) : Fo_Jlong_bitCount w x0 = some (F_Jlong_bitCount x0) := by
  simp only [Fo_Jlong_bitCount, F_Jlong_bitCount, E_Jlong_bitCount_10, apply_ite (some : Int32 → Option Int32)]
theorem T_Jlong_bitCount {l : Launch} {G : AG} (x0 : Int64) (w : AW)  : Mt l G y_Jlong_bitCount b_Jlong_bitCount 2 (some (.int)) 0 0 0 0 [vl x0] w (some (vi (F_Jlong_bitCount x0))) w := mt_of (by decide) (Nat.le_of_ble_eq_true rfl) (fun X hX hR hM hI => P_Jlong_bitCount_0 hX hM hR _ (E_Jlong_bitCount _ _))
/-! RedSky$Days.sizeWith(LRedSky$Days;)I -/
theorem d_Dy_sizeWith_0 : decode b_Dy_sizeWith 0 = .ok (.iconst 0, 1) := by decide +kernel
theorem d_Dy_sizeWith_1 : decode b_Dy_sizeWith 1 = .ok (.istore_n 2, 1) := by decide +kernel
theorem d_Dy_sizeWith_2 : decode b_Dy_sizeWith 2 = .ok (.iconst 0, 1) := by decide +kernel
theorem d_Dy_sizeWith_3 : decode b_Dy_sizeWith 3 = .ok (.istore_n 3, 1) := by decide +kernel
theorem d_Dy_sizeWith_4 : decode b_Dy_sizeWith 4 = .ok (.iload_n 3, 1) := by decide +kernel
theorem d_Dy_sizeWith_5 : decode b_Dy_sizeWith 5 = .ok (.bipush (23), 2) := by decide +kernel
theorem d_Dy_sizeWith_7 : decode b_Dy_sizeWith 7 = .ok (.if_icmp .ge (28), 3) := by decide +kernel
theorem d_Dy_sizeWith_10 : decode b_Dy_sizeWith 10 = .ok (.iload_n 2, 1) := by decide +kernel
theorem d_Dy_sizeWith_11 : decode b_Dy_sizeWith 11 = .ok (.aload_n 0, 1) := by decide +kernel
theorem d_Dy_sizeWith_12 : decode b_Dy_sizeWith 12 = .ok (.getfield 11, 3) := by decide +kernel
theorem d_Dy_sizeWith_15 : decode b_Dy_sizeWith 15 = .ok (.iload_n 3, 1) := by decide +kernel
theorem d_Dy_sizeWith_16 : decode b_Dy_sizeWith 16 = .ok (.laload, 1) := by decide +kernel
theorem d_Dy_sizeWith_17 : decode b_Dy_sizeWith 17 = .ok (.aload_n 1, 1) := by decide +kernel
theorem d_Dy_sizeWith_18 : decode b_Dy_sizeWith 18 = .ok (.getfield 11, 3) := by decide +kernel
theorem d_Dy_sizeWith_21 : decode b_Dy_sizeWith 21 = .ok (.iload_n 3, 1) := by decide +kernel
theorem d_Dy_sizeWith_22 : decode b_Dy_sizeWith 22 = .ok (.laload, 1) := by decide +kernel
theorem d_Dy_sizeWith_23 : decode b_Dy_sizeWith 23 = .ok (.land, 1) := by decide +kernel
theorem d_Dy_sizeWith_24 : decode b_Dy_sizeWith 24 = .ok (.invokestatic 45, 3) := by decide +kernel
theorem d_Dy_sizeWith_27 : decode b_Dy_sizeWith 27 = .ok (.iadd, 1) := by decide +kernel
theorem d_Dy_sizeWith_28 : decode b_Dy_sizeWith 28 = .ok (.istore_n 2, 1) := by decide +kernel
theorem d_Dy_sizeWith_29 : decode b_Dy_sizeWith 29 = .ok (.iinc 3 (1), 3) := by decide +kernel
theorem d_Dy_sizeWith_32 : decode b_Dy_sizeWith 32 = .ok (.goto (-28), 3) := by decide +kernel
theorem d_Dy_sizeWith_35 : decode b_Dy_sizeWith 35 = .ok (.iload_n 2, 1) := by decide +kernel
theorem d_Dy_sizeWith_36 : decode b_Dy_sizeWith 36 = .ok (.ireturn, 1) := by decide +kernel
def F_Dy_sizeWith_4_B (rec4 : Nat → Nat → Int32 → Int32 → Option (Int32)) (w : AW) (a0 : Nat) (a1 : Nat) (x2 : Int32) (x3 : Int32) : Option (Int32) :=
  if (23 : Int32) ≤ x3 then
    some x2
  else
    gd (wk w a0 == 8) <|
    gd (wk w (wr w a0 0) == 101) <|
    gd (inb x3 (wn w (wr w a0 0))) <|
    gd (wk w a1 == 8) <|
    gd (wk w (wr w a1 0) == 101) <|
    gd (inb x3 (wn w (wr w a1 0))) <|
    let v7 : Int32 := (x2 + (F_Jlong_bitCount ((wj w (wr w a0 0) (Int32.toNatClampNeg x3)) &&& (wj w (wr w a1 0) (Int32.toNatClampNeg x3)))))
    let v8 : Int32 := (x3 + (1 : Int32))
    rec4 a0 a1 v7 v8
theorem P_Dy_sizeWith_4_B {X : AX} {l : Launch} {G : AG} {w : AW} {rec4 : Nat → Nat → Int32 → Int32 → Option (Int32)} (hX : XOK X b_Dy_sizeWith "RedSky$Days" 4) (hM : XM X l G { frames := 1, cells := 0, slots := 0, locals := 21 }) {o : Int32} (hR : XR X (some .int) 0 0 (some (vi o)) w) (hrec4 : ∀ (a0 : Nat) (a1 : Nat) (x2 : Int32) (x3 : Int32), rec4 a0 a1 x2 x3 = some o → RJ X 4 0 0 4 [(0, vr a0), (1, vr a1), (2, vi x2), (3, vi x3)] [] w) (a0 : Nat) (a1 : Nat) (x2 : Int32) (x3 : Int32) (h : F_Dy_sizeWith_4_B rec4 w a0 a1 x2 x3 = some o) : RJ X 4 0 0 4 [(0, vr a0), (1, vr a1), (2, vi x2), (3, vi x3)] [] w := by
  unfold F_Dy_sizeWith_4_B at h
  refine r_iload_n (i := 3) hX d_Dy_sizeWith_4 3 rfl rfl ?_
  refine r_bipush (v := (23 : Int32)) hX d_Dy_sizeWith_5 rfl ?_
  refine r_icmp_ge hX d_Dy_sizeWith_7 rfl h (fun h => ?_) (fun h => ?_)
  · refine r_iload_n (i := 2) hX d_Dy_sizeWith_35 2 rfl rfl ?_
    cases h; exact r_iret hX hR d_Dy_sizeWith_36
  · refine r_iload_n (i := 2) hX d_Dy_sizeWith_10 2 rfl rfl ?_
    refine r_aload_n (i := 0) hX d_Dy_sizeWith_11 0 rfl rfl ?_
    obtain ⟨hk1, h⟩ := gd_e h
    refine r_getR (i := 7) (f := 0) hX ci_7 (by decide) rfl fl_Dy_11 hk1 d_Dy_sizeWith_12 ?_
    refine r_iload_n (i := 3) hX d_Dy_sizeWith_15 3 rfl rfl ?_
    obtain ⟨hk2, h⟩ := gd_e h
    obtain ⟨hg3, h⟩ := gd_e h
    refine r_lald hX hk2 hg3 d_Dy_sizeWith_16 ?_
    refine r_aload_n (i := 1) hX d_Dy_sizeWith_17 1 rfl rfl ?_
    obtain ⟨hk4, h⟩ := gd_e h
    refine r_getR (i := 7) (f := 0) hX ci_7 (by decide) rfl fl_Dy_11 hk4 d_Dy_sizeWith_18 ?_
    refine r_iload_n (i := 3) hX d_Dy_sizeWith_21 3 rfl rfl ?_
    obtain ⟨hk5, h⟩ := gd_e h
    obtain ⟨hg6, h⟩ := gd_e h
    refine r_lald hX hk5 hg6 d_Dy_sizeWith_22 ?_
    refine r_land hX d_Dy_sizeWith_23 ?_
    refine r_callS1 (As := [_]) hX hM mw_Dy_45 (T_Jlong_bitCount _ _) rfl rfl ⟨Nat.le_refl _, Nat.le_refl _⟩ rfl rfl d_Dy_sizeWith_24 ?_
    refine r_iadd hX d_Dy_sizeWith_27 ?_
    refine r_istore_n (i := 2) hX d_Dy_sizeWith_28 rfl (by decide) ?_
    refine r_iinc (i := 3) (v := (1 : Int32)) hX d_Dy_sizeWith_29 3 rfl rfl (by decide) ?_
    refine r_goto hX d_Dy_sizeWith_32 rfl ?_
    exact rj_sub [2, 3, 1, 0] rfl (hrec4 _ _ _ _ h)
def F_Dy_sizeWith_4 (w : AW) : Nat → Nat → Nat → Int32 → Int32 → Option (Int32)
  | 0 => fun _ _ _ _ => none
  | n + 1 => fun a0 a1 x2 x3 => F_Dy_sizeWith_4_B (F_Dy_sizeWith_4 w n) w a0 a1 x2 x3
theorem P_Dy_sizeWith_4 {X : AX} {l : Launch} {G : AG} {w : AW} (hX : XOK X b_Dy_sizeWith "RedSky$Days" 4) (hM : XM X l G { frames := 1, cells := 0, slots := 0, locals := 21 }) {o : Int32} (hR : XR X (some .int) 0 0 (some (vi o)) w) (fu : Nat) : ∀ (a0 : Nat) (a1 : Nat) (x2 : Int32) (x3 : Int32), F_Dy_sizeWith_4 w fu a0 a1 x2 x3 = some o → RJ X 4 0 0 4 [(0, vr a0), (1, vr a1), (2, vi x2), (3, vi x3)] [] w := by
  induction fu with
  | zero => intro a0 a1 x2 x3 h; cases h
  | succ n9 ih => intro a0 a1 x2 x3 h; exact P_Dy_sizeWith_4_B hX hM hR ih _ _ _ _ h
def F_Dy_sizeWith (w : AW) (a0 : Nat) (a1 : Nat) : Option (Int32) :=
  F_Dy_sizeWith_4 w FUEL a0 a1 (0 : Int32) (0 : Int32)
theorem P_Dy_sizeWith_0 {X : AX} {l : Launch} {G : AG} {w : AW} (hX : XOK X b_Dy_sizeWith "RedSky$Days" 4) (hM : XM X l G { frames := 1, cells := 0, slots := 0, locals := 21 }) {o : Int32} (hR : XR X (some .int) 0 0 (some (vi o)) w) (a0 : Nat) (a1 : Nat) (h : F_Dy_sizeWith w a0 a1 = some o) : RJ X 4 0 0 0 [(0, vr a0), (1, vr a1)] [] w := by
  unfold F_Dy_sizeWith at h
  refine r_iconst (v := (0 : Int32)) hX d_Dy_sizeWith_0 rfl ?_
  refine r_istore_n (i := 2) hX d_Dy_sizeWith_1 rfl (by decide) ?_
  refine r_iconst (v := (0 : Int32)) hX d_Dy_sizeWith_2 rfl ?_
  refine r_istore_n (i := 3) hX d_Dy_sizeWith_3 rfl (by decide) ?_
  exact rj_sub [2, 3, 1, 0] rfl (P_Dy_sizeWith_4 hX hM hR FUEL _ _ _ _ h)
theorem T_Dy_sizeWith {l : Launch} {G : AG} (w : AW) (a0 : Nat) (a1 : Nat) {o : Int32} (h : F_Dy_sizeWith w a0 a1 = some o) : Mt l G y_Dy_sizeWith b_Dy_sizeWith 4 (some (.int)) 1 21 0 0 [vr a0, vr a1] w (some (vi o)) w := mt_of (by decide) (Nat.le_of_ble_eq_true rfl) (fun X hX hR hM hI => P_Dy_sizeWith_0 hX hM hR _ _ h)
/-! RedSky.cases(IIIII)I -/
theorem d_A_cases_0 : decode b_A_cases 0 = .ok (.aload_n 0, 1) := by decide +kernel
theorem d_A_cases_1 : decode b_A_cases 1 = .ok (.iload_n 1, 1) := by decide +kernel
theorem d_A_cases_2 : decode b_A_cases 2 = .ok (.invokevirtual 200, 3) := by decide +kernel
theorem d_A_cases_5 : decode b_A_cases 5 = .ok (.astore 6, 2) := by decide +kernel
theorem d_A_cases_7 : decode b_A_cases 7 = .ok (.aload_n 0, 1) := by decide +kernel
theorem d_A_cases_8 : decode b_A_cases 8 = .ok (.iload_n 2, 1) := by decide +kernel
theorem d_A_cases_9 : decode b_A_cases 9 = .ok (.invokevirtual 141, 3) := by decide +kernel
theorem d_A_cases_12 : decode b_A_cases 12 = .ok (.astore 7, 2) := by decide +kernel
theorem d_A_cases_14 : decode b_A_cases 14 = .ok (.aload 6, 2) := by decide +kernel
theorem d_A_cases_16 : decode b_A_cases 16 = .ok (.ifnull (8), 3) := by decide +kernel
theorem d_A_cases_19 : decode b_A_cases 19 = .ok (.aload 7, 2) := by decide +kernel
theorem d_A_cases_21 : decode b_A_cases 21 = .ok (.ifnonnull (6), 3) := by decide +kernel
theorem d_A_cases_24 : decode b_A_cases 24 = .ok (.bipush (-101), 2) := by decide +kernel
theorem d_A_cases_26 : decode b_A_cases 26 = .ok (.ireturn, 1) := by decide +kernel
theorem d_A_cases_27 : decode b_A_cases 27 = .ok (.iload_n 3, 1) := by decide +kernel
theorem d_A_cases_28 : decode b_A_cases 28 = .ok (.invokestatic 97, 3) := by decide +kernel
theorem d_A_cases_31 : decode b_A_cases 31 = .ok (.ifCond .eq (27), 3) := by decide +kernel
theorem d_A_cases_34 : decode b_A_cases 34 = .ok (.iload 4, 2) := by decide +kernel
theorem d_A_cases_36 : decode b_A_cases 36 = .ok (.invokestatic 97, 3) := by decide +kernel
theorem d_A_cases_39 : decode b_A_cases 39 = .ok (.ifCond .eq (19), 3) := by decide +kernel
theorem d_A_cases_42 : decode b_A_cases 42 = .ok (.iload 4, 2) := by decide +kernel
theorem d_A_cases_44 : decode b_A_cases 44 = .ok (.iload_n 3, 1) := by decide +kernel
theorem d_A_cases_45 : decode b_A_cases 45 = .ok (.if_icmp .lt (13), 3) := by decide +kernel
theorem d_A_cases_48 : decode b_A_cases 48 = .ok (.iload 5, 2) := by decide +kernel
theorem d_A_cases_50 : decode b_A_cases 50 = .ok (.iconst 0, 1) := by decide +kernel
theorem d_A_cases_51 : decode b_A_cases 51 = .ok (.iconst 3, 1) := by decide +kernel
theorem d_A_cases_52 : decode b_A_cases 52 = .ok (.invokestatic 86, 3) := by decide +kernel
theorem d_A_cases_55 : decode b_A_cases 55 = .ok (.ifCond .ne (6), 3) := by decide +kernel
theorem d_A_cases_58 : decode b_A_cases 58 = .ok (.bipush (-102), 2) := by decide +kernel
theorem d_A_cases_60 : decode b_A_cases 60 = .ok (.ireturn, 1) := by decide +kernel
theorem d_A_cases_61 : decode b_A_cases 61 = .ok (.aload_n 0, 1) := by decide +kernel
theorem d_A_cases_62 : decode b_A_cases 62 = .ok (.getfield 49, 3) := by decide +kernel
theorem d_A_cases_65 : decode b_A_cases 65 = .ok (.aload 6, 2) := by decide +kernel
theorem d_A_cases_67 : decode b_A_cases 67 = .ok (.aload 7, 2) := by decide +kernel
theorem d_A_cases_69 : decode b_A_cases 69 = .ok (.aload_n 0, 1) := by decide +kernel
theorem d_A_cases_70 : decode b_A_cases 70 = .ok (.getfield 10, 3) := by decide +kernel
theorem d_A_cases_73 : decode b_A_cases 73 = .ok (.aload_n 0, 1) := by decide +kernel
theorem d_A_cases_74 : decode b_A_cases 74 = .ok (.getfield 42, 3) := by decide +kernel
theorem d_A_cases_77 : decode b_A_cases 77 = .ok (.invokevirtual 207, 3) := by decide +kernel
theorem d_A_cases_80 : decode b_A_cases 80 = .ok (.aload_n 0, 1) := by decide +kernel
theorem d_A_cases_81 : decode b_A_cases 81 = .ok (.getfield 59, 3) := by decide +kernel
theorem d_A_cases_84 : decode b_A_cases 84 = .ok (.invokevirtual 214, 3) := by decide +kernel
theorem d_A_cases_87 : decode b_A_cases 87 = .ok (.aload_n 0, 1) := by decide +kernel
theorem d_A_cases_88 : decode b_A_cases 88 = .ok (.getfield 59, 3) := by decide +kernel
theorem d_A_cases_91 : decode b_A_cases 91 = .ok (.aload_n 0, 1) := by decide +kernel
theorem d_A_cases_92 : decode b_A_cases 92 = .ok (.getfield 10, 3) := by decide +kernel
theorem d_A_cases_95 : decode b_A_cases 95 = .ok (.iload_n 3, 1) := by decide +kernel
theorem d_A_cases_96 : decode b_A_cases 96 = .ok (.invokevirtual 145, 3) := by decide +kernel
theorem d_A_cases_99 : decode b_A_cases 99 = .ok (.aload_n 0, 1) := by decide +kernel
theorem d_A_cases_100 : decode b_A_cases 100 = .ok (.getfield 10, 3) := by decide +kernel
theorem d_A_cases_103 : decode b_A_cases 103 = .ok (.iload 4, 2) := by decide +kernel
theorem d_A_cases_105 : decode b_A_cases 105 = .ok (.invokevirtual 148, 3) := by decide +kernel
theorem d_A_cases_108 : decode b_A_cases 108 = .ok (.invokevirtual 215, 3) := by decide +kernel
theorem d_A_cases_111 : decode b_A_cases 111 = .ok (.aload_n 0, 1) := by decide +kernel
theorem d_A_cases_112 : decode b_A_cases 112 = .ok (.getfield 49, 3) := by decide +kernel
theorem d_A_cases_115 : decode b_A_cases 115 = .ok (.iload 5, 2) := by decide +kernel
theorem d_A_cases_117 : decode b_A_cases 117 = .ok (.invokevirtual 219, 3) := by decide +kernel
theorem d_A_cases_120 : decode b_A_cases 120 = .ok (.aload_n 0, 1) := by decide +kernel
theorem d_A_cases_121 : decode b_A_cases 121 = .ok (.getfield 59, 3) := by decide +kernel
theorem d_A_cases_124 : decode b_A_cases 124 = .ok (.invokevirtual 223, 3) := by decide +kernel
theorem d_A_cases_127 : decode b_A_cases 127 = .ok (.ireturn, 1) := by decide +kernel
def F_A_cases (a0 : Nat) (x1 : Int32) (x2 : Int32) (x3 : Int32) (x4 : Int32) (x5 : Int32) (w : AW) : Option (Int32 × AW) :=
  gd (wk w a0 == 1) <|
  (F_A_sayingOf w a0 x1).bind fun r2 =>
  (F_A_diaryOf w a0 x2).bind fun r4 =>
  if r2 = 0 then
    some ((-101 : Int32), w)
  else
    if r4 = 0 then
      some ((-101 : Int32), w)
    else
      if (F_A_isYear x3) = 0 then
        some ((-102 : Int32), w)
      else
        if (F_A_isYear x4) = 0 then
          some ((-102 : Int32), w)
        else
          if x4 < x3 then
            some ((-102 : Int32), w)
          else
            if (F_A_within x5 (0 : Int32) (3 : Int32)) = 0 then
              some ((-102 : Int32), w)
            else
              gd (wk w (wr w a0 6) == 9) <|
              (F_Rd_read (wr w a0 6) r2 r4 (wr w a0 0) (wr w a0 5) w).bind fun r7 =>
              gd (wk r7 a0 == 1) <|
              gd (wk r7 (wr r7 a0 8) == 8) <|
              (F_Dy_clear (wr r7 a0 8) r7).bind fun r11 =>
              gd (wk r11 a0 == 1) <|
              gd (wk r11 (wr r11 a0 0) == 2) <|
              (F_Ca_startOf r11 (wr r11 a0 0) x3).bind fun r15 =>
              (F_Ca_endOf r11 (wr r11 a0 0) x4).bind fun r17 =>
              gd (wk r11 (wr r11 a0 8) == 8) <|
              (F_Dy_addFrom (wr r11 a0 8) r15 r17 r11).bind fun r20 =>
              gd (wk r20 a0 == 1) <|
              gd (wk r20 (wr r20 a0 6) == 9) <|
              (F_Rd_part r20 (wr r20 a0 6) x5).bind fun r24 =>
              gd (wk r20 r24 == 8) <|
              (F_Dy_sizeWith r20 r24 (wr r20 a0 8)).bind fun r27 =>
              some (r27, r20)
theorem P_A_cases_0 {X : AX} {l : Launch} {G : AG} (hX : XOK X b_A_cases "RedSky" 8) (hM : XM X l G { frames := 6, cells := 0, slots := 0, locals := 147 }) {o : Int32 × AW} (hR : XR X (some .int) 0 0 (some (vi o.1)) o.2) (a0 : Nat) (x1 : Int32) (x2 : Int32) (x3 : Int32) (x4 : Int32) (x5 : Int32) (w : AW) (h : F_A_cases a0 x1 x2 x3 x4 x5 w = some o) : RJ X 8 0 0 0 [(0, vr a0), (1, vi x1), (2, vi x2), (3, vi x3), (4, vi x4), (5, vi x5)] [] w := by
  unfold F_A_cases at h
  refine r_aload_n (i := 0) hX d_A_cases_0 0 rfl rfl ?_
  refine r_iload_n (i := 1) hX d_A_cases_1 1 rfl rfl ?_
  obtain ⟨hk1, h⟩ := gd_e h
  obtain ⟨r2, hr3, h⟩ := bd_e h
  refine r_callV1 (As := [_]) hX hM mw_A_200 (T_A_sayingOf _ _ _ hr3) (rc_of ci_0 hk1) rfl rfl ⟨Nat.le_refl _, Nat.le_refl _⟩ rfl rfl d_A_cases_2 ?_
  refine r_astore (i := 6) hX d_A_cases_5  (by decide) ?_
  refine r_aload_n (i := 0) hX d_A_cases_7 1 rfl rfl ?_
  refine r_iload_n (i := 2) hX d_A_cases_8 3 rfl rfl ?_
  obtain ⟨r4, hr5, h⟩ := bd_e h
  refine r_callV1 (As := [_]) hX hM mw_A_141 (T_A_diaryOf _ _ _ hr5) (rc_of ci_0 hk1) rfl rfl ⟨Nat.le_refl _, Nat.le_refl _⟩ rfl rfl d_A_cases_9 ?_
  refine r_astore (i := 7) hX d_A_cases_12  (by decide) ?_
  refine r_aload (i := 6) hX d_A_cases_14 1  rfl ?_
  refine r_ifnull hX d_A_cases_16 rfl h (fun h => ?_) (fun h => ?_)
  · refine r_bipush (v := (-101 : Int32)) hX d_A_cases_24 rfl ?_
    cases h; exact r_iret hX hR d_A_cases_26
  · refine r_aload (i := 7) hX d_A_cases_19 0  rfl ?_
    refine r_ifnonnull hX d_A_cases_21 rfl h (fun h => ?_) (fun h => ?_)
    · refine r_iload_n (i := 3) hX d_A_cases_27 5 rfl rfl ?_
      refine r_callS1 (As := [_]) hX hM mw_A_97 (T_A_isYear _ _) rfl rfl ⟨Nat.le_refl _, Nat.le_refl _⟩ rfl rfl d_A_cases_28 ?_
      refine r_if_eq hX d_A_cases_31 rfl h (fun h => ?_) (fun h => ?_)
      · refine r_bipush (v := (-102 : Int32)) hX d_A_cases_58 rfl ?_
        cases h; exact r_iret hX hR d_A_cases_60
      · refine r_iload (i := 4) hX d_A_cases_34 6  rfl ?_
        refine r_callS1 (As := [_]) hX hM mw_A_97 (T_A_isYear _ _) rfl rfl ⟨Nat.le_refl _, Nat.le_refl _⟩ rfl rfl d_A_cases_36 ?_
        refine r_if_eq hX d_A_cases_39 rfl h (fun h => ?_) (fun h => ?_)
        · refine r_bipush (v := (-102 : Int32)) hX d_A_cases_58 rfl ?_
          cases h; exact r_iret hX hR d_A_cases_60
        · refine r_iload (i := 4) hX d_A_cases_42 6  rfl ?_
          refine r_iload_n (i := 3) hX d_A_cases_44 5 rfl rfl ?_
          refine r_icmp_lt hX d_A_cases_45 rfl h (fun h => ?_) (fun h => ?_)
          · refine r_bipush (v := (-102 : Int32)) hX d_A_cases_58 rfl ?_
            cases h; exact r_iret hX hR d_A_cases_60
          · refine r_iload (i := 5) hX d_A_cases_48 7  rfl ?_
            refine r_iconst (v := (0 : Int32)) hX d_A_cases_50 rfl ?_
            refine r_iconst (v := (3 : Int32)) hX d_A_cases_51 rfl ?_
            refine r_callS1 (As := [_, _, _]) hX hM mw_A_86 (T_A_within _ _ _ _) rfl rfl ⟨Nat.le_refl _, Nat.le_refl _⟩ rfl rfl d_A_cases_52 ?_
            refine r_if_ne hX d_A_cases_55 rfl h (fun h => ?_) (fun h => ?_)
            · refine r_aload_n (i := 0) hX d_A_cases_61 2 rfl rfl ?_
              refine r_getR (i := 0) (f := 6) hX ci_0 (by decide) rfl fl_A_49 hk1 d_A_cases_62 ?_
              refine r_aload (i := 6) hX d_A_cases_65 1  rfl ?_
              refine r_aload (i := 7) hX d_A_cases_67 0  rfl ?_
              refine r_aload_n (i := 0) hX d_A_cases_69 2 rfl rfl ?_
              refine r_getR (i := 0) (f := 0) hX ci_0 (by decide) rfl fl_A_10 hk1 d_A_cases_70 ?_
              refine r_aload_n (i := 0) hX d_A_cases_73 2 rfl rfl ?_
              refine r_getR (i := 0) (f := 5) hX ci_0 (by decide) rfl fl_A_42 hk1 d_A_cases_74 ?_
              obtain ⟨hk6, h⟩ := gd_e h
              obtain ⟨r7, hr8, h⟩ := bd_e h
              refine r_callV0 (As := [_, _, _, _]) hX hM mw_A_207 (T_Rd_read _ _ _ _ _ _ hr8) (rc_of ci_8 hk6) rfl rfl ⟨Nat.le_refl _, Nat.le_refl _⟩ rfl rfl d_A_cases_77 ?_
              refine r_aload_n (i := 0) hX d_A_cases_80 2 rfl rfl ?_
              obtain ⟨hk9, h⟩ := gd_e h
              refine r_getR (i := 0) (f := 8) hX ci_0 (by decide) rfl fl_A_59 hk9 d_A_cases_81 ?_
              obtain ⟨hk10, h⟩ := gd_e h
              obtain ⟨r11, hr12, h⟩ := bd_e h
              refine r_callV0 (As := []) hX hM mw_A_214 (T_Dy_clear _ _ hr12) (rc_of ci_7 hk10) rfl rfl ⟨Nat.le_refl _, Nat.le_refl _⟩ rfl rfl d_A_cases_84 ?_
              refine r_aload_n (i := 0) hX d_A_cases_87 2 rfl rfl ?_
              obtain ⟨hk13, h⟩ := gd_e h
              refine r_getR (i := 0) (f := 8) hX ci_0 (by decide) rfl fl_A_59 hk13 d_A_cases_88 ?_
              refine r_aload_n (i := 0) hX d_A_cases_91 2 rfl rfl ?_
              refine r_getR (i := 0) (f := 0) hX ci_0 (by decide) rfl fl_A_10 hk13 d_A_cases_92 ?_
              refine r_iload_n (i := 3) hX d_A_cases_95 5 rfl rfl ?_
              obtain ⟨hk14, h⟩ := gd_e h
              obtain ⟨r15, hr16, h⟩ := bd_e h
              refine r_callV1 (As := [_]) hX hM mw_A_145 (T_Ca_startOf _ _ _ hr16) (rc_of ci_1 hk14) rfl rfl ⟨Nat.le_refl _, Nat.le_refl _⟩ rfl rfl d_A_cases_96 ?_
              refine r_aload_n (i := 0) hX d_A_cases_99 2 rfl rfl ?_
              refine r_getR (i := 0) (f := 0) hX ci_0 (by decide) rfl fl_A_10 hk13 d_A_cases_100 ?_
              refine r_iload (i := 4) hX d_A_cases_103 6  rfl ?_
              obtain ⟨r17, hr18, h⟩ := bd_e h
              refine r_callV1 (As := [_]) hX hM mw_A_148 (T_Ca_endOf _ _ _ hr18) (rc_of ci_1 hk14) rfl rfl ⟨Nat.le_refl _, Nat.le_refl _⟩ rfl rfl d_A_cases_105 ?_
              obtain ⟨hk19, h⟩ := gd_e h
              obtain ⟨r20, hr21, h⟩ := bd_e h
              refine r_callV0 (As := [_, _]) hX hM mw_A_215 (T_Dy_addFrom _ _ _ _ hr21) (rc_of ci_7 hk19) rfl rfl ⟨Nat.le_refl _, Nat.le_refl _⟩ rfl rfl d_A_cases_108 ?_
              refine r_aload_n (i := 0) hX d_A_cases_111 2 rfl rfl ?_
              obtain ⟨hk22, h⟩ := gd_e h
              refine r_getR (i := 0) (f := 6) hX ci_0 (by decide) rfl fl_A_49 hk22 d_A_cases_112 ?_
              refine r_iload (i := 5) hX d_A_cases_115 7  rfl ?_
              obtain ⟨hk23, h⟩ := gd_e h
              obtain ⟨r24, hr25, h⟩ := bd_e h
              refine r_callV1 (As := [_]) hX hM mw_A_219 (T_Rd_part _ _ _ hr25) (rc_of ci_8 hk23) rfl rfl ⟨Nat.le_refl _, Nat.le_refl _⟩ rfl rfl d_A_cases_117 ?_
              refine r_aload_n (i := 0) hX d_A_cases_120 2 rfl rfl ?_
              refine r_getR (i := 0) (f := 8) hX ci_0 (by decide) rfl fl_A_59 hk22 d_A_cases_121 ?_
              obtain ⟨hk26, h⟩ := gd_e h
              obtain ⟨r27, hr28, h⟩ := bd_e h
              refine r_callV1 (As := [_]) hX hM mw_A_223 (T_Dy_sizeWith _ _ _ hr28) (rc_of ci_7 hk26) rfl rfl ⟨Nat.le_refl _, Nat.le_refl _⟩ rfl rfl d_A_cases_124 ?_
              cases h; exact r_iret hX hR d_A_cases_127
            · refine r_bipush (v := (-102 : Int32)) hX d_A_cases_58 rfl ?_
              cases h; exact r_iret hX hR d_A_cases_60
    · refine r_bipush (v := (-101 : Int32)) hX d_A_cases_24 rfl ?_
      cases h; exact r_iret hX hR d_A_cases_26
theorem T_A_cases {l : Launch} {G : AG} (a0 : Nat) (x1 : Int32) (x2 : Int32) (x3 : Int32) (x4 : Int32) (x5 : Int32) (w : AW) {o : Int32 × AW} (h : F_A_cases a0 x1 x2 x3 x4 x5 w = some o) : Mt l G y_A_cases b_A_cases 8 (some (.int)) 6 147 0 0 [vr a0, vi x1, vi x2, vi x3, vi x4, vi x5] w (some (vi o.1)) o.2 := mt_of (by decide) (Nat.le_of_ble_eq_true rfl) (fun X hX hR hM hI => P_A_cases_0 hX hM hR _ _ _ _ _ _ _ h)
/-! RedSkyModel.isOf(IIII)Z -/
theorem d_M_isOf_0 : decode b_M_isOf 0 = .ok (.aload_n 0, 1) := by decide +kernel
theorem d_M_isOf_1 : decode b_M_isOf 1 = .ok (.iload_n 1, 1) := by decide +kernel
theorem d_M_isOf_2 : decode b_M_isOf 2 = .ok (.iload_n 2, 1) := by decide +kernel
theorem d_M_isOf_3 : decode b_M_isOf 3 = .ok (.iload_n 3, 1) := by decide +kernel
theorem d_M_isOf_4 : decode b_M_isOf 4 = .ok (.invokevirtual 318, 3) := by decide +kernel
theorem d_M_isOf_7 : decode b_M_isOf 7 = .ok (.istore 5, 2) := by decide +kernel
theorem d_M_isOf_9 : decode b_M_isOf 9 = .ok (.aload_n 0, 1) := by decide +kernel
theorem d_M_isOf_10 : decode b_M_isOf 10 = .ok (.iload_n 1, 1) := by decide +kernel
theorem d_M_isOf_11 : decode b_M_isOf 11 = .ok (.iload_n 2, 1) := by decide +kernel
theorem d_M_isOf_12 : decode b_M_isOf 12 = .ok (.iload_n 3, 1) := by decide +kernel
theorem d_M_isOf_13 : decode b_M_isOf 13 = .ok (.invokevirtual 321, 3) := by decide +kernel
theorem d_M_isOf_16 : decode b_M_isOf 16 = .ok (.istore 6, 2) := by decide +kernel
theorem d_M_isOf_18 : decode b_M_isOf 18 = .ok (.iload 5, 2) := by decide +kernel
theorem d_M_isOf_20 : decode b_M_isOf 20 = .ok (.iconst (-1), 1) := by decide +kernel
theorem d_M_isOf_21 : decode b_M_isOf 21 = .ok (.if_icmp .eq (18), 3) := by decide +kernel
theorem d_M_isOf_24 : decode b_M_isOf 24 = .ok (.iload 6, 2) := by decide +kernel
theorem d_M_isOf_26 : decode b_M_isOf 26 = .ok (.iconst (-1), 1) := by decide +kernel
theorem d_M_isOf_27 : decode b_M_isOf 27 = .ok (.if_icmp .eq (12), 3) := by decide +kernel
theorem d_M_isOf_30 : decode b_M_isOf 30 = .ok (.aload_n 0, 1) := by decide +kernel
theorem d_M_isOf_31 : decode b_M_isOf 31 = .ok (.iload_n 1, 1) := by decide +kernel
theorem d_M_isOf_32 : decode b_M_isOf 32 = .ok (.iload_n 3, 1) := by decide +kernel
theorem d_M_isOf_33 : decode b_M_isOf 33 = .ok (.invokevirtual 324, 3) := by decide +kernel
theorem d_M_isOf_36 : decode b_M_isOf 36 = .ok (.ifCond .ne (5), 3) := by decide +kernel
theorem d_M_isOf_39 : decode b_M_isOf 39 = .ok (.iconst 0, 1) := by decide +kernel
theorem d_M_isOf_40 : decode b_M_isOf 40 = .ok (.ireturn, 1) := by decide +kernel
theorem d_M_isOf_41 : decode b_M_isOf 41 = .ok (.iload 4, 2) := by decide +kernel
theorem d_M_isOf_43 : decode b_M_isOf 43 = .ok (.ifCond .eq (45), 3) := by decide +kernel
theorem d_M_isOf_46 : decode b_M_isOf 46 = .ok (.iload 4, 2) := by decide +kernel
theorem d_M_isOf_48 : decode b_M_isOf 48 = .ok (.iconst 1, 1) := by decide +kernel
theorem d_M_isOf_49 : decode b_M_isOf 49 = .ok (.if_icmp .ne (9), 3) := by decide +kernel
theorem d_M_isOf_52 : decode b_M_isOf 52 = .ok (.iload 5, 2) := by decide +kernel
theorem d_M_isOf_54 : decode b_M_isOf 54 = .ok (.iconst 1, 1) := by decide +kernel
theorem d_M_isOf_55 : decode b_M_isOf 55 = .ok (.if_icmp .eq (33), 3) := by decide +kernel
theorem d_M_isOf_58 : decode b_M_isOf 58 = .ok (.iload 4, 2) := by decide +kernel
theorem d_M_isOf_60 : decode b_M_isOf 60 = .ok (.iconst 2, 1) := by decide +kernel
theorem d_M_isOf_61 : decode b_M_isOf 61 = .ok (.if_icmp .ne (15), 3) := by decide +kernel
theorem d_M_isOf_64 : decode b_M_isOf 64 = .ok (.iload 5, 2) := by decide +kernel
theorem d_M_isOf_66 : decode b_M_isOf 66 = .ok (.iconst 1, 1) := by decide +kernel
theorem d_M_isOf_67 : decode b_M_isOf 67 = .ok (.if_icmp .ne (9), 3) := by decide +kernel
theorem d_M_isOf_70 : decode b_M_isOf 70 = .ok (.iload 6, 2) := by decide +kernel
theorem d_M_isOf_72 : decode b_M_isOf 72 = .ok (.iconst 1, 1) := by decide +kernel
theorem d_M_isOf_73 : decode b_M_isOf 73 = .ok (.if_icmp .eq (15), 3) := by decide +kernel
theorem d_M_isOf_76 : decode b_M_isOf 76 = .ok (.iload 4, 2) := by decide +kernel
theorem d_M_isOf_78 : decode b_M_isOf 78 = .ok (.iconst 3, 1) := by decide +kernel
theorem d_M_isOf_79 : decode b_M_isOf 79 = .ok (.if_icmp .ne (13), 3) := by decide +kernel
theorem d_M_isOf_82 : decode b_M_isOf 82 = .ok (.iload 6, 2) := by decide +kernel
theorem d_M_isOf_84 : decode b_M_isOf 84 = .ok (.iconst 1, 1) := by decide +kernel
theorem d_M_isOf_85 : decode b_M_isOf 85 = .ok (.if_icmp .ne (7), 3) := by decide +kernel
theorem d_M_isOf_88 : decode b_M_isOf 88 = .ok (.iconst 1, 1) := by decide +kernel
theorem d_M_isOf_89 : decode b_M_isOf 89 = .ok (.goto (4), 3) := by decide +kernel
theorem d_M_isOf_92 : decode b_M_isOf 92 = .ok (.iconst 0, 1) := by decide +kernel
theorem d_M_isOf_93 : decode b_M_isOf 93 = .ok (.ireturn, 1) := by decide +kernel
def F_M_isOf_76 (x4 : Int32) (x6 : Int32) (w : AW) : Option (Int32 × AW) :=
  if x4 = (3 : Int32) then
    if x6 = (1 : Int32) then
      some ((1 : Int32), w)
    else
      some ((0 : Int32), w)
  else
    some ((0 : Int32), w)
theorem P_M_isOf_76 {X : AX} {l : Launch} {G : AG} (hX : XOK X b_M_isOf "RedSkyModel" 7) (hM : XM X l G { frames := 6, cells := 0, slots := 0, locals := 140 }) {o : Int32 × AW} (hR : XR X (some .boolean) 0 0 (some (vi o.1)) o.2) (x4 : Int32) (x6 : Int32) (w : AW) (h : F_M_isOf_76 x4 x6 w = some o) : RJ X 7 0 0 76 [(4, vi x4), (6, vi x6)] [] w := by
  unfold F_M_isOf_76 at h
  refine r_iload (i := 4) hX d_M_isOf_76 0  rfl ?_
  refine r_iconst (v := (3 : Int32)) hX d_M_isOf_78 rfl ?_
  refine r_icmp_ne hX d_M_isOf_79 rfl h (fun h => ?_) (fun h => ?_)
  · refine r_iconst (v := (0 : Int32)) hX d_M_isOf_92 rfl ?_
    cases h; exact r_zret hX hR rfl d_M_isOf_93
  · refine r_iload (i := 6) hX d_M_isOf_82 1  rfl ?_
    refine r_iconst (v := (1 : Int32)) hX d_M_isOf_84 rfl ?_
    refine r_icmp_ne hX d_M_isOf_85 rfl h (fun h => ?_) (fun h => ?_)
    · refine r_iconst (v := (0 : Int32)) hX d_M_isOf_92 rfl ?_
      cases h; exact r_zret hX hR rfl d_M_isOf_93
    · refine r_iconst (v := (1 : Int32)) hX d_M_isOf_88 rfl ?_
      refine r_goto hX d_M_isOf_89 rfl ?_
      cases h; exact r_zret hX hR rfl d_M_isOf_93
def F_M_isOf_58 (x4 : Int32) (x5 : Int32) (x6 : Int32) (w : AW) : Option (Int32 × AW) :=
  if x4 = (2 : Int32) then
    if x5 = (1 : Int32) then
      if x6 = (1 : Int32) then
        some ((1 : Int32), w)
      else
        F_M_isOf_76 x4 x6 w
    else
      F_M_isOf_76 x4 x6 w
  else
    F_M_isOf_76 x4 x6 w
theorem P_M_isOf_58 {X : AX} {l : Launch} {G : AG} (hX : XOK X b_M_isOf "RedSkyModel" 7) (hM : XM X l G { frames := 6, cells := 0, slots := 0, locals := 140 }) {o : Int32 × AW} (hR : XR X (some .boolean) 0 0 (some (vi o.1)) o.2) (x4 : Int32) (x5 : Int32) (x6 : Int32) (w : AW) (h : F_M_isOf_58 x4 x5 x6 w = some o) : RJ X 7 0 0 58 [(4, vi x4), (5, vi x5), (6, vi x6)] [] w := by
  unfold F_M_isOf_58 at h
  refine r_iload (i := 4) hX d_M_isOf_58 0  rfl ?_
  refine r_iconst (v := (2 : Int32)) hX d_M_isOf_60 rfl ?_
  refine r_icmp_ne hX d_M_isOf_61 rfl h (fun h => ?_) (fun h => ?_)
  · exact rj_sub [0, 2] rfl (P_M_isOf_76 hX hM hR _ _ _ h)
  · refine r_iload (i := 5) hX d_M_isOf_64 1  rfl ?_
    refine r_iconst (v := (1 : Int32)) hX d_M_isOf_66 rfl ?_
    refine r_icmp_ne hX d_M_isOf_67 rfl h (fun h => ?_) (fun h => ?_)
    · exact rj_sub [0, 2] rfl (P_M_isOf_76 hX hM hR _ _ _ h)
    · refine r_iload (i := 6) hX d_M_isOf_70 2  rfl ?_
      refine r_iconst (v := (1 : Int32)) hX d_M_isOf_72 rfl ?_
      refine r_icmp_eq hX d_M_isOf_73 rfl h (fun h => ?_) (fun h => ?_)
      · refine r_iconst (v := (1 : Int32)) hX d_M_isOf_88 rfl ?_
        refine r_goto hX d_M_isOf_89 rfl ?_
        cases h; exact r_zret hX hR rfl d_M_isOf_93
      · exact rj_sub [0, 2] rfl (P_M_isOf_76 hX hM hR _ _ _ h)
def F_M_isOf (a0 : Nat) (x1 : Int32) (x2 : Int32) (x3 : Int32) (x4 : Int32) (w : AW) : Option (Int32 × AW) :=
  gd (wk w a0 == 13) <|
  (F_M_firstOf a0 x1 x2 x3 w).bind fun r2 =>
  let v4 : Int32 := r2.1
  gd (wk r2.2 a0 == 13) <|
  (F_M_secondOf a0 x1 x2 x3 r2.2).bind fun r6 =>
  let v8 : Int32 := r6.1
  if v4 = (-1 : Int32) then
    some ((0 : Int32), r6.2)
  else
    if v8 = (-1 : Int32) then
      some ((0 : Int32), r6.2)
    else
      gd (wk r6.2 a0 == 13) <|
      (F_M_isInSeason r6.2 a0 x1 x3).bind fun r10 =>
      if r10 = 0 then
        some ((0 : Int32), r6.2)
      else
        if x4 = 0 then
          some ((1 : Int32), r6.2)
        else
          if x4 = (1 : Int32) then
            if v4 = (1 : Int32) then
              some ((1 : Int32), r6.2)
            else
              F_M_isOf_58 x4 v4 v8 r6.2
          else
            F_M_isOf_58 x4 v4 v8 r6.2
theorem P_M_isOf_0 {X : AX} {l : Launch} {G : AG} (hX : XOK X b_M_isOf "RedSkyModel" 7) (hM : XM X l G { frames := 6, cells := 0, slots := 0, locals := 140 }) {o : Int32 × AW} (hR : XR X (some .boolean) 0 0 (some (vi o.1)) o.2) (a0 : Nat) (x1 : Int32) (x2 : Int32) (x3 : Int32) (x4 : Int32) (w : AW) (h : F_M_isOf a0 x1 x2 x3 x4 w = some o) : RJ X 7 0 0 0 [(0, vr a0), (1, vi x1), (2, vi x2), (3, vi x3), (4, vi x4)] [] w := by
  unfold F_M_isOf at h
  refine r_aload_n (i := 0) hX d_M_isOf_0 0 rfl rfl ?_
  refine r_iload_n (i := 1) hX d_M_isOf_1 1 rfl rfl ?_
  refine r_iload_n (i := 2) hX d_M_isOf_2 2 rfl rfl ?_
  refine r_iload_n (i := 3) hX d_M_isOf_3 3 rfl rfl ?_
  obtain ⟨hk1, h⟩ := gd_e h
  obtain ⟨r2, hr3, h⟩ := bd_e h
  refine r_callV1 (As := [_, _, _]) hX hM mw_M_318 (T_M_firstOf _ _ _ _ _ hr3) (rc_of ci_12 hk1) rfl rfl ⟨Nat.le_refl _, Nat.le_refl _⟩ rfl rfl d_M_isOf_4 ?_
  refine r_istore (i := 5) hX d_M_isOf_7  (by decide) ?_
  refine r_aload_n (i := 0) hX d_M_isOf_9 1 rfl rfl ?_
  refine r_iload_n (i := 1) hX d_M_isOf_10 2 rfl rfl ?_
  refine r_iload_n (i := 2) hX d_M_isOf_11 3 rfl rfl ?_
  refine r_iload_n (i := 3) hX d_M_isOf_12 4 rfl rfl ?_
  obtain ⟨hk5, h⟩ := gd_e h
  obtain ⟨r6, hr7, h⟩ := bd_e h
  refine r_callV1 (As := [_, _, _]) hX hM mw_M_321 (T_M_secondOf _ _ _ _ _ hr7) (rc_of ci_12 hk5) rfl rfl ⟨Nat.le_refl _, Nat.le_refl _⟩ rfl rfl d_M_isOf_13 ?_
  refine r_istore (i := 6) hX d_M_isOf_16  (by decide) ?_
  refine r_iload (i := 5) hX d_M_isOf_18 1  rfl ?_
  refine r_iconst (v := (-1 : Int32)) hX d_M_isOf_20 rfl ?_
  refine r_icmp_eq hX d_M_isOf_21 rfl h (fun h => ?_) (fun h => ?_)
  · refine r_iconst (v := (0 : Int32)) hX d_M_isOf_39 rfl ?_
    cases h; exact r_zret hX hR rfl d_M_isOf_40
  · refine r_iload (i := 6) hX d_M_isOf_24 0  rfl ?_
    refine r_iconst (v := (-1 : Int32)) hX d_M_isOf_26 rfl ?_
    refine r_icmp_eq hX d_M_isOf_27 rfl h (fun h => ?_) (fun h => ?_)
    · refine r_iconst (v := (0 : Int32)) hX d_M_isOf_39 rfl ?_
      cases h; exact r_zret hX hR rfl d_M_isOf_40
    · refine r_aload_n (i := 0) hX d_M_isOf_30 2 rfl rfl ?_
      refine r_iload_n (i := 1) hX d_M_isOf_31 3 rfl rfl ?_
      refine r_iload_n (i := 3) hX d_M_isOf_32 5 rfl rfl ?_
      obtain ⟨hk9, h⟩ := gd_e h
      obtain ⟨r10, hr11, h⟩ := bd_e h
      refine r_callV1 (As := [_, _]) hX hM mw_M_324 (T_M_isInSeason _ _ _ _ hr11) (rc_of ci_12 hk9) rfl rfl ⟨Nat.le_refl _, Nat.le_refl _⟩ rfl rfl d_M_isOf_33 ?_
      refine r_if_ne hX d_M_isOf_36 rfl h (fun h => ?_) (fun h => ?_)
      · refine r_iload (i := 4) hX d_M_isOf_41 6  rfl ?_
        refine r_if_eq hX d_M_isOf_43 rfl h (fun h => ?_) (fun h => ?_)
        · refine r_iconst (v := (1 : Int32)) hX d_M_isOf_88 rfl ?_
          refine r_goto hX d_M_isOf_89 rfl ?_
          cases h; exact r_zret hX hR rfl d_M_isOf_93
        · refine r_iload (i := 4) hX d_M_isOf_46 6  rfl ?_
          refine r_iconst (v := (1 : Int32)) hX d_M_isOf_48 rfl ?_
          refine r_icmp_ne hX d_M_isOf_49 rfl h (fun h => ?_) (fun h => ?_)
          · exact rj_sub [6, 1, 0] rfl (P_M_isOf_58 hX hM hR _ _ _ _ h)
          · refine r_iload (i := 5) hX d_M_isOf_52 1  rfl ?_
            refine r_iconst (v := (1 : Int32)) hX d_M_isOf_54 rfl ?_
            refine r_icmp_eq hX d_M_isOf_55 rfl h (fun h => ?_) (fun h => ?_)
            · refine r_iconst (v := (1 : Int32)) hX d_M_isOf_88 rfl ?_
              refine r_goto hX d_M_isOf_89 rfl ?_
              cases h; exact r_zret hX hR rfl d_M_isOf_93
            · exact rj_sub [6, 1, 0] rfl (P_M_isOf_58 hX hM hR _ _ _ _ h)
      · refine r_iconst (v := (0 : Int32)) hX d_M_isOf_39 rfl ?_
        cases h; exact r_zret hX hR rfl d_M_isOf_40
theorem T_M_isOf {l : Launch} {G : AG} (a0 : Nat) (x1 : Int32) (x2 : Int32) (x3 : Int32) (x4 : Int32) (w : AW) {o : Int32 × AW} (h : F_M_isOf a0 x1 x2 x3 x4 w = some o) : Mt l G y_M_isOf b_M_isOf 7 (some (.boolean)) 6 140 0 0 [vr a0, vi x1, vi x2, vi x3, vi x4] w (some (vi o.1)) o.2 := mt_of (by decide) (Nat.le_of_ble_eq_true rfl) (fun X hX hR hM hI => P_M_isOf_0 hX hM hR _ _ _ _ _ _ h)
/-! RedSkyModel.countOf(IIIII)I -/
theorem d_M_countOf_0 : decode b_M_countOf 0 = .ok (.iconst 0, 1) := by decide +kernel
theorem d_M_countOf_1 : decode b_M_countOf 1 = .ok (.istore 6, 2) := by decide +kernel
theorem d_M_countOf_3 : decode b_M_countOf 3 = .ok (.iload_n 3, 1) := by decide +kernel
theorem d_M_countOf_4 : decode b_M_countOf 4 = .ok (.istore 7, 2) := by decide +kernel
theorem d_M_countOf_6 : decode b_M_countOf 6 = .ok (.iload 7, 2) := by decide +kernel
theorem d_M_countOf_8 : decode b_M_countOf 8 = .ok (.iload 4, 2) := by decide +kernel
theorem d_M_countOf_10 : decode b_M_countOf 10 = .ok (.if_icmp .ge (32), 3) := by decide +kernel
theorem d_M_countOf_13 : decode b_M_countOf 13 = .ok (.iload 6, 2) := by decide +kernel
theorem d_M_countOf_15 : decode b_M_countOf 15 = .ok (.aload_n 0, 1) := by decide +kernel
theorem d_M_countOf_16 : decode b_M_countOf 16 = .ok (.iload_n 1, 1) := by decide +kernel
theorem d_M_countOf_17 : decode b_M_countOf 17 = .ok (.iload_n 2, 1) := by decide +kernel
theorem d_M_countOf_18 : decode b_M_countOf 18 = .ok (.iload 7, 2) := by decide +kernel
theorem d_M_countOf_20 : decode b_M_countOf 20 = .ok (.iload 5, 2) := by decide +kernel
theorem d_M_countOf_22 : decode b_M_countOf 22 = .ok (.invokevirtual 328, 3) := by decide +kernel
theorem d_M_countOf_25 : decode b_M_countOf 25 = .ok (.ifCond .eq (7), 3) := by decide +kernel
theorem d_M_countOf_28 : decode b_M_countOf 28 = .ok (.iconst 1, 1) := by decide +kernel
theorem d_M_countOf_29 : decode b_M_countOf 29 = .ok (.goto (4), 3) := by decide +kernel
theorem d_M_countOf_32 : decode b_M_countOf 32 = .ok (.iconst 0, 1) := by decide +kernel
theorem d_M_countOf_33 : decode b_M_countOf 33 = .ok (.iadd, 1) := by decide +kernel
theorem d_M_countOf_34 : decode b_M_countOf 34 = .ok (.istore 6, 2) := by decide +kernel
theorem d_M_countOf_36 : decode b_M_countOf 36 = .ok (.iinc 7 (1), 3) := by decide +kernel
theorem d_M_countOf_39 : decode b_M_countOf 39 = .ok (.goto (-33), 3) := by decide +kernel
theorem d_M_countOf_42 : decode b_M_countOf 42 = .ok (.iload 6, 2) := by decide +kernel
theorem d_M_countOf_44 : decode b_M_countOf 44 = .ok (.ireturn, 1) := by decide +kernel
def F_M_countOf_6_B (rec6 : Nat → Int32 → Int32 → Int32 → Int32 → Int32 → Int32 → AW → Option (Int32 × AW)) (a0 : Nat) (x1 : Int32) (x2 : Int32) (x4 : Int32) (x5 : Int32) (x6 : Int32) (x7 : Int32) (w : AW) : Option (Int32 × AW) :=
  if x4 ≤ x7 then
    some (x6, w)
  else
    gd (wk w a0 == 13) <|
    (F_M_isOf a0 x1 x2 x7 x5 w).bind fun r2 =>
    if r2.1 = 0 then
      let v4 : Int32 := (x6 + (0 : Int32))
      let v5 : Int32 := (x7 + (1 : Int32))
      rec6 a0 x1 x2 x4 x5 v4 v5 r2.2
    else
      let v6 : Int32 := (x6 + (1 : Int32))
      let v7 : Int32 := (x7 + (1 : Int32))
      rec6 a0 x1 x2 x4 x5 v6 v7 r2.2
theorem P_M_countOf_6_B {X : AX} {l : Launch} {G : AG} {rec6 : Nat → Int32 → Int32 → Int32 → Int32 → Int32 → Int32 → AW → Option (Int32 × AW)} (hX : XOK X b_M_countOf "RedSkyModel" 8) (hM : XM X l G { frames := 7, cells := 0, slots := 0, locals := 166 }) {o : Int32 × AW} (hR : XR X (some .int) 0 0 (some (vi o.1)) o.2) (hrec6 : ∀ (a0 : Nat) (x1 : Int32) (x2 : Int32) (x4 : Int32) (x5 : Int32) (x6 : Int32) (x7 : Int32) (w : AW), rec6 a0 x1 x2 x4 x5 x6 x7 w = some o → RJ X 8 0 0 6 [(0, vr a0), (1, vi x1), (2, vi x2), (4, vi x4), (5, vi x5), (6, vi x6), (7, vi x7)] [] w) (a0 : Nat) (x1 : Int32) (x2 : Int32) (x4 : Int32) (x5 : Int32) (x6 : Int32) (x7 : Int32) (w : AW) (h : F_M_countOf_6_B rec6 a0 x1 x2 x4 x5 x6 x7 w = some o) : RJ X 8 0 0 6 [(0, vr a0), (1, vi x1), (2, vi x2), (4, vi x4), (5, vi x5), (6, vi x6), (7, vi x7)] [] w := by
  unfold F_M_countOf_6_B at h
  refine r_iload (i := 7) hX d_M_countOf_6 6  rfl ?_
  refine r_iload (i := 4) hX d_M_countOf_8 3  rfl ?_
  refine r_icmp_ge hX d_M_countOf_10 rfl h (fun h => ?_) (fun h => ?_)
  · refine r_iload (i := 6) hX d_M_countOf_42 5  rfl ?_
    cases h; exact r_iret hX hR d_M_countOf_44
  · refine r_iload (i := 6) hX d_M_countOf_13 5  rfl ?_
    refine r_aload_n (i := 0) hX d_M_countOf_15 0 rfl rfl ?_
    refine r_iload_n (i := 1) hX d_M_countOf_16 1 rfl rfl ?_
    refine r_iload_n (i := 2) hX d_M_countOf_17 2 rfl rfl ?_
    refine r_iload (i := 7) hX d_M_countOf_18 6  rfl ?_
    refine r_iload (i := 5) hX d_M_countOf_20 4  rfl ?_
    obtain ⟨hk1, h⟩ := gd_e h
    obtain ⟨r2, hr3, h⟩ := bd_e h
    refine r_callV1 (As := [_, _, _, _]) hX hM mw_M_328 (T_M_isOf _ _ _ _ _ _ hr3) (rc_of ci_12 hk1) rfl rfl ⟨Nat.le_refl _, Nat.le_refl _⟩ rfl rfl d_M_countOf_22 ?_
    refine r_if_eq hX d_M_countOf_25 rfl h (fun h => ?_) (fun h => ?_)
    · refine r_iconst (v := (0 : Int32)) hX d_M_countOf_32 rfl ?_
      refine r_iadd hX d_M_countOf_33 ?_
      refine r_istore (i := 6) hX d_M_countOf_34  (by decide) ?_
      refine r_iinc (i := 7) (v := (1 : Int32)) hX d_M_countOf_36 6 rfl rfl (by decide) ?_
      refine r_goto hX d_M_countOf_39 rfl ?_
      exact rj_sub [2, 3, 4, 5, 6, 1, 0] rfl (hrec6 _ _ _ _ _ _ _ _ h)
    · refine r_iconst (v := (1 : Int32)) hX d_M_countOf_28 rfl ?_
      refine r_goto hX d_M_countOf_29 rfl ?_
      refine r_iadd hX d_M_countOf_33 ?_
      refine r_istore (i := 6) hX d_M_countOf_34  (by decide) ?_
      refine r_iinc (i := 7) (v := (1 : Int32)) hX d_M_countOf_36 6 rfl rfl (by decide) ?_
      refine r_goto hX d_M_countOf_39 rfl ?_
      exact rj_sub [2, 3, 4, 5, 6, 1, 0] rfl (hrec6 _ _ _ _ _ _ _ _ h)
def F_M_countOf_6 : Nat → Nat → Int32 → Int32 → Int32 → Int32 → Int32 → Int32 → AW → Option (Int32 × AW)
  | 0 => fun _ _ _ _ _ _ _ _ => none
  | n + 1 => fun a0 x1 x2 x4 x5 x6 x7 w => F_M_countOf_6_B (F_M_countOf_6 n) a0 x1 x2 x4 x5 x6 x7 w
theorem P_M_countOf_6 {X : AX} {l : Launch} {G : AG} (hX : XOK X b_M_countOf "RedSkyModel" 8) (hM : XM X l G { frames := 7, cells := 0, slots := 0, locals := 166 }) {o : Int32 × AW} (hR : XR X (some .int) 0 0 (some (vi o.1)) o.2) (fu : Nat) : ∀ (a0 : Nat) (x1 : Int32) (x2 : Int32) (x4 : Int32) (x5 : Int32) (x6 : Int32) (x7 : Int32) (w : AW), F_M_countOf_6 fu a0 x1 x2 x4 x5 x6 x7 w = some o → RJ X 8 0 0 6 [(0, vr a0), (1, vi x1), (2, vi x2), (4, vi x4), (5, vi x5), (6, vi x6), (7, vi x7)] [] w := by
  induction fu with
  | zero => intro a0 x1 x2 x4 x5 x6 x7 w h; cases h
  | succ n9 ih => intro a0 x1 x2 x4 x5 x6 x7 w h; exact P_M_countOf_6_B hX hM hR ih _ _ _ _ _ _ _ _ h
def F_M_countOf (a0 : Nat) (x1 : Int32) (x2 : Int32) (x3 : Int32) (x4 : Int32) (x5 : Int32) (w : AW) : Option (Int32 × AW) :=
  F_M_countOf_6 FUEL a0 x1 x2 x4 x5 (0 : Int32) x3 w
theorem P_M_countOf_0 {X : AX} {l : Launch} {G : AG} (hX : XOK X b_M_countOf "RedSkyModel" 8) (hM : XM X l G { frames := 7, cells := 0, slots := 0, locals := 166 }) {o : Int32 × AW} (hR : XR X (some .int) 0 0 (some (vi o.1)) o.2) (a0 : Nat) (x1 : Int32) (x2 : Int32) (x3 : Int32) (x4 : Int32) (x5 : Int32) (w : AW) (h : F_M_countOf a0 x1 x2 x3 x4 x5 w = some o) : RJ X 8 0 0 0 [(0, vr a0), (1, vi x1), (2, vi x2), (3, vi x3), (4, vi x4), (5, vi x5)] [] w := by
  unfold F_M_countOf at h
  refine r_iconst (v := (0 : Int32)) hX d_M_countOf_0 rfl ?_
  refine r_istore (i := 6) hX d_M_countOf_1  (by decide) ?_
  refine r_iload_n (i := 3) hX d_M_countOf_3 4 rfl rfl ?_
  refine r_istore (i := 7) hX d_M_countOf_4  (by decide) ?_
  exact rj_sub [2, 3, 4, 6, 7, 1, 0] rfl (P_M_countOf_6 hX hM hR FUEL _ _ _ _ _ _ _ _ h)
theorem T_M_countOf {l : Launch} {G : AG} (a0 : Nat) (x1 : Int32) (x2 : Int32) (x3 : Int32) (x4 : Int32) (x5 : Int32) (w : AW) {o : Int32 × AW} (h : F_M_countOf a0 x1 x2 x3 x4 x5 w = some o) : Mt l G y_M_countOf b_M_countOf 8 (some (.int)) 7 166 0 0 [vr a0, vi x1, vi x2, vi x3, vi x4, vi x5] w (some (vi o.1)) o.2 := mt_of (by decide) (Nat.le_of_ble_eq_true rfl) (fun X hX hR hM hI => P_M_countOf_0 hX hM hR _ _ _ _ _ _ _ h)
/-! RedSkyModel.cases(IIIII)I -/
theorem d_M_cases_0 : decode b_M_cases 0 = .ok (.aload_n 0, 1) := by decide +kernel
theorem d_M_cases_1 : decode b_M_cases 1 = .ok (.iload_n 1, 1) := by decide +kernel
theorem d_M_cases_2 : decode b_M_cases 2 = .ok (.invokevirtual 306, 3) := by decide +kernel
theorem d_M_cases_5 : decode b_M_cases 5 = .ok (.ifCond .eq (10), 3) := by decide +kernel
theorem d_M_cases_8 : decode b_M_cases 8 = .ok (.iload_n 2, 1) := by decide +kernel
theorem d_M_cases_9 : decode b_M_cases 9 = .ok (.invokestatic 155, 3) := by decide +kernel
theorem d_M_cases_12 : decode b_M_cases 12 = .ok (.ifCond .ne (6), 3) := by decide +kernel
theorem d_M_cases_15 : decode b_M_cases 15 = .ok (.bipush (-101), 2) := by decide +kernel
theorem d_M_cases_17 : decode b_M_cases 17 = .ok (.ireturn, 1) := by decide +kernel
theorem d_M_cases_18 : decode b_M_cases 18 = .ok (.iload_n 3, 1) := by decide +kernel
theorem d_M_cases_19 : decode b_M_cases 19 = .ok (.i2l, 1) := by decide +kernel
theorem d_M_cases_20 : decode b_M_cases 20 = .ok (.lconst 0, 1) := by decide +kernel
theorem d_M_cases_21 : decode b_M_cases 21 = .ok (.ldc2_w 126, 3) := by decide +kernel
theorem d_M_cases_24 : decode b_M_cases 24 = .ok (.invokestatic 122, 3) := by decide +kernel
theorem d_M_cases_27 : decode b_M_cases 27 = .ok (.ifCond .eq (30), 3) := by decide +kernel
theorem d_M_cases_30 : decode b_M_cases 30 = .ok (.iload 4, 2) := by decide +kernel
theorem d_M_cases_32 : decode b_M_cases 32 = .ok (.i2l, 1) := by decide +kernel
theorem d_M_cases_33 : decode b_M_cases 33 = .ok (.iload_n 3, 1) := by decide +kernel
theorem d_M_cases_34 : decode b_M_cases 34 = .ok (.i2l, 1) := by decide +kernel
theorem d_M_cases_35 : decode b_M_cases 35 = .ok (.ldc2_w 126, 3) := by decide +kernel
theorem d_M_cases_38 : decode b_M_cases 38 = .ok (.invokestatic 122, 3) := by decide +kernel
theorem d_M_cases_41 : decode b_M_cases 41 = .ok (.ifCond .eq (16), 3) := by decide +kernel
theorem d_M_cases_44 : decode b_M_cases 44 = .ok (.iload 5, 2) := by decide +kernel
theorem d_M_cases_46 : decode b_M_cases 46 = .ok (.i2l, 1) := by decide +kernel
theorem d_M_cases_47 : decode b_M_cases 47 = .ok (.lconst 0, 1) := by decide +kernel
theorem d_M_cases_48 : decode b_M_cases 48 = .ok (.ldc2_w 126, 3) := by decide +kernel
theorem d_M_cases_51 : decode b_M_cases 51 = .ok (.invokestatic 122, 3) := by decide +kernel
theorem d_M_cases_54 : decode b_M_cases 54 = .ok (.ifCond .ne (6), 3) := by decide +kernel
theorem d_M_cases_57 : decode b_M_cases 57 = .ok (.bipush (-102), 2) := by decide +kernel
theorem d_M_cases_59 : decode b_M_cases 59 = .ok (.ireturn, 1) := by decide +kernel
theorem d_M_cases_60 : decode b_M_cases 60 = .ok (.aload_n 0, 1) := by decide +kernel
theorem d_M_cases_61 : decode b_M_cases 61 = .ok (.iload_n 1, 1) := by decide +kernel
theorem d_M_cases_62 : decode b_M_cases 62 = .ok (.iload_n 2, 1) := by decide +kernel
theorem d_M_cases_63 : decode b_M_cases 63 = .ok (.aload_n 0, 1) := by decide +kernel
theorem d_M_cases_64 : decode b_M_cases 64 = .ok (.iload_n 3, 1) := by decide +kernel
theorem d_M_cases_65 : decode b_M_cases 65 = .ok (.iconst 1, 1) := by decide +kernel
theorem d_M_cases_66 : decode b_M_cases 66 = .ok (.invokevirtual 110, 3) := by decide +kernel
theorem d_M_cases_69 : decode b_M_cases 69 = .ok (.aload_n 0, 1) := by decide +kernel
theorem d_M_cases_70 : decode b_M_cases 70 = .ok (.iload 4, 2) := by decide +kernel
theorem d_M_cases_72 : decode b_M_cases 72 = .ok (.invokevirtual 160, 3) := by decide +kernel
theorem d_M_cases_75 : decode b_M_cases 75 = .ok (.iload 5, 2) := by decide +kernel
theorem d_M_cases_77 : decode b_M_cases 77 = .ok (.invokevirtual 331, 3) := by decide +kernel
theorem d_M_cases_80 : decode b_M_cases 80 = .ok (.ireturn, 1) := by decide +kernel
def F_M_cases (a0 : Nat) (x1 : Int32) (x2 : Int32) (x3 : Int32) (x4 : Int32) (x5 : Int32) (w : AW) : Option (Int32 × AW) :=
  gd (wk w a0 == 13) <|
  (F_M_isSaying w a0 x1).bind fun r2 =>
  if r2 = 0 then
    some ((-101 : Int32), w)
  else
    if (F_M_isValley x2) = 0 then
      some ((-101 : Int32), w)
    else
      if (F_M_in (Int32.toInt64 x3) (0 : Int64) (3 : Int64)) = 0 then
        some ((-102 : Int32), w)
      else
        if (F_M_in (Int32.toInt64 x4) (Int32.toInt64 x3) (3 : Int64)) = 0 then
          some ((-102 : Int32), w)
        else
          if (F_M_in (Int32.toInt64 x5) (0 : Int64) (3 : Int64)) = 0 then
            some ((-102 : Int32), w)
          else
            (F_M_begin w a0 x3 (1 : Int32)).bind fun r4 =>
            (F_M_yearEnd w a0 x4).bind fun r6 =>
            (F_M_countOf a0 x1 x2 r4 r6 x5 w).bind fun r8 =>
            some (r8.1, r8.2)
theorem P_M_cases_0 {X : AX} {l : Launch} {G : AG} (hX : XOK X b_M_cases "RedSkyModel" 6) (hM : XM X l G { frames := 8, cells := 0, slots := 0, locals := 193 }) {o : Int32 × AW} (hR : XR X (some .int) 0 0 (some (vi o.1)) o.2) (a0 : Nat) (x1 : Int32) (x2 : Int32) (x3 : Int32) (x4 : Int32) (x5 : Int32) (w : AW) (h : F_M_cases a0 x1 x2 x3 x4 x5 w = some o) : RJ X 6 0 0 0 [(0, vr a0), (1, vi x1), (2, vi x2), (3, vi x3), (4, vi x4), (5, vi x5)] [] w := by
  unfold F_M_cases at h
  refine r_aload_n (i := 0) hX d_M_cases_0 0 rfl rfl ?_
  refine r_iload_n (i := 1) hX d_M_cases_1 1 rfl rfl ?_
  obtain ⟨hk1, h⟩ := gd_e h
  obtain ⟨r2, hr3, h⟩ := bd_e h
  refine r_callV1 (As := [_]) hX hM mw_M_306 (T_M_isSaying _ _ _ hr3) (rc_of ci_12 hk1) rfl rfl ⟨Nat.le_refl _, Nat.le_refl _⟩ rfl rfl d_M_cases_2 ?_
  refine r_if_eq hX d_M_cases_5 rfl h (fun h => ?_) (fun h => ?_)
  · refine r_bipush (v := (-101 : Int32)) hX d_M_cases_15 rfl ?_
    cases h; exact r_iret hX hR d_M_cases_17
  · refine r_iload_n (i := 2) hX d_M_cases_8 2 rfl rfl ?_
    refine r_callS1 (As := [_]) hX hM mw_M_155 (T_M_isValley _ _) rfl rfl ⟨Nat.le_refl _, Nat.le_refl _⟩ rfl rfl d_M_cases_9 ?_
    refine r_if_ne hX d_M_cases_12 rfl h (fun h => ?_) (fun h => ?_)
    · refine r_iload_n (i := 3) hX d_M_cases_18 3 rfl rfl ?_
      refine r_i2l hX d_M_cases_19 ?_
      refine r_lconst (v := (0 : Int64)) hX d_M_cases_20 rfl ?_
      refine r_ldc2 hX d_M_cases_21 cw_M_126 ?_
      refine r_callS1 (As := [_, _, _]) hX hM mw_M_122 (T_M_in _ _ _ _) rfl rfl ⟨Nat.le_refl _, Nat.le_refl _⟩ rfl rfl d_M_cases_24 ?_
      refine r_if_eq hX d_M_cases_27 rfl h (fun h => ?_) (fun h => ?_)
      · refine r_bipush (v := (-102 : Int32)) hX d_M_cases_57 rfl ?_
        cases h; exact r_iret hX hR d_M_cases_59
      · refine r_iload (i := 4) hX d_M_cases_30 4  rfl ?_
        refine r_i2l hX d_M_cases_32 ?_
        refine r_iload_n (i := 3) hX d_M_cases_33 3 rfl rfl ?_
        refine r_i2l hX d_M_cases_34 ?_
        refine r_ldc2 hX d_M_cases_35 cw_M_126 ?_
        refine r_callS1 (As := [_, _, _]) hX hM mw_M_122 (T_M_in _ _ _ _) rfl rfl ⟨Nat.le_refl _, Nat.le_refl _⟩ rfl rfl d_M_cases_38 ?_
        refine r_if_eq hX d_M_cases_41 rfl h (fun h => ?_) (fun h => ?_)
        · refine r_bipush (v := (-102 : Int32)) hX d_M_cases_57 rfl ?_
          cases h; exact r_iret hX hR d_M_cases_59
        · refine r_iload (i := 5) hX d_M_cases_44 5  rfl ?_
          refine r_i2l hX d_M_cases_46 ?_
          refine r_lconst (v := (0 : Int64)) hX d_M_cases_47 rfl ?_
          refine r_ldc2 hX d_M_cases_48 cw_M_126 ?_
          refine r_callS1 (As := [_, _, _]) hX hM mw_M_122 (T_M_in _ _ _ _) rfl rfl ⟨Nat.le_refl _, Nat.le_refl _⟩ rfl rfl d_M_cases_51 ?_
          refine r_if_ne hX d_M_cases_54 rfl h (fun h => ?_) (fun h => ?_)
          · refine r_aload_n (i := 0) hX d_M_cases_60 0 rfl rfl ?_
            refine r_iload_n (i := 1) hX d_M_cases_61 1 rfl rfl ?_
            refine r_iload_n (i := 2) hX d_M_cases_62 2 rfl rfl ?_
            refine r_aload_n (i := 0) hX d_M_cases_63 0 rfl rfl ?_
            refine r_iload_n (i := 3) hX d_M_cases_64 3 rfl rfl ?_
            refine r_iconst (v := (1 : Int32)) hX d_M_cases_65 rfl ?_
            obtain ⟨r4, hr5, h⟩ := bd_e h
            refine r_callV1 (As := [_, _]) hX hM mw_M_110 (T_M_begin _ _ _ _ hr5) (rc_of ci_12 hk1) rfl rfl ⟨Nat.le_refl _, Nat.le_refl _⟩ rfl rfl d_M_cases_66 ?_
            refine r_aload_n (i := 0) hX d_M_cases_69 0 rfl rfl ?_
            refine r_iload (i := 4) hX d_M_cases_70 4  rfl ?_
            obtain ⟨r6, hr7, h⟩ := bd_e h
            refine r_callV1 (As := [_]) hX hM mw_M_160 (T_M_yearEnd _ _ _ hr7) (rc_of ci_12 hk1) rfl rfl ⟨Nat.le_refl _, Nat.le_refl _⟩ rfl rfl d_M_cases_72 ?_
            refine r_iload (i := 5) hX d_M_cases_75 5  rfl ?_
            obtain ⟨r8, hr9, h⟩ := bd_e h
            refine r_callV1 (As := [_, _, _, _, _]) hX hM mw_M_331 (T_M_countOf _ _ _ _ _ _ _ hr9) (rc_of ci_12 hk1) rfl rfl ⟨Nat.le_refl _, Nat.le_refl _⟩ rfl rfl d_M_cases_77 ?_
            cases h; exact r_iret hX hR d_M_cases_80
          · refine r_bipush (v := (-102 : Int32)) hX d_M_cases_57 rfl ?_
            cases h; exact r_iret hX hR d_M_cases_59
    · refine r_bipush (v := (-101 : Int32)) hX d_M_cases_15 rfl ?_
      cases h; exact r_iret hX hR d_M_cases_17
theorem T_M_cases {l : Launch} {G : AG} (a0 : Nat) (x1 : Int32) (x2 : Int32) (x3 : Int32) (x4 : Int32) (x5 : Int32) (w : AW) {o : Int32 × AW} (h : F_M_cases a0 x1 x2 x3 x4 x5 w = some o) : Mt l G y_M_cases b_M_cases 6 (some (.int)) 8 193 0 0 [vr a0, vi x1, vi x2, vi x3, vi x4, vi x5] w (some (vi o.1)) o.2 := mt_of (by decide) (Nat.le_of_ble_eq_true rfl) (fun X hX hR hM hI => P_M_cases_0 hX hM hR _ _ _ _ _ _ _ h)
