theorem a11_lookAt_0 : At cX11_lookAt 0 (.aload_n 0) 1 1 := ⟨by decide +kernel, rfl⟩
theorem a11_lookAt_1 : At cX11_lookAt 1 (.iload_n 1) 1 2 := ⟨by decide +kernel, rfl⟩
theorem a11_lookAt_2 : At cX11_lookAt 2 (.putfield 229) 3 5 := ⟨by decide +kernel, rfl⟩
theorem a11_lookAt_5 : At cX11_lookAt 5 (.aload_n 0) 1 6 := ⟨by decide +kernel, rfl⟩
theorem a11_lookAt_6 : At cX11_lookAt 6 (.getfield 229) 3 9 := ⟨by decide +kernel, rfl⟩
theorem a11_lookAt_9 : At cX11_lookAt 9 (.aload_n 0) 1 10 := ⟨by decide +kernel, rfl⟩
theorem a11_lookAt_10 : At cX11_lookAt 10 (.getfield 217) 3 13 := ⟨by decide +kernel, rfl⟩
theorem a11_lookAt_13 : At cX11_lookAt 13 (.if_icmp .ge 30) 3 16 := ⟨by decide +kernel, rfl⟩
theorem a11_lookAt_16 : At cX11_lookAt 16 (.aload_n 0) 1 17 := ⟨by decide +kernel, rfl⟩
theorem a11_lookAt_17 : At cX11_lookAt 17 (.getfield 42) 3 20 := ⟨by decide +kernel, rfl⟩
theorem a11_lookAt_20 : At cX11_lookAt 20 (.aload_n 0) 1 21 := ⟨by decide +kernel, rfl⟩
theorem a11_lookAt_21 : At cX11_lookAt 21 (.getfield 229) 3 24 := ⟨by decide +kernel, rfl⟩
theorem a11_lookAt_24 : At cX11_lookAt 24 (.iaload) 1 25 := ⟨by decide +kernel, rfl⟩
theorem a11_lookAt_25 : At cX11_lookAt 25 (.bipush 32) 2 27 := ⟨by decide +kernel, rfl⟩
theorem a11_lookAt_27 : At cX11_lookAt 27 (.if_icmp .ne 16) 3 30 := ⟨by decide +kernel, rfl⟩
theorem a11_lookAt_30 : At cX11_lookAt 30 (.aload_n 0) 1 31 := ⟨by decide +kernel, rfl⟩
theorem a11_lookAt_31 : At cX11_lookAt 31 (.dup) 1 32 := ⟨by decide +kernel, rfl⟩
theorem a11_lookAt_32 : At cX11_lookAt 32 (.getfield 229) 3 35 := ⟨by decide +kernel, rfl⟩
theorem a11_lookAt_35 : At cX11_lookAt 35 (.iconst 1) 1 36 := ⟨by decide +kernel, rfl⟩
theorem a11_lookAt_36 : At cX11_lookAt 36 (.iadd) 1 37 := ⟨by decide +kernel, rfl⟩
theorem a11_lookAt_37 : At cX11_lookAt 37 (.putfield 229) 3 40 := ⟨by decide +kernel, rfl⟩
theorem a11_lookAt_40 : At cX11_lookAt 40 (.goto (-35)) 3 43 := ⟨by decide +kernel, rfl⟩
theorem a11_lookAt_43 : At cX11_lookAt 43 (.aload_n 0) 1 44 := ⟨by decide +kernel, rfl⟩
theorem a11_lookAt_44 : At cX11_lookAt 44 (.iconst 0) 1 45 := ⟨by decide +kernel, rfl⟩
theorem a11_lookAt_45 : At cX11_lookAt 45 (.putfield 232) 3 48 := ⟨by decide +kernel, rfl⟩
theorem a11_lookAt_48 : At cX11_lookAt 48 (.aload_n 0) 1 49 := ⟨by decide +kernel, rfl⟩
theorem a11_lookAt_49 : At cX11_lookAt 49 (.iconst 0) 1 50 := ⟨by decide +kernel, rfl⟩
theorem a11_lookAt_50 : At cX11_lookAt 50 (.putfield 235) 3 53 := ⟨by decide +kernel, rfl⟩
theorem a11_lookAt_53 : At cX11_lookAt 53 (.aload_n 0) 1 54 := ⟨by decide +kernel, rfl⟩
theorem a11_lookAt_54 : At cX11_lookAt 54 (.iconst 0) 1 55 := ⟨by decide +kernel, rfl⟩
theorem a11_lookAt_55 : At cX11_lookAt 55 (.putfield 238) 3 58 := ⟨by decide +kernel, rfl⟩
theorem a11_lookAt_58 : At cX11_lookAt 58 (.aload_n 0) 1 59 := ⟨by decide +kernel, rfl⟩
theorem a11_lookAt_59 : At cX11_lookAt 59 (.getfield 229) 3 62 := ⟨by decide +kernel, rfl⟩
theorem a11_lookAt_62 : At cX11_lookAt 62 (.aload_n 0) 1 63 := ⟨by decide +kernel, rfl⟩
theorem a11_lookAt_63 : At cX11_lookAt 63 (.getfield 217) 3 66 := ⟨by decide +kernel, rfl⟩
theorem a11_lookAt_66 : At cX11_lookAt 66 (.if_icmp .ne 4) 3 69 := ⟨by decide +kernel, rfl⟩
theorem a11_lookAt_69 : At cX11_lookAt 69 (.return_) 1 70 := ⟨by decide +kernel, rfl⟩
theorem a11_lookAt_70 : At cX11_lookAt 70 (.aload_n 0) 1 71 := ⟨by decide +kernel, rfl⟩
theorem a11_lookAt_71 : At cX11_lookAt 71 (.getfield 42) 3 74 := ⟨by decide +kernel, rfl⟩
theorem a11_lookAt_74 : At cX11_lookAt 74 (.aload_n 0) 1 75 := ⟨by decide +kernel, rfl⟩
theorem a11_lookAt_75 : At cX11_lookAt 75 (.getfield 229) 3 78 := ⟨by decide +kernel, rfl⟩
theorem a11_lookAt_78 : At cX11_lookAt 78 (.iaload) 1 79 := ⟨by decide +kernel, rfl⟩
theorem a11_lookAt_79 : At cX11_lookAt 79 (.istore_n 2) 1 80 := ⟨by decide +kernel, rfl⟩
theorem a11_lookAt_80 : At cX11_lookAt 80 (.aload_n 0) 1 81 := ⟨by decide +kernel, rfl⟩
theorem a11_lookAt_81 : At cX11_lookAt 81 (.iload_n 2) 1 82 := ⟨by decide +kernel, rfl⟩
theorem a11_lookAt_82 : At cX11_lookAt 82 (.invokestatic 241) 3 85 := ⟨by decide +kernel, rfl⟩
theorem a11_lookAt_85 : At cX11_lookAt 85 (.ifCond .eq 7) 3 88 := ⟨by decide +kernel, rfl⟩
theorem a11_lookAt_88 : At cX11_lookAt 88 (.iconst 1) 1 89 := ⟨by decide +kernel, rfl⟩
theorem a11_lookAt_89 : At cX11_lookAt 89 (.goto 25) 3 92 := ⟨by decide +kernel, rfl⟩
theorem a11_lookAt_92 : At cX11_lookAt 92 (.iload_n 2) 1 93 := ⟨by decide +kernel, rfl⟩
theorem a11_lookAt_93 : At cX11_lookAt 93 (.invokestatic 244) 3 96 := ⟨by decide +kernel, rfl⟩
theorem a11_lookAt_96 : At cX11_lookAt 96 (.ifCond .eq 7) 3 99 := ⟨by decide +kernel, rfl⟩
theorem a11_lookAt_99 : At cX11_lookAt 99 (.iconst 2) 1 100 := ⟨by decide +kernel, rfl⟩
theorem a11_lookAt_100 : At cX11_lookAt 100 (.goto 14) 3 103 := ⟨by decide +kernel, rfl⟩
theorem a11_lookAt_103 : At cX11_lookAt 103 (.iload_n 2) 1 104 := ⟨by decide +kernel, rfl⟩
theorem a11_lookAt_104 : At cX11_lookAt 104 (.bipush 59) 2 106 := ⟨by decide +kernel, rfl⟩
theorem a11_lookAt_106 : At cX11_lookAt 106 (.if_icmp .ne 7) 3 109 := ⟨by decide +kernel, rfl⟩
theorem a11_lookAt_109 : At cX11_lookAt 109 (.iconst 3) 1 110 := ⟨by decide +kernel, rfl⟩
theorem a11_lookAt_110 : At cX11_lookAt 110 (.goto 4) 3 113 := ⟨by decide +kernel, rfl⟩
theorem a11_lookAt_113 : At cX11_lookAt 113 (.iconst 4) 1 114 := ⟨by decide +kernel, rfl⟩
theorem a11_lookAt_114 : At cX11_lookAt 114 (.putfield 235) 3 117 := ⟨by decide +kernel, rfl⟩
theorem a11_lookAt_117 : At cX11_lookAt 117 (.aload_n 0) 1 118 := ⟨by decide +kernel, rfl⟩
theorem a11_lookAt_118 : At cX11_lookAt 118 (.iconst 1) 1 119 := ⟨by decide +kernel, rfl⟩
theorem a11_lookAt_119 : At cX11_lookAt 119 (.putfield 232) 3 122 := ⟨by decide +kernel, rfl⟩
theorem a11_lookAt_122 : At cX11_lookAt 122 (.aload_n 0) 1 123 := ⟨by decide +kernel, rfl⟩
theorem a11_lookAt_123 : At cX11_lookAt 123 (.getfield 235) 3 126 := ⟨by decide +kernel, rfl⟩
theorem a11_lookAt_126 : At cX11_lookAt 126 (.iconst 3) 1 127 := ⟨by decide +kernel, rfl⟩
theorem a11_lookAt_127 : At cX11_lookAt 127 (.if_icmp .ge 7) 3 130 := ⟨by decide +kernel, rfl⟩
theorem a11_lookAt_130 : At cX11_lookAt 130 (.iconst 1) 1 131 := ⟨by decide +kernel, rfl⟩
theorem a11_lookAt_131 : At cX11_lookAt 131 (.goto 4) 3 134 := ⟨by decide +kernel, rfl⟩
theorem a11_lookAt_134 : At cX11_lookAt 134 (.iconst 0) 1 135 := ⟨by decide +kernel, rfl⟩
theorem a11_lookAt_135 : At cX11_lookAt 135 (.istore_n 3) 1 136 := ⟨by decide +kernel, rfl⟩
theorem a11_lookAt_136 : At cX11_lookAt 136 (.iload_n 3) 1 137 := ⟨by decide +kernel, rfl⟩
theorem a11_lookAt_137 : At cX11_lookAt 137 (.ifCond .eq 78) 3 140 := ⟨by decide +kernel, rfl⟩
theorem a11_lookAt_140 : At cX11_lookAt 140 (.aload_n 0) 1 141 := ⟨by decide +kernel, rfl⟩
theorem a11_lookAt_141 : At cX11_lookAt 141 (.getfield 229) 3 144 := ⟨by decide +kernel, rfl⟩
theorem a11_lookAt_144 : At cX11_lookAt 144 (.aload_n 0) 1 145 := ⟨by decide +kernel, rfl⟩
theorem a11_lookAt_145 : At cX11_lookAt 145 (.getfield 232) 3 148 := ⟨by decide +kernel, rfl⟩
theorem a11_lookAt_148 : At cX11_lookAt 148 (.iadd) 1 149 := ⟨by decide +kernel, rfl⟩
theorem a11_lookAt_149 : At cX11_lookAt 149 (.aload_n 0) 1 150 := ⟨by decide +kernel, rfl⟩
theorem a11_lookAt_150 : At cX11_lookAt 150 (.getfield 217) 3 153 := ⟨by decide +kernel, rfl⟩
theorem a11_lookAt_153 : At cX11_lookAt 153 (.if_icmp .ge 62) 3 156 := ⟨by decide +kernel, rfl⟩
theorem a11_lookAt_156 : At cX11_lookAt 156 (.aload_n 0) 1 157 := ⟨by decide +kernel, rfl⟩
theorem a11_lookAt_157 : At cX11_lookAt 157 (.getfield 42) 3 160 := ⟨by decide +kernel, rfl⟩
theorem a11_lookAt_160 : At cX11_lookAt 160 (.aload_n 0) 1 161 := ⟨by decide +kernel, rfl⟩
theorem a11_lookAt_161 : At cX11_lookAt 161 (.getfield 229) 3 164 := ⟨by decide +kernel, rfl⟩
theorem a11_lookAt_164 : At cX11_lookAt 164 (.aload_n 0) 1 165 := ⟨by decide +kernel, rfl⟩
theorem a11_lookAt_165 : At cX11_lookAt 165 (.getfield 232) 3 168 := ⟨by decide +kernel, rfl⟩
theorem a11_lookAt_168 : At cX11_lookAt 168 (.iadd) 1 169 := ⟨by decide +kernel, rfl⟩
theorem a11_lookAt_169 : At cX11_lookAt 169 (.iaload) 1 170 := ⟨by decide +kernel, rfl⟩
theorem a11_lookAt_170 : At cX11_lookAt 170 (.istore 4) 2 172 := ⟨by decide +kernel, rfl⟩
theorem a11_lookAt_172 : At cX11_lookAt 172 (.aload_n 0) 1 173 := ⟨by decide +kernel, rfl⟩
theorem a11_lookAt_173 : At cX11_lookAt 173 (.getfield 235) 3 176 := ⟨by decide +kernel, rfl⟩
theorem a11_lookAt_176 : At cX11_lookAt 176 (.iconst 1) 1 177 := ⟨by decide +kernel, rfl⟩
theorem a11_lookAt_177 : At cX11_lookAt 177 (.if_icmp .ne 11) 3 180 := ⟨by decide +kernel, rfl⟩
theorem a11_lookAt_180 : At cX11_lookAt 180 (.iload 4) 2 182 := ⟨by decide +kernel, rfl⟩
theorem a11_lookAt_182 : At cX11_lookAt 182 (.invokestatic 241) 3 185 := ⟨by decide +kernel, rfl⟩
theorem a11_lookAt_185 : At cX11_lookAt 185 (.goto 8) 3 188 := ⟨by decide +kernel, rfl⟩
theorem a11_lookAt_188 : At cX11_lookAt 188 (.iload 4) 2 190 := ⟨by decide +kernel, rfl⟩
theorem a11_lookAt_190 : At cX11_lookAt 190 (.invokestatic 244) 3 193 := ⟨by decide +kernel, rfl⟩
theorem a11_lookAt_193 : At cX11_lookAt 193 (.istore_n 3) 1 194 := ⟨by decide +kernel, rfl⟩
theorem a11_lookAt_194 : At cX11_lookAt 194 (.aload_n 0) 1 195 := ⟨by decide +kernel, rfl⟩
theorem a11_lookAt_195 : At cX11_lookAt 195 (.dup) 1 196 := ⟨by decide +kernel, rfl⟩
theorem a11_lookAt_196 : At cX11_lookAt 196 (.getfield 232) 3 199 := ⟨by decide +kernel, rfl⟩
theorem a11_lookAt_199 : At cX11_lookAt 199 (.iload_n 3) 1 200 := ⟨by decide +kernel, rfl⟩
theorem a11_lookAt_200 : At cX11_lookAt 200 (.ifCond .eq 7) 3 203 := ⟨by decide +kernel, rfl⟩
theorem a11_lookAt_203 : At cX11_lookAt 203 (.iconst 1) 1 204 := ⟨by decide +kernel, rfl⟩
theorem a11_lookAt_204 : At cX11_lookAt 204 (.goto 4) 3 207 := ⟨by decide +kernel, rfl⟩
theorem a11_lookAt_207 : At cX11_lookAt 207 (.iconst 0) 1 208 := ⟨by decide +kernel, rfl⟩
theorem a11_lookAt_208 : At cX11_lookAt 208 (.iadd) 1 209 := ⟨by decide +kernel, rfl⟩
theorem a11_lookAt_209 : At cX11_lookAt 209 (.putfield 232) 3 212 := ⟨by decide +kernel, rfl⟩
theorem a11_lookAt_212 : At cX11_lookAt 212 (.goto (-76)) 3 215 := ⟨by decide +kernel, rfl⟩
theorem a11_lookAt_215 : At cX11_lookAt 215 (.iconst 0) 1 216 := ⟨by decide +kernel, rfl⟩
theorem a11_lookAt_216 : At cX11_lookAt 216 (.istore 4) 2 218 := ⟨by decide +kernel, rfl⟩
theorem a11_lookAt_218 : At cX11_lookAt 218 (.iload 4) 2 220 := ⟨by decide +kernel, rfl⟩
theorem a11_lookAt_220 : At cX11_lookAt 220 (.aload_n 0) 1 221 := ⟨by decide +kernel, rfl⟩
theorem a11_lookAt_221 : At cX11_lookAt 221 (.getfield 232) 3 224 := ⟨by decide +kernel, rfl⟩
theorem a11_lookAt_224 : At cX11_lookAt 224 (.if_icmp .ge 50) 3 227 := ⟨by decide +kernel, rfl⟩
theorem a11_lookAt_227 : At cX11_lookAt 227 (.iload 4) 2 229 := ⟨by decide +kernel, rfl⟩
theorem a11_lookAt_229 : At cX11_lookAt 229 (.iconst 2) 1 230 := ⟨by decide +kernel, rfl⟩
theorem a11_lookAt_230 : At cX11_lookAt 230 (.if_icmp .ge 44) 3 233 := ⟨by decide +kernel, rfl⟩
theorem a11_lookAt_233 : At cX11_lookAt 233 (.aload_n 0) 1 234 := ⟨by decide +kernel, rfl⟩
theorem a11_lookAt_234 : At cX11_lookAt 234 (.getfield 235) 3 237 := ⟨by decide +kernel, rfl⟩
theorem a11_lookAt_237 : At cX11_lookAt 237 (.iconst 2) 1 238 := ⟨by decide +kernel, rfl⟩
theorem a11_lookAt_238 : At cX11_lookAt 238 (.if_icmp .ne 36) 3 241 := ⟨by decide +kernel, rfl⟩
theorem a11_lookAt_241 : At cX11_lookAt 241 (.aload_n 0) 1 242 := ⟨by decide +kernel, rfl⟩
theorem a11_lookAt_242 : At cX11_lookAt 242 (.bipush 10) 2 244 := ⟨by decide +kernel, rfl⟩
theorem a11_lookAt_244 : At cX11_lookAt 244 (.aload_n 0) 1 245 := ⟨by decide +kernel, rfl⟩
theorem a11_lookAt_245 : At cX11_lookAt 245 (.getfield 238) 3 248 := ⟨by decide +kernel, rfl⟩
theorem a11_lookAt_248 : At cX11_lookAt 248 (.imul) 1 249 := ⟨by decide +kernel, rfl⟩
theorem a11_lookAt_249 : At cX11_lookAt 249 (.aload_n 0) 1 250 := ⟨by decide +kernel, rfl⟩
theorem a11_lookAt_250 : At cX11_lookAt 250 (.getfield 42) 3 253 := ⟨by decide +kernel, rfl⟩
theorem a11_lookAt_253 : At cX11_lookAt 253 (.aload_n 0) 1 254 := ⟨by decide +kernel, rfl⟩
theorem a11_lookAt_254 : At cX11_lookAt 254 (.getfield 229) 3 257 := ⟨by decide +kernel, rfl⟩
theorem a11_lookAt_257 : At cX11_lookAt 257 (.iload 4) 2 259 := ⟨by decide +kernel, rfl⟩
theorem a11_lookAt_259 : At cX11_lookAt 259 (.iadd) 1 260 := ⟨by decide +kernel, rfl⟩
theorem a11_lookAt_260 : At cX11_lookAt 260 (.iaload) 1 261 := ⟨by decide +kernel, rfl⟩
theorem a11_lookAt_261 : At cX11_lookAt 261 (.iadd) 1 262 := ⟨by decide +kernel, rfl⟩
theorem a11_lookAt_262 : At cX11_lookAt 262 (.bipush 48) 2 264 := ⟨by decide +kernel, rfl⟩
theorem a11_lookAt_264 : At cX11_lookAt 264 (.isub) 1 265 := ⟨by decide +kernel, rfl⟩
theorem a11_lookAt_265 : At cX11_lookAt 265 (.putfield 238) 3 268 := ⟨by decide +kernel, rfl⟩
theorem a11_lookAt_268 : At cX11_lookAt 268 (.iinc 4 1) 3 271 := ⟨by decide +kernel, rfl⟩
theorem a11_lookAt_271 : At cX11_lookAt 271 (.goto (-53)) 3 274 := ⟨by decide +kernel, rfl⟩
theorem a11_lookAt_274 : At cX11_lookAt 274 (.aload_n 0) 1 275 := ⟨by decide +kernel, rfl⟩
theorem a11_lookAt_275 : At cX11_lookAt 275 (.aload_n 0) 1 276 := ⟨by decide +kernel, rfl⟩
theorem a11_lookAt_276 : At cX11_lookAt 276 (.getfield 235) 3 279 := ⟨by decide +kernel, rfl⟩
theorem a11_lookAt_279 : At cX11_lookAt 279 (.iconst 2) 1 280 := ⟨by decide +kernel, rfl⟩
theorem a11_lookAt_280 : At cX11_lookAt 280 (.if_icmp .ne 15) 3 283 := ⟨by decide +kernel, rfl⟩
theorem a11_lookAt_283 : At cX11_lookAt 283 (.aload_n 0) 1 284 := ⟨by decide +kernel, rfl⟩
theorem a11_lookAt_284 : At cX11_lookAt 284 (.getfield 232) 3 287 := ⟨by decide +kernel, rfl⟩
theorem a11_lookAt_287 : At cX11_lookAt 287 (.iconst 2) 1 288 := ⟨by decide +kernel, rfl⟩
theorem a11_lookAt_288 : At cX11_lookAt 288 (.if_icmp .le 7) 3 291 := ⟨by decide +kernel, rfl⟩
theorem a11_lookAt_291 : At cX11_lookAt 291 (.iconst 4) 1 292 := ⟨by decide +kernel, rfl⟩
theorem a11_lookAt_292 : At cX11_lookAt 292 (.goto 7) 3 295 := ⟨by decide +kernel, rfl⟩
theorem a11_lookAt_295 : At cX11_lookAt 295 (.aload_n 0) 1 296 := ⟨by decide +kernel, rfl⟩
theorem a11_lookAt_296 : At cX11_lookAt 296 (.getfield 235) 3 299 := ⟨by decide +kernel, rfl⟩
theorem a11_lookAt_299 : At cX11_lookAt 299 (.putfield 235) 3 302 := ⟨by decide +kernel, rfl⟩
theorem a11_lookAt_302 : At cX11_lookAt 302 (.return_) 1 303 := ⟨by decide +kernel, rfl⟩
def l11_lookAt_5 (k0 : Nat) : Nat → Mem → Option (Mem)
  | 0, _ => none
  | n + 1, σ =>
  if (σ.1 11 k0 12) ≤ (σ.1 11 k0 13) then
  (some σ)
  else
  (ck (inb (σ.1 11 k0 13) 150) <|
  if (σ.1 22 9 ((σ.1 11 k0 13) : Int32).toNatClampNeg) = 32 then
  (lt (sI σ 11 k0 13 ((σ.1 11 k0 13) + 1)) fun σ3 =>
  l11_lookAt_5 k0 n σ3)
  else
  (some σ))
theorem lE11_lookAt_5 {V : Option AV} {S : Mem} (k0 : Nat) : ∀ (n : Nat) (σ : Mem) {w : Mem}, l11_lookAt_5 k0 n σ = some w → (Go m11_lookAt 43 [some (.inr (.inr (11, k0))), none, none, none, none] [] w V S) → Go m11_lookAt 5 [some (.inr (.inr (11, k0))), none, none, none, none] [] σ V S
  | 0, σ, w, h, K1 => by cases h
  | n + 1, σ, w, h, K1 => by
    rw [l11_lookAt_5] at h
    refine g_aload_n a11_lookAt_5 rfl ?_
    refine g_getf (v := .inl (σ.1 11 k0 13)) a11_lookAt_6 fs11_229 rfl ?_
    refine g_aload_n a11_lookAt_9 rfl ?_
    refine g_getf (v := .inl (σ.1 11 k0 12)) a11_lookAt_10 fs11_217 rfl ?_
    refine g_icmp_ge (tgt := 43) a11_lookAt_13 rfl (fun c5 => ?_) (fun c5 => ?_)
    · have h := (if_pos c5).symm.trans h
      have h := Option.some.inj h
      subst h
      exact g_weak K1 ⟨rfl, trivial⟩
    · have h := (if_neg c5).symm.trans h
      refine g_aload_n a11_lookAt_16 rfl ?_
      refine g_getf (v := .inr (.inr (22, 9))) a11_lookAt_17 fs11_42 rfl ?_
      refine g_aload_n a11_lookAt_20 rfl ?_
      refine g_getf (v := .inl (σ.1 11 k0 13)) a11_lookAt_21 fs11_229 rfl ?_
      obtain ⟨q2, h⟩ := ck_inv h
      refine g_iald (x := (σ.1 22 9 ((σ.1 11 k0 13) : Int32).toNatClampNeg)) a11_lookAt_24 (rI22 (by decide)) (inb_ok q2) rfl ?_
      refine g_bipush (v := 32) a11_lookAt_25 rfl ?_
      refine g_icmp_ne (tgt := 43) a11_lookAt_27 rfl (fun c4 => ?_) (fun c4 => ?_)
      · have h := (if_neg c4).symm.trans h
        have h := Option.some.inj h
        subst h
        exact g_weak K1 ⟨rfl, trivial⟩
      · have h := (if_pos c4).symm.trans h
        refine g_aload_n a11_lookAt_30 rfl ?_
        refine g_dup a11_lookAt_31 (fun _ => rfl) ?_
        refine g_getf (v := .inl (σ.1 11 k0 13)) a11_lookAt_32 fs11_229 rfl ?_
        refine g_iconst (v := 1) a11_lookAt_35 rfl ?_
        refine g_iadd a11_lookAt_36 ?_
        obtain ⟨σ3, eσ3, h⟩ := lt_inv h
        refine g_puti a11_lookAt_37 fs11_229 ps11_13 (fun _ _ _ => rfl) ?_
        rw [eσ3]
        refine g_goto (tgt := 5) a11_lookAt_40 rfl ?_
        exact g_weak (lE11_lookAt_5 (V := V) (S := S)  k0 n _ h K1) ⟨rfl, trivial⟩
def l11_lookAt_136 (k0 : Nat) : Nat → Int32 → Mem → Option (Int32 × Mem)
  | 0, _, _ => none
  | n + 1, x3, σ =>
  if x3 = 0 then
  (some (x3, σ))
  else
  (if (σ.1 11 k0 12) ≤ ((σ.1 11 k0 13) + (σ.1 11 k0 14)) then
  (some (x3, σ))
  else
  (ck (inb ((σ.1 11 k0 13) + (σ.1 11 k0 14)) 150) <|
  lt ((σ.1 22 9 (((σ.1 11 k0 13) + (σ.1 11 k0 14)) : Int32).toNatClampNeg) : Int32) fun y26 =>
  lt (if (σ.1 11 k0 15) = 1 then
  ((f11_isSmall y26))
  else
  ((f11_isFigure y26)) : Int32) fun w27 =>
  lt (if w27 = 0 then
  (0)
  else
  (1) : Int32) fun w32 =>
  lt (sI σ 11 k0 14 ((σ.1 11 k0 14) + w32)) fun σ36 =>
  l11_lookAt_136 k0 n w27 σ36))
theorem lE11_lookAt_136 {V : Option AV} {S : Mem} (k0 : Nat) : ∀ (n : Nat) (x3 : Int32) (σ : Mem) {w : Int32 × Mem}, l11_lookAt_136 k0 n x3 σ = some w → (Go m11_lookAt 215 [some (.inr (.inr (11, k0))), none, none, some (.inl w.1), none] [] w.2 V S) → Go m11_lookAt 136 [some (.inr (.inr (11, k0))), none, none, some (.inl x3), none] [] σ V S
  | 0, x3, σ, w, h, K1 => by cases h
  | n + 1, x3, σ, w, h, K1 => by
    rw [l11_lookAt_136] at h
    refine g_iload_n a11_lookAt_136 rfl ?_
    refine g_if_eq (tgt := 215) a11_lookAt_137 rfl (fun c38 => ?_) (fun c38 => ?_)
    · have h := (if_pos c38).symm.trans h
      have h := Option.some.inj h
      subst h
      exact g_weak K1 ⟨rfl, rfl, trivial⟩
    · have h := (if_neg c38).symm.trans h
      refine g_aload_n a11_lookAt_140 rfl ?_
      refine g_getf (v := .inl (σ.1 11 k0 13)) a11_lookAt_141 fs11_229 rfl ?_
      refine g_aload_n a11_lookAt_144 rfl ?_
      refine g_getf (v := .inl (σ.1 11 k0 14)) a11_lookAt_145 fs11_232 rfl ?_
      refine g_iadd a11_lookAt_148 ?_
      refine g_aload_n a11_lookAt_149 rfl ?_
      refine g_getf (v := .inl (σ.1 11 k0 12)) a11_lookAt_150 fs11_217 rfl ?_
      refine g_icmp_ge (tgt := 215) a11_lookAt_153 rfl (fun c37 => ?_) (fun c37 => ?_)
      · have h := (if_pos c37).symm.trans h
        have h := Option.some.inj h
        subst h
        exact g_weak K1 ⟨rfl, rfl, trivial⟩
      · have h := (if_neg c37).symm.trans h
        refine g_aload_n a11_lookAt_156 rfl ?_
        refine g_getf (v := .inr (.inr (22, 9))) a11_lookAt_157 fs11_42 rfl ?_
        refine g_aload_n a11_lookAt_160 rfl ?_
        refine g_getf (v := .inl (σ.1 11 k0 13)) a11_lookAt_161 fs11_229 rfl ?_
        refine g_aload_n a11_lookAt_164 rfl ?_
        refine g_getf (v := .inl (σ.1 11 k0 14)) a11_lookAt_165 fs11_232 rfl ?_
        refine g_iadd a11_lookAt_168 ?_
        obtain ⟨q25, h⟩ := ck_inv h
        refine g_iald (x := (σ.1 22 9 (((σ.1 11 k0 13) + (σ.1 11 k0 14)) : Int32).toNatClampNeg)) a11_lookAt_169 (rI22 (by decide)) (inb_ok q25) rfl ?_
        obtain ⟨y26, ey26, h⟩ := lt_inv h
        rw [ey26]
        refine g_istore (L' := [some (.inr (.inr (11, k0))), none, none, some (.inl x3), some (.inl y26)]) a11_lookAt_170 (Nat.le_of_ble_eq_true rfl) rfl rfl ?_
        refine g_aload_n a11_lookAt_172 rfl ?_
        refine g_getf (v := .inl (σ.1 11 k0 15)) a11_lookAt_173 fs11_235 rfl ?_
        refine g_iconst (v := 1) a11_lookAt_176 rfl ?_
        obtain ⟨w27, hw27, h⟩ := lt_inv h
        have J28 : Go m11_lookAt 193 [some (.inr (.inr (11, k0))), none, none, none, none] [.inl w27] σ V S := by
          refine g_istore_n (L' := [some (.inr (.inr (11, k0))), none, none, some (.inl w27), none]) a11_lookAt_193 (Nat.le_of_ble_eq_true rfl) rfl rfl ?_
          refine g_aload_n a11_lookAt_194 rfl ?_
          refine g_dup a11_lookAt_195 (fun _ => rfl) ?_
          refine g_getf (v := .inl (σ.1 11 k0 14)) a11_lookAt_196 fs11_232 rfl ?_
          refine g_iload_n a11_lookAt_199 rfl ?_
          obtain ⟨w32, hw32, h⟩ := lt_inv h
          have b35 : w32 = 0 ∨ w32 = 1 := by rw [← hw32]; repeat (first | exact Or.inl rfl | exact Or.inr rfl | split)
          have J33 : Go m11_lookAt 208 [some (.inr (.inr (11, k0))), none, none, some (.inl w27), none] [.inl w32, .inl (σ.1 11 k0 14), .inr (.inr (11, k0))] σ V S := by
            refine g_iadd a11_lookAt_208 ?_
            obtain ⟨σ36, eσ36, h⟩ := lt_inv h
            refine g_puti a11_lookAt_209 fs11_232 ps11_14 (fun _ _ _ => rfl) ?_
            rw [eσ36]
            refine g_goto (tgt := 136) a11_lookAt_212 rfl ?_
            exact g_weak (lE11_lookAt_136 (V := V) (S := S)  k0 n _ _ h K1) ⟨rfl, rfl, trivial⟩
          clear h
          refine g_if_eq (tgt := 207) a11_lookAt_200 rfl (fun c34 => ?_) (fun c34 => ?_)
          · have hw32 := (if_pos c34).symm.trans hw32
            refine g_iconst (v := 0) a11_lookAt_207 rfl ?_
            subst hw32
            exact J33
          · have hw32 := (if_neg c34).symm.trans hw32
            refine g_iconst (v := 1) a11_lookAt_203 rfl ?_
            refine g_goto (tgt := 208) a11_lookAt_204 rfl ?_
            subst hw32
            exact J33
        clear h
        refine g_icmp_ne (tgt := 188) a11_lookAt_177 rfl (fun c31 => ?_) (fun c31 => ?_)
        · have hw27 := (if_neg c31).symm.trans hw27
          refine g_iload a11_lookAt_188 rfl ?_
          refine g_S1s (v1 := .inl (f11_isFigure y26)) (σ1 := σ) a11_lookAt_190 cs11_244 (E11_isFigure _ _) rfl (fun o30 => ?_)
          subst hw27
          exact g_weak J28 ⟨rfl, trivial⟩
        · have hw27 := (if_pos c31).symm.trans hw27
          refine g_iload a11_lookAt_180 rfl ?_
          refine g_S1s (v1 := .inl (f11_isSmall y26)) (σ1 := σ) a11_lookAt_182 cs11_241 (E11_isSmall _ _) rfl (fun o29 => ?_)
          refine g_goto (tgt := 193) a11_lookAt_185 rfl ?_
          subst hw27
          exact g_weak J28 ⟨rfl, trivial⟩
def l11_lookAt_218 (k0 : Nat) : Nat → Int32 → Mem → Option (Int32 × Mem)
  | 0, _, _ => none
  | n + 1, x4, σ =>
  if (σ.1 11 k0 14) ≤ x4 then
  (some (x4, σ))
  else
  (if 2 ≤ x4 then
  (some (x4, σ))
  else
  (if (σ.1 11 k0 15) = 2 then
  (ck (inb ((σ.1 11 k0 13) + x4) 150) <|
  lt (sI σ 11 k0 16 (((10 * (σ.1 11 k0 16)) + (σ.1 22 9 (((σ.1 11 k0 13) + x4) : Int32).toNatClampNeg)) - 48)) fun σ41 =>
  l11_lookAt_218 k0 n (x4 + 1) σ41)
  else
  (some (x4, σ))))
theorem lE11_lookAt_218 {V : Option AV} {S : Mem} (k0 : Nat) : ∀ (n : Nat) (x4 : Int32) (σ : Mem) {w : Int32 × Mem}, l11_lookAt_218 k0 n x4 σ = some w → (Go m11_lookAt 274 [some (.inr (.inr (11, k0))), none, none, none, some (.inl w.1)] [] w.2 V S) → Go m11_lookAt 218 [some (.inr (.inr (11, k0))), none, none, none, some (.inl x4)] [] σ V S
  | 0, x4, σ, w, h, K1 => by cases h
  | n + 1, x4, σ, w, h, K1 => by
    rw [l11_lookAt_218] at h
    refine g_iload a11_lookAt_218 rfl ?_
    refine g_aload_n a11_lookAt_220 rfl ?_
    refine g_getf (v := .inl (σ.1 11 k0 14)) a11_lookAt_221 fs11_232 rfl ?_
    refine g_icmp_ge (tgt := 274) a11_lookAt_224 rfl (fun c44 => ?_) (fun c44 => ?_)
    · have h := (if_pos c44).symm.trans h
      have h := Option.some.inj h
      subst h
      exact g_weak K1 ⟨rfl, rfl, trivial⟩
    · have h := (if_neg c44).symm.trans h
      refine g_iload a11_lookAt_227 rfl ?_
      refine g_iconst (v := 2) a11_lookAt_229 rfl ?_
      refine g_icmp_ge (tgt := 274) a11_lookAt_230 rfl (fun c43 => ?_) (fun c43 => ?_)
      · have h := (if_pos c43).symm.trans h
        have h := Option.some.inj h
        subst h
        exact g_weak K1 ⟨rfl, rfl, trivial⟩
      · have h := (if_neg c43).symm.trans h
        refine g_aload_n a11_lookAt_233 rfl ?_
        refine g_getf (v := .inl (σ.1 11 k0 15)) a11_lookAt_234 fs11_235 rfl ?_
        refine g_iconst (v := 2) a11_lookAt_237 rfl ?_
        refine g_icmp_ne (tgt := 274) a11_lookAt_238 rfl (fun c42 => ?_) (fun c42 => ?_)
        · have h := (if_neg c42).symm.trans h
          have h := Option.some.inj h
          subst h
          exact g_weak K1 ⟨rfl, rfl, trivial⟩
        · have h := (if_pos c42).symm.trans h
          refine g_aload_n a11_lookAt_241 rfl ?_
          refine g_bipush (v := 10) a11_lookAt_242 rfl ?_
          refine g_aload_n a11_lookAt_244 rfl ?_
          refine g_getf (v := .inl (σ.1 11 k0 16)) a11_lookAt_245 fs11_238 rfl ?_
          refine g_imul a11_lookAt_248 ?_
          refine g_aload_n a11_lookAt_249 rfl ?_
          refine g_getf (v := .inr (.inr (22, 9))) a11_lookAt_250 fs11_42 rfl ?_
          refine g_aload_n a11_lookAt_253 rfl ?_
          refine g_getf (v := .inl (σ.1 11 k0 13)) a11_lookAt_254 fs11_229 rfl ?_
          refine g_iload a11_lookAt_257 rfl ?_
          refine g_iadd a11_lookAt_259 ?_
          obtain ⟨q40, h⟩ := ck_inv h
          refine g_iald (x := (σ.1 22 9 (((σ.1 11 k0 13) + x4) : Int32).toNatClampNeg)) a11_lookAt_260 (rI22 (by decide)) (inb_ok q40) rfl ?_
          refine g_iadd a11_lookAt_261 ?_
          refine g_bipush (v := 48) a11_lookAt_262 rfl ?_
          refine g_isub a11_lookAt_264 ?_
          obtain ⟨σ41, eσ41, h⟩ := lt_inv h
          refine g_puti a11_lookAt_265 fs11_238 ps11_16 (fun _ _ _ => rfl) ?_
          rw [eσ41]
          refine g_iinc (v := (x4 + 1)) (L' := [some (.inr (.inr (11, k0))), none, none, none, some (.inl (x4 + 1))]) a11_lookAt_268 rfl rfl (Nat.le_of_ble_eq_true rfl) rfl rfl ?_
          refine g_goto (tgt := 218) a11_lookAt_271 rfl ?_
          exact g_weak (lE11_lookAt_218 (V := V) (S := S)  k0 n _ _ h K1) ⟨rfl, rfl, trivial⟩
def f11_lookAt (k0 : Nat) (x1 : Int32) (σ : Mem) : Option (Mem) :=
  lt (sI σ 11 k0 13 x1) fun σ1 =>
  bnd (l11_lookAt_5 k0 2000 σ1) fun w6 =>
  lt (sI w6 11 k0 14 0) fun σ7 =>
  lt (sI σ7 11 k0 15 0) fun σ8 =>
  lt (sI σ8 11 k0 16 0) fun σ9 =>
  if (σ9.1 11 k0 13) = (σ9.1 11 k0 12) then
  (some σ9)
  else
  (ck (inb (σ9.1 11 k0 13) 150) <|
  lt ((σ9.1 22 9 ((σ9.1 11 k0 13) : Int32).toNatClampNeg) : Int32) fun y11 =>
  lt (if (f11_isSmall y11) = 0 then
  (if (f11_isFigure y11) = 0 then
  (if y11 = 59 then
  (3)
  else
  (4))
  else
  (2))
  else
  (1) : Int32) fun w13 =>
  lt (sI σ9 11 k0 15 w13) fun σ19 =>
  lt (sI σ19 11 k0 14 1) fun σ20 =>
  lt (if 3 ≤ (σ20.1 11 k0 15) then
  (0)
  else
  (1) : Int32) fun w21 =>
  bnd (l11_lookAt_136 k0 2000 w21 σ20) fun w39 =>
  bnd (l11_lookAt_218 k0 2000 0 w39.2) fun w45 =>
  lt (if (w45.2.1 11 k0 15) = 2 then
  (if (w45.2.1 11 k0 14) ≤ 2 then
  ((w45.2.1 11 k0 15))
  else
  (4))
  else
  ((w45.2.1 11 k0 15)) : Int32) fun w46 =>
  lt (sI w45.2 11 k0 15 w46) fun σ50 =>
  some σ50)
theorem E11_lookAt {k0 : Nat} {x1 : Int32} {σ : Mem} {w : Mem} (h : f11_lookAt k0 x1 σ = some w) : Ev m11_lookAt [.inr (.inr (11, k0)), .inl x1] σ none w := by
  unfold f11_lookAt at h
  show Go m11_lookAt 0 [some (.inr (.inr (11, k0))), some (.inl x1), none, none, none] [] σ none w
  refine g_aload_n a11_lookAt_0 rfl ?_
  refine g_iload_n a11_lookAt_1 rfl ?_
  obtain ⟨σ1, eσ1, h⟩ := lt_inv h
  refine g_puti a11_lookAt_2 fs11_229 ps11_13 (fun _ _ _ => rfl) ?_
  rw [eσ1]
  obtain ⟨w6, hw6, h⟩ := bnd_inv h
  refine g_weak (lE11_lookAt_5 k0 2000 _ hw6 ?_) ⟨rfl, trivial⟩
  refine g_aload_n a11_lookAt_43 rfl ?_
  refine g_iconst (v := 0) a11_lookAt_44 rfl ?_
  obtain ⟨σ7, eσ7, h⟩ := lt_inv h
  refine g_puti a11_lookAt_45 fs11_232 ps11_14 (fun _ _ _ => rfl) ?_
  rw [eσ7]
  refine g_aload_n a11_lookAt_48 rfl ?_
  refine g_iconst (v := 0) a11_lookAt_49 rfl ?_
  obtain ⟨σ8, eσ8, h⟩ := lt_inv h
  refine g_puti a11_lookAt_50 fs11_235 ps11_15 (fun _ _ _ => rfl) ?_
  rw [eσ8]
  refine g_aload_n a11_lookAt_53 rfl ?_
  refine g_iconst (v := 0) a11_lookAt_54 rfl ?_
  obtain ⟨σ9, eσ9, h⟩ := lt_inv h
  refine g_puti a11_lookAt_55 fs11_238 ps11_16 (fun _ _ _ => rfl) ?_
  rw [eσ9]
  refine g_aload_n a11_lookAt_58 rfl ?_
  refine g_getf (v := .inl (σ9.1 11 k0 13)) a11_lookAt_59 fs11_229 rfl ?_
  refine g_aload_n a11_lookAt_62 rfl ?_
  refine g_getf (v := .inl (σ9.1 11 k0 12)) a11_lookAt_63 fs11_217 rfl ?_
  refine g_icmp_ne (tgt := 70) a11_lookAt_66 rfl (fun c51 => ?_) (fun c51 => ?_)
  · have h := (if_neg c51).symm.trans h
    refine g_aload_n a11_lookAt_70 rfl ?_
    refine g_getf (v := .inr (.inr (22, 9))) a11_lookAt_71 fs11_42 rfl ?_
    refine g_aload_n a11_lookAt_74 rfl ?_
    refine g_getf (v := .inl (σ9.1 11 k0 13)) a11_lookAt_75 fs11_229 rfl ?_
    obtain ⟨q10, h⟩ := ck_inv h
    refine g_iald (x := (σ9.1 22 9 ((σ9.1 11 k0 13) : Int32).toNatClampNeg)) a11_lookAt_78 (rI22 (by decide)) (inb_ok q10) rfl ?_
    obtain ⟨y11, ey11, h⟩ := lt_inv h
    rw [ey11]
    refine g_istore_n (L' := [some (.inr (.inr (11, k0))), none, some (.inl y11), none, none]) a11_lookAt_79 (Nat.le_of_ble_eq_true rfl) rfl rfl ?_
    refine g_aload_n a11_lookAt_80 rfl ?_
    refine g_iload_n a11_lookAt_81 rfl ?_
    refine g_S1s (v1 := .inl (f11_isSmall y11)) (σ1 := σ9) a11_lookAt_82 cs11_241 (E11_isSmall _ _) rfl (fun o12 => ?_)
    obtain ⟨w13, hw13, h⟩ := lt_inv h
    have J14 : Go m11_lookAt 114 [some (.inr (.inr (11, k0))), none, none, none, none] [.inl w13, .inr (.inr (11, k0))] σ9 none w := by
      obtain ⟨σ19, eσ19, h⟩ := lt_inv h
      refine g_puti a11_lookAt_114 fs11_235 ps11_15 (fun _ _ _ => rfl) ?_
      rw [eσ19]
      refine g_aload_n a11_lookAt_117 rfl ?_
      refine g_iconst (v := 1) a11_lookAt_118 rfl ?_
      obtain ⟨σ20, eσ20, h⟩ := lt_inv h
      refine g_puti a11_lookAt_119 fs11_232 ps11_14 (fun _ _ _ => rfl) ?_
      rw [eσ20]
      refine g_aload_n a11_lookAt_122 rfl ?_
      refine g_getf (v := .inl (σ20.1 11 k0 15)) a11_lookAt_123 fs11_235 rfl ?_
      refine g_iconst (v := 3) a11_lookAt_126 rfl ?_
      obtain ⟨w21, hw21, h⟩ := lt_inv h
      have b24 : w21 = 0 ∨ w21 = 1 := by rw [← hw21]; repeat (first | exact Or.inl rfl | exact Or.inr rfl | split)
      have J22 : Go m11_lookAt 135 [some (.inr (.inr (11, k0))), none, none, none, none] [.inl w21] σ20 none w := by
        refine g_istore_n (L' := [some (.inr (.inr (11, k0))), none, none, some (.inl w21), none]) a11_lookAt_135 (Nat.le_of_ble_eq_true rfl) rfl rfl ?_
        obtain ⟨w39, hw39, h⟩ := bnd_inv h
        refine g_weak (lE11_lookAt_136 k0 2000 _ _ hw39 ?_) ⟨rfl, rfl, trivial⟩
        refine g_iconst (v := 0) a11_lookAt_215 rfl ?_
        refine g_istore (L' := [some (.inr (.inr (11, k0))), none, none, some (.inl w39.1), some (.inl 0)]) a11_lookAt_216 (Nat.le_of_ble_eq_true rfl) rfl rfl ?_
        obtain ⟨w45, hw45, h⟩ := bnd_inv h
        refine g_weak (lE11_lookAt_218 k0 2000 _ _ hw45 ?_) ⟨rfl, rfl, trivial⟩
        refine g_aload_n a11_lookAt_274 rfl ?_
        refine g_aload_n a11_lookAt_275 rfl ?_
        refine g_getf (v := .inl (w45.2.1 11 k0 15)) a11_lookAt_276 fs11_235 rfl ?_
        refine g_iconst (v := 2) a11_lookAt_279 rfl ?_
        obtain ⟨w46, hw46, h⟩ := lt_inv h
        have J47 : Go m11_lookAt 299 [none, none, none, none, none] [.inl w46, .inr (.inr (11, k0))] w45.2 none w := by
          obtain ⟨σ50, eσ50, h⟩ := lt_inv h
          refine g_puti a11_lookAt_299 fs11_235 ps11_15 (fun _ _ _ => rfl) ?_
          rw [eσ50]
          have h := Option.some.inj h
          subst h
          exact g_retE a11_lookAt_302 trivial rfl rfl
        clear h
        refine g_icmp_ne (tgt := 295) a11_lookAt_280 rfl (fun c49 => ?_) (fun c49 => ?_)
        · have hw46 := (if_neg c49).symm.trans hw46
          refine g_aload_n a11_lookAt_295 rfl ?_
          refine g_getf (v := .inl (w45.2.1 11 k0 15)) a11_lookAt_296 fs11_235 rfl ?_
          subst hw46
          exact g_weak J47 trivial
        · have hw46 := (if_pos c49).symm.trans hw46
          refine g_aload_n a11_lookAt_283 rfl ?_
          refine g_getf (v := .inl (w45.2.1 11 k0 14)) a11_lookAt_284 fs11_232 rfl ?_
          refine g_iconst (v := 2) a11_lookAt_287 rfl ?_
          refine g_icmp_le (tgt := 295) a11_lookAt_288 rfl (fun c48 => ?_) (fun c48 => ?_)
          · have hw46 := (if_pos c48).symm.trans hw46
            refine g_aload_n a11_lookAt_295 rfl ?_
            refine g_getf (v := .inl (w45.2.1 11 k0 15)) a11_lookAt_296 fs11_235 rfl ?_
            subst hw46
            exact g_weak J47 trivial
          · have hw46 := (if_neg c48).symm.trans hw46
            refine g_iconst (v := 4) a11_lookAt_291 rfl ?_
            refine g_goto (tgt := 299) a11_lookAt_292 rfl ?_
            subst hw46
            exact g_weak J47 trivial
      clear h
      refine g_icmp_ge (tgt := 134) a11_lookAt_127 rfl (fun c23 => ?_) (fun c23 => ?_)
      · have hw21 := (if_pos c23).symm.trans hw21
        refine g_iconst (v := 0) a11_lookAt_134 rfl ?_
        subst hw21
        exact J22
      · have hw21 := (if_neg c23).symm.trans hw21
        refine g_iconst (v := 1) a11_lookAt_130 rfl ?_
        refine g_goto (tgt := 135) a11_lookAt_131 rfl ?_
        subst hw21
        exact J22
    clear h
    refine g_if_eq (tgt := 92) a11_lookAt_85 rfl (fun c18 => ?_) (fun c18 => ?_)
    · have hw13 := (if_pos c18).symm.trans hw13
      refine g_iload_n a11_lookAt_92 rfl ?_
      refine g_S1s (v1 := .inl (f11_isFigure y11)) (σ1 := σ9) a11_lookAt_93 cs11_244 (E11_isFigure _ _) rfl (fun o15 => ?_)
      refine g_if_eq (tgt := 103) a11_lookAt_96 rfl (fun c17 => ?_) (fun c17 => ?_)
      · have hw13 := (if_pos c17).symm.trans hw13
        refine g_iload_n a11_lookAt_103 rfl ?_
        refine g_bipush (v := 59) a11_lookAt_104 rfl ?_
        refine g_icmp_ne (tgt := 113) a11_lookAt_106 rfl (fun c16 => ?_) (fun c16 => ?_)
        · have hw13 := (if_neg c16).symm.trans hw13
          refine g_iconst (v := 4) a11_lookAt_113 rfl ?_
          subst hw13
          exact g_weak J14 ⟨rfl, trivial⟩
        · have hw13 := (if_pos c16).symm.trans hw13
          refine g_iconst (v := 3) a11_lookAt_109 rfl ?_
          refine g_goto (tgt := 114) a11_lookAt_110 rfl ?_
          subst hw13
          exact g_weak J14 ⟨rfl, trivial⟩
      · have hw13 := (if_neg c17).symm.trans hw13
        refine g_iconst (v := 2) a11_lookAt_99 rfl ?_
        refine g_goto (tgt := 114) a11_lookAt_100 rfl ?_
        subst hw13
        exact g_weak J14 ⟨rfl, trivial⟩
    · have hw13 := (if_neg c18).symm.trans hw13
      refine g_iconst (v := 1) a11_lookAt_88 rfl ?_
      refine g_goto (tgt := 114) a11_lookAt_89 rfl ?_
      subst hw13
      exact g_weak J14 ⟨rfl, trivial⟩
  · have h := (if_pos c51).symm.trans h
    have h := Option.some.inj h
    subst h
    exact g_retE a11_lookAt_69 trivial rfl rfl
theorem a11_spellsSeven_0 : At cX11_spellsSeven 0 (.aload_n 0) 1 1 := ⟨by decide +kernel, rfl⟩
theorem a11_spellsSeven_1 : At cX11_spellsSeven 1 (.getfield 235) 3 4 := ⟨by decide +kernel, rfl⟩
theorem a11_spellsSeven_4 : At cX11_spellsSeven 4 (.iconst 1) 1 5 := ⟨by decide +kernel, rfl⟩
theorem a11_spellsSeven_5 : At cX11_spellsSeven 5 (.if_icmp .ne 16) 3 8 := ⟨by decide +kernel, rfl⟩
theorem a11_spellsSeven_8 : At cX11_spellsSeven 8 (.aload_n 0) 1 9 := ⟨by decide +kernel, rfl⟩
theorem a11_spellsSeven_9 : At cX11_spellsSeven 9 (.getfield 232) 3 12 := ⟨by decide +kernel, rfl⟩
theorem a11_spellsSeven_12 : At cX11_spellsSeven 12 (.bipush 7) 2 14 := ⟨by decide +kernel, rfl⟩
theorem a11_spellsSeven_14 : At cX11_spellsSeven 14 (.if_icmp .ne 7) 3 17 := ⟨by decide +kernel, rfl⟩
theorem a11_spellsSeven_17 : At cX11_spellsSeven 17 (.iconst 1) 1 18 := ⟨by decide +kernel, rfl⟩
theorem a11_spellsSeven_18 : At cX11_spellsSeven 18 (.goto 4) 3 21 := ⟨by decide +kernel, rfl⟩
theorem a11_spellsSeven_21 : At cX11_spellsSeven 21 (.iconst 0) 1 22 := ⟨by decide +kernel, rfl⟩
theorem a11_spellsSeven_22 : At cX11_spellsSeven 22 (.istore 8) 2 24 := ⟨by decide +kernel, rfl⟩
theorem a11_spellsSeven_24 : At cX11_spellsSeven 24 (.iload 8) 2 26 := ⟨by decide +kernel, rfl⟩
theorem a11_spellsSeven_26 : At cX11_spellsSeven 26 (.ifCond .eq 115) 3 29 := ⟨by decide +kernel, rfl⟩
theorem a11_spellsSeven_29 : At cX11_spellsSeven 29 (.aload_n 0) 1 30 := ⟨by decide +kernel, rfl⟩
theorem a11_spellsSeven_30 : At cX11_spellsSeven 30 (.getfield 42) 3 33 := ⟨by decide +kernel, rfl⟩
theorem a11_spellsSeven_33 : At cX11_spellsSeven 33 (.aload_n 0) 1 34 := ⟨by decide +kernel, rfl⟩
theorem a11_spellsSeven_34 : At cX11_spellsSeven 34 (.getfield 229) 3 37 := ⟨by decide +kernel, rfl⟩
theorem a11_spellsSeven_37 : At cX11_spellsSeven 37 (.iaload) 1 38 := ⟨by decide +kernel, rfl⟩
theorem a11_spellsSeven_38 : At cX11_spellsSeven 38 (.iload_n 1) 1 39 := ⟨by decide +kernel, rfl⟩
theorem a11_spellsSeven_39 : At cX11_spellsSeven 39 (.if_icmp .ne 102) 3 42 := ⟨by decide +kernel, rfl⟩
theorem a11_spellsSeven_42 : At cX11_spellsSeven 42 (.aload_n 0) 1 43 := ⟨by decide +kernel, rfl⟩
theorem a11_spellsSeven_43 : At cX11_spellsSeven 43 (.getfield 42) 3 46 := ⟨by decide +kernel, rfl⟩
theorem a11_spellsSeven_46 : At cX11_spellsSeven 46 (.aload_n 0) 1 47 := ⟨by decide +kernel, rfl⟩
theorem a11_spellsSeven_47 : At cX11_spellsSeven 47 (.getfield 229) 3 50 := ⟨by decide +kernel, rfl⟩
theorem a11_spellsSeven_50 : At cX11_spellsSeven 50 (.iconst 1) 1 51 := ⟨by decide +kernel, rfl⟩
theorem a11_spellsSeven_51 : At cX11_spellsSeven 51 (.iadd) 1 52 := ⟨by decide +kernel, rfl⟩
theorem a11_spellsSeven_52 : At cX11_spellsSeven 52 (.iaload) 1 53 := ⟨by decide +kernel, rfl⟩
theorem a11_spellsSeven_53 : At cX11_spellsSeven 53 (.iload_n 2) 1 54 := ⟨by decide +kernel, rfl⟩
theorem a11_spellsSeven_54 : At cX11_spellsSeven 54 (.if_icmp .ne 87) 3 57 := ⟨by decide +kernel, rfl⟩
theorem a11_spellsSeven_57 : At cX11_spellsSeven 57 (.aload_n 0) 1 58 := ⟨by decide +kernel, rfl⟩
theorem a11_spellsSeven_58 : At cX11_spellsSeven 58 (.getfield 42) 3 61 := ⟨by decide +kernel, rfl⟩
theorem a11_spellsSeven_61 : At cX11_spellsSeven 61 (.aload_n 0) 1 62 := ⟨by decide +kernel, rfl⟩
theorem a11_spellsSeven_62 : At cX11_spellsSeven 62 (.getfield 229) 3 65 := ⟨by decide +kernel, rfl⟩
theorem a11_spellsSeven_65 : At cX11_spellsSeven 65 (.iconst 2) 1 66 := ⟨by decide +kernel, rfl⟩
theorem a11_spellsSeven_66 : At cX11_spellsSeven 66 (.iadd) 1 67 := ⟨by decide +kernel, rfl⟩
theorem a11_spellsSeven_67 : At cX11_spellsSeven 67 (.iaload) 1 68 := ⟨by decide +kernel, rfl⟩
theorem a11_spellsSeven_68 : At cX11_spellsSeven 68 (.iload_n 3) 1 69 := ⟨by decide +kernel, rfl⟩
theorem a11_spellsSeven_69 : At cX11_spellsSeven 69 (.if_icmp .ne 72) 3 72 := ⟨by decide +kernel, rfl⟩
theorem a11_spellsSeven_72 : At cX11_spellsSeven 72 (.aload_n 0) 1 73 := ⟨by decide +kernel, rfl⟩
theorem a11_spellsSeven_73 : At cX11_spellsSeven 73 (.getfield 42) 3 76 := ⟨by decide +kernel, rfl⟩
theorem a11_spellsSeven_76 : At cX11_spellsSeven 76 (.aload_n 0) 1 77 := ⟨by decide +kernel, rfl⟩
theorem a11_spellsSeven_77 : At cX11_spellsSeven 77 (.getfield 229) 3 80 := ⟨by decide +kernel, rfl⟩
theorem a11_spellsSeven_80 : At cX11_spellsSeven 80 (.iconst 3) 1 81 := ⟨by decide +kernel, rfl⟩
theorem a11_spellsSeven_81 : At cX11_spellsSeven 81 (.iadd) 1 82 := ⟨by decide +kernel, rfl⟩
theorem a11_spellsSeven_82 : At cX11_spellsSeven 82 (.iaload) 1 83 := ⟨by decide +kernel, rfl⟩
theorem a11_spellsSeven_83 : At cX11_spellsSeven 83 (.iload 4) 2 85 := ⟨by decide +kernel, rfl⟩
theorem a11_spellsSeven_85 : At cX11_spellsSeven 85 (.if_icmp .ne 56) 3 88 := ⟨by decide +kernel, rfl⟩
theorem a11_spellsSeven_88 : At cX11_spellsSeven 88 (.aload_n 0) 1 89 := ⟨by decide +kernel, rfl⟩
theorem a11_spellsSeven_89 : At cX11_spellsSeven 89 (.getfield 42) 3 92 := ⟨by decide +kernel, rfl⟩
theorem a11_spellsSeven_92 : At cX11_spellsSeven 92 (.aload_n 0) 1 93 := ⟨by decide +kernel, rfl⟩
theorem a11_spellsSeven_93 : At cX11_spellsSeven 93 (.getfield 229) 3 96 := ⟨by decide +kernel, rfl⟩
theorem a11_spellsSeven_96 : At cX11_spellsSeven 96 (.iconst 4) 1 97 := ⟨by decide +kernel, rfl⟩
theorem a11_spellsSeven_97 : At cX11_spellsSeven 97 (.iadd) 1 98 := ⟨by decide +kernel, rfl⟩
theorem a11_spellsSeven_98 : At cX11_spellsSeven 98 (.iaload) 1 99 := ⟨by decide +kernel, rfl⟩
theorem a11_spellsSeven_99 : At cX11_spellsSeven 99 (.iload 5) 2 101 := ⟨by decide +kernel, rfl⟩
theorem a11_spellsSeven_101 : At cX11_spellsSeven 101 (.if_icmp .ne 40) 3 104 := ⟨by decide +kernel, rfl⟩
theorem a11_spellsSeven_104 : At cX11_spellsSeven 104 (.aload_n 0) 1 105 := ⟨by decide +kernel, rfl⟩
theorem a11_spellsSeven_105 : At cX11_spellsSeven 105 (.getfield 42) 3 108 := ⟨by decide +kernel, rfl⟩
theorem a11_spellsSeven_108 : At cX11_spellsSeven 108 (.aload_n 0) 1 109 := ⟨by decide +kernel, rfl⟩
theorem a11_spellsSeven_109 : At cX11_spellsSeven 109 (.getfield 229) 3 112 := ⟨by decide +kernel, rfl⟩
theorem a11_spellsSeven_112 : At cX11_spellsSeven 112 (.iconst 5) 1 113 := ⟨by decide +kernel, rfl⟩
theorem a11_spellsSeven_113 : At cX11_spellsSeven 113 (.iadd) 1 114 := ⟨by decide +kernel, rfl⟩
theorem a11_spellsSeven_114 : At cX11_spellsSeven 114 (.iaload) 1 115 := ⟨by decide +kernel, rfl⟩
theorem a11_spellsSeven_115 : At cX11_spellsSeven 115 (.iload 6) 2 117 := ⟨by decide +kernel, rfl⟩
theorem a11_spellsSeven_117 : At cX11_spellsSeven 117 (.if_icmp .ne 24) 3 120 := ⟨by decide +kernel, rfl⟩
theorem a11_spellsSeven_120 : At cX11_spellsSeven 120 (.aload_n 0) 1 121 := ⟨by decide +kernel, rfl⟩
theorem a11_spellsSeven_121 : At cX11_spellsSeven 121 (.getfield 42) 3 124 := ⟨by decide +kernel, rfl⟩
theorem a11_spellsSeven_124 : At cX11_spellsSeven 124 (.aload_n 0) 1 125 := ⟨by decide +kernel, rfl⟩
theorem a11_spellsSeven_125 : At cX11_spellsSeven 125 (.getfield 229) 3 128 := ⟨by decide +kernel, rfl⟩
theorem a11_spellsSeven_128 : At cX11_spellsSeven 128 (.bipush 6) 2 130 := ⟨by decide +kernel, rfl⟩
theorem a11_spellsSeven_130 : At cX11_spellsSeven 130 (.iadd) 1 131 := ⟨by decide +kernel, rfl⟩
theorem a11_spellsSeven_131 : At cX11_spellsSeven 131 (.iaload) 1 132 := ⟨by decide +kernel, rfl⟩
theorem a11_spellsSeven_132 : At cX11_spellsSeven 132 (.iload 7) 2 134 := ⟨by decide +kernel, rfl⟩
theorem a11_spellsSeven_134 : At cX11_spellsSeven 134 (.if_icmp .ne 7) 3 137 := ⟨by decide +kernel, rfl⟩
theorem a11_spellsSeven_137 : At cX11_spellsSeven 137 (.iconst 1) 1 138 := ⟨by decide +kernel, rfl⟩
theorem a11_spellsSeven_138 : At cX11_spellsSeven 138 (.goto 4) 3 141 := ⟨by decide +kernel, rfl⟩
theorem a11_spellsSeven_141 : At cX11_spellsSeven 141 (.iconst 0) 1 142 := ⟨by decide +kernel, rfl⟩
theorem a11_spellsSeven_142 : At cX11_spellsSeven 142 (.ireturn) 1 143 := ⟨by decide +kernel, rfl⟩
def f11_spellsSeven (k0 : Nat) (x1 : Int32) (x2 : Int32) (x3 : Int32) (x4 : Int32) (x5 : Int32) (x6 : Int32) (x7 : Int32) (σ : Mem) : Option (Int32) :=
  lt (if (σ.1 11 k0 15) = 1 then
  (if (σ.1 11 k0 14) = 7 then
  (1)
  else
  (0))
  else
  (0) : Int32) fun w1 =>
  if w1 = 0 then
  (some 0)
  else
  (ck (inb (σ.1 11 k0 13) 150) <|
  if (σ.1 22 9 ((σ.1 11 k0 13) : Int32).toNatClampNeg) = x1 then
  (ck (inb ((σ.1 11 k0 13) + 1) 150) <|
  if (σ.1 22 9 (((σ.1 11 k0 13) + 1) : Int32).toNatClampNeg) = x2 then
  (ck (inb ((σ.1 11 k0 13) + 2) 150) <|
  if (σ.1 22 9 (((σ.1 11 k0 13) + 2) : Int32).toNatClampNeg) = x3 then
  (ck (inb ((σ.1 11 k0 13) + 3) 150) <|
  if (σ.1 22 9 (((σ.1 11 k0 13) + 3) : Int32).toNatClampNeg) = x4 then
  (ck (inb ((σ.1 11 k0 13) + 4) 150) <|
  if (σ.1 22 9 (((σ.1 11 k0 13) + 4) : Int32).toNatClampNeg) = x5 then
  (ck (inb ((σ.1 11 k0 13) + 5) 150) <|
  if (σ.1 22 9 (((σ.1 11 k0 13) + 5) : Int32).toNatClampNeg) = x6 then
  (ck (inb ((σ.1 11 k0 13) + 6) 150) <|
  if (σ.1 22 9 (((σ.1 11 k0 13) + 6) : Int32).toNatClampNeg) = x7 then
  (some 1)
  else
  (some 0))
  else
  (some 0))
  else
  (some 0))
  else
  (some 0))
  else
  (some 0))
  else
  (some 0))
  else
  (some 0))
theorem E11_spellsSeven {k0 : Nat} {x1 : Int32} {x2 : Int32} {x3 : Int32} {x4 : Int32} {x5 : Int32} {x6 : Int32} {x7 : Int32} {σ : Mem} {w : Int32} (h : f11_spellsSeven k0 x1 x2 x3 x4 x5 x6 x7 σ = some w) : Ev m11_spellsSeven [.inr (.inr (11, k0)), .inl x1, .inl x2, .inl x3, .inl x4, .inl x5, .inl x6, .inl x7] σ (some (.inl w) : Option AV) σ := by
  unfold f11_spellsSeven at h
  show Go m11_spellsSeven 0 [some (.inr (.inr (11, k0))), some (.inl x1), some (.inl x2), some (.inl x3), some (.inl x4), some (.inl x5), some (.inl x6), some (.inl x7), none] [] σ (some (.inl w) : Option AV) σ
  refine g_aload_n a11_spellsSeven_0 rfl ?_
  refine g_getf (v := .inl (σ.1 11 k0 15)) a11_spellsSeven_1 fs11_235 rfl ?_
  refine g_iconst (v := 1) a11_spellsSeven_4 rfl ?_
  obtain ⟨w1, hw1, h⟩ := lt_inv h
  have b5 : w1 = 0 ∨ w1 = 1 := by rw [← hw1]; repeat (first | exact Or.inl rfl | exact Or.inr rfl | split)
  have J2 : Go m11_spellsSeven 22 [some (.inr (.inr (11, k0))), some (.inl x1), some (.inl x2), some (.inl x3), some (.inl x4), some (.inl x5), some (.inl x6), some (.inl x7), none] [.inl w1] σ (some (.inl w) : Option AV) σ := by
    refine g_istore (L' := [some (.inr (.inr (11, k0))), some (.inl x1), some (.inl x2), some (.inl x3), some (.inl x4), some (.inl x5), some (.inl x6), some (.inl x7), some (.inl w1)]) a11_spellsSeven_22 (Nat.le_of_ble_eq_true rfl) rfl rfl ?_
    refine g_iload a11_spellsSeven_24 rfl ?_
    refine g_if_eq (tgt := 141) a11_spellsSeven_26 rfl (fun c20 => ?_) (fun c20 => ?_)
    · have h := (if_pos c20).symm.trans h
      refine g_iconst (v := 0) a11_spellsSeven_141 rfl ?_
      have h := Option.some.inj h
      subst h
      exact g_retE a11_spellsSeven_142 (Or.inl rfl) rfl rfl
    · have h := (if_neg c20).symm.trans h
      refine g_aload_n a11_spellsSeven_29 rfl ?_
      refine g_getf (v := .inr (.inr (22, 9))) a11_spellsSeven_30 fs11_42 rfl ?_
      refine g_aload_n a11_spellsSeven_33 rfl ?_
      refine g_getf (v := .inl (σ.1 11 k0 13)) a11_spellsSeven_34 fs11_229 rfl ?_
      obtain ⟨q6, h⟩ := ck_inv h
      refine g_iald (x := (σ.1 22 9 ((σ.1 11 k0 13) : Int32).toNatClampNeg)) a11_spellsSeven_37 (rI22 (by decide)) (inb_ok q6) rfl ?_
      refine g_iload_n a11_spellsSeven_38 rfl ?_
      refine g_icmp_ne (tgt := 141) a11_spellsSeven_39 rfl (fun c19 => ?_) (fun c19 => ?_)
      · have h := (if_neg c19).symm.trans h
        refine g_iconst (v := 0) a11_spellsSeven_141 rfl ?_
        have h := Option.some.inj h
        subst h
        exact g_retE a11_spellsSeven_142 (Or.inl rfl) rfl rfl
      · have h := (if_pos c19).symm.trans h
        refine g_aload_n a11_spellsSeven_42 rfl ?_
        refine g_getf (v := .inr (.inr (22, 9))) a11_spellsSeven_43 fs11_42 rfl ?_
        refine g_aload_n a11_spellsSeven_46 rfl ?_
        refine g_getf (v := .inl (σ.1 11 k0 13)) a11_spellsSeven_47 fs11_229 rfl ?_
        refine g_iconst (v := 1) a11_spellsSeven_50 rfl ?_
        refine g_iadd a11_spellsSeven_51 ?_
        obtain ⟨q7, h⟩ := ck_inv h
        refine g_iald (x := (σ.1 22 9 (((σ.1 11 k0 13) + 1) : Int32).toNatClampNeg)) a11_spellsSeven_52 (rI22 (by decide)) (inb_ok q7) rfl ?_
        refine g_iload_n a11_spellsSeven_53 rfl ?_
        refine g_icmp_ne (tgt := 141) a11_spellsSeven_54 rfl (fun c18 => ?_) (fun c18 => ?_)
        · have h := (if_neg c18).symm.trans h
          refine g_iconst (v := 0) a11_spellsSeven_141 rfl ?_
          have h := Option.some.inj h
          subst h
          exact g_retE a11_spellsSeven_142 (Or.inl rfl) rfl rfl
        · have h := (if_pos c18).symm.trans h
          refine g_aload_n a11_spellsSeven_57 rfl ?_
          refine g_getf (v := .inr (.inr (22, 9))) a11_spellsSeven_58 fs11_42 rfl ?_
          refine g_aload_n a11_spellsSeven_61 rfl ?_
          refine g_getf (v := .inl (σ.1 11 k0 13)) a11_spellsSeven_62 fs11_229 rfl ?_
          refine g_iconst (v := 2) a11_spellsSeven_65 rfl ?_
          refine g_iadd a11_spellsSeven_66 ?_
          obtain ⟨q8, h⟩ := ck_inv h
          refine g_iald (x := (σ.1 22 9 (((σ.1 11 k0 13) + 2) : Int32).toNatClampNeg)) a11_spellsSeven_67 (rI22 (by decide)) (inb_ok q8) rfl ?_
          refine g_iload_n a11_spellsSeven_68 rfl ?_
          refine g_icmp_ne (tgt := 141) a11_spellsSeven_69 rfl (fun c17 => ?_) (fun c17 => ?_)
          · have h := (if_neg c17).symm.trans h
            refine g_iconst (v := 0) a11_spellsSeven_141 rfl ?_
            have h := Option.some.inj h
            subst h
            exact g_retE a11_spellsSeven_142 (Or.inl rfl) rfl rfl
          · have h := (if_pos c17).symm.trans h
            refine g_aload_n a11_spellsSeven_72 rfl ?_
            refine g_getf (v := .inr (.inr (22, 9))) a11_spellsSeven_73 fs11_42 rfl ?_
            refine g_aload_n a11_spellsSeven_76 rfl ?_
            refine g_getf (v := .inl (σ.1 11 k0 13)) a11_spellsSeven_77 fs11_229 rfl ?_
            refine g_iconst (v := 3) a11_spellsSeven_80 rfl ?_
            refine g_iadd a11_spellsSeven_81 ?_
            obtain ⟨q9, h⟩ := ck_inv h
            refine g_iald (x := (σ.1 22 9 (((σ.1 11 k0 13) + 3) : Int32).toNatClampNeg)) a11_spellsSeven_82 (rI22 (by decide)) (inb_ok q9) rfl ?_
            refine g_iload a11_spellsSeven_83 rfl ?_
            refine g_icmp_ne (tgt := 141) a11_spellsSeven_85 rfl (fun c16 => ?_) (fun c16 => ?_)
            · have h := (if_neg c16).symm.trans h
              refine g_iconst (v := 0) a11_spellsSeven_141 rfl ?_
              have h := Option.some.inj h
              subst h
              exact g_retE a11_spellsSeven_142 (Or.inl rfl) rfl rfl
            · have h := (if_pos c16).symm.trans h
              refine g_aload_n a11_spellsSeven_88 rfl ?_
              refine g_getf (v := .inr (.inr (22, 9))) a11_spellsSeven_89 fs11_42 rfl ?_
              refine g_aload_n a11_spellsSeven_92 rfl ?_
              refine g_getf (v := .inl (σ.1 11 k0 13)) a11_spellsSeven_93 fs11_229 rfl ?_
              refine g_iconst (v := 4) a11_spellsSeven_96 rfl ?_
              refine g_iadd a11_spellsSeven_97 ?_
              obtain ⟨q10, h⟩ := ck_inv h
              refine g_iald (x := (σ.1 22 9 (((σ.1 11 k0 13) + 4) : Int32).toNatClampNeg)) a11_spellsSeven_98 (rI22 (by decide)) (inb_ok q10) rfl ?_
              refine g_iload a11_spellsSeven_99 rfl ?_
              refine g_icmp_ne (tgt := 141) a11_spellsSeven_101 rfl (fun c15 => ?_) (fun c15 => ?_)
              · have h := (if_neg c15).symm.trans h
                refine g_iconst (v := 0) a11_spellsSeven_141 rfl ?_
                have h := Option.some.inj h
                subst h
                exact g_retE a11_spellsSeven_142 (Or.inl rfl) rfl rfl
              · have h := (if_pos c15).symm.trans h
                refine g_aload_n a11_spellsSeven_104 rfl ?_
                refine g_getf (v := .inr (.inr (22, 9))) a11_spellsSeven_105 fs11_42 rfl ?_
                refine g_aload_n a11_spellsSeven_108 rfl ?_
                refine g_getf (v := .inl (σ.1 11 k0 13)) a11_spellsSeven_109 fs11_229 rfl ?_
                refine g_iconst (v := 5) a11_spellsSeven_112 rfl ?_
                refine g_iadd a11_spellsSeven_113 ?_
                obtain ⟨q11, h⟩ := ck_inv h
                refine g_iald (x := (σ.1 22 9 (((σ.1 11 k0 13) + 5) : Int32).toNatClampNeg)) a11_spellsSeven_114 (rI22 (by decide)) (inb_ok q11) rfl ?_
                refine g_iload a11_spellsSeven_115 rfl ?_
                refine g_icmp_ne (tgt := 141) a11_spellsSeven_117 rfl (fun c14 => ?_) (fun c14 => ?_)
                · have h := (if_neg c14).symm.trans h
                  refine g_iconst (v := 0) a11_spellsSeven_141 rfl ?_
                  have h := Option.some.inj h
                  subst h
                  exact g_retE a11_spellsSeven_142 (Or.inl rfl) rfl rfl
                · have h := (if_pos c14).symm.trans h
                  refine g_aload_n a11_spellsSeven_120 rfl ?_
                  refine g_getf (v := .inr (.inr (22, 9))) a11_spellsSeven_121 fs11_42 rfl ?_
                  refine g_aload_n a11_spellsSeven_124 rfl ?_
                  refine g_getf (v := .inl (σ.1 11 k0 13)) a11_spellsSeven_125 fs11_229 rfl ?_
                  refine g_bipush (v := 6) a11_spellsSeven_128 rfl ?_
                  refine g_iadd a11_spellsSeven_130 ?_
                  obtain ⟨q12, h⟩ := ck_inv h
                  refine g_iald (x := (σ.1 22 9 (((σ.1 11 k0 13) + 6) : Int32).toNatClampNeg)) a11_spellsSeven_131 (rI22 (by decide)) (inb_ok q12) rfl ?_
                  refine g_iload a11_spellsSeven_132 rfl ?_
                  refine g_icmp_ne (tgt := 141) a11_spellsSeven_134 rfl (fun c13 => ?_) (fun c13 => ?_)
                  · have h := (if_neg c13).symm.trans h
                    refine g_iconst (v := 0) a11_spellsSeven_141 rfl ?_
                    have h := Option.some.inj h
                    subst h
                    exact g_retE a11_spellsSeven_142 (Or.inl rfl) rfl rfl
                  · have h := (if_pos c13).symm.trans h
                    refine g_iconst (v := 1) a11_spellsSeven_137 rfl ?_
                    refine g_goto (tgt := 142) a11_spellsSeven_138 rfl ?_
                    have h := Option.some.inj h
                    subst h
                    exact g_retE a11_spellsSeven_142 (Or.inr rfl) rfl rfl
  clear h
  refine g_icmp_ne (tgt := 21) a11_spellsSeven_5 rfl (fun c4 => ?_) (fun c4 => ?_)
  · have hw1 := (if_neg c4).symm.trans hw1
    refine g_iconst (v := 0) a11_spellsSeven_21 rfl ?_
    subst hw1
    exact J2
  · have hw1 := (if_pos c4).symm.trans hw1
    refine g_aload_n a11_spellsSeven_8 rfl ?_
    refine g_getf (v := .inl (σ.1 11 k0 14)) a11_spellsSeven_9 fs11_232 rfl ?_
    refine g_bipush (v := 7) a11_spellsSeven_12 rfl ?_
    refine g_icmp_ne (tgt := 21) a11_spellsSeven_14 rfl (fun c3 => ?_) (fun c3 => ?_)
    · have hw1 := (if_neg c3).symm.trans hw1
      refine g_iconst (v := 0) a11_spellsSeven_21 rfl ?_
      subst hw1
      exact J2
    · have hw1 := (if_pos c3).symm.trans hw1
      refine g_iconst (v := 1) a11_spellsSeven_17 rfl ?_
      refine g_goto (tgt := 22) a11_spellsSeven_18 rfl ?_
      subst hw1
      exact J2
theorem a11_goBehind_0 : At cX11_goBehind 0 (.aload_n 0) 1 1 := ⟨by decide +kernel, rfl⟩
theorem a11_goBehind_1 : At cX11_goBehind 1 (.aload_n 0) 1 2 := ⟨by decide +kernel, rfl⟩
theorem a11_goBehind_2 : At cX11_goBehind 2 (.getfield 229) 3 5 := ⟨by decide +kernel, rfl⟩
theorem a11_goBehind_5 : At cX11_goBehind 5 (.aload_n 0) 1 6 := ⟨by decide +kernel, rfl⟩
theorem a11_goBehind_6 : At cX11_goBehind 6 (.getfield 232) 3 9 := ⟨by decide +kernel, rfl⟩
theorem a11_goBehind_9 : At cX11_goBehind 9 (.iadd) 1 10 := ⟨by decide +kernel, rfl⟩
theorem a11_goBehind_10 : At cX11_goBehind 10 (.invokevirtual 247) 3 13 := ⟨by decide +kernel, rfl⟩
theorem a11_goBehind_13 : At cX11_goBehind 13 (.return_) 1 14 := ⟨by decide +kernel, rfl⟩
def f11_goBehind (k0 : Nat) (σ : Mem) : Option (Mem) :=
  bnd (f11_lookAt k0 ((σ.1 11 k0 13) + (σ.1 11 k0 14)) σ) fun w1 =>
  some w1
theorem E11_goBehind {k0 : Nat} {σ : Mem} {w : Mem} (h : f11_goBehind k0 σ = some w) : Ev m11_goBehind [.inr (.inr (11, k0))] σ none w := by
  unfold f11_goBehind at h
  show Go m11_goBehind 0 [some (.inr (.inr (11, k0)))] [] σ none w
  refine g_aload_n a11_goBehind_0 rfl ?_
  refine g_aload_n a11_goBehind_1 rfl ?_
  refine g_getf (v := .inl (σ.1 11 k0 13)) a11_goBehind_2 fs11_229 rfl ?_
  refine g_aload_n a11_goBehind_5 rfl ?_
  refine g_getf (v := .inl (σ.1 11 k0 14)) a11_goBehind_6 fs11_232 rfl ?_
  refine g_iadd a11_goBehind_9 ?_
  obtain ⟨w1, hw1, h⟩ := bnd_inv h
  refine g_V1n (σ1 := w1) a11_goBehind_10 cv11_247 (E11_lookAt hw1) rfl (fun o2 => ?_)
  have h := Option.some.inj h
  subst h
  exact g_retE a11_goBehind_13 trivial rfl rfl
theorem a11_spells_0 : At cX11_spells 0 (.aload_n 0) 1 1 := ⟨by decide +kernel, rfl⟩
theorem a11_spells_1 : At cX11_spells 1 (.getfield 235) 3 4 := ⟨by decide +kernel, rfl⟩
theorem a11_spells_4 : At cX11_spells 4 (.iconst 1) 1 5 := ⟨by decide +kernel, rfl⟩
theorem a11_spells_5 : At cX11_spells 5 (.if_icmp .ne 15) 3 8 := ⟨by decide +kernel, rfl⟩
theorem a11_spells_8 : At cX11_spells 8 (.aload_n 0) 1 9 := ⟨by decide +kernel, rfl⟩
theorem a11_spells_9 : At cX11_spells 9 (.getfield 232) 3 12 := ⟨by decide +kernel, rfl⟩
theorem a11_spells_12 : At cX11_spells 12 (.iload_n 1) 1 13 := ⟨by decide +kernel, rfl⟩
theorem a11_spells_13 : At cX11_spells 13 (.if_icmp .ne 7) 3 16 := ⟨by decide +kernel, rfl⟩
theorem a11_spells_16 : At cX11_spells 16 (.iconst 1) 1 17 := ⟨by decide +kernel, rfl⟩
theorem a11_spells_17 : At cX11_spells 17 (.goto 4) 3 20 := ⟨by decide +kernel, rfl⟩
theorem a11_spells_20 : At cX11_spells 20 (.iconst 0) 1 21 := ⟨by decide +kernel, rfl⟩
theorem a11_spells_21 : At cX11_spells 21 (.istore 8) 2 23 := ⟨by decide +kernel, rfl⟩
theorem a11_spells_23 : At cX11_spells 23 (.iconst 0) 1 24 := ⟨by decide +kernel, rfl⟩
theorem a11_spells_24 : At cX11_spells 24 (.istore 9) 2 26 := ⟨by decide +kernel, rfl⟩
theorem a11_spells_26 : At cX11_spells 26 (.iload 9) 2 28 := ⟨by decide +kernel, rfl⟩
theorem a11_spells_28 : At cX11_spells 28 (.iload_n 1) 1 29 := ⟨by decide +kernel, rfl⟩
theorem a11_spells_29 : At cX11_spells 29 (.if_icmp .ge 90) 3 32 := ⟨by decide +kernel, rfl⟩
theorem a11_spells_32 : At cX11_spells 32 (.iload 8) 2 34 := ⟨by decide +kernel, rfl⟩
theorem a11_spells_34 : At cX11_spells 34 (.ifCond .eq 85) 3 37 := ⟨by decide +kernel, rfl⟩
theorem a11_spells_37 : At cX11_spells 37 (.aload_n 0) 1 38 := ⟨by decide +kernel, rfl⟩
theorem a11_spells_38 : At cX11_spells 38 (.getfield 42) 3 41 := ⟨by decide +kernel, rfl⟩
theorem a11_spells_41 : At cX11_spells 41 (.aload_n 0) 1 42 := ⟨by decide +kernel, rfl⟩
theorem a11_spells_42 : At cX11_spells 42 (.getfield 229) 3 45 := ⟨by decide +kernel, rfl⟩
theorem a11_spells_45 : At cX11_spells 45 (.iload 9) 2 47 := ⟨by decide +kernel, rfl⟩
theorem a11_spells_47 : At cX11_spells 47 (.iadd) 1 48 := ⟨by decide +kernel, rfl⟩
theorem a11_spells_48 : At cX11_spells 48 (.iaload) 1 49 := ⟨by decide +kernel, rfl⟩
theorem a11_spells_49 : At cX11_spells 49 (.iload 9) 2 51 := ⟨by decide +kernel, rfl⟩
theorem a11_spells_51 : At cX11_spells 51 (.ifCond .ne 7) 3 54 := ⟨by decide +kernel, rfl⟩
theorem a11_spells_54 : At cX11_spells 54 (.iload_n 2) 1 55 := ⟨by decide +kernel, rfl⟩
theorem a11_spells_55 : At cX11_spells 55 (.goto 48) 3 58 := ⟨by decide +kernel, rfl⟩
theorem a11_spells_58 : At cX11_spells 58 (.iload 9) 2 60 := ⟨by decide +kernel, rfl⟩
theorem a11_spells_60 : At cX11_spells 60 (.iconst 1) 1 61 := ⟨by decide +kernel, rfl⟩
theorem a11_spells_61 : At cX11_spells 61 (.if_icmp .ne 7) 3 64 := ⟨by decide +kernel, rfl⟩
theorem a11_spells_64 : At cX11_spells 64 (.iload_n 3) 1 65 := ⟨by decide +kernel, rfl⟩
theorem a11_spells_65 : At cX11_spells 65 (.goto 38) 3 68 := ⟨by decide +kernel, rfl⟩
theorem a11_spells_68 : At cX11_spells 68 (.iload 9) 2 70 := ⟨by decide +kernel, rfl⟩
theorem a11_spells_70 : At cX11_spells 70 (.iconst 2) 1 71 := ⟨by decide +kernel, rfl⟩
theorem a11_spells_71 : At cX11_spells 71 (.if_icmp .ne 8) 3 74 := ⟨by decide +kernel, rfl⟩
theorem a11_spells_74 : At cX11_spells 74 (.iload 4) 2 76 := ⟨by decide +kernel, rfl⟩
theorem a11_spells_76 : At cX11_spells 76 (.goto 27) 3 79 := ⟨by decide +kernel, rfl⟩
theorem a11_spells_79 : At cX11_spells 79 (.iload 9) 2 81 := ⟨by decide +kernel, rfl⟩
theorem a11_spells_81 : At cX11_spells 81 (.iconst 3) 1 82 := ⟨by decide +kernel, rfl⟩
theorem a11_spells_82 : At cX11_spells 82 (.if_icmp .ne 8) 3 85 := ⟨by decide +kernel, rfl⟩
theorem a11_spells_85 : At cX11_spells 85 (.iload 5) 2 87 := ⟨by decide +kernel, rfl⟩
theorem a11_spells_87 : At cX11_spells 87 (.goto 16) 3 90 := ⟨by decide +kernel, rfl⟩
theorem a11_spells_90 : At cX11_spells 90 (.iload 9) 2 92 := ⟨by decide +kernel, rfl⟩
theorem a11_spells_92 : At cX11_spells 92 (.iconst 4) 1 93 := ⟨by decide +kernel, rfl⟩
theorem a11_spells_93 : At cX11_spells 93 (.if_icmp .ne 8) 3 96 := ⟨by decide +kernel, rfl⟩
theorem a11_spells_96 : At cX11_spells 96 (.iload 6) 2 98 := ⟨by decide +kernel, rfl⟩
theorem a11_spells_98 : At cX11_spells 98 (.goto 5) 3 101 := ⟨by decide +kernel, rfl⟩
theorem a11_spells_101 : At cX11_spells 101 (.iload 7) 2 103 := ⟨by decide +kernel, rfl⟩
theorem a11_spells_103 : At cX11_spells 103 (.if_icmp .ne 7) 3 106 := ⟨by decide +kernel, rfl⟩
theorem a11_spells_106 : At cX11_spells 106 (.iconst 1) 1 107 := ⟨by decide +kernel, rfl⟩
theorem a11_spells_107 : At cX11_spells 107 (.goto 4) 3 110 := ⟨by decide +kernel, rfl⟩
theorem a11_spells_110 : At cX11_spells 110 (.iconst 0) 1 111 := ⟨by decide +kernel, rfl⟩
theorem a11_spells_111 : At cX11_spells 111 (.istore 8) 2 113 := ⟨by decide +kernel, rfl⟩
theorem a11_spells_113 : At cX11_spells 113 (.iinc 9 1) 3 116 := ⟨by decide +kernel, rfl⟩
theorem a11_spells_116 : At cX11_spells 116 (.goto (-90)) 3 119 := ⟨by decide +kernel, rfl⟩
theorem a11_spells_119 : At cX11_spells 119 (.iload 8) 2 121 := ⟨by decide +kernel, rfl⟩
theorem a11_spells_121 : At cX11_spells 121 (.ireturn) 1 122 := ⟨by decide +kernel, rfl⟩
def l11_spells_26 (k0 : Nat) (x1 : Int32) (x2 : Int32) (x3 : Int32) (x4 : Int32) (x5 : Int32) (x6 : Int32) (x7 : Int32) (σ : Mem) : Nat → Int32 → Int32 → Option (Int32 × Int32)
  | 0, _, _ => none
  | n + 1, x8, x9 =>
  if x1 ≤ x9 then
  (some (x8, x9))
  else
  (if x8 = 0 then
  (some (x8, x9))
  else
  (ck (inb ((σ.1 11 k0 13) + x9) 150) <|
  lt (if x9 = 0 then
  (x2)
  else
  (if x9 = 1 then
  (x3)
  else
  (if x9 = 2 then
  (x4)
  else
  (if x9 = 3 then
  (x5)
  else
  (if x9 = 4 then
  (x6)
  else
  (x7))))) : Int32) fun w7 =>
  lt (if (σ.1 22 9 (((σ.1 11 k0 13) + x9) : Int32).toNatClampNeg) = w7 then
  (1)
  else
  (0) : Int32) fun w14 =>
  l11_spells_26 k0 x1 x2 x3 x4 x5 x6 x7 σ n w14 (x9 + 1)))
theorem lE11_spells_26 {V : Option AV} {S : Mem} (k0 : Nat) (x1 : Int32) (x2 : Int32) (x3 : Int32) (x4 : Int32) (x5 : Int32) (x6 : Int32) (x7 : Int32) (σ : Mem) : ∀ (n : Nat) (x8 : Int32) (x9 : Int32) {w : Int32 × Int32}, l11_spells_26 k0 x1 x2 x3 x4 x5 x6 x7 σ n x8 x9 = some w → (Go m11_spells 119 [some (.inr (.inr (11, k0))), some (.inl x1), some (.inl x2), some (.inl x3), some (.inl x4), some (.inl x5), some (.inl x6), some (.inl x7), some (.inl w.1), some (.inl w.2)] [] σ V S) → Go m11_spells 26 [some (.inr (.inr (11, k0))), some (.inl x1), some (.inl x2), some (.inl x3), some (.inl x4), some (.inl x5), some (.inl x6), some (.inl x7), some (.inl x8), some (.inl x9)] [] σ V S
  | 0, x8, x9, w, h, K1 => by cases h
  | n + 1, x8, x9, w, h, K1 => by
    rw [l11_spells_26] at h
    refine g_iload a11_spells_26 rfl ?_
    refine g_iload_n a11_spells_28 rfl ?_
    refine g_icmp_ge (tgt := 119) a11_spells_29 rfl (fun c19 => ?_) (fun c19 => ?_)
    · have h := (if_pos c19).symm.trans h
      have h := Option.some.inj h
      subst h
      exact g_weak K1 ⟨rfl, rfl, rfl, rfl, rfl, rfl, rfl, rfl, rfl, rfl, trivial⟩
    · have h := (if_neg c19).symm.trans h
      refine g_iload a11_spells_32 rfl ?_
      refine g_if_eq (tgt := 119) a11_spells_34 rfl (fun c18 => ?_) (fun c18 => ?_)
      · have h := (if_pos c18).symm.trans h
        have h := Option.some.inj h
        subst h
        exact g_weak K1 ⟨rfl, rfl, rfl, rfl, rfl, rfl, rfl, rfl, rfl, rfl, trivial⟩
      · have h := (if_neg c18).symm.trans h
        refine g_aload_n a11_spells_37 rfl ?_
        refine g_getf (v := .inr (.inr (22, 9))) a11_spells_38 fs11_42 rfl ?_
        refine g_aload_n a11_spells_41 rfl ?_
        refine g_getf (v := .inl (σ.1 11 k0 13)) a11_spells_42 fs11_229 rfl ?_
        refine g_iload a11_spells_45 rfl ?_
        refine g_iadd a11_spells_47 ?_
        obtain ⟨q6, h⟩ := ck_inv h
        refine g_iald (x := (σ.1 22 9 (((σ.1 11 k0 13) + x9) : Int32).toNatClampNeg)) a11_spells_48 (rI22 (by decide)) (inb_ok q6) rfl ?_
        refine g_iload a11_spells_49 rfl ?_
        obtain ⟨w7, hw7, h⟩ := lt_inv h
        have J8 : Go m11_spells 103 [some (.inr (.inr (11, k0))), some (.inl x1), some (.inl x2), some (.inl x3), some (.inl x4), some (.inl x5), some (.inl x6), some (.inl x7), none, some (.inl x9)] [.inl w7, .inl (σ.1 22 9 (((σ.1 11 k0 13) + x9) : Int32).toNatClampNeg)] σ V S := by
          obtain ⟨w14, hw14, h⟩ := lt_inv h
          have b17 : w14 = 0 ∨ w14 = 1 := by rw [← hw14]; repeat (first | exact Or.inl rfl | exact Or.inr rfl | split)
          have J15 : Go m11_spells 111 [some (.inr (.inr (11, k0))), some (.inl x1), some (.inl x2), some (.inl x3), some (.inl x4), some (.inl x5), some (.inl x6), some (.inl x7), none, some (.inl x9)] [.inl w14] σ V S := by
            refine g_istore (L' := [some (.inr (.inr (11, k0))), some (.inl x1), some (.inl x2), some (.inl x3), some (.inl x4), some (.inl x5), some (.inl x6), some (.inl x7), some (.inl w14), some (.inl x9)]) a11_spells_111 (Nat.le_of_ble_eq_true rfl) rfl rfl ?_
            refine g_iinc (v := (x9 + 1)) (L' := [some (.inr (.inr (11, k0))), some (.inl x1), some (.inl x2), some (.inl x3), some (.inl x4), some (.inl x5), some (.inl x6), some (.inl x7), some (.inl w14), some (.inl (x9 + 1))]) a11_spells_113 rfl rfl (Nat.le_of_ble_eq_true rfl) rfl rfl ?_
            refine g_goto (tgt := 26) a11_spells_116 rfl ?_
            exact g_weak (lE11_spells_26 (V := V) (S := S)  k0 x1 x2 x3 x4 x5 x6 x7 σ n _ _ h K1) ⟨rfl, rfl, rfl, rfl, rfl, rfl, rfl, rfl, rfl, rfl, trivial⟩
          clear h
          refine g_icmp_ne (tgt := 110) a11_spells_103 rfl (fun c16 => ?_) (fun c16 => ?_)
          · have hw14 := (if_neg c16).symm.trans hw14
            refine g_iconst (v := 0) a11_spells_110 rfl ?_
            subst hw14
            exact J15
          · have hw14 := (if_pos c16).symm.trans hw14
            refine g_iconst (v := 1) a11_spells_106 rfl ?_
            refine g_goto (tgt := 111) a11_spells_107 rfl ?_
            subst hw14
            exact J15
        clear h
        refine g_if_ne (tgt := 58) a11_spells_51 rfl (fun c13 => ?_) (fun c13 => ?_)
        · have hw7 := (if_neg c13).symm.trans hw7
          refine g_iload a11_spells_58 rfl ?_
          refine g_iconst (v := 1) a11_spells_60 rfl ?_
          refine g_icmp_ne (tgt := 68) a11_spells_61 rfl (fun c12 => ?_) (fun c12 => ?_)
          · have hw7 := (if_neg c12).symm.trans hw7
            refine g_iload a11_spells_68 rfl ?_
            refine g_iconst (v := 2) a11_spells_70 rfl ?_
            refine g_icmp_ne (tgt := 79) a11_spells_71 rfl (fun c11 => ?_) (fun c11 => ?_)
            · have hw7 := (if_neg c11).symm.trans hw7
              refine g_iload a11_spells_79 rfl ?_
              refine g_iconst (v := 3) a11_spells_81 rfl ?_
              refine g_icmp_ne (tgt := 90) a11_spells_82 rfl (fun c10 => ?_) (fun c10 => ?_)
              · have hw7 := (if_neg c10).symm.trans hw7
                refine g_iload a11_spells_90 rfl ?_
                refine g_iconst (v := 4) a11_spells_92 rfl ?_
                refine g_icmp_ne (tgt := 101) a11_spells_93 rfl (fun c9 => ?_) (fun c9 => ?_)
                · have hw7 := (if_neg c9).symm.trans hw7
                  refine g_iload a11_spells_101 rfl ?_
                  subst hw7
                  exact g_weak J8 ⟨rfl, rfl, rfl, rfl, rfl, rfl, rfl, rfl, rfl, trivial⟩
                · have hw7 := (if_pos c9).symm.trans hw7
                  refine g_iload a11_spells_96 rfl ?_
                  refine g_goto (tgt := 103) a11_spells_98 rfl ?_
                  subst hw7
                  exact g_weak J8 ⟨rfl, rfl, rfl, rfl, rfl, rfl, rfl, rfl, rfl, trivial⟩
              · have hw7 := (if_pos c10).symm.trans hw7
                refine g_iload a11_spells_85 rfl ?_
                refine g_goto (tgt := 103) a11_spells_87 rfl ?_
                subst hw7
                exact g_weak J8 ⟨rfl, rfl, rfl, rfl, rfl, rfl, rfl, rfl, rfl, trivial⟩
            · have hw7 := (if_pos c11).symm.trans hw7
              refine g_iload a11_spells_74 rfl ?_
              refine g_goto (tgt := 103) a11_spells_76 rfl ?_
              subst hw7
              exact g_weak J8 ⟨rfl, rfl, rfl, rfl, rfl, rfl, rfl, rfl, rfl, trivial⟩
          · have hw7 := (if_pos c12).symm.trans hw7
            refine g_iload_n a11_spells_64 rfl ?_
            refine g_goto (tgt := 103) a11_spells_65 rfl ?_
            subst hw7
            exact g_weak J8 ⟨rfl, rfl, rfl, rfl, rfl, rfl, rfl, rfl, rfl, trivial⟩
        · have hw7 := (if_pos c13).symm.trans hw7
          refine g_iload_n a11_spells_54 rfl ?_
          refine g_goto (tgt := 103) a11_spells_55 rfl ?_
          subst hw7
          exact g_weak J8 ⟨rfl, rfl, rfl, rfl, rfl, rfl, rfl, rfl, rfl, trivial⟩
def f11_spells (k0 : Nat) (x1 : Int32) (x2 : Int32) (x3 : Int32) (x4 : Int32) (x5 : Int32) (x6 : Int32) (x7 : Int32) (σ : Mem) : Option (Int32) :=
  lt (if (σ.1 11 k0 15) = 1 then
  (if (σ.1 11 k0 14) = x1 then
  (1)
  else
  (0))
  else
  (0) : Int32) fun w1 =>
  bnd (l11_spells_26 k0 x1 x2 x3 x4 x5 x6 x7 σ 2000 w1 0) fun w20 =>
  ck (decide (w20.1 = 0 ∨ w20.1 = 1)) <|
  some w20.1
theorem E11_spells {k0 : Nat} {x1 : Int32} {x2 : Int32} {x3 : Int32} {x4 : Int32} {x5 : Int32} {x6 : Int32} {x7 : Int32} {σ : Mem} {w : Int32} (h : f11_spells k0 x1 x2 x3 x4 x5 x6 x7 σ = some w) : Ev m11_spells [.inr (.inr (11, k0)), .inl x1, .inl x2, .inl x3, .inl x4, .inl x5, .inl x6, .inl x7] σ (some (.inl w) : Option AV) σ := by
  unfold f11_spells at h
  show Go m11_spells 0 [some (.inr (.inr (11, k0))), some (.inl x1), some (.inl x2), some (.inl x3), some (.inl x4), some (.inl x5), some (.inl x6), some (.inl x7), none, none] [] σ (some (.inl w) : Option AV) σ
  refine g_aload_n a11_spells_0 rfl ?_
  refine g_getf (v := .inl (σ.1 11 k0 15)) a11_spells_1 fs11_235 rfl ?_
  refine g_iconst (v := 1) a11_spells_4 rfl ?_
  obtain ⟨w1, hw1, h⟩ := lt_inv h
  have b5 : w1 = 0 ∨ w1 = 1 := by rw [← hw1]; repeat (first | exact Or.inl rfl | exact Or.inr rfl | split)
  have J2 : Go m11_spells 21 [some (.inr (.inr (11, k0))), some (.inl x1), some (.inl x2), some (.inl x3), some (.inl x4), some (.inl x5), some (.inl x6), some (.inl x7), none, none] [.inl w1] σ (some (.inl w) : Option AV) σ := by
    refine g_istore (L' := [some (.inr (.inr (11, k0))), some (.inl x1), some (.inl x2), some (.inl x3), some (.inl x4), some (.inl x5), some (.inl x6), some (.inl x7), some (.inl w1), none]) a11_spells_21 (Nat.le_of_ble_eq_true rfl) rfl rfl ?_
    refine g_iconst (v := 0) a11_spells_23 rfl ?_
    refine g_istore (L' := [some (.inr (.inr (11, k0))), some (.inl x1), some (.inl x2), some (.inl x3), some (.inl x4), some (.inl x5), some (.inl x6), some (.inl x7), some (.inl w1), some (.inl 0)]) a11_spells_24 (Nat.le_of_ble_eq_true rfl) rfl rfl ?_
    obtain ⟨w20, hw20, h⟩ := bnd_inv h
    refine g_weak (lE11_spells_26 k0 x1 x2 x3 x4 x5 x6 x7 σ 2000 _ _ hw20 ?_) ⟨rfl, rfl, rfl, rfl, rfl, rfl, rfl, rfl, rfl, rfl, trivial⟩
    refine g_iload a11_spells_119 rfl ?_
    obtain ⟨q21, h⟩ := ck_inv h
    have q21 := of_decide_eq_true q21
    have h := Option.some.inj h
    subst h
    exact g_retE a11_spells_121 q21 rfl rfl
  clear h
  refine g_icmp_ne (tgt := 20) a11_spells_5 rfl (fun c4 => ?_) (fun c4 => ?_)
  · have hw1 := (if_neg c4).symm.trans hw1
    refine g_iconst (v := 0) a11_spells_20 rfl ?_
    subst hw1
    exact J2
  · have hw1 := (if_pos c4).symm.trans hw1
    refine g_aload_n a11_spells_8 rfl ?_
    refine g_getf (v := .inl (σ.1 11 k0 14)) a11_spells_9 fs11_232 rfl ?_
    refine g_iload_n a11_spells_12 rfl ?_
    refine g_icmp_ne (tgt := 20) a11_spells_13 rfl (fun c3 => ?_) (fun c3 => ?_)
    · have hw1 := (if_neg c3).symm.trans hw1
      refine g_iconst (v := 0) a11_spells_20 rfl ?_
      subst hw1
      exact J2
    · have hw1 := (if_pos c3).symm.trans hw1
      refine g_iconst (v := 1) a11_spells_16 rfl ?_
      refine g_goto (tgt := 21) a11_spells_17 rfl ?_
      subst hw1
      exact J2
theorem a11_gives_0 : At cX11_gives 0 (.aload_n 0) 1 1 := ⟨by decide +kernel, rfl⟩
theorem a11_gives_1 : At cX11_gives 1 (.getfield 235) 3 4 := ⟨by decide +kernel, rfl⟩
theorem a11_gives_4 : At cX11_gives 4 (.iconst 2) 1 5 := ⟨by decide +kernel, rfl⟩
theorem a11_gives_5 : At cX11_gives 5 (.if_icmp .ne 18) 3 8 := ⟨by decide +kernel, rfl⟩
theorem a11_gives_8 : At cX11_gives 8 (.aload_n 0) 1 9 := ⟨by decide +kernel, rfl⟩
theorem a11_gives_9 : At cX11_gives 9 (.getfield 238) 3 12 := ⟨by decide +kernel, rfl⟩
theorem a11_gives_12 : At cX11_gives 12 (.i2l) 1 13 := ⟨by decide +kernel, rfl⟩
theorem a11_gives_13 : At cX11_gives 13 (.iload_n 2) 1 14 := ⟨by decide +kernel, rfl⟩
theorem a11_gives_14 : At cX11_gives 14 (.i2l) 1 15 := ⟨by decide +kernel, rfl⟩
theorem a11_gives_15 : At cX11_gives 15 (.iload_n 3) 1 16 := ⟨by decide +kernel, rfl⟩
theorem a11_gives_16 : At cX11_gives 16 (.i2l) 1 17 := ⟨by decide +kernel, rfl⟩
theorem a11_gives_17 : At cX11_gives 17 (.invokestatic 59) 3 20 := ⟨by decide +kernel, rfl⟩
theorem a11_gives_20 : At cX11_gives 20 (.ifCond .ne 5) 3 23 := ⟨by decide +kernel, rfl⟩
theorem a11_gives_23 : At cX11_gives 23 (.iconst 0) 1 24 := ⟨by decide +kernel, rfl⟩
theorem a11_gives_24 : At cX11_gives 24 (.ireturn) 1 25 := ⟨by decide +kernel, rfl⟩
theorem a11_gives_25 : At cX11_gives 25 (.aload_n 0) 1 26 := ⟨by decide +kernel, rfl⟩
theorem a11_gives_26 : At cX11_gives 26 (.getfield 48) 3 29 := ⟨by decide +kernel, rfl⟩
theorem a11_gives_29 : At cX11_gives 29 (.iload_n 1) 1 30 := ⟨by decide +kernel, rfl⟩
theorem a11_gives_30 : At cX11_gives 30 (.aload_n 0) 1 31 := ⟨by decide +kernel, rfl⟩
theorem a11_gives_31 : At cX11_gives 31 (.getfield 238) 3 34 := ⟨by decide +kernel, rfl⟩
theorem a11_gives_34 : At cX11_gives 34 (.iastore) 1 35 := ⟨by decide +kernel, rfl⟩
theorem a11_gives_35 : At cX11_gives 35 (.aload_n 0) 1 36 := ⟨by decide +kernel, rfl⟩
theorem a11_gives_36 : At cX11_gives 36 (.invokevirtual 251) 3 39 := ⟨by decide +kernel, rfl⟩
theorem a11_gives_39 : At cX11_gives 39 (.iconst 1) 1 40 := ⟨by decide +kernel, rfl⟩
theorem a11_gives_40 : At cX11_gives 40 (.ireturn) 1 41 := ⟨by decide +kernel, rfl⟩
def f11_gives (k0 : Nat) (x1 : Int32) (x2 : Int32) (x3 : Int32) (σ : Mem) : Option (Int32 × Mem) :=
  if (σ.1 11 k0 15) = 2 then
  (if (f11_in (((σ.1 11 k0 16) : Int32).toInt64) (x2.toInt64) (x3.toInt64)) = 0 then
  (some (0, σ))
  else
  (ck (inb x1 3) <|
  lt (sI σ 22 11 (x1 : Int32).toNatClampNeg (σ.1 11 k0 16)) fun σ3 =>
  bnd (f11_goBehind k0 σ3) fun w4 =>
  some (1, w4)))
  else
  (some (0, σ))
theorem E11_gives {k0 : Nat} {x1 : Int32} {x2 : Int32} {x3 : Int32} {σ : Mem} {w : Int32 × Mem} (h : f11_gives k0 x1 x2 x3 σ = some w) : Ev m11_gives [.inr (.inr (11, k0)), .inl x1, .inl x2, .inl x3] σ (some (.inl w.1) : Option AV) w.2 := by
  unfold f11_gives at h
  show Go m11_gives 0 [some (.inr (.inr (11, k0))), some (.inl x1), some (.inl x2), some (.inl x3)] [] σ (some (.inl w.1) : Option AV) w.2
  refine g_aload_n a11_gives_0 rfl ?_
  refine g_getf (v := .inl (σ.1 11 k0 15)) a11_gives_1 fs11_235 rfl ?_
  refine g_iconst (v := 2) a11_gives_4 rfl ?_
  refine g_icmp_ne (tgt := 23) a11_gives_5 rfl (fun c7 => ?_) (fun c7 => ?_)
  · have h := (if_neg c7).symm.trans h
    refine g_iconst (v := 0) a11_gives_23 rfl ?_
    have h := Option.some.inj h
    subst h
    exact g_retE a11_gives_24 (Or.inl rfl) rfl rfl
  · have h := (if_pos c7).symm.trans h
    refine g_aload_n a11_gives_8 rfl ?_
    refine g_getf (v := .inl (σ.1 11 k0 16)) a11_gives_9 fs11_238 rfl ?_
    refine g_i2l a11_gives_12 ?_
    refine g_iload_n a11_gives_13 rfl ?_
    refine g_i2l a11_gives_14 ?_
    refine g_iload_n a11_gives_15 rfl ?_
    refine g_i2l a11_gives_16 ?_
    refine g_S3s (v1 := .inl (f11_in (((σ.1 11 k0 16) : Int32).toInt64) (x2.toInt64) (x3.toInt64))) (σ1 := σ) a11_gives_17 cs11_59 (E11_in _ _ _ _) rfl (fun o1 => ?_)
    refine g_if_ne (tgt := 25) a11_gives_20 rfl (fun c6 => ?_) (fun c6 => ?_)
    · have h := (if_neg c6).symm.trans h
      refine g_aload_n a11_gives_25 rfl ?_
      refine g_getf (v := .inr (.inr (22, 11))) a11_gives_26 fs11_48 rfl ?_
      refine g_iload_n a11_gives_29 rfl ?_
      refine g_aload_n a11_gives_30 rfl ?_
      refine g_getf (v := .inl (σ.1 11 k0 16)) a11_gives_31 fs11_238 rfl ?_
      obtain ⟨q2, h⟩ := ck_inv h
      obtain ⟨σ3, eσ3, h⟩ := lt_inv h
      refine g_iast (j := (x1 : Int32).toNatClampNeg) a11_gives_34 (rI22 (by decide)) (inb_ok q2) rfl ?_
      rw [eσ3]
      refine g_aload_n a11_gives_35 rfl ?_
      obtain ⟨w4, hw4, h⟩ := bnd_inv h
      refine g_V0n (σ1 := w4) a11_gives_36 cv11_251 (E11_goBehind hw4) rfl (fun o5 => ?_)
      refine g_iconst (v := 1) a11_gives_39 rfl ?_
      have h := Option.some.inj h
      subst h
      exact g_retE a11_gives_40 (Or.inr rfl) rfl rfl
    · have h := (if_pos c6).symm.trans h
      refine g_iconst (v := 0) a11_gives_23 rfl ?_
      have h := Option.some.inj h
      subst h
      exact g_retE a11_gives_24 (Or.inl rfl) rfl rfl
theorem a11_givesStorm_0 : At cX11_givesStorm 0 (.aload_n 0) 1 1 := ⟨by decide +kernel, rfl⟩
theorem a11_givesStorm_1 : At cX11_givesStorm 1 (.invokevirtual 251) 3 4 := ⟨by decide +kernel, rfl⟩
theorem a11_givesStorm_4 : At cX11_givesStorm 4 (.aload_n 0) 1 5 := ⟨by decide +kernel, rfl⟩
theorem a11_givesStorm_5 : At cX11_givesStorm 5 (.iconst 0) 1 6 := ⟨by decide +kernel, rfl⟩
theorem a11_givesStorm_6 : At cX11_givesStorm 6 (.iconst 0) 1 7 := ⟨by decide +kernel, rfl⟩
theorem a11_givesStorm_7 : At cX11_givesStorm 7 (.iconst 5) 1 8 := ⟨by decide +kernel, rfl⟩
theorem a11_givesStorm_8 : At cX11_givesStorm 8 (.invokevirtual 254) 3 11 := ⟨by decide +kernel, rfl⟩
theorem a11_givesStorm_11 : At cX11_givesStorm 11 (.ifCond .eq 25) 3 14 := ⟨by decide +kernel, rfl⟩
theorem a11_givesStorm_14 : At cX11_givesStorm 14 (.aload_n 0) 1 15 := ⟨by decide +kernel, rfl⟩
theorem a11_givesStorm_15 : At cX11_givesStorm 15 (.iconst 1) 1 16 := ⟨by decide +kernel, rfl⟩
theorem a11_givesStorm_16 : At cX11_givesStorm 16 (.iconst 0) 1 17 := ⟨by decide +kernel, rfl⟩
theorem a11_givesStorm_17 : At cX11_givesStorm 17 (.bipush 11) 2 19 := ⟨by decide +kernel, rfl⟩
theorem a11_givesStorm_19 : At cX11_givesStorm 19 (.invokevirtual 254) 3 22 := ⟨by decide +kernel, rfl⟩
theorem a11_givesStorm_22 : At cX11_givesStorm 22 (.ifCond .eq 14) 3 25 := ⟨by decide +kernel, rfl⟩
theorem a11_givesStorm_25 : At cX11_givesStorm 25 (.aload_n 0) 1 26 := ⟨by decide +kernel, rfl⟩
theorem a11_givesStorm_26 : At cX11_givesStorm 26 (.iconst 2) 1 27 := ⟨by decide +kernel, rfl⟩
theorem a11_givesStorm_27 : At cX11_givesStorm 27 (.iconst 0) 1 28 := ⟨by decide +kernel, rfl⟩
theorem a11_givesStorm_28 : At cX11_givesStorm 28 (.bipush 9) 2 30 := ⟨by decide +kernel, rfl⟩
theorem a11_givesStorm_30 : At cX11_givesStorm 30 (.invokevirtual 254) 3 33 := ⟨by decide +kernel, rfl⟩
theorem a11_givesStorm_33 : At cX11_givesStorm 33 (.ifCond .ne 5) 3 36 := ⟨by decide +kernel, rfl⟩
theorem a11_givesStorm_36 : At cX11_givesStorm 36 (.iconst 0) 1 37 := ⟨by decide +kernel, rfl⟩
theorem a11_givesStorm_37 : At cX11_givesStorm 37 (.ireturn) 1 38 := ⟨by decide +kernel, rfl⟩
theorem a11_givesStorm_38 : At cX11_givesStorm 38 (.aload_n 0) 1 39 := ⟨by decide +kernel, rfl⟩
theorem a11_givesStorm_39 : At cX11_givesStorm 39 (.getfield 45) 3 42 := ⟨by decide +kernel, rfl⟩
theorem a11_givesStorm_42 : At cX11_givesStorm 42 (.bipush 10) 2 44 := ⟨by decide +kernel, rfl⟩
theorem a11_givesStorm_44 : At cX11_givesStorm 44 (.aload_n 0) 1 45 := ⟨by decide +kernel, rfl⟩
theorem a11_givesStorm_45 : At cX11_givesStorm 45 (.getfield 48) 3 48 := ⟨by decide +kernel, rfl⟩
theorem a11_givesStorm_48 : At cX11_givesStorm 48 (.iconst 0) 1 49 := ⟨by decide +kernel, rfl⟩
theorem a11_givesStorm_49 : At cX11_givesStorm 49 (.iaload) 1 50 := ⟨by decide +kernel, rfl⟩
theorem a11_givesStorm_50 : At cX11_givesStorm 50 (.iadd) 1 51 := ⟨by decide +kernel, rfl⟩
theorem a11_givesStorm_51 : At cX11_givesStorm 51 (.aload_n 0) 1 52 := ⟨by decide +kernel, rfl⟩
theorem a11_givesStorm_52 : At cX11_givesStorm 52 (.getfield 48) 3 55 := ⟨by decide +kernel, rfl⟩
theorem a11_givesStorm_55 : At cX11_givesStorm 55 (.iconst 1) 1 56 := ⟨by decide +kernel, rfl⟩
theorem a11_givesStorm_56 : At cX11_givesStorm 56 (.iaload) 1 57 := ⟨by decide +kernel, rfl⟩
theorem a11_givesStorm_57 : At cX11_givesStorm 57 (.iastore) 1 58 := ⟨by decide +kernel, rfl⟩
theorem a11_givesStorm_58 : At cX11_givesStorm 58 (.aload_n 0) 1 59 := ⟨by decide +kernel, rfl⟩
theorem a11_givesStorm_59 : At cX11_givesStorm 59 (.getfield 45) 3 62 := ⟨by decide +kernel, rfl⟩
theorem a11_givesStorm_62 : At cX11_givesStorm 62 (.bipush 16) 2 64 := ⟨by decide +kernel, rfl⟩
theorem a11_givesStorm_64 : At cX11_givesStorm 64 (.aload_n 0) 1 65 := ⟨by decide +kernel, rfl⟩
theorem a11_givesStorm_65 : At cX11_givesStorm 65 (.getfield 48) 3 68 := ⟨by decide +kernel, rfl⟩
theorem a11_givesStorm_68 : At cX11_givesStorm 68 (.iconst 0) 1 69 := ⟨by decide +kernel, rfl⟩
theorem a11_givesStorm_69 : At cX11_givesStorm 69 (.iaload) 1 70 := ⟨by decide +kernel, rfl⟩
theorem a11_givesStorm_70 : At cX11_givesStorm 70 (.iadd) 1 71 := ⟨by decide +kernel, rfl⟩
theorem a11_givesStorm_71 : At cX11_givesStorm 71 (.aload_n 0) 1 72 := ⟨by decide +kernel, rfl⟩
theorem a11_givesStorm_72 : At cX11_givesStorm 72 (.getfield 48) 3 75 := ⟨by decide +kernel, rfl⟩
theorem a11_givesStorm_75 : At cX11_givesStorm 75 (.iconst 2) 1 76 := ⟨by decide +kernel, rfl⟩
theorem a11_givesStorm_76 : At cX11_givesStorm 76 (.iaload) 1 77 := ⟨by decide +kernel, rfl⟩
theorem a11_givesStorm_77 : At cX11_givesStorm 77 (.iastore) 1 78 := ⟨by decide +kernel, rfl⟩
theorem a11_givesStorm_78 : At cX11_givesStorm 78 (.iconst 1) 1 79 := ⟨by decide +kernel, rfl⟩
theorem a11_givesStorm_79 : At cX11_givesStorm 79 (.ireturn) 1 80 := ⟨by decide +kernel, rfl⟩
def f11_givesStorm (k0 : Nat) (σ : Mem) : Option (Int32 × Mem) :=
  bnd (f11_goBehind k0 σ) fun w1 =>
  bnd (f11_gives k0 0 0 5 w1) fun w3 =>
  if w3.1 = 0 then
  (some (0, w3.2))
  else
  (bnd (f11_gives k0 1 0 11 w3.2) fun w5 =>
  if w5.1 = 0 then
  (some (0, w5.2))
  else
  (bnd (f11_gives k0 2 0 9 w5.2) fun w7 =>
  if w7.1 = 0 then
  (some (0, w7.2))
  else
  (ck (inb (10 + (w7.2.1 22 11 0)) 110) <|
  lt (sI w7.2 22 10 ((10 + (w7.2.1 22 11 0)) : Int32).toNatClampNeg (w7.2.1 22 11 1)) fun σ10 =>
  ck (inb (16 + (σ10.1 22 11 0)) 110) <|
  lt (sI σ10 22 10 ((16 + (σ10.1 22 11 0)) : Int32).toNatClampNeg (σ10.1 22 11 2)) fun σ12 =>
  some (1, σ12))))
theorem E11_givesStorm {k0 : Nat} {σ : Mem} {w : Int32 × Mem} (h : f11_givesStorm k0 σ = some w) : Ev m11_givesStorm [.inr (.inr (11, k0))] σ (some (.inl w.1) : Option AV) w.2 := by
  unfold f11_givesStorm at h
  show Go m11_givesStorm 0 [some (.inr (.inr (11, k0)))] [] σ (some (.inl w.1) : Option AV) w.2
  refine g_aload_n a11_givesStorm_0 rfl ?_
  obtain ⟨w1, hw1, h⟩ := bnd_inv h
  refine g_V0n (σ1 := w1) a11_givesStorm_1 cv11_251 (E11_goBehind hw1) rfl (fun o2 => ?_)
  refine g_aload_n a11_givesStorm_4 rfl ?_
  refine g_iconst (v := 0) a11_givesStorm_5 rfl ?_
  refine g_iconst (v := 0) a11_givesStorm_6 rfl ?_
  refine g_iconst (v := 5) a11_givesStorm_7 rfl ?_
  obtain ⟨w3, hw3, h⟩ := bnd_inv h
  refine g_V3s (v1 := .inl w3.1) (σ1 := w3.2) a11_givesStorm_8 cv11_254 (E11_gives hw3) rfl (fun o4 => ?_)
  refine g_if_eq (tgt := 36) a11_givesStorm_11 rfl (fun c15 => ?_) (fun c15 => ?_)
  · have h := (if_pos c15).symm.trans h
    refine g_iconst (v := 0) a11_givesStorm_36 rfl ?_
    have h := Option.some.inj h
    subst h
    exact g_retE a11_givesStorm_37 (Or.inl rfl) rfl rfl
  · have h := (if_neg c15).symm.trans h
    refine g_aload_n a11_givesStorm_14 rfl ?_
    refine g_iconst (v := 1) a11_givesStorm_15 rfl ?_
    refine g_iconst (v := 0) a11_givesStorm_16 rfl ?_
    refine g_bipush (v := 11) a11_givesStorm_17 rfl ?_
    obtain ⟨w5, hw5, h⟩ := bnd_inv h
    refine g_V3s (v1 := .inl w5.1) (σ1 := w5.2) a11_givesStorm_19 cv11_254 (E11_gives hw5) rfl (fun o6 => ?_)
    refine g_if_eq (tgt := 36) a11_givesStorm_22 rfl (fun c14 => ?_) (fun c14 => ?_)
    · have h := (if_pos c14).symm.trans h
      refine g_iconst (v := 0) a11_givesStorm_36 rfl ?_
      have h := Option.some.inj h
      subst h
      exact g_retE a11_givesStorm_37 (Or.inl rfl) rfl rfl
    · have h := (if_neg c14).symm.trans h
      refine g_aload_n a11_givesStorm_25 rfl ?_
      refine g_iconst (v := 2) a11_givesStorm_26 rfl ?_
      refine g_iconst (v := 0) a11_givesStorm_27 rfl ?_
      refine g_bipush (v := 9) a11_givesStorm_28 rfl ?_
      obtain ⟨w7, hw7, h⟩ := bnd_inv h
      refine g_V3s (v1 := .inl w7.1) (σ1 := w7.2) a11_givesStorm_30 cv11_254 (E11_gives hw7) rfl (fun o8 => ?_)
      refine g_if_ne (tgt := 38) a11_givesStorm_33 rfl (fun c13 => ?_) (fun c13 => ?_)
      · have h := (if_neg c13).symm.trans h
        refine g_aload_n a11_givesStorm_38 rfl ?_
        refine g_getf (v := .inr (.inr (22, 10))) a11_givesStorm_39 fs11_45 rfl ?_
        refine g_bipush (v := 10) a11_givesStorm_42 rfl ?_
        refine g_aload_n a11_givesStorm_44 rfl ?_
        refine g_getf (v := .inr (.inr (22, 11))) a11_givesStorm_45 fs11_48 rfl ?_
        refine g_iconst (v := 0) a11_givesStorm_48 rfl ?_
        refine g_iald (x := (w7.2.1 22 11 0)) a11_givesStorm_49 (rI22 (by decide)) (inb_ok (by decide)) rfl ?_
        refine g_iadd a11_givesStorm_50 ?_
        refine g_aload_n a11_givesStorm_51 rfl ?_
        refine g_getf (v := .inr (.inr (22, 11))) a11_givesStorm_52 fs11_48 rfl ?_
        refine g_iconst (v := 1) a11_givesStorm_55 rfl ?_
        refine g_iald (x := (w7.2.1 22 11 1)) a11_givesStorm_56 (rI22 (by decide)) (inb_ok (by decide)) rfl ?_
        obtain ⟨q9, h⟩ := ck_inv h
        obtain ⟨σ10, eσ10, h⟩ := lt_inv h
        refine g_iast (j := ((10 + (w7.2.1 22 11 0)) : Int32).toNatClampNeg) a11_givesStorm_57 (rI22 (by decide)) (inb_ok q9) rfl ?_
        rw [eσ10]
        refine g_aload_n a11_givesStorm_58 rfl ?_
        refine g_getf (v := .inr (.inr (22, 10))) a11_givesStorm_59 fs11_45 rfl ?_
        refine g_bipush (v := 16) a11_givesStorm_62 rfl ?_
        refine g_aload_n a11_givesStorm_64 rfl ?_
        refine g_getf (v := .inr (.inr (22, 11))) a11_givesStorm_65 fs11_48 rfl ?_
        refine g_iconst (v := 0) a11_givesStorm_68 rfl ?_
        refine g_iald (x := (σ10.1 22 11 0)) a11_givesStorm_69 (rI22 (by decide)) (inb_ok (by decide)) rfl ?_
        refine g_iadd a11_givesStorm_70 ?_
        refine g_aload_n a11_givesStorm_71 rfl ?_
        refine g_getf (v := .inr (.inr (22, 11))) a11_givesStorm_72 fs11_48 rfl ?_
        refine g_iconst (v := 2) a11_givesStorm_75 rfl ?_
        refine g_iald (x := (σ10.1 22 11 2)) a11_givesStorm_76 (rI22 (by decide)) (inb_ok (by decide)) rfl ?_
        obtain ⟨q11, h⟩ := ck_inv h
        obtain ⟨σ12, eσ12, h⟩ := lt_inv h
        refine g_iast (j := ((16 + (σ10.1 22 11 0)) : Int32).toNatClampNeg) a11_givesStorm_77 (rI22 (by decide)) (inb_ok q11) rfl ?_
        rw [eσ12]
        refine g_iconst (v := 1) a11_givesStorm_78 rfl ?_
        have h := Option.some.inj h
        subst h
        exact g_retE a11_givesStorm_79 (Or.inr rfl) rfl rfl
      · have h := (if_pos c13).symm.trans h
        refine g_iconst (v := 0) a11_givesStorm_36 rfl ?_
        have h := Option.some.inj h
        subst h
        exact g_retE a11_givesStorm_37 (Or.inl rfl) rfl rfl
theorem a11_givesThing_0 : At cX11_givesThing 0 (.aload_n 0) 1 1 := ⟨by decide +kernel, rfl⟩
theorem a11_givesThing_1 : At cX11_givesThing 1 (.getfield 45) 3 4 := ⟨by decide +kernel, rfl⟩
theorem a11_givesThing_4 : At cX11_givesThing 4 (.iconst 0) 1 5 := ⟨by decide +kernel, rfl⟩
theorem a11_givesThing_5 : At cX11_givesThing 5 (.iaload) 1 6 := ⟨by decide +kernel, rfl⟩
theorem a11_givesThing_6 : At cX11_givesThing 6 (.bipush 6) 2 8 := ⟨by decide +kernel, rfl⟩
theorem a11_givesThing_8 : At cX11_givesThing 8 (.if_icmp .ne 5) 3 11 := ⟨by decide +kernel, rfl⟩
theorem a11_givesThing_11 : At cX11_givesThing 11 (.iconst 0) 1 12 := ⟨by decide +kernel, rfl⟩
theorem a11_givesThing_12 : At cX11_givesThing 12 (.ireturn) 1 13 := ⟨by decide +kernel, rfl⟩
theorem a11_givesThing_13 : At cX11_givesThing 13 (.aload_n 0) 1 14 := ⟨by decide +kernel, rfl⟩
theorem a11_givesThing_14 : At cX11_givesThing 14 (.invokevirtual 251) 3 17 := ⟨by decide +kernel, rfl⟩
theorem a11_givesThing_17 : At cX11_givesThing 17 (.aload_n 0) 1 18 := ⟨by decide +kernel, rfl⟩
theorem a11_givesThing_18 : At cX11_givesThing 18 (.iconst 0) 1 19 := ⟨by decide +kernel, rfl⟩
theorem a11_givesThing_19 : At cX11_givesThing 19 (.iconst 0) 1 20 := ⟨by decide +kernel, rfl⟩
theorem a11_givesThing_20 : At cX11_givesThing 20 (.iconst 5) 1 21 := ⟨by decide +kernel, rfl⟩
theorem a11_givesThing_21 : At cX11_givesThing 21 (.invokevirtual 254) 3 24 := ⟨by decide +kernel, rfl⟩
theorem a11_givesThing_24 : At cX11_givesThing 24 (.ifCond .eq 25) 3 27 := ⟨by decide +kernel, rfl⟩
theorem a11_givesThing_27 : At cX11_givesThing 27 (.aload_n 0) 1 28 := ⟨by decide +kernel, rfl⟩
theorem a11_givesThing_28 : At cX11_givesThing 28 (.iconst 1) 1 29 := ⟨by decide +kernel, rfl⟩
theorem a11_givesThing_29 : At cX11_givesThing 29 (.iconst 1) 1 30 := ⟨by decide +kernel, rfl⟩
theorem a11_givesThing_30 : At cX11_givesThing 30 (.bipush 30) 2 32 := ⟨by decide +kernel, rfl⟩
theorem a11_givesThing_32 : At cX11_givesThing 32 (.invokevirtual 254) 3 35 := ⟨by decide +kernel, rfl⟩
theorem a11_givesThing_35 : At cX11_givesThing 35 (.ifCond .eq 14) 3 38 := ⟨by decide +kernel, rfl⟩
theorem a11_givesThing_38 : At cX11_givesThing 38 (.aload_n 0) 1 39 := ⟨by decide +kernel, rfl⟩
theorem a11_givesThing_39 : At cX11_givesThing 39 (.iconst 2) 1 40 := ⟨by decide +kernel, rfl⟩
theorem a11_givesThing_40 : At cX11_givesThing 40 (.iconst 0) 1 41 := ⟨by decide +kernel, rfl⟩
theorem a11_givesThing_41 : At cX11_givesThing 41 (.bipush 11) 2 43 := ⟨by decide +kernel, rfl⟩
theorem a11_givesThing_43 : At cX11_givesThing 43 (.invokevirtual 254) 3 46 := ⟨by decide +kernel, rfl⟩
theorem a11_givesThing_46 : At cX11_givesThing 46 (.ifCond .ne 5) 3 49 := ⟨by decide +kernel, rfl⟩
theorem a11_givesThing_49 : At cX11_givesThing 49 (.iconst 0) 1 50 := ⟨by decide +kernel, rfl⟩
theorem a11_givesThing_50 : At cX11_givesThing 50 (.ireturn) 1 51 := ⟨by decide +kernel, rfl⟩
theorem a11_givesThing_51 : At cX11_givesThing 51 (.aload_n 0) 1 52 := ⟨by decide +kernel, rfl⟩
theorem a11_givesThing_52 : At cX11_givesThing 52 (.getfield 45) 3 55 := ⟨by decide +kernel, rfl⟩
theorem a11_givesThing_55 : At cX11_givesThing 55 (.aload_n 0) 1 56 := ⟨by decide +kernel, rfl⟩
theorem a11_givesThing_56 : At cX11_givesThing 56 (.getfield 48) 3 59 := ⟨by decide +kernel, rfl⟩
theorem a11_givesThing_59 : At cX11_givesThing 59 (.iconst 0) 1 60 := ⟨by decide +kernel, rfl⟩
theorem a11_givesThing_60 : At cX11_givesThing 60 (.iaload) 1 61 := ⟨by decide +kernel, rfl⟩
theorem a11_givesThing_61 : At cX11_givesThing 61 (.aload_n 0) 1 62 := ⟨by decide +kernel, rfl⟩
theorem a11_givesThing_62 : At cX11_givesThing 62 (.getfield 48) 3 65 := ⟨by decide +kernel, rfl⟩
theorem a11_givesThing_65 : At cX11_givesThing 65 (.iconst 1) 1 66 := ⟨by decide +kernel, rfl⟩
theorem a11_givesThing_66 : At cX11_givesThing 66 (.iaload) 1 67 := ⟨by decide +kernel, rfl⟩
theorem a11_givesThing_67 : At cX11_givesThing 67 (.aload_n 0) 1 68 := ⟨by decide +kernel, rfl⟩
theorem a11_givesThing_68 : At cX11_givesThing 68 (.getfield 48) 3 71 := ⟨by decide +kernel, rfl⟩
theorem a11_givesThing_71 : At cX11_givesThing 71 (.iconst 2) 1 72 := ⟨by decide +kernel, rfl⟩
theorem a11_givesThing_72 : At cX11_givesThing 72 (.iaload) 1 73 := ⟨by decide +kernel, rfl⟩
theorem a11_givesThing_73 : At cX11_givesThing 73 (.invokestatic 85) 3 76 := ⟨by decide +kernel, rfl⟩
theorem a11_givesThing_76 : At cX11_givesThing 76 (.iconst 1) 1 77 := ⟨by decide +kernel, rfl⟩
theorem a11_givesThing_77 : At cX11_givesThing 77 (.ireturn) 1 78 := ⟨by decide +kernel, rfl⟩
def f11_givesThing (k0 : Nat) (σ : Mem) : Option (Int32 × Mem) :=
  if (σ.1 22 10 0) = 6 then
  (some (0, σ))
  else
  (bnd (f11_goBehind k0 σ) fun w1 =>
  bnd (f11_gives k0 0 0 5 w1) fun w3 =>
  if w3.1 = 0 then
  (some (0, w3.2))
  else
  (bnd (f11_gives k0 1 1 30 w3.2) fun w5 =>
  if w5.1 = 0 then
  (some (0, w5.2))
  else
  (bnd (f11_gives k0 2 0 11 w5.2) fun w7 =>
  if w7.1 = 0 then
  (some (0, w7.2))
  else
  (bnd (f11_layThing 10 (w7.2.1 22 11 0) (w7.2.1 22 11 1) (w7.2.1 22 11 2) w7.2) fun w9 =>
  some (1, w9)))))
theorem E11_givesThing {k0 : Nat} {σ : Mem} {w : Int32 × Mem} (h : f11_givesThing k0 σ = some w) : Ev m11_givesThing [.inr (.inr (11, k0))] σ (some (.inl w.1) : Option AV) w.2 := by
  unfold f11_givesThing at h
  show Go m11_givesThing 0 [some (.inr (.inr (11, k0)))] [] σ (some (.inl w.1) : Option AV) w.2
  refine g_aload_n a11_givesThing_0 rfl ?_
  refine g_getf (v := .inr (.inr (22, 10))) a11_givesThing_1 fs11_45 rfl ?_
  refine g_iconst (v := 0) a11_givesThing_4 rfl ?_
  refine g_iald (x := (σ.1 22 10 0)) a11_givesThing_5 (rI22 (by decide)) (inb_ok (by decide)) rfl ?_
  refine g_bipush (v := 6) a11_givesThing_6 rfl ?_
  refine g_icmp_ne (tgt := 13) a11_givesThing_8 rfl (fun c14 => ?_) (fun c14 => ?_)
  · have h := (if_neg c14).symm.trans h
    refine g_aload_n a11_givesThing_13 rfl ?_
    obtain ⟨w1, hw1, h⟩ := bnd_inv h
    refine g_V0n (σ1 := w1) a11_givesThing_14 cv11_251 (E11_goBehind hw1) rfl (fun o2 => ?_)
    refine g_aload_n a11_givesThing_17 rfl ?_
    refine g_iconst (v := 0) a11_givesThing_18 rfl ?_
    refine g_iconst (v := 0) a11_givesThing_19 rfl ?_
    refine g_iconst (v := 5) a11_givesThing_20 rfl ?_
    obtain ⟨w3, hw3, h⟩ := bnd_inv h
    refine g_V3s (v1 := .inl w3.1) (σ1 := w3.2) a11_givesThing_21 cv11_254 (E11_gives hw3) rfl (fun o4 => ?_)
    refine g_if_eq (tgt := 49) a11_givesThing_24 rfl (fun c13 => ?_) (fun c13 => ?_)
    · have h := (if_pos c13).symm.trans h
      refine g_iconst (v := 0) a11_givesThing_49 rfl ?_
      have h := Option.some.inj h
      subst h
      exact g_retE a11_givesThing_50 (Or.inl rfl) rfl rfl
    · have h := (if_neg c13).symm.trans h
      refine g_aload_n a11_givesThing_27 rfl ?_
      refine g_iconst (v := 1) a11_givesThing_28 rfl ?_
      refine g_iconst (v := 1) a11_givesThing_29 rfl ?_
      refine g_bipush (v := 30) a11_givesThing_30 rfl ?_
      obtain ⟨w5, hw5, h⟩ := bnd_inv h
      refine g_V3s (v1 := .inl w5.1) (σ1 := w5.2) a11_givesThing_32 cv11_254 (E11_gives hw5) rfl (fun o6 => ?_)
      refine g_if_eq (tgt := 49) a11_givesThing_35 rfl (fun c12 => ?_) (fun c12 => ?_)
      · have h := (if_pos c12).symm.trans h
        refine g_iconst (v := 0) a11_givesThing_49 rfl ?_
        have h := Option.some.inj h
        subst h
        exact g_retE a11_givesThing_50 (Or.inl rfl) rfl rfl
      · have h := (if_neg c12).symm.trans h
        refine g_aload_n a11_givesThing_38 rfl ?_
        refine g_iconst (v := 2) a11_givesThing_39 rfl ?_
        refine g_iconst (v := 0) a11_givesThing_40 rfl ?_
        refine g_bipush (v := 11) a11_givesThing_41 rfl ?_
        obtain ⟨w7, hw7, h⟩ := bnd_inv h
        refine g_V3s (v1 := .inl w7.1) (σ1 := w7.2) a11_givesThing_43 cv11_254 (E11_gives hw7) rfl (fun o8 => ?_)
        refine g_if_ne (tgt := 51) a11_givesThing_46 rfl (fun c11 => ?_) (fun c11 => ?_)
        · have h := (if_neg c11).symm.trans h
          refine g_aload_n a11_givesThing_51 rfl ?_
          refine g_getf (v := .inr (.inr (22, 10))) a11_givesThing_52 fs11_45 rfl ?_
          refine g_aload_n a11_givesThing_55 rfl ?_
          refine g_getf (v := .inr (.inr (22, 11))) a11_givesThing_56 fs11_48 rfl ?_
          refine g_iconst (v := 0) a11_givesThing_59 rfl ?_
          refine g_iald (x := (w7.2.1 22 11 0)) a11_givesThing_60 (rI22 (by decide)) (inb_ok (by decide)) rfl ?_
          refine g_aload_n a11_givesThing_61 rfl ?_
          refine g_getf (v := .inr (.inr (22, 11))) a11_givesThing_62 fs11_48 rfl ?_
          refine g_iconst (v := 1) a11_givesThing_65 rfl ?_
          refine g_iald (x := (w7.2.1 22 11 1)) a11_givesThing_66 (rI22 (by decide)) (inb_ok (by decide)) rfl ?_
          refine g_aload_n a11_givesThing_67 rfl ?_
          refine g_getf (v := .inr (.inr (22, 11))) a11_givesThing_68 fs11_48 rfl ?_
          refine g_iconst (v := 2) a11_givesThing_71 rfl ?_
          refine g_iald (x := (w7.2.1 22 11 2)) a11_givesThing_72 (rI22 (by decide)) (inb_ok (by decide)) rfl ?_
          obtain ⟨w9, hw9, h⟩ := bnd_inv h
          refine g_S4n (σ1 := w9) a11_givesThing_73 cs11_85 (E11_layThing hw9) rfl (fun o10 => ?_)
          refine g_iconst (v := 1) a11_givesThing_76 rfl ?_
          have h := Option.some.inj h
          subst h
          exact g_retE a11_givesThing_77 (Or.inr rfl) rfl rfl
        · have h := (if_pos c11).symm.trans h
          refine g_iconst (v := 0) a11_givesThing_49 rfl ?_
          have h := Option.some.inj h
          subst h
          exact g_retE a11_givesThing_50 (Or.inl rfl) rfl rfl
  · have h := (if_pos c14).symm.trans h
    refine g_iconst (v := 0) a11_givesThing_11 rfl ?_
    have h := Option.some.inj h
    subst h
    exact g_retE a11_givesThing_12 (Or.inl rfl) rfl rfl
theorem a11_givesPart_0 : At cX11_givesPart 0 (.aload_n 0) 1 1 := ⟨by decide +kernel, rfl⟩
theorem a11_givesPart_1 : At cX11_givesPart 1 (.getfield 45) 3 4 := ⟨by decide +kernel, rfl⟩
theorem a11_givesPart_4 : At cX11_givesPart 4 (.iconst 1) 1 5 := ⟨by decide +kernel, rfl⟩
theorem a11_givesPart_5 : At cX11_givesPart 5 (.iaload) 1 6 := ⟨by decide +kernel, rfl⟩
theorem a11_givesPart_6 : At cX11_givesPart 6 (.bipush 6) 2 8 := ⟨by decide +kernel, rfl⟩
theorem a11_givesPart_8 : At cX11_givesPart 8 (.if_icmp .ne 5) 3 11 := ⟨by decide +kernel, rfl⟩
theorem a11_givesPart_11 : At cX11_givesPart 11 (.iconst 0) 1 12 := ⟨by decide +kernel, rfl⟩
theorem a11_givesPart_12 : At cX11_givesPart 12 (.ireturn) 1 13 := ⟨by decide +kernel, rfl⟩
theorem a11_givesPart_13 : At cX11_givesPart 13 (.aload_n 0) 1 14 := ⟨by decide +kernel, rfl⟩
theorem a11_givesPart_14 : At cX11_givesPart 14 (.invokevirtual 251) 3 17 := ⟨by decide +kernel, rfl⟩
theorem a11_givesPart_17 : At cX11_givesPart 17 (.aload_n 0) 1 18 := ⟨by decide +kernel, rfl⟩
theorem a11_givesPart_18 : At cX11_givesPart 18 (.iconst 0) 1 19 := ⟨by decide +kernel, rfl⟩
theorem a11_givesPart_19 : At cX11_givesPart 19 (.iconst 0) 1 20 := ⟨by decide +kernel, rfl⟩
theorem a11_givesPart_20 : At cX11_givesPart 20 (.iconst 5) 1 21 := ⟨by decide +kernel, rfl⟩
theorem a11_givesPart_21 : At cX11_givesPart 21 (.invokevirtual 254) 3 24 := ⟨by decide +kernel, rfl⟩
theorem a11_givesPart_24 : At cX11_givesPart 24 (.ifCond .ne 5) 3 27 := ⟨by decide +kernel, rfl⟩
theorem a11_givesPart_27 : At cX11_givesPart 27 (.iconst 0) 1 28 := ⟨by decide +kernel, rfl⟩
theorem a11_givesPart_28 : At cX11_givesPart 28 (.ireturn) 1 29 := ⟨by decide +kernel, rfl⟩
theorem a11_givesPart_29 : At cX11_givesPart 29 (.aload_n 0) 1 30 := ⟨by decide +kernel, rfl⟩
theorem a11_givesPart_30 : At cX11_givesPart 30 (.getfield 45) 3 33 := ⟨by decide +kernel, rfl⟩
theorem a11_givesPart_33 : At cX11_givesPart 33 (.bipush 40) 2 35 := ⟨by decide +kernel, rfl⟩
theorem a11_givesPart_35 : At cX11_givesPart 35 (.aload_n 0) 1 36 := ⟨by decide +kernel, rfl⟩
theorem a11_givesPart_36 : At cX11_givesPart 36 (.getfield 45) 3 39 := ⟨by decide +kernel, rfl⟩
theorem a11_givesPart_39 : At cX11_givesPart 39 (.iconst 1) 1 40 := ⟨by decide +kernel, rfl⟩
theorem a11_givesPart_40 : At cX11_givesPart 40 (.iaload) 1 41 := ⟨by decide +kernel, rfl⟩
theorem a11_givesPart_41 : At cX11_givesPart 41 (.iadd) 1 42 := ⟨by decide +kernel, rfl⟩
theorem a11_givesPart_42 : At cX11_givesPart 42 (.aload_n 0) 1 43 := ⟨by decide +kernel, rfl⟩
theorem a11_givesPart_43 : At cX11_givesPart 43 (.getfield 48) 3 46 := ⟨by decide +kernel, rfl⟩
theorem a11_givesPart_46 : At cX11_givesPart 46 (.iconst 0) 1 47 := ⟨by decide +kernel, rfl⟩
theorem a11_givesPart_47 : At cX11_givesPart 47 (.iaload) 1 48 := ⟨by decide +kernel, rfl⟩
theorem a11_givesPart_48 : At cX11_givesPart 48 (.iastore) 1 49 := ⟨by decide +kernel, rfl⟩
theorem a11_givesPart_49 : At cX11_givesPart 49 (.aload_n 0) 1 50 := ⟨by decide +kernel, rfl⟩
theorem a11_givesPart_50 : At cX11_givesPart 50 (.getfield 45) 3 53 := ⟨by decide +kernel, rfl⟩
theorem a11_givesPart_53 : At cX11_givesPart 53 (.iconst 1) 1 54 := ⟨by decide +kernel, rfl⟩
theorem a11_givesPart_54 : At cX11_givesPart 54 (.dup2) 1 55 := ⟨by decide +kernel, rfl⟩
theorem a11_givesPart_55 : At cX11_givesPart 55 (.iaload) 1 56 := ⟨by decide +kernel, rfl⟩
theorem a11_givesPart_56 : At cX11_givesPart 56 (.iconst 1) 1 57 := ⟨by decide +kernel, rfl⟩
theorem a11_givesPart_57 : At cX11_givesPart 57 (.iadd) 1 58 := ⟨by decide +kernel, rfl⟩
theorem a11_givesPart_58 : At cX11_givesPart 58 (.iastore) 1 59 := ⟨by decide +kernel, rfl⟩
theorem a11_givesPart_59 : At cX11_givesPart 59 (.iconst 1) 1 60 := ⟨by decide +kernel, rfl⟩
theorem a11_givesPart_60 : At cX11_givesPart 60 (.ireturn) 1 61 := ⟨by decide +kernel, rfl⟩
def f11_givesPart (k0 : Nat) (σ : Mem) : Option (Int32 × Mem) :=
  if (σ.1 22 10 1) = 6 then
  (some (0, σ))
  else
  (bnd (f11_goBehind k0 σ) fun w1 =>
  bnd (f11_gives k0 0 0 5 w1) fun w3 =>
  if w3.1 = 0 then
  (some (0, w3.2))
  else
  (ck (inb (40 + (w3.2.1 22 10 1)) 110) <|
  lt (sI w3.2 22 10 ((40 + (w3.2.1 22 10 1)) : Int32).toNatClampNeg (w3.2.1 22 11 0)) fun σ6 =>
  lt (sI σ6 22 10 1 ((σ6.1 22 10 1) + 1)) fun σ7 =>
  some (1, σ7)))
theorem E11_givesPart {k0 : Nat} {σ : Mem} {w : Int32 × Mem} (h : f11_givesPart k0 σ = some w) : Ev m11_givesPart [.inr (.inr (11, k0))] σ (some (.inl w.1) : Option AV) w.2 := by
  unfold f11_givesPart at h
  show Go m11_givesPart 0 [some (.inr (.inr (11, k0)))] [] σ (some (.inl w.1) : Option AV) w.2
  refine g_aload_n a11_givesPart_0 rfl ?_
  refine g_getf (v := .inr (.inr (22, 10))) a11_givesPart_1 fs11_45 rfl ?_
  refine g_iconst (v := 1) a11_givesPart_4 rfl ?_
  refine g_iald (x := (σ.1 22 10 1)) a11_givesPart_5 (rI22 (by decide)) (inb_ok (by decide)) rfl ?_
  refine g_bipush (v := 6) a11_givesPart_6 rfl ?_
  refine g_icmp_ne (tgt := 13) a11_givesPart_8 rfl (fun c9 => ?_) (fun c9 => ?_)
  · have h := (if_neg c9).symm.trans h
    refine g_aload_n a11_givesPart_13 rfl ?_
    obtain ⟨w1, hw1, h⟩ := bnd_inv h
    refine g_V0n (σ1 := w1) a11_givesPart_14 cv11_251 (E11_goBehind hw1) rfl (fun o2 => ?_)
    refine g_aload_n a11_givesPart_17 rfl ?_
    refine g_iconst (v := 0) a11_givesPart_18 rfl ?_
    refine g_iconst (v := 0) a11_givesPart_19 rfl ?_
    refine g_iconst (v := 5) a11_givesPart_20 rfl ?_
    obtain ⟨w3, hw3, h⟩ := bnd_inv h
    refine g_V3s (v1 := .inl w3.1) (σ1 := w3.2) a11_givesPart_21 cv11_254 (E11_gives hw3) rfl (fun o4 => ?_)
    refine g_if_ne (tgt := 29) a11_givesPart_24 rfl (fun c8 => ?_) (fun c8 => ?_)
    · have h := (if_neg c8).symm.trans h
      refine g_aload_n a11_givesPart_29 rfl ?_
      refine g_getf (v := .inr (.inr (22, 10))) a11_givesPart_30 fs11_45 rfl ?_
      refine g_bipush (v := 40) a11_givesPart_33 rfl ?_
      refine g_aload_n a11_givesPart_35 rfl ?_
      refine g_getf (v := .inr (.inr (22, 10))) a11_givesPart_36 fs11_45 rfl ?_
      refine g_iconst (v := 1) a11_givesPart_39 rfl ?_
      refine g_iald (x := (w3.2.1 22 10 1)) a11_givesPart_40 (rI22 (by decide)) (inb_ok (by decide)) rfl ?_
      refine g_iadd a11_givesPart_41 ?_
      refine g_aload_n a11_givesPart_42 rfl ?_
      refine g_getf (v := .inr (.inr (22, 11))) a11_givesPart_43 fs11_48 rfl ?_
      refine g_iconst (v := 0) a11_givesPart_46 rfl ?_
      refine g_iald (x := (w3.2.1 22 11 0)) a11_givesPart_47 (rI22 (by decide)) (inb_ok (by decide)) rfl ?_
      obtain ⟨q5, h⟩ := ck_inv h
      obtain ⟨σ6, eσ6, h⟩ := lt_inv h
      refine g_iast (j := ((40 + (w3.2.1 22 10 1)) : Int32).toNatClampNeg) a11_givesPart_48 (rI22 (by decide)) (inb_ok q5) rfl ?_
      rw [eσ6]
      refine g_aload_n a11_givesPart_49 rfl ?_
      refine g_getf (v := .inr (.inr (22, 10))) a11_givesPart_50 fs11_45 rfl ?_
      refine g_iconst (v := 1) a11_givesPart_53 rfl ?_
      refine g_dup2 a11_givesPart_54 (fun _ => rfl) (fun _ => rfl) ?_
      refine g_iald (x := (σ6.1 22 10 1)) a11_givesPart_55 (rI22 (by decide)) (inb_ok (by decide)) rfl ?_
      refine g_iconst (v := 1) a11_givesPart_56 rfl ?_
      refine g_iadd a11_givesPart_57 ?_
      obtain ⟨σ7, eσ7, h⟩ := lt_inv h
      refine g_iast (j := 1) a11_givesPart_58 (rI22 (by decide)) (inb_ok (by decide)) rfl ?_
      rw [eσ7]
      refine g_iconst (v := 1) a11_givesPart_59 rfl ?_
      have h := Option.some.inj h
      subst h
      exact g_retE a11_givesPart_60 (Or.inr rfl) rfl rfl
    · have h := (if_pos c8).symm.trans h
      refine g_iconst (v := 0) a11_givesPart_27 rfl ?_
      have h := Option.some.inj h
      subst h
      exact g_retE a11_givesPart_28 (Or.inl rfl) rfl rfl
  · have h := (if_pos c9).symm.trans h
    refine g_iconst (v := 0) a11_givesPart_11 rfl ?_
    have h := Option.some.inj h
    subst h
    exact g_retE a11_givesPart_12 (Or.inl rfl) rfl rfl
theorem a11_givesTake_0 : At cX11_givesTake 0 (.aload_n 0) 1 1 := ⟨by decide +kernel, rfl⟩
theorem a11_givesTake_1 : At cX11_givesTake 1 (.invokevirtual 251) 3 4 := ⟨by decide +kernel, rfl⟩
theorem a11_givesTake_4 : At cX11_givesTake 4 (.aload_n 0) 1 5 := ⟨by decide +kernel, rfl⟩
theorem a11_givesTake_5 : At cX11_givesTake 5 (.iconst 0) 1 6 := ⟨by decide +kernel, rfl⟩
theorem a11_givesTake_6 : At cX11_givesTake 6 (.iconst 0) 1 7 := ⟨by decide +kernel, rfl⟩
theorem a11_givesTake_7 : At cX11_givesTake 7 (.aload_n 0) 1 8 := ⟨by decide +kernel, rfl⟩
theorem a11_givesTake_8 : At cX11_givesTake 8 (.getfield 45) 3 11 := ⟨by decide +kernel, rfl⟩
theorem a11_givesTake_11 : At cX11_givesTake 11 (.iconst 0) 1 12 := ⟨by decide +kernel, rfl⟩
theorem a11_givesTake_12 : At cX11_givesTake 12 (.iaload) 1 13 := ⟨by decide +kernel, rfl⟩
theorem a11_givesTake_13 : At cX11_givesTake 13 (.iconst 1) 1 14 := ⟨by decide +kernel, rfl⟩
theorem a11_givesTake_14 : At cX11_givesTake 14 (.isub) 1 15 := ⟨by decide +kernel, rfl⟩
theorem a11_givesTake_15 : At cX11_givesTake 15 (.invokevirtual 254) 3 18 := ⟨by decide +kernel, rfl⟩
theorem a11_givesTake_18 : At cX11_givesTake 18 (.ifCond .ne 5) 3 21 := ⟨by decide +kernel, rfl⟩
theorem a11_givesTake_21 : At cX11_givesTake 21 (.iconst 0) 1 22 := ⟨by decide +kernel, rfl⟩
theorem a11_givesTake_22 : At cX11_givesTake 22 (.ireturn) 1 23 := ⟨by decide +kernel, rfl⟩
theorem a11_givesTake_23 : At cX11_givesTake 23 (.aload_n 0) 1 24 := ⟨by decide +kernel, rfl⟩
theorem a11_givesTake_24 : At cX11_givesTake 24 (.getfield 45) 3 27 := ⟨by decide +kernel, rfl⟩
theorem a11_givesTake_27 : At cX11_givesTake 27 (.bipush 6) 2 29 := ⟨by decide +kernel, rfl⟩
theorem a11_givesTake_29 : At cX11_givesTake 29 (.dup2) 1 30 := ⟨by decide +kernel, rfl⟩
theorem a11_givesTake_30 : At cX11_givesTake 30 (.iaload) 1 31 := ⟨by decide +kernel, rfl⟩
theorem a11_givesTake_31 : At cX11_givesTake 31 (.iconst 1) 1 32 := ⟨by decide +kernel, rfl⟩
theorem a11_givesTake_32 : At cX11_givesTake 32 (.aload_n 0) 1 33 := ⟨by decide +kernel, rfl⟩
theorem a11_givesTake_33 : At cX11_givesTake 33 (.getfield 48) 3 36 := ⟨by decide +kernel, rfl⟩
theorem a11_givesTake_36 : At cX11_givesTake 36 (.iconst 0) 1 37 := ⟨by decide +kernel, rfl⟩
theorem a11_givesTake_37 : At cX11_givesTake 37 (.iaload) 1 38 := ⟨by decide +kernel, rfl⟩
theorem a11_givesTake_38 : At cX11_givesTake 38 (.ishl) 1 39 := ⟨by decide +kernel, rfl⟩
theorem a11_givesTake_39 : At cX11_givesTake 39 (.ixor) 1 40 := ⟨by decide +kernel, rfl⟩
theorem a11_givesTake_40 : At cX11_givesTake 40 (.iastore) 1 41 := ⟨by decide +kernel, rfl⟩
theorem a11_givesTake_41 : At cX11_givesTake 41 (.iconst 1) 1 42 := ⟨by decide +kernel, rfl⟩
theorem a11_givesTake_42 : At cX11_givesTake 42 (.ireturn) 1 43 := ⟨by decide +kernel, rfl⟩
def f11_givesTake (k0 : Nat) (σ : Mem) : Option (Int32 × Mem) :=
  bnd (f11_goBehind k0 σ) fun w1 =>
  bnd (f11_gives k0 0 0 ((w1.1 22 10 0) - 1) w1) fun w3 =>
  if w3.1 = 0 then
  (some (0, w3.2))
  else
  (lt (sI w3.2 22 10 6 ((w3.2.1 22 10 6) ^^^ (1 <<< ((w3.2.1 22 11 0) &&& 31)))) fun σ5 =>
  some (1, σ5))
theorem E11_givesTake {k0 : Nat} {σ : Mem} {w : Int32 × Mem} (h : f11_givesTake k0 σ = some w) : Ev m11_givesTake [.inr (.inr (11, k0))] σ (some (.inl w.1) : Option AV) w.2 := by
  unfold f11_givesTake at h
  show Go m11_givesTake 0 [some (.inr (.inr (11, k0)))] [] σ (some (.inl w.1) : Option AV) w.2
  refine g_aload_n a11_givesTake_0 rfl ?_
  obtain ⟨w1, hw1, h⟩ := bnd_inv h
  refine g_V0n (σ1 := w1) a11_givesTake_1 cv11_251 (E11_goBehind hw1) rfl (fun o2 => ?_)
  refine g_aload_n a11_givesTake_4 rfl ?_
  refine g_iconst (v := 0) a11_givesTake_5 rfl ?_
  refine g_iconst (v := 0) a11_givesTake_6 rfl ?_
  refine g_aload_n a11_givesTake_7 rfl ?_
  refine g_getf (v := .inr (.inr (22, 10))) a11_givesTake_8 fs11_45 rfl ?_
  refine g_iconst (v := 0) a11_givesTake_11 rfl ?_
  refine g_iald (x := (w1.1 22 10 0)) a11_givesTake_12 (rI22 (by decide)) (inb_ok (by decide)) rfl ?_
  refine g_iconst (v := 1) a11_givesTake_13 rfl ?_
  refine g_isub a11_givesTake_14 ?_
  obtain ⟨w3, hw3, h⟩ := bnd_inv h
  refine g_V3s (v1 := .inl w3.1) (σ1 := w3.2) a11_givesTake_15 cv11_254 (E11_gives hw3) rfl (fun o4 => ?_)
  refine g_if_ne (tgt := 23) a11_givesTake_18 rfl (fun c6 => ?_) (fun c6 => ?_)
  · have h := (if_neg c6).symm.trans h
    refine g_aload_n a11_givesTake_23 rfl ?_
    refine g_getf (v := .inr (.inr (22, 10))) a11_givesTake_24 fs11_45 rfl ?_
    refine g_bipush (v := 6) a11_givesTake_27 rfl ?_
    refine g_dup2 a11_givesTake_29 (fun _ => rfl) (fun _ => rfl) ?_
    refine g_iald (x := (w3.2.1 22 10 6)) a11_givesTake_30 (rI22 (by decide)) (inb_ok (by decide)) rfl ?_
    refine g_iconst (v := 1) a11_givesTake_31 rfl ?_
    refine g_aload_n a11_givesTake_32 rfl ?_
    refine g_getf (v := .inr (.inr (22, 11))) a11_givesTake_33 fs11_48 rfl ?_
    refine g_iconst (v := 0) a11_givesTake_36 rfl ?_
    refine g_iald (x := (w3.2.1 22 11 0)) a11_givesTake_37 (rI22 (by decide)) (inb_ok (by decide)) rfl ?_
    refine g_ishl a11_givesTake_38 ?_
    refine g_ixor a11_givesTake_39 ?_
    obtain ⟨σ5, eσ5, h⟩ := lt_inv h
    refine g_iast (j := 6) a11_givesTake_40 (rI22 (by decide)) (inb_ok (by decide)) rfl ?_
    rw [eσ5]
    refine g_iconst (v := 1) a11_givesTake_41 rfl ?_
    have h := Option.some.inj h
    subst h
    exact g_retE a11_givesTake_42 (Or.inr rfl) rfl rfl
  · have h := (if_pos c6).symm.trans h
    refine g_iconst (v := 0) a11_givesTake_21 rfl ?_
    have h := Option.some.inj h
    subst h
    exact g_retE a11_givesTake_22 (Or.inl rfl) rfl rfl
theorem a11_givesSummers_0 : At cX11_givesSummers 0 (.aload_n 0) 1 1 := ⟨by decide +kernel, rfl⟩
theorem a11_givesSummers_1 : At cX11_givesSummers 1 (.invokevirtual 251) 3 4 := ⟨by decide +kernel, rfl⟩
theorem a11_givesSummers_4 : At cX11_givesSummers 4 (.aload_n 0) 1 5 := ⟨by decide +kernel, rfl⟩
theorem a11_givesSummers_5 : At cX11_givesSummers 5 (.iconst 0) 1 6 := ⟨by decide +kernel, rfl⟩
theorem a11_givesSummers_6 : At cX11_givesSummers 6 (.iconst 1) 1 7 := ⟨by decide +kernel, rfl⟩
theorem a11_givesSummers_7 : At cX11_givesSummers 7 (.bipush 99) 2 9 := ⟨by decide +kernel, rfl⟩
theorem a11_givesSummers_9 : At cX11_givesSummers 9 (.invokevirtual 254) 3 12 := ⟨by decide +kernel, rfl⟩
theorem a11_givesSummers_12 : At cX11_givesSummers 12 (.ifCond .ne 5) 3 15 := ⟨by decide +kernel, rfl⟩
theorem a11_givesSummers_15 : At cX11_givesSummers 15 (.iconst 0) 1 16 := ⟨by decide +kernel, rfl⟩
theorem a11_givesSummers_16 : At cX11_givesSummers 16 (.ireturn) 1 17 := ⟨by decide +kernel, rfl⟩
theorem a11_givesSummers_17 : At cX11_givesSummers 17 (.aload_n 0) 1 18 := ⟨by decide +kernel, rfl⟩
theorem a11_givesSummers_18 : At cX11_givesSummers 18 (.getfield 45) 3 21 := ⟨by decide +kernel, rfl⟩
theorem a11_givesSummers_21 : At cX11_givesSummers 21 (.aload_n 0) 1 22 := ⟨by decide +kernel, rfl⟩
theorem a11_givesSummers_22 : At cX11_givesSummers 22 (.getfield 48) 3 25 := ⟨by decide +kernel, rfl⟩
theorem a11_givesSummers_25 : At cX11_givesSummers 25 (.iconst 0) 1 26 := ⟨by decide +kernel, rfl⟩
theorem a11_givesSummers_26 : At cX11_givesSummers 26 (.iaload) 1 27 := ⟨by decide +kernel, rfl⟩
theorem a11_givesSummers_27 : At cX11_givesSummers 27 (.invokestatic 130) 3 30 := ⟨by decide +kernel, rfl⟩
theorem a11_givesSummers_30 : At cX11_givesSummers 30 (.iconst 1) 1 31 := ⟨by decide +kernel, rfl⟩
theorem a11_givesSummers_31 : At cX11_givesSummers 31 (.ireturn) 1 32 := ⟨by decide +kernel, rfl⟩
def f11_givesSummers (k0 : Nat) (σ : Mem) : Option (Int32 × Mem) :=
  bnd (f11_goBehind k0 σ) fun w1 =>
  bnd (f11_gives k0 0 1 99 w1) fun w3 =>
  if w3.1 = 0 then
  (some (0, w3.2))
  else
  (bnd (f11_goSummers 10 (w3.2.1 22 11 0) w3.2) fun w5 =>
  some (1, w5))
theorem E11_givesSummers {k0 : Nat} {σ : Mem} {w : Int32 × Mem} (h : f11_givesSummers k0 σ = some w) : Ev m11_givesSummers [.inr (.inr (11, k0))] σ (some (.inl w.1) : Option AV) w.2 := by
  unfold f11_givesSummers at h
  show Go m11_givesSummers 0 [some (.inr (.inr (11, k0)))] [] σ (some (.inl w.1) : Option AV) w.2
  refine g_aload_n a11_givesSummers_0 rfl ?_
  obtain ⟨w1, hw1, h⟩ := bnd_inv h
  refine g_V0n (σ1 := w1) a11_givesSummers_1 cv11_251 (E11_goBehind hw1) rfl (fun o2 => ?_)
  refine g_aload_n a11_givesSummers_4 rfl ?_
  refine g_iconst (v := 0) a11_givesSummers_5 rfl ?_
  refine g_iconst (v := 1) a11_givesSummers_6 rfl ?_
  refine g_bipush (v := 99) a11_givesSummers_7 rfl ?_
  obtain ⟨w3, hw3, h⟩ := bnd_inv h
  refine g_V3s (v1 := .inl w3.1) (σ1 := w3.2) a11_givesSummers_9 cv11_254 (E11_gives hw3) rfl (fun o4 => ?_)
  refine g_if_ne (tgt := 17) a11_givesSummers_12 rfl (fun c7 => ?_) (fun c7 => ?_)
  · have h := (if_neg c7).symm.trans h
    refine g_aload_n a11_givesSummers_17 rfl ?_
    refine g_getf (v := .inr (.inr (22, 10))) a11_givesSummers_18 fs11_45 rfl ?_
    refine g_aload_n a11_givesSummers_21 rfl ?_
    refine g_getf (v := .inr (.inr (22, 11))) a11_givesSummers_22 fs11_48 rfl ?_
    refine g_iconst (v := 0) a11_givesSummers_25 rfl ?_
    refine g_iald (x := (w3.2.1 22 11 0)) a11_givesSummers_26 (rI22 (by decide)) (inb_ok (by decide)) rfl ?_
    obtain ⟨w5, hw5, h⟩ := bnd_inv h
    refine g_S2n (σ1 := w5) a11_givesSummers_27 cs11_130 (E11_goSummers hw5) rfl (fun o6 => ?_)
    refine g_iconst (v := 1) a11_givesSummers_30 rfl ?_
    have h := Option.some.inj h
    subst h
    exact g_retE a11_givesSummers_31 (Or.inr rfl) rfl rfl
  · have h := (if_pos c7).symm.trans h
    refine g_iconst (v := 0) a11_givesSummers_15 rfl ?_
    have h := Option.some.inj h
    subst h
    exact g_retE a11_givesSummers_16 (Or.inl rfl) rfl rfl
theorem a11_givesItem_0 : At cX11_givesItem 0 (.aload_n 0) 1 1 := ⟨by decide +kernel, rfl⟩
theorem a11_givesItem_1 : At cX11_givesItem 1 (.iconst 5) 1 2 := ⟨by decide +kernel, rfl⟩
theorem a11_givesItem_2 : At cX11_givesItem 2 (.bipush 115) 2 4 := ⟨by decide +kernel, rfl⟩
theorem a11_givesItem_4 : At cX11_givesItem 4 (.bipush 116) 2 6 := ⟨by decide +kernel, rfl⟩
theorem a11_givesItem_6 : At cX11_givesItem 6 (.bipush 111) 2 8 := ⟨by decide +kernel, rfl⟩
theorem a11_givesItem_8 : At cX11_givesItem 8 (.bipush 114) 2 10 := ⟨by decide +kernel, rfl⟩
theorem a11_givesItem_10 : At cX11_givesItem 10 (.bipush 109) 2 12 := ⟨by decide +kernel, rfl⟩
theorem a11_givesItem_12 : At cX11_givesItem 12 (.iconst 0) 1 13 := ⟨by decide +kernel, rfl⟩
theorem a11_givesItem_13 : At cX11_givesItem 13 (.invokevirtual 257) 3 16 := ⟨by decide +kernel, rfl⟩
theorem a11_givesItem_16 : At cX11_givesItem 16 (.ifCond .eq 8) 3 19 := ⟨by decide +kernel, rfl⟩
theorem a11_givesItem_19 : At cX11_givesItem 19 (.aload_n 0) 1 20 := ⟨by decide +kernel, rfl⟩
theorem a11_givesItem_20 : At cX11_givesItem 20 (.invokevirtual 261) 3 23 := ⟨by decide +kernel, rfl⟩
theorem a11_givesItem_23 : At cX11_givesItem 23 (.ireturn) 1 24 := ⟨by decide +kernel, rfl⟩
theorem a11_givesItem_24 : At cX11_givesItem 24 (.aload_n 0) 1 25 := ⟨by decide +kernel, rfl⟩
theorem a11_givesItem_25 : At cX11_givesItem 25 (.iconst 5) 1 26 := ⟨by decide +kernel, rfl⟩
theorem a11_givesItem_26 : At cX11_givesItem 26 (.bipush 116) 2 28 := ⟨by decide +kernel, rfl⟩
theorem a11_givesItem_28 : At cX11_givesItem 28 (.bipush 104) 2 30 := ⟨by decide +kernel, rfl⟩
theorem a11_givesItem_30 : At cX11_givesItem 30 (.bipush 105) 2 32 := ⟨by decide +kernel, rfl⟩
theorem a11_givesItem_32 : At cX11_givesItem 32 (.bipush 110) 2 34 := ⟨by decide +kernel, rfl⟩
theorem a11_givesItem_34 : At cX11_givesItem 34 (.bipush 103) 2 36 := ⟨by decide +kernel, rfl⟩
theorem a11_givesItem_36 : At cX11_givesItem 36 (.iconst 0) 1 37 := ⟨by decide +kernel, rfl⟩
theorem a11_givesItem_37 : At cX11_givesItem 37 (.invokevirtual 257) 3 40 := ⟨by decide +kernel, rfl⟩
theorem a11_givesItem_40 : At cX11_givesItem 40 (.ifCond .eq 8) 3 43 := ⟨by decide +kernel, rfl⟩
theorem a11_givesItem_43 : At cX11_givesItem 43 (.aload_n 0) 1 44 := ⟨by decide +kernel, rfl⟩
theorem a11_givesItem_44 : At cX11_givesItem 44 (.invokevirtual 265) 3 47 := ⟨by decide +kernel, rfl⟩
theorem a11_givesItem_47 : At cX11_givesItem 47 (.ireturn) 1 48 := ⟨by decide +kernel, rfl⟩
theorem a11_givesItem_48 : At cX11_givesItem 48 (.aload_n 0) 1 49 := ⟨by decide +kernel, rfl⟩
theorem a11_givesItem_49 : At cX11_givesItem 49 (.iconst 4) 1 50 := ⟨by decide +kernel, rfl⟩
theorem a11_givesItem_50 : At cX11_givesItem 50 (.bipush 112) 2 52 := ⟨by decide +kernel, rfl⟩
theorem a11_givesItem_52 : At cX11_givesItem 52 (.bipush 97) 2 54 := ⟨by decide +kernel, rfl⟩
theorem a11_givesItem_54 : At cX11_givesItem 54 (.bipush 114) 2 56 := ⟨by decide +kernel, rfl⟩
theorem a11_givesItem_56 : At cX11_givesItem 56 (.bipush 116) 2 58 := ⟨by decide +kernel, rfl⟩
theorem a11_givesItem_58 : At cX11_givesItem 58 (.iconst 0) 1 59 := ⟨by decide +kernel, rfl⟩
theorem a11_givesItem_59 : At cX11_givesItem 59 (.iconst 0) 1 60 := ⟨by decide +kernel, rfl⟩
theorem a11_givesItem_60 : At cX11_givesItem 60 (.invokevirtual 257) 3 63 := ⟨by decide +kernel, rfl⟩
theorem a11_givesItem_63 : At cX11_givesItem 63 (.ifCond .eq 8) 3 66 := ⟨by decide +kernel, rfl⟩
theorem a11_givesItem_66 : At cX11_givesItem 66 (.aload_n 0) 1 67 := ⟨by decide +kernel, rfl⟩
theorem a11_givesItem_67 : At cX11_givesItem 67 (.invokevirtual 268) 3 70 := ⟨by decide +kernel, rfl⟩
theorem a11_givesItem_70 : At cX11_givesItem 70 (.ireturn) 1 71 := ⟨by decide +kernel, rfl⟩
theorem a11_givesItem_71 : At cX11_givesItem 71 (.aload_n 0) 1 72 := ⟨by decide +kernel, rfl⟩
theorem a11_givesItem_72 : At cX11_givesItem 72 (.iconst 4) 1 73 := ⟨by decide +kernel, rfl⟩
theorem a11_givesItem_73 : At cX11_givesItem 73 (.bipush 116) 2 75 := ⟨by decide +kernel, rfl⟩
theorem a11_givesItem_75 : At cX11_givesItem 75 (.bipush 97) 2 77 := ⟨by decide +kernel, rfl⟩
theorem a11_givesItem_77 : At cX11_givesItem 77 (.bipush 107) 2 79 := ⟨by decide +kernel, rfl⟩
theorem a11_givesItem_79 : At cX11_givesItem 79 (.bipush 101) 2 81 := ⟨by decide +kernel, rfl⟩
theorem a11_givesItem_81 : At cX11_givesItem 81 (.iconst 0) 1 82 := ⟨by decide +kernel, rfl⟩
theorem a11_givesItem_82 : At cX11_givesItem 82 (.iconst 0) 1 83 := ⟨by decide +kernel, rfl⟩
theorem a11_givesItem_83 : At cX11_givesItem 83 (.invokevirtual 257) 3 86 := ⟨by decide +kernel, rfl⟩
theorem a11_givesItem_86 : At cX11_givesItem 86 (.ifCond .eq 8) 3 89 := ⟨by decide +kernel, rfl⟩
theorem a11_givesItem_89 : At cX11_givesItem 89 (.aload_n 0) 1 90 := ⟨by decide +kernel, rfl⟩
theorem a11_givesItem_90 : At cX11_givesItem 90 (.invokevirtual 271) 3 93 := ⟨by decide +kernel, rfl⟩
theorem a11_givesItem_93 : At cX11_givesItem 93 (.ireturn) 1 94 := ⟨by decide +kernel, rfl⟩
theorem a11_givesItem_94 : At cX11_givesItem 94 (.aload_n 0) 1 95 := ⟨by decide +kernel, rfl⟩
theorem a11_givesItem_95 : At cX11_givesItem 95 (.bipush 115) 2 97 := ⟨by decide +kernel, rfl⟩
theorem a11_givesItem_97 : At cX11_givesItem 97 (.bipush 117) 2 99 := ⟨by decide +kernel, rfl⟩
theorem a11_givesItem_99 : At cX11_givesItem 99 (.bipush 109) 2 101 := ⟨by decide +kernel, rfl⟩
theorem a11_givesItem_101 : At cX11_givesItem 101 (.bipush 109) 2 103 := ⟨by decide +kernel, rfl⟩
theorem a11_givesItem_103 : At cX11_givesItem 103 (.bipush 101) 2 105 := ⟨by decide +kernel, rfl⟩
theorem a11_givesItem_105 : At cX11_givesItem 105 (.bipush 114) 2 107 := ⟨by decide +kernel, rfl⟩
theorem a11_givesItem_107 : At cX11_givesItem 107 (.bipush 115) 2 109 := ⟨by decide +kernel, rfl⟩
theorem a11_givesItem_109 : At cX11_givesItem 109 (.invokevirtual 274) 3 112 := ⟨by decide +kernel, rfl⟩
theorem a11_givesItem_112 : At cX11_givesItem 112 (.ifCond .eq 14) 3 115 := ⟨by decide +kernel, rfl⟩
theorem a11_givesItem_115 : At cX11_givesItem 115 (.aload_n 0) 1 116 := ⟨by decide +kernel, rfl⟩
theorem a11_givesItem_116 : At cX11_givesItem 116 (.invokevirtual 277) 3 119 := ⟨by decide +kernel, rfl⟩
theorem a11_givesItem_119 : At cX11_givesItem 119 (.ifCond .eq 7) 3 122 := ⟨by decide +kernel, rfl⟩
theorem a11_givesItem_122 : At cX11_givesItem 122 (.iconst 1) 1 123 := ⟨by decide +kernel, rfl⟩
theorem a11_givesItem_123 : At cX11_givesItem 123 (.goto 4) 3 126 := ⟨by decide +kernel, rfl⟩
theorem a11_givesItem_126 : At cX11_givesItem 126 (.iconst 0) 1 127 := ⟨by decide +kernel, rfl⟩
theorem a11_givesItem_127 : At cX11_givesItem 127 (.ireturn) 1 128 := ⟨by decide +kernel, rfl⟩
def f11_givesItem (k0 : Nat) (σ : Mem) : Option (Int32 × Mem) :=
  bnd (f11_spells k0 5 115 116 111 114 109 0 σ) fun w1 =>
  if w1 = 0 then
  (bnd (f11_spells k0 5 116 104 105 110 103 0 σ) fun w3 =>
  if w3 = 0 then
  (bnd (f11_spells k0 4 112 97 114 116 0 0 σ) fun w5 =>
  if w5 = 0 then
  (bnd (f11_spells k0 4 116 97 107 101 0 0 σ) fun w7 =>
  if w7 = 0 then
  (bnd (f11_spellsSeven k0 115 117 109 109 101 114 115 σ) fun w9 =>
  if w9 = 0 then
  (some (0, σ))
  else
  (bnd (f11_givesSummers k0 σ) fun w11 =>
  if w11.1 = 0 then
  (some (0, w11.2))
  else
  (some (1, w11.2))))
  else
  (bnd (f11_givesTake k0 σ) fun w15 =>
  some (w15.1, w15.2)))
  else
  (bnd (f11_givesPart k0 σ) fun w18 =>
  some (w18.1, w18.2)))
  else
  (bnd (f11_givesThing k0 σ) fun w21 =>
  some (w21.1, w21.2)))
  else
  (bnd (f11_givesStorm k0 σ) fun w24 =>
  some (w24.1, w24.2))
theorem E11_givesItem {k0 : Nat} {σ : Mem} {w : Int32 × Mem} (h : f11_givesItem k0 σ = some w) : Ev m11_givesItem [.inr (.inr (11, k0))] σ (some (.inl w.1) : Option AV) w.2 := by
  unfold f11_givesItem at h
  show Go m11_givesItem 0 [some (.inr (.inr (11, k0)))] [] σ (some (.inl w.1) : Option AV) w.2
  refine g_aload_n a11_givesItem_0 rfl ?_
  refine g_iconst (v := 5) a11_givesItem_1 rfl ?_
  refine g_bipush (v := 115) a11_givesItem_2 rfl ?_
  refine g_bipush (v := 116) a11_givesItem_4 rfl ?_
  refine g_bipush (v := 111) a11_givesItem_6 rfl ?_
  refine g_bipush (v := 114) a11_givesItem_8 rfl ?_
  refine g_bipush (v := 109) a11_givesItem_10 rfl ?_
  refine g_iconst (v := 0) a11_givesItem_12 rfl ?_
  obtain ⟨w1, hw1, h⟩ := bnd_inv h
  refine g_V7s (v1 := .inl w1) (σ1 := σ) a11_givesItem_13 cv11_257 (E11_spells hw1) rfl (fun o2 => ?_)
  refine g_if_eq (tgt := 24) a11_givesItem_16 rfl (fun c26 => ?_) (fun c26 => ?_)
  · have h := (if_pos c26).symm.trans h
    refine g_aload_n a11_givesItem_24 rfl ?_
    refine g_iconst (v := 5) a11_givesItem_25 rfl ?_
    refine g_bipush (v := 116) a11_givesItem_26 rfl ?_
    refine g_bipush (v := 104) a11_givesItem_28 rfl ?_
    refine g_bipush (v := 105) a11_givesItem_30 rfl ?_
    refine g_bipush (v := 110) a11_givesItem_32 rfl ?_
    refine g_bipush (v := 103) a11_givesItem_34 rfl ?_
    refine g_iconst (v := 0) a11_givesItem_36 rfl ?_
    obtain ⟨w3, hw3, h⟩ := bnd_inv h
    refine g_V7s (v1 := .inl w3) (σ1 := σ) a11_givesItem_37 cv11_257 (E11_spells hw3) rfl (fun o4 => ?_)
    refine g_if_eq (tgt := 48) a11_givesItem_40 rfl (fun c23 => ?_) (fun c23 => ?_)
    · have h := (if_pos c23).symm.trans h
      refine g_aload_n a11_givesItem_48 rfl ?_
      refine g_iconst (v := 4) a11_givesItem_49 rfl ?_
      refine g_bipush (v := 112) a11_givesItem_50 rfl ?_
      refine g_bipush (v := 97) a11_givesItem_52 rfl ?_
      refine g_bipush (v := 114) a11_givesItem_54 rfl ?_
      refine g_bipush (v := 116) a11_givesItem_56 rfl ?_
      refine g_iconst (v := 0) a11_givesItem_58 rfl ?_
      refine g_iconst (v := 0) a11_givesItem_59 rfl ?_
      obtain ⟨w5, hw5, h⟩ := bnd_inv h
      refine g_V7s (v1 := .inl w5) (σ1 := σ) a11_givesItem_60 cv11_257 (E11_spells hw5) rfl (fun o6 => ?_)
      refine g_if_eq (tgt := 71) a11_givesItem_63 rfl (fun c20 => ?_) (fun c20 => ?_)
      · have h := (if_pos c20).symm.trans h
        refine g_aload_n a11_givesItem_71 rfl ?_
        refine g_iconst (v := 4) a11_givesItem_72 rfl ?_
        refine g_bipush (v := 116) a11_givesItem_73 rfl ?_
        refine g_bipush (v := 97) a11_givesItem_75 rfl ?_
        refine g_bipush (v := 107) a11_givesItem_77 rfl ?_
        refine g_bipush (v := 101) a11_givesItem_79 rfl ?_
        refine g_iconst (v := 0) a11_givesItem_81 rfl ?_
        refine g_iconst (v := 0) a11_givesItem_82 rfl ?_
        obtain ⟨w7, hw7, h⟩ := bnd_inv h
        refine g_V7s (v1 := .inl w7) (σ1 := σ) a11_givesItem_83 cv11_257 (E11_spells hw7) rfl (fun o8 => ?_)
        refine g_if_eq (tgt := 94) a11_givesItem_86 rfl (fun c17 => ?_) (fun c17 => ?_)
        · have h := (if_pos c17).symm.trans h
          refine g_aload_n a11_givesItem_94 rfl ?_
          refine g_bipush (v := 115) a11_givesItem_95 rfl ?_
          refine g_bipush (v := 117) a11_givesItem_97 rfl ?_
          refine g_bipush (v := 109) a11_givesItem_99 rfl ?_
          refine g_bipush (v := 109) a11_givesItem_101 rfl ?_
          refine g_bipush (v := 101) a11_givesItem_103 rfl ?_
          refine g_bipush (v := 114) a11_givesItem_105 rfl ?_
          refine g_bipush (v := 115) a11_givesItem_107 rfl ?_
          obtain ⟨w9, hw9, h⟩ := bnd_inv h
          refine g_V7s (v1 := .inl w9) (σ1 := σ) a11_givesItem_109 cv11_274 (E11_spellsSeven hw9) rfl (fun o10 => ?_)
          refine g_if_eq (tgt := 126) a11_givesItem_112 rfl (fun c14 => ?_) (fun c14 => ?_)
          · have h := (if_pos c14).symm.trans h
            refine g_iconst (v := 0) a11_givesItem_126 rfl ?_
            have h := Option.some.inj h
            subst h
            exact g_retE a11_givesItem_127 (Or.inl rfl) rfl rfl
          · have h := (if_neg c14).symm.trans h
            refine g_aload_n a11_givesItem_115 rfl ?_
            obtain ⟨w11, hw11, h⟩ := bnd_inv h
            refine g_V0s (v1 := .inl w11.1) (σ1 := w11.2) a11_givesItem_116 cv11_277 (E11_givesSummers hw11) rfl (fun o12 => ?_)
            refine g_if_eq (tgt := 126) a11_givesItem_119 rfl (fun c13 => ?_) (fun c13 => ?_)
            · have h := (if_pos c13).symm.trans h
              refine g_iconst (v := 0) a11_givesItem_126 rfl ?_
              have h := Option.some.inj h
              subst h
              exact g_retE a11_givesItem_127 (Or.inl rfl) rfl rfl
            · have h := (if_neg c13).symm.trans h
              refine g_iconst (v := 1) a11_givesItem_122 rfl ?_
              refine g_goto (tgt := 127) a11_givesItem_123 rfl ?_
              have h := Option.some.inj h
              subst h
              exact g_retE a11_givesItem_127 (Or.inr rfl) rfl rfl
        · have h := (if_neg c17).symm.trans h
          refine g_aload_n a11_givesItem_89 rfl ?_
          obtain ⟨w15, hw15, h⟩ := bnd_inv h
          refine g_V0s (v1 := .inl w15.1) (σ1 := w15.2) a11_givesItem_90 cv11_271 (E11_givesTake hw15) rfl (fun o16 => ?_)
          have h := Option.some.inj h
          subst h
          exact g_retE a11_givesItem_93 o16 rfl rfl
      · have h := (if_neg c20).symm.trans h
        refine g_aload_n a11_givesItem_66 rfl ?_
        obtain ⟨w18, hw18, h⟩ := bnd_inv h
        refine g_V0s (v1 := .inl w18.1) (σ1 := w18.2) a11_givesItem_67 cv11_268 (E11_givesPart hw18) rfl (fun o19 => ?_)
        have h := Option.some.inj h
        subst h
        exact g_retE a11_givesItem_70 o19 rfl rfl
    · have h := (if_neg c23).symm.trans h
      refine g_aload_n a11_givesItem_43 rfl ?_
      obtain ⟨w21, hw21, h⟩ := bnd_inv h
      refine g_V0s (v1 := .inl w21.1) (σ1 := w21.2) a11_givesItem_44 cv11_265 (E11_givesThing hw21) rfl (fun o22 => ?_)
      have h := Option.some.inj h
      subst h
      exact g_retE a11_givesItem_47 o22 rfl rfl
  · have h := (if_neg c26).symm.trans h
    refine g_aload_n a11_givesItem_19 rfl ?_
    obtain ⟨w24, hw24, h⟩ := bnd_inv h
    refine g_V0s (v1 := .inl w24.1) (σ1 := w24.2) a11_givesItem_20 cv11_261 (E11_givesStorm hw24) rfl (fun o25 => ?_)
    have h := Option.some.inj h
    subst h
    exact g_retE a11_givesItem_23 o25 rfl rfl
theorem a11_read_0 : At cX11_read 0 (.aload_n 0) 1 1 := ⟨by decide +kernel, rfl⟩
theorem a11_read_1 : At cX11_read 1 (.iconst 0) 1 2 := ⟨by decide +kernel, rfl⟩
theorem a11_read_2 : At cX11_read 2 (.invokevirtual 247) 3 5 := ⟨by decide +kernel, rfl⟩
theorem a11_read_5 : At cX11_read 5 (.aload_n 0) 1 6 := ⟨by decide +kernel, rfl⟩
theorem a11_read_6 : At cX11_read 6 (.bipush 118) 2 8 := ⟨by decide +kernel, rfl⟩
theorem a11_read_8 : At cX11_read 8 (.bipush 105) 2 10 := ⟨by decide +kernel, rfl⟩
theorem a11_read_10 : At cX11_read 10 (.bipush 108) 2 12 := ⟨by decide +kernel, rfl⟩
theorem a11_read_12 : At cX11_read 12 (.bipush 108) 2 14 := ⟨by decide +kernel, rfl⟩
theorem a11_read_14 : At cX11_read 14 (.bipush 97) 2 16 := ⟨by decide +kernel, rfl⟩
theorem a11_read_16 : At cX11_read 16 (.bipush 103) 2 18 := ⟨by decide +kernel, rfl⟩
theorem a11_read_18 : At cX11_read 18 (.bipush 101) 2 20 := ⟨by decide +kernel, rfl⟩
theorem a11_read_20 : At cX11_read 20 (.invokevirtual 274) 3 23 := ⟨by decide +kernel, rfl⟩
theorem a11_read_23 : At cX11_read 23 (.ifCond .ne 11) 3 26 := ⟨by decide +kernel, rfl⟩
theorem a11_read_26 : At cX11_read 26 (.bipush (-10)) 2 28 := ⟨by decide +kernel, rfl⟩
theorem a11_read_28 : At cX11_read 28 (.aload_n 0) 1 29 := ⟨by decide +kernel, rfl⟩
theorem a11_read_29 : At cX11_read 29 (.getfield 229) 3 32 := ⟨by decide +kernel, rfl⟩
theorem a11_read_32 : At cX11_read 32 (.isub) 1 33 := ⟨by decide +kernel, rfl⟩
theorem a11_read_33 : At cX11_read 33 (.ireturn) 1 34 := ⟨by decide +kernel, rfl⟩
theorem a11_read_34 : At cX11_read 34 (.aload_n 0) 1 35 := ⟨by decide +kernel, rfl⟩
theorem a11_read_35 : At cX11_read 35 (.invokevirtual 251) 3 38 := ⟨by decide +kernel, rfl⟩
theorem a11_read_38 : At cX11_read 38 (.aload_n 0) 1 39 := ⟨by decide +kernel, rfl⟩
theorem a11_read_39 : At cX11_read 39 (.getfield 235) 3 42 := ⟨by decide +kernel, rfl⟩
theorem a11_read_42 : At cX11_read 42 (.iconst 3) 1 43 := ⟨by decide +kernel, rfl⟩
theorem a11_read_43 : At cX11_read 43 (.if_icmp .eq 11) 3 46 := ⟨by decide +kernel, rfl⟩
theorem a11_read_46 : At cX11_read 46 (.bipush (-10)) 2 48 := ⟨by decide +kernel, rfl⟩
theorem a11_read_48 : At cX11_read 48 (.aload_n 0) 1 49 := ⟨by decide +kernel, rfl⟩
theorem a11_read_49 : At cX11_read 49 (.getfield 229) 3 52 := ⟨by decide +kernel, rfl⟩
theorem a11_read_52 : At cX11_read 52 (.isub) 1 53 := ⟨by decide +kernel, rfl⟩
theorem a11_read_53 : At cX11_read 53 (.ireturn) 1 54 := ⟨by decide +kernel, rfl⟩
theorem a11_read_54 : At cX11_read 54 (.aload_n 0) 1 55 := ⟨by decide +kernel, rfl⟩
theorem a11_read_55 : At cX11_read 55 (.invokevirtual 251) 3 58 := ⟨by decide +kernel, rfl⟩
theorem a11_read_58 : At cX11_read 58 (.aload_n 0) 1 59 := ⟨by decide +kernel, rfl⟩
theorem a11_read_59 : At cX11_read 59 (.getfield 45) 3 62 := ⟨by decide +kernel, rfl⟩
theorem a11_read_62 : At cX11_read 62 (.invokestatic 51) 3 65 := ⟨by decide +kernel, rfl⟩
theorem a11_read_65 : At cX11_read 65 (.iconst 1) 1 66 := ⟨by decide +kernel, rfl⟩
theorem a11_read_66 : At cX11_read 66 (.istore_n 1) 1 67 := ⟨by decide +kernel, rfl⟩
theorem a11_read_67 : At cX11_read 67 (.aload_n 0) 1 68 := ⟨by decide +kernel, rfl⟩
theorem a11_read_68 : At cX11_read 68 (.getfield 235) 3 71 := ⟨by decide +kernel, rfl⟩
theorem a11_read_71 : At cX11_read 71 (.ifCond .eq 36) 3 74 := ⟨by decide +kernel, rfl⟩
theorem a11_read_74 : At cX11_read 74 (.aload_n 0) 1 75 := ⟨by decide +kernel, rfl⟩
theorem a11_read_75 : At cX11_read 75 (.invokevirtual 280) 3 78 := ⟨by decide +kernel, rfl⟩
theorem a11_read_78 : At cX11_read 78 (.ifCond .eq 11) 3 81 := ⟨by decide +kernel, rfl⟩
theorem a11_read_81 : At cX11_read 81 (.aload_n 0) 1 82 := ⟨by decide +kernel, rfl⟩
theorem a11_read_82 : At cX11_read 82 (.getfield 235) 3 85 := ⟨by decide +kernel, rfl⟩
theorem a11_read_85 : At cX11_read 85 (.iconst 3) 1 86 := ⟨by decide +kernel, rfl⟩
theorem a11_read_86 : At cX11_read 86 (.if_icmp .eq 11) 3 89 := ⟨by decide +kernel, rfl⟩
theorem a11_read_89 : At cX11_read 89 (.bipush (-10)) 2 91 := ⟨by decide +kernel, rfl⟩
theorem a11_read_91 : At cX11_read 91 (.aload_n 0) 1 92 := ⟨by decide +kernel, rfl⟩
theorem a11_read_92 : At cX11_read 92 (.getfield 229) 3 95 := ⟨by decide +kernel, rfl⟩
theorem a11_read_95 : At cX11_read 95 (.isub) 1 96 := ⟨by decide +kernel, rfl⟩
theorem a11_read_96 : At cX11_read 96 (.ireturn) 1 97 := ⟨by decide +kernel, rfl⟩
theorem a11_read_97 : At cX11_read 97 (.aload_n 0) 1 98 := ⟨by decide +kernel, rfl⟩
theorem a11_read_98 : At cX11_read 98 (.invokevirtual 251) 3 101 := ⟨by decide +kernel, rfl⟩
theorem a11_read_101 : At cX11_read 101 (.iinc 1 1) 3 104 := ⟨by decide +kernel, rfl⟩
theorem a11_read_104 : At cX11_read 104 (.goto (-37)) 3 107 := ⟨by decide +kernel, rfl⟩
theorem a11_read_107 : At cX11_read 107 (.iconst 0) 1 108 := ⟨by decide +kernel, rfl⟩
theorem a11_read_108 : At cX11_read 108 (.istore_n 2) 1 109 := ⟨by decide +kernel, rfl⟩
theorem a11_read_109 : At cX11_read 109 (.iload_n 2) 1 110 := ⟨by decide +kernel, rfl⟩
theorem a11_read_110 : At cX11_read 110 (.bipush 110) 2 112 := ⟨by decide +kernel, rfl⟩
theorem a11_read_112 : At cX11_read 112 (.if_icmp .ge 21) 3 115 := ⟨by decide +kernel, rfl⟩
theorem a11_read_115 : At cX11_read 115 (.aload_n 0) 1 116 := ⟨by decide +kernel, rfl⟩
theorem a11_read_116 : At cX11_read 116 (.getfield 7) 3 119 := ⟨by decide +kernel, rfl⟩
theorem a11_read_119 : At cX11_read 119 (.iload_n 2) 1 120 := ⟨by decide +kernel, rfl⟩
theorem a11_read_120 : At cX11_read 120 (.aload_n 0) 1 121 := ⟨by decide +kernel, rfl⟩
theorem a11_read_121 : At cX11_read 121 (.getfield 45) 3 124 := ⟨by decide +kernel, rfl⟩
theorem a11_read_124 : At cX11_read 124 (.iload_n 2) 1 125 := ⟨by decide +kernel, rfl⟩
theorem a11_read_125 : At cX11_read 125 (.iaload) 1 126 := ⟨by decide +kernel, rfl⟩
theorem a11_read_126 : At cX11_read 126 (.iastore) 1 127 := ⟨by decide +kernel, rfl⟩
theorem a11_read_127 : At cX11_read 127 (.iinc 2 1) 3 130 := ⟨by decide +kernel, rfl⟩
theorem a11_read_130 : At cX11_read 130 (.goto (-21)) 3 133 := ⟨by decide +kernel, rfl⟩
theorem a11_read_133 : At cX11_read 133 (.iload_n 1) 1 134 := ⟨by decide +kernel, rfl⟩
theorem a11_read_134 : At cX11_read 134 (.ireturn) 1 135 := ⟨by decide +kernel, rfl⟩
def l11_read_67 (k0 : Nat) : Nat → Int32 → Mem → Option ((Int32 × Mem) ⊕ (Int32 × Mem))
  | 0, _, _ => none
  | n + 1, x1, σ =>
  if (σ.1 11 k0 15) = 0 then
  (some (.inl (x1, σ)))
  else
  (bnd (f11_givesItem k0 σ) fun w11 =>
  if w11.1 = 0 then
  (some (.inr (((-10) - (w11.2.1 11 k0 13)), w11.2)))
  else
  (if (w11.2.1 11 k0 15) = 3 then
  (bnd (f11_goBehind k0 w11.2) fun w13 =>
  l11_read_67 k0 n (x1 + 1) w13)
  else
  (some (.inr (((-10) - (w11.2.1 11 k0 13)), w11.2)))))
theorem lE11_read_67 {V : Option AV} {S : Mem} (k0 : Nat) : ∀ (n : Nat) (x1 : Int32) (σ : Mem) {w : (Int32 × Mem) ⊕ (Int32 × Mem)}, l11_read_67 k0 n x1 σ = some w → (∀ u, w = .inl u → Go m11_read 107 [some (.inr (.inr (11, k0))), some (.inl u.1), none] [] u.2 V S) → (∀ u, w = .inr u → (some (.inl u.1) : Option AV) = V ∧ u.2 = S) → Go m11_read 67 [some (.inr (.inr (11, k0))), some (.inl x1), none] [] σ V S
  | 0, x1, σ, w, h, K1, K2 => by cases h
  | n + 1, x1, σ, w, h, K1, K2 => by
    rw [l11_read_67] at h
    refine g_aload_n a11_read_67 rfl ?_
    refine g_getf (v := .inl (σ.1 11 k0 15)) a11_read_68 fs11_235 rfl ?_
    refine g_if_eq (tgt := 107) a11_read_71 rfl (fun c17 => ?_) (fun c17 => ?_)
    · have h := (if_pos c17).symm.trans h
      have h := Option.some.inj h
      subst h
      exact g_weak (K1 _ rfl) ⟨rfl, rfl, trivial⟩
    · have h := (if_neg c17).symm.trans h
      refine g_aload_n a11_read_74 rfl ?_
      obtain ⟨w11, hw11, h⟩ := bnd_inv h
      refine g_V0s (v1 := .inl w11.1) (σ1 := w11.2) a11_read_75 cv11_280 (E11_givesItem hw11) rfl (fun o12 => ?_)
      refine g_if_eq (tgt := 89) a11_read_78 rfl (fun c16 => ?_) (fun c16 => ?_)
      · have h := (if_pos c16).symm.trans h
        refine g_bipush (v := (-10)) a11_read_89 rfl ?_
        refine g_aload_n a11_read_91 rfl ?_
        refine g_getf (v := .inl (w11.2.1 11 k0 13)) a11_read_92 fs11_229 rfl ?_
        refine g_isub a11_read_95 ?_
        have h := Option.some.inj h
        subst h
        obtain ⟨hV, hS⟩ := K2 _ rfl
        subst hV; subst hS
        exact g_retE a11_read_96 trivial rfl rfl
      · have h := (if_neg c16).symm.trans h
        refine g_aload_n a11_read_81 rfl ?_
        refine g_getf (v := .inl (w11.2.1 11 k0 15)) a11_read_82 fs11_235 rfl ?_
        refine g_iconst (v := 3) a11_read_85 rfl ?_
        refine g_icmp_eq (tgt := 97) a11_read_86 rfl (fun c15 => ?_) (fun c15 => ?_)
        · have h := (if_pos c15).symm.trans h
          refine g_aload_n a11_read_97 rfl ?_
          obtain ⟨w13, hw13, h⟩ := bnd_inv h
          refine g_V0n (σ1 := w13) a11_read_98 cv11_251 (E11_goBehind hw13) rfl (fun o14 => ?_)
          refine g_iinc (v := (x1 + 1)) (L' := [some (.inr (.inr (11, k0))), some (.inl (x1 + 1)), none]) a11_read_101 rfl rfl (Nat.le_of_ble_eq_true rfl) rfl rfl ?_
          refine g_goto (tgt := 67) a11_read_104 rfl ?_
          exact g_weak (lE11_read_67 (V := V) (S := S)  k0 n _ _ h K1 K2) ⟨rfl, rfl, trivial⟩
        · have h := (if_neg c15).symm.trans h
          refine g_bipush (v := (-10)) a11_read_89 rfl ?_
          refine g_aload_n a11_read_91 rfl ?_
          refine g_getf (v := .inl (w11.2.1 11 k0 13)) a11_read_92 fs11_229 rfl ?_
          refine g_isub a11_read_95 ?_
          have h := Option.some.inj h
          subst h
          obtain ⟨hV, hS⟩ := K2 _ rfl
          subst hV; subst hS
          exact g_retE a11_read_96 trivial rfl rfl
def l11_read_109 (k0 : Nat) (x1 : Int32) : Nat → Int32 → Mem → Option (Int32 × Mem)
  | 0, _, _ => none
  | n + 1, x2, σ =>
  if 110 ≤ x2 then
  (some (x2, σ))
  else
  (ck (inb x2 110) <|
  ck (inb x2 142) <|
  lt (sI σ 22 0 (x2 : Int32).toNatClampNeg (σ.1 22 10 (x2 : Int32).toNatClampNeg)) fun σ22 =>
  l11_read_109 k0 x1 n (x2 + 1) σ22)
theorem lE11_read_109 {V : Option AV} {S : Mem} (k0 : Nat) (x1 : Int32) : ∀ (n : Nat) (x2 : Int32) (σ : Mem) {w : Int32 × Mem}, l11_read_109 k0 x1 n x2 σ = some w → (Go m11_read 133 [some (.inr (.inr (11, k0))), some (.inl x1), some (.inl w.1)] [] w.2 V S) → Go m11_read 109 [some (.inr (.inr (11, k0))), some (.inl x1), some (.inl x2)] [] σ V S
  | 0, x2, σ, w, h, K1 => by cases h
  | n + 1, x2, σ, w, h, K1 => by
    rw [l11_read_109] at h
    refine g_iload_n a11_read_109 rfl ?_
    refine g_bipush (v := 110) a11_read_110 rfl ?_
    refine g_icmp_ge (tgt := 133) a11_read_112 rfl (fun c23 => ?_) (fun c23 => ?_)
    · have h := (if_pos c23).symm.trans h
      have h := Option.some.inj h
      subst h
      exact g_weak K1 ⟨rfl, rfl, rfl, trivial⟩
    · have h := (if_neg c23).symm.trans h
      refine g_aload_n a11_read_115 rfl ?_
      refine g_getf (v := .inr (.inr (22, 0))) a11_read_116 fs11_7 rfl ?_
      refine g_iload_n a11_read_119 rfl ?_
      refine g_aload_n a11_read_120 rfl ?_
      refine g_getf (v := .inr (.inr (22, 10))) a11_read_121 fs11_45 rfl ?_
      refine g_iload_n a11_read_124 rfl ?_
      obtain ⟨q20, h⟩ := ck_inv h
      refine g_iald (x := (σ.1 22 10 (x2 : Int32).toNatClampNeg)) a11_read_125 (rI22 (by decide)) (inb_ok q20) rfl ?_
      obtain ⟨q21, h⟩ := ck_inv h
      obtain ⟨σ22, eσ22, h⟩ := lt_inv h
      refine g_iast (j := (x2 : Int32).toNatClampNeg) a11_read_126 (rI22 (by decide)) (inb_ok q21) rfl ?_
      rw [eσ22]
      refine g_iinc (v := (x2 + 1)) (L' := [some (.inr (.inr (11, k0))), some (.inl x1), some (.inl (x2 + 1))]) a11_read_127 rfl rfl (Nat.le_of_ble_eq_true rfl) rfl rfl ?_
      refine g_goto (tgt := 109) a11_read_130 rfl ?_
      exact g_weak (lE11_read_109 (V := V) (S := S)  k0 x1 n _ _ h K1) ⟨rfl, rfl, rfl, trivial⟩
def f11_read (k0 : Nat) (σ : Mem) : Option (Int32 × Mem) :=
  bnd (f11_lookAt k0 0 σ) fun w1 =>
  bnd (f11_spellsSeven k0 118 105 108 108 97 103 101 w1) fun w3 =>
  if w3 = 0 then
  (some (((-10) - (w1.1 11 k0 13)), w1))
  else
  (bnd (f11_goBehind k0 w1) fun w5 =>
  if (w5.1 11 k0 15) = 3 then
  (bnd (f11_goBehind k0 w5) fun w7 =>
  bnd (f11_begin 10 w7) fun w9 =>
  bnd (l11_read_67 k0 2000 1 w9) fun w18 =>
  sm w18 (fun u19 =>
  bnd (l11_read_109 k0 u19.1 2000 0 u19.2) fun w24 =>
  some (u19.1, w24.2)) (fun u19 => some u19))
  else
  (some (((-10) - (w5.1 11 k0 13)), w5)))
theorem E11_read {k0 : Nat} {σ : Mem} {w : Int32 × Mem} (h : f11_read k0 σ = some w) : Ev m11_read [.inr (.inr (11, k0))] σ (some (.inl w.1) : Option AV) w.2 := by
  unfold f11_read at h
  show Go m11_read 0 [some (.inr (.inr (11, k0))), none, none] [] σ (some (.inl w.1) : Option AV) w.2
  refine g_aload_n a11_read_0 rfl ?_
  refine g_iconst (v := 0) a11_read_1 rfl ?_
  obtain ⟨w1, hw1, h⟩ := bnd_inv h
  refine g_V1n (σ1 := w1) a11_read_2 cv11_247 (E11_lookAt hw1) rfl (fun o2 => ?_)
  refine g_aload_n a11_read_5 rfl ?_
  refine g_bipush (v := 118) a11_read_6 rfl ?_
  refine g_bipush (v := 105) a11_read_8 rfl ?_
  refine g_bipush (v := 108) a11_read_10 rfl ?_
  refine g_bipush (v := 108) a11_read_12 rfl ?_
  refine g_bipush (v := 97) a11_read_14 rfl ?_
  refine g_bipush (v := 103) a11_read_16 rfl ?_
  refine g_bipush (v := 101) a11_read_18 rfl ?_
  obtain ⟨w3, hw3, h⟩ := bnd_inv h
  refine g_V7s (v1 := .inl w3) (σ1 := w1) a11_read_20 cv11_274 (E11_spellsSeven hw3) rfl (fun o4 => ?_)
  refine g_if_ne (tgt := 34) a11_read_23 rfl (fun c26 => ?_) (fun c26 => ?_)
  · have h := (if_neg c26).symm.trans h
    refine g_aload_n a11_read_34 rfl ?_
    obtain ⟨w5, hw5, h⟩ := bnd_inv h
    refine g_V0n (σ1 := w5) a11_read_35 cv11_251 (E11_goBehind hw5) rfl (fun o6 => ?_)
    refine g_aload_n a11_read_38 rfl ?_
    refine g_getf (v := .inl (w5.1 11 k0 15)) a11_read_39 fs11_235 rfl ?_
    refine g_iconst (v := 3) a11_read_42 rfl ?_
    refine g_icmp_eq (tgt := 54) a11_read_43 rfl (fun c25 => ?_) (fun c25 => ?_)
    · have h := (if_pos c25).symm.trans h
      refine g_aload_n a11_read_54 rfl ?_
      obtain ⟨w7, hw7, h⟩ := bnd_inv h
      refine g_V0n (σ1 := w7) a11_read_55 cv11_251 (E11_goBehind hw7) rfl (fun o8 => ?_)
      refine g_aload_n a11_read_58 rfl ?_
      refine g_getf (v := .inr (.inr (22, 10))) a11_read_59 fs11_45 rfl ?_
      obtain ⟨w9, hw9, h⟩ := bnd_inv h
      refine g_S1n (σ1 := w9) a11_read_62 cs11_51 (E11_begin hw9) rfl (fun o10 => ?_)
      refine g_iconst (v := 1) a11_read_65 rfl ?_
      refine g_istore_n (L' := [some (.inr (.inr (11, k0))), some (.inl 1), none]) a11_read_66 (Nat.le_of_ble_eq_true rfl) rfl rfl ?_
      obtain ⟨w18, hw18, h⟩ := bnd_inv h
      rcases w18 with u19 | u19
      · have h := sm_l h
        refine g_weak (lE11_read_67 k0 2000 _ _ hw18 (fun _ e => ?_) (fun _ e => by cases e)) ⟨rfl, rfl, trivial⟩
        cases e
        refine g_iconst (v := 0) a11_read_107 rfl ?_
        refine g_istore_n (L' := [some (.inr (.inr (11, k0))), some (.inl u19.1), some (.inl 0)]) a11_read_108 (Nat.le_of_ble_eq_true rfl) rfl rfl ?_
        obtain ⟨w24, hw24, h⟩ := bnd_inv h
        refine g_weak (lE11_read_109 k0 u19.1 2000 _ _ hw24 ?_) ⟨rfl, rfl, rfl, trivial⟩
        refine g_iload_n a11_read_133 rfl ?_
        have h := Option.some.inj h
        subst h
        exact g_retE a11_read_134 trivial rfl rfl
      · have h := sm_r h
        have h := Option.some.inj h
        subst h
        exact g_weak (lE11_read_67 k0 2000 _ _ hw18 (fun _ e => by cases e) (fun _ e => by cases e; exact ⟨rfl, rfl⟩)) ⟨rfl, rfl, trivial⟩
    · have h := (if_neg c25).symm.trans h
      refine g_bipush (v := (-10)) a11_read_46 rfl ?_
      refine g_aload_n a11_read_48 rfl ?_
      refine g_getf (v := .inl (w5.1 11 k0 13)) a11_read_49 fs11_229 rfl ?_
      refine g_isub a11_read_52 ?_
      have h := Option.some.inj h
      subst h
      exact g_retE a11_read_53 trivial rfl rfl
  · have h := (if_pos c26).symm.trans h
    refine g_bipush (v := (-10)) a11_read_26 rfl ?_
    refine g_aload_n a11_read_28 rfl ?_
    refine g_getf (v := .inl (w1.1 11 k0 13)) a11_read_29 fs11_229 rfl ?_
    refine g_isub a11_read_32 ?_
    have h := Option.some.inj h
    subst h
    exact g_retE a11_read_33 trivial rfl rfl
theorem a11_part_0 : At cX11_part 0 (.iload_n 1) 1 1 := ⟨by decide +kernel, rfl⟩
theorem a11_part_1 : At cX11_part 1 (.ifCond .ne 10) 3 4 := ⟨by decide +kernel, rfl⟩
theorem a11_part_4 : At cX11_part 4 (.aload_n 0) 1 5 := ⟨by decide +kernel, rfl⟩
theorem a11_part_5 : At cX11_part 5 (.getfield 192) 3 8 := ⟨by decide +kernel, rfl⟩
theorem a11_part_8 : At cX11_part 8 (.goto 22) 3 11 := ⟨by decide +kernel, rfl⟩
theorem a11_part_11 : At cX11_part 11 (.iload_n 1) 1 12 := ⟨by decide +kernel, rfl⟩
theorem a11_part_12 : At cX11_part 12 (.iconst 1) 1 13 := ⟨by decide +kernel, rfl⟩
theorem a11_part_13 : At cX11_part 13 (.if_icmp .ne 10) 3 16 := ⟨by decide +kernel, rfl⟩
theorem a11_part_16 : At cX11_part 16 (.aload_n 0) 1 17 := ⟨by decide +kernel, rfl⟩
theorem a11_part_17 : At cX11_part 17 (.getfield 23) 3 20 := ⟨by decide +kernel, rfl⟩
theorem a11_part_20 : At cX11_part 20 (.goto 10) 3 23 := ⟨by decide +kernel, rfl⟩
theorem a11_part_23 : At cX11_part 23 (.aload_n 0) 1 24 := ⟨by decide +kernel, rfl⟩
theorem a11_part_24 : At cX11_part 24 (.bipush (-2)) 2 26 := ⟨by decide +kernel, rfl⟩
theorem a11_part_26 : At cX11_part 26 (.invokevirtual 73) 3 29 := ⟨by decide +kernel, rfl⟩
theorem a11_part_29 : At cX11_part 29 (.i2l) 1 30 := ⟨by decide +kernel, rfl⟩
theorem a11_part_30 : At cX11_part 30 (.lreturn) 1 31 := ⟨by decide +kernel, rfl⟩
def f11_part (k0 : Nat) (x1 : Int32) (σ : Mem) : Int64 × Mem :=
  if x1 = 0 then
  (((σ.2 11 k0 4), σ))
  else
  (if x1 = 1 then
  (((σ.2 11 k0 5), σ))
  else
  (lt (f11_bad k0 (-2) σ) fun w1 =>
  ((w1.1.toInt64), w1.2)))
theorem E11_part (k0 : Nat) (x1 : Int32) (σ : Mem) : Ev m11_part [.inr (.inr (11, k0)), .inl x1] σ (some (.inr (.inl ((f11_part k0 x1 σ).1))) : Option AV) (f11_part k0 x1 σ).2 := by
  obtain ⟨w, h⟩ : ∃ w, f11_part k0 x1 σ = w := ⟨_, rfl⟩
  rw [h]
  unfold f11_part at h
  show Go m11_part 0 [some (.inr (.inr (11, k0))), some (.inl x1)] [] σ (some (.inr (.inl w.1)) : Option AV) w.2
  refine g_iload_n a11_part_0 rfl ?_
  refine g_if_ne (tgt := 11) a11_part_1 rfl (fun c4 => ?_) (fun c4 => ?_)
  · have h := (if_neg c4).symm.trans h
    refine g_iload_n a11_part_11 rfl ?_
    refine g_iconst (v := 1) a11_part_12 rfl ?_
    refine g_icmp_ne (tgt := 23) a11_part_13 rfl (fun c3 => ?_) (fun c3 => ?_)
    · have h := (if_neg c3).symm.trans h
      refine g_aload_n a11_part_23 rfl ?_
      refine g_bipush (v := (-2)) a11_part_24 rfl ?_
      obtain ⟨w1, hw1, h⟩ := lt_inv h
      refine g_V1s (v1 := .inl w1.1) (σ1 := w1.2) a11_part_26 cv11_73 (by rw [← hw1]; exact E11_bad _ _ _) rfl (fun o2 => ?_)
      refine g_i2l a11_part_29 ?_
      subst h
      exact g_retE a11_part_30 trivial rfl rfl
    · have h := (if_pos c3).symm.trans h
      refine g_aload_n a11_part_16 rfl ?_
      refine g_getf (v := .inr (.inl (σ.2 11 k0 5))) a11_part_17 fs11_23 rfl ?_
      refine g_goto (tgt := 30) a11_part_20 rfl ?_
      subst h
      exact g_retE a11_part_30 trivial rfl rfl
  · have h := (if_pos c4).symm.trans h
    refine g_aload_n a11_part_4 rfl ?_
    refine g_getf (v := .inr (.inl (σ.2 11 k0 4))) a11_part_5 fs11_192 rfl ?_
    refine g_goto (tgt := 30) a11_part_8 rfl ?_
    subst h
    exact g_retE a11_part_30 trivial rfl rfl
