theorem a11_order_0 : At cX11_order 0 (.iload_n 1) 1 1 := ⟨by decide +kernel, rfl⟩
theorem a11_order_1 : At cX11_order 1 (.i2l) 1 2 := ⟨by decide +kernel, rfl⟩
theorem a11_order_2 : At cX11_order 2 (.lconst 0) 1 3 := ⟨by decide +kernel, rfl⟩
theorem a11_order_3 : At cX11_order 3 (.ldc2_w 156) 3 6 := ⟨by decide +kernel, rfl⟩
theorem a11_order_6 : At cX11_order 6 (.invokestatic 59) 3 9 := ⟨by decide +kernel, rfl⟩
theorem a11_order_9 : At cX11_order 9 (.ifCond .eq 8) 3 12 := ⟨by decide +kernel, rfl⟩
theorem a11_order_12 : At cX11_order 12 (.iload_n 2) 1 13 := ⟨by decide +kernel, rfl⟩
theorem a11_order_13 : At cX11_order 13 (.iconst (-1)) 1 14 := ⟨by decide +kernel, rfl⟩
theorem a11_order_14 : At cX11_order 14 (.if_icmp .ge 10) 3 17 := ⟨by decide +kernel, rfl⟩
theorem a11_order_17 : At cX11_order 17 (.aload_n 0) 1 18 := ⟨by decide +kernel, rfl⟩
theorem a11_order_18 : At cX11_order 18 (.bipush (-10)) 2 20 := ⟨by decide +kernel, rfl⟩
theorem a11_order_20 : At cX11_order 20 (.invokevirtual 73) 3 23 := ⟨by decide +kernel, rfl⟩
theorem a11_order_23 : At cX11_order 23 (.ireturn) 1 24 := ⟨by decide +kernel, rfl⟩
theorem a11_order_24 : At cX11_order 24 (.aload_n 0) 1 25 := ⟨by decide +kernel, rfl⟩
theorem a11_order_25 : At cX11_order 25 (.invokevirtual 158) 3 28 := ⟨by decide +kernel, rfl⟩
theorem a11_order_28 : At cX11_order 28 (.istore_n 3) 1 29 := ⟨by decide +kernel, rfl⟩
theorem a11_order_29 : At cX11_order 29 (.iconst 1) 1 30 := ⟨by decide +kernel, rfl⟩
theorem a11_order_30 : At cX11_order 30 (.istore 4) 2 32 := ⟨by decide +kernel, rfl⟩
theorem a11_order_32 : At cX11_order 32 (.iconst (-1)) 1 33 := ⟨by decide +kernel, rfl⟩
theorem a11_order_33 : At cX11_order 33 (.istore 5) 2 35 := ⟨by decide +kernel, rfl⟩
theorem a11_order_35 : At cX11_order 35 (.iconst 2) 1 36 := ⟨by decide +kernel, rfl⟩
theorem a11_order_36 : At cX11_order 36 (.istore 6) 2 38 := ⟨by decide +kernel, rfl⟩
theorem a11_order_38 : At cX11_order 38 (.iload 6) 2 40 := ⟨by decide +kernel, rfl⟩
theorem a11_order_40 : At cX11_order 40 (.iload_n 3) 1 41 := ⟨by decide +kernel, rfl⟩
theorem a11_order_41 : At cX11_order 41 (.if_icmp .gt 16) 3 44 := ⟨by decide +kernel, rfl⟩
theorem a11_order_44 : At cX11_order 44 (.iload 4) 2 46 := ⟨by decide +kernel, rfl⟩
theorem a11_order_46 : At cX11_order 46 (.iload 6) 2 48 := ⟨by decide +kernel, rfl⟩
theorem a11_order_48 : At cX11_order 48 (.imul) 1 49 := ⟨by decide +kernel, rfl⟩
theorem a11_order_49 : At cX11_order 49 (.istore 4) 2 51 := ⟨by decide +kernel, rfl⟩
theorem a11_order_51 : At cX11_order 51 (.iinc 6 1) 3 54 := ⟨by decide +kernel, rfl⟩
theorem a11_order_54 : At cX11_order 54 (.goto (-16)) 3 57 := ⟨by decide +kernel, rfl⟩
theorem a11_order_57 : At cX11_order 57 (.iconst 0) 1 58 := ⟨by decide +kernel, rfl⟩
theorem a11_order_58 : At cX11_order 58 (.istore 6) 2 60 := ⟨by decide +kernel, rfl⟩
theorem a11_order_60 : At cX11_order 60 (.iload 6) 2 62 := ⟨by decide +kernel, rfl⟩
theorem a11_order_62 : At cX11_order 62 (.iload 4) 2 64 := ⟨by decide +kernel, rfl⟩
theorem a11_order_64 : At cX11_order 64 (.if_icmp .ge 64) 3 67 := ⟨by decide +kernel, rfl⟩
theorem a11_order_67 : At cX11_order 67 (.aload_n 0) 1 68 := ⟨by decide +kernel, rfl⟩
theorem a11_order_68 : At cX11_order 68 (.iload 6) 2 70 := ⟨by decide +kernel, rfl⟩
theorem a11_order_70 : At cX11_order 70 (.iload_n 3) 1 71 := ⟨by decide +kernel, rfl⟩
theorem a11_order_71 : At cX11_order 71 (.invokevirtual 161) 3 74 := ⟨by decide +kernel, rfl⟩
theorem a11_order_74 : At cX11_order 74 (.aload_n 0) 1 75 := ⟨by decide +kernel, rfl⟩
theorem a11_order_75 : At cX11_order 75 (.iload_n 3) 1 76 := ⟨by decide +kernel, rfl⟩
theorem a11_order_76 : At cX11_order 76 (.iload_n 1) 1 77 := ⟨by decide +kernel, rfl⟩
theorem a11_order_77 : At cX11_order 77 (.invokevirtual 165) 3 80 := ⟨by decide +kernel, rfl⟩
theorem a11_order_80 : At cX11_order 80 (.istore 7) 2 82 := ⟨by decide +kernel, rfl⟩
theorem a11_order_82 : At cX11_order 82 (.iload 7) 2 84 := ⟨by decide +kernel, rfl⟩
theorem a11_order_84 : At cX11_order 84 (.iload 5) 2 86 := ⟨by decide +kernel, rfl⟩
theorem a11_order_86 : At cX11_order 86 (.if_icmp .le 36) 3 89 := ⟨by decide +kernel, rfl⟩
theorem a11_order_89 : At cX11_order 89 (.iload 7) 2 91 := ⟨by decide +kernel, rfl⟩
theorem a11_order_91 : At cX11_order 91 (.istore 5) 2 93 := ⟨by decide +kernel, rfl⟩
theorem a11_order_93 : At cX11_order 93 (.iconst 0) 1 94 := ⟨by decide +kernel, rfl⟩
theorem a11_order_94 : At cX11_order 94 (.istore 8) 2 96 := ⟨by decide +kernel, rfl⟩
theorem a11_order_96 : At cX11_order 96 (.iload 8) 2 98 := ⟨by decide +kernel, rfl⟩
theorem a11_order_98 : At cX11_order 98 (.iload_n 3) 1 99 := ⟨by decide +kernel, rfl⟩
theorem a11_order_99 : At cX11_order 99 (.if_icmp .ge 23) 3 102 := ⟨by decide +kernel, rfl⟩
theorem a11_order_102 : At cX11_order 102 (.aload_n 0) 1 103 := ⟨by decide +kernel, rfl⟩
theorem a11_order_103 : At cX11_order 103 (.getfield 36) 3 106 := ⟨by decide +kernel, rfl⟩
theorem a11_order_106 : At cX11_order 106 (.iload 8) 2 108 := ⟨by decide +kernel, rfl⟩
theorem a11_order_108 : At cX11_order 108 (.aload_n 0) 1 109 := ⟨by decide +kernel, rfl⟩
theorem a11_order_109 : At cX11_order 109 (.getfield 33) 3 112 := ⟨by decide +kernel, rfl⟩
theorem a11_order_112 : At cX11_order 112 (.iload 8) 2 114 := ⟨by decide +kernel, rfl⟩
theorem a11_order_114 : At cX11_order 114 (.iaload) 1 115 := ⟨by decide +kernel, rfl⟩
theorem a11_order_115 : At cX11_order 115 (.iastore) 1 116 := ⟨by decide +kernel, rfl⟩
theorem a11_order_116 : At cX11_order 116 (.iinc 8 1) 3 119 := ⟨by decide +kernel, rfl⟩
theorem a11_order_119 : At cX11_order 119 (.goto (-23)) 3 122 := ⟨by decide +kernel, rfl⟩
theorem a11_order_122 : At cX11_order 122 (.iinc 6 1) 3 125 := ⟨by decide +kernel, rfl⟩
theorem a11_order_125 : At cX11_order 125 (.goto (-65)) 3 128 := ⟨by decide +kernel, rfl⟩
theorem a11_order_128 : At cX11_order 128 (.iload_n 2) 1 129 := ⟨by decide +kernel, rfl⟩
theorem a11_order_129 : At cX11_order 129 (.iconst (-1)) 1 130 := ⟨by decide +kernel, rfl⟩
theorem a11_order_130 : At cX11_order 130 (.if_icmp .ne 8) 3 133 := ⟨by decide +kernel, rfl⟩
theorem a11_order_133 : At cX11_order 133 (.iload 5) 2 135 := ⟨by decide +kernel, rfl⟩
theorem a11_order_135 : At cX11_order 135 (.goto 19) 3 138 := ⟨by decide +kernel, rfl⟩
theorem a11_order_138 : At cX11_order 138 (.iload_n 2) 1 139 := ⟨by decide +kernel, rfl⟩
theorem a11_order_139 : At cX11_order 139 (.iload_n 3) 1 140 := ⟨by decide +kernel, rfl⟩
theorem a11_order_140 : At cX11_order 140 (.if_icmp .lt 8) 3 143 := ⟨by decide +kernel, rfl⟩
theorem a11_order_143 : At cX11_order 143 (.bipush (-5)) 2 145 := ⟨by decide +kernel, rfl⟩
theorem a11_order_145 : At cX11_order 145 (.goto 9) 3 148 := ⟨by decide +kernel, rfl⟩
theorem a11_order_148 : At cX11_order 148 (.aload_n 0) 1 149 := ⟨by decide +kernel, rfl⟩
theorem a11_order_149 : At cX11_order 149 (.getfield 36) 3 152 := ⟨by decide +kernel, rfl⟩
theorem a11_order_152 : At cX11_order 152 (.iload_n 2) 1 153 := ⟨by decide +kernel, rfl⟩
theorem a11_order_153 : At cX11_order 153 (.iaload) 1 154 := ⟨by decide +kernel, rfl⟩
theorem a11_order_154 : At cX11_order 154 (.ireturn) 1 155 := ⟨by decide +kernel, rfl⟩
def l11_order_38 (k0 : Nat) (x1 : Int32) (x2 : Int32) (x3 : Int32) (x5 : Int32) : Nat → Int32 → Int32 → Option (Int32 × Int32)
  | 0, _, _ => none
  | n + 1, x4, x6 =>
  if x3 < x6 then
  (some (x4, x6))
  else
  (l11_order_38 k0 x1 x2 x3 x5 n (x4 * x6) (x6 + 1))
theorem lE11_order_38 {V : Option AV} {S : Mem} (k0 : Nat) (x1 : Int32) (x2 : Int32) (x3 : Int32) (x5 : Int32) {σ : Mem} : ∀ (n : Nat) (x4 : Int32) (x6 : Int32) {w : Int32 × Int32}, l11_order_38 k0 x1 x2 x3 x5 n x4 x6 = some w → (Go m11_order 57 [some (.inr (.inr (11, k0))), some (.inl x1), some (.inl x2), some (.inl x3), some (.inl w.1), some (.inl x5), some (.inl w.2), none, none] [] σ V S) → Go m11_order 38 [some (.inr (.inr (11, k0))), some (.inl x1), some (.inl x2), some (.inl x3), some (.inl x4), some (.inl x5), some (.inl x6), none, none] [] σ V S
  | 0, x4, x6, w, h, K1 => by cases h
  | n + 1, x4, x6, w, h, K1 => by
    rw [l11_order_38] at h
    refine g_iload a11_order_38 rfl ?_
    refine g_iload_n a11_order_40 rfl ?_
    refine g_icmp_gt (tgt := 57) a11_order_41 rfl (fun c6 => ?_) (fun c6 => ?_)
    · have h := (if_pos c6).symm.trans h
      have h := Option.some.inj h
      subst h
      exact g_weak K1 ⟨rfl, rfl, rfl, rfl, rfl, rfl, rfl, trivial⟩
    · have h := (if_neg c6).symm.trans h
      refine g_iload a11_order_44 rfl ?_
      refine g_iload a11_order_46 rfl ?_
      refine g_imul a11_order_48 ?_
      refine g_istore (L' := [some (.inr (.inr (11, k0))), some (.inl x1), some (.inl x2), some (.inl x3), some (.inl (x4 * x6)), some (.inl x5), some (.inl x6), none, none]) a11_order_49 (Nat.le_of_ble_eq_true rfl) rfl rfl ?_
      refine g_iinc (v := (x6 + 1)) (L' := [some (.inr (.inr (11, k0))), some (.inl x1), some (.inl x2), some (.inl x3), some (.inl (x4 * x6)), some (.inl x5), some (.inl (x6 + 1)), none, none]) a11_order_51 rfl rfl (Nat.le_of_ble_eq_true rfl) rfl rfl ?_
      refine g_goto (tgt := 38) a11_order_54 rfl ?_
      exact g_weak (lE11_order_38 (V := V) (S := S)  k0 x1 x2 x3 x5 n _ _ h K1) ⟨rfl, rfl, rfl, rfl, rfl, rfl, rfl, trivial⟩
def l11_order_96 (k0 : Nat) (x1 : Int32) (x2 : Int32) (x3 : Int32) (x4 : Int32) (x5 : Int32) (x6 : Int32) : Nat → Int32 → Mem → Option (Int32 × Mem)
  | 0, _, _ => none
  | n + 1, x8, σ =>
  if x3 ≤ x8 then
  (some (x8, σ))
  else
  (ck (inb x8 6) <|
  ck (inb x8 6) <|
  lt (sI σ 22 7 (x8 : Int32).toNatClampNeg (σ.1 22 6 (x8 : Int32).toNatClampNeg)) fun σ16 =>
  l11_order_96 k0 x1 x2 x3 x4 x5 x6 n (x8 + 1) σ16)
theorem lE11_order_96 {V : Option AV} {S : Mem} (k0 : Nat) (x1 : Int32) (x2 : Int32) (x3 : Int32) (x4 : Int32) (x5 : Int32) (x6 : Int32) : ∀ (n : Nat) (x8 : Int32) (σ : Mem) {w : Int32 × Mem}, l11_order_96 k0 x1 x2 x3 x4 x5 x6 n x8 σ = some w → (Go m11_order 122 [some (.inr (.inr (11, k0))), some (.inl x1), some (.inl x2), some (.inl x3), some (.inl x4), some (.inl x5), some (.inl x6), none, some (.inl w.1)] [] w.2 V S) → Go m11_order 96 [some (.inr (.inr (11, k0))), some (.inl x1), some (.inl x2), some (.inl x3), some (.inl x4), some (.inl x5), some (.inl x6), none, some (.inl x8)] [] σ V S
  | 0, x8, σ, w, h, K1 => by cases h
  | n + 1, x8, σ, w, h, K1 => by
    rw [l11_order_96] at h
    refine g_iload a11_order_96 rfl ?_
    refine g_iload_n a11_order_98 rfl ?_
    refine g_icmp_ge (tgt := 122) a11_order_99 rfl (fun c17 => ?_) (fun c17 => ?_)
    · have h := (if_pos c17).symm.trans h
      have h := Option.some.inj h
      subst h
      exact g_weak K1 ⟨rfl, rfl, rfl, rfl, rfl, rfl, rfl, rfl, trivial⟩
    · have h := (if_neg c17).symm.trans h
      refine g_aload_n a11_order_102 rfl ?_
      refine g_getf (v := .inr (.inr (22, 7))) a11_order_103 fs11_36 rfl ?_
      refine g_iload a11_order_106 rfl ?_
      refine g_aload_n a11_order_108 rfl ?_
      refine g_getf (v := .inr (.inr (22, 6))) a11_order_109 fs11_33 rfl ?_
      refine g_iload a11_order_112 rfl ?_
      obtain ⟨q14, h⟩ := ck_inv h
      refine g_iald (x := (σ.1 22 6 (x8 : Int32).toNatClampNeg)) a11_order_114 (rI22 (by decide)) (inb_ok q14) rfl ?_
      obtain ⟨q15, h⟩ := ck_inv h
      obtain ⟨σ16, eσ16, h⟩ := lt_inv h
      refine g_iast (j := (x8 : Int32).toNatClampNeg) a11_order_115 (rI22 (by decide)) (inb_ok q15) rfl ?_
      rw [eσ16]
      refine g_iinc (v := (x8 + 1)) (L' := [some (.inr (.inr (11, k0))), some (.inl x1), some (.inl x2), some (.inl x3), some (.inl x4), some (.inl x5), some (.inl x6), none, some (.inl (x8 + 1))]) a11_order_116 rfl rfl (Nat.le_of_ble_eq_true rfl) rfl rfl ?_
      refine g_goto (tgt := 96) a11_order_119 rfl ?_
      exact g_weak (lE11_order_96 (V := V) (S := S)  k0 x1 x2 x3 x4 x5 x6 n _ _ h K1) ⟨rfl, rfl, rfl, rfl, rfl, rfl, rfl, rfl, trivial⟩
def l11_order_60 (k0 : Nat) (x1 : Int32) (x2 : Int32) (x3 : Int32) (x4 : Int32) : Nat → Int32 → Int32 → Mem → Option (Int32 × Int32 × Mem)
  | 0, _, _, _ => none
  | n + 1, x5, x6, σ =>
  if x4 ≤ x6 then
  (some (x5, x6, σ))
  else
  (bnd (f11_layOrder k0 x6 x3 σ) fun w8 =>
  bnd (f11_comeBy k0 x3 x1 w8) fun w10 =>
  bnd (if w10 ≤ x5 then
  (some (x5, w8))
  else
  (bnd (l11_order_96 k0 x1 x2 x3 x4 w10 x6 2000 0 w8) fun w18 =>
  some (w10, w18.2)) : Option (Int32 × Mem)) fun w12 =>
  l11_order_60 k0 x1 x2 x3 x4 n w12.1 (x6 + 1) w12.2)
theorem lE11_order_60 {V : Option AV} {S : Mem} (k0 : Nat) (x1 : Int32) (x2 : Int32) (x3 : Int32) (x4 : Int32) : ∀ (n : Nat) (x5 : Int32) (x6 : Int32) (σ : Mem) {w : Int32 × Int32 × Mem}, l11_order_60 k0 x1 x2 x3 x4 n x5 x6 σ = some w → (Go m11_order 128 [some (.inr (.inr (11, k0))), some (.inl x1), some (.inl x2), some (.inl x3), some (.inl x4), some (.inl w.1), some (.inl w.2.1), none, none] [] w.2.2 V S) → Go m11_order 60 [some (.inr (.inr (11, k0))), some (.inl x1), some (.inl x2), some (.inl x3), some (.inl x4), some (.inl x5), some (.inl x6), none, none] [] σ V S
  | 0, x5, x6, σ, w, h, K1 => by cases h
  | n + 1, x5, x6, σ, w, h, K1 => by
    rw [l11_order_60] at h
    refine g_iload a11_order_60 rfl ?_
    refine g_iload a11_order_62 rfl ?_
    refine g_icmp_ge (tgt := 128) a11_order_64 rfl (fun c20 => ?_) (fun c20 => ?_)
    · have h := (if_pos c20).symm.trans h
      have h := Option.some.inj h
      subst h
      exact g_weak K1 ⟨rfl, rfl, rfl, rfl, rfl, rfl, rfl, trivial⟩
    · have h := (if_neg c20).symm.trans h
      refine g_aload_n a11_order_67 rfl ?_
      refine g_iload a11_order_68 rfl ?_
      refine g_iload_n a11_order_70 rfl ?_
      obtain ⟨w8, hw8, h⟩ := bnd_inv h
      refine g_V2n (σ1 := w8) a11_order_71 cv11_161 (E11_layOrder hw8) rfl (fun o9 => ?_)
      refine g_aload_n a11_order_74 rfl ?_
      refine g_iload_n a11_order_75 rfl ?_
      refine g_iload_n a11_order_76 rfl ?_
      obtain ⟨w10, hw10, h⟩ := bnd_inv h
      refine g_V2s (v1 := .inl w10) (σ1 := w8) a11_order_77 cv11_165 (E11_comeBy hw10) rfl (fun o11 => ?_)
      refine g_istore (L' := [some (.inr (.inr (11, k0))), some (.inl x1), some (.inl x2), some (.inl x3), some (.inl x4), some (.inl x5), some (.inl x6), some (.inl w10), none]) a11_order_80 (Nat.le_of_ble_eq_true rfl) rfl rfl ?_
      refine g_iload a11_order_82 rfl ?_
      refine g_iload a11_order_84 rfl ?_
      obtain ⟨w12, hw12, h⟩ := bnd_inv h
      have J13 : Go m11_order 122 [some (.inr (.inr (11, k0))), some (.inl x1), some (.inl x2), some (.inl x3), some (.inl x4), some (.inl w12.1), some (.inl x6), none, none] [] w12.2 V S := by
        refine g_iinc (v := (x6 + 1)) (L' := [some (.inr (.inr (11, k0))), some (.inl x1), some (.inl x2), some (.inl x3), some (.inl x4), some (.inl w12.1), some (.inl (x6 + 1)), none, none]) a11_order_122 rfl rfl (Nat.le_of_ble_eq_true rfl) rfl rfl ?_
        refine g_goto (tgt := 60) a11_order_125 rfl ?_
        exact g_weak (lE11_order_60 (V := V) (S := S)  k0 x1 x2 x3 x4 n _ _ _ h K1) ⟨rfl, rfl, rfl, rfl, rfl, rfl, rfl, trivial⟩
      clear h
      refine g_icmp_le (tgt := 122) a11_order_86 rfl (fun c19 => ?_) (fun c19 => ?_)
      · have hw12 := (if_pos c19).symm.trans hw12
        have hw12 := Option.some.inj hw12
        subst hw12
        exact g_weak J13 ⟨rfl, rfl, rfl, rfl, rfl, rfl, rfl, trivial⟩
      · have hw12 := (if_neg c19).symm.trans hw12
        refine g_iload a11_order_89 rfl ?_
        refine g_istore (L' := [some (.inr (.inr (11, k0))), some (.inl x1), some (.inl x2), some (.inl x3), some (.inl x4), some (.inl w10), some (.inl x6), some (.inl w10), none]) a11_order_91 (Nat.le_of_ble_eq_true rfl) rfl rfl ?_
        refine g_iconst (v := 0) a11_order_93 rfl ?_
        refine g_istore (L' := [some (.inr (.inr (11, k0))), some (.inl x1), some (.inl x2), some (.inl x3), some (.inl x4), some (.inl w10), some (.inl x6), some (.inl w10), some (.inl 0)]) a11_order_94 (Nat.le_of_ble_eq_true rfl) rfl rfl ?_
        obtain ⟨w18, hw18, hw12⟩ := bnd_inv hw12
        refine g_weak (lE11_order_96 k0 x1 x2 x3 x4 w10 x6 2000 _ _ hw18 ?_) ⟨rfl, rfl, rfl, rfl, rfl, rfl, rfl, rfl, trivial⟩
        have hw12 := Option.some.inj hw12
        subst hw12
        exact g_weak J13 ⟨rfl, rfl, rfl, rfl, rfl, rfl, rfl, trivial⟩
def f11_order (k0 : Nat) (x1 : Int32) (x2 : Int32) (σ : Mem) : Option (Int32 × Mem) :=
  if (f11_in (x1.toInt64) 0 99) = 0 then
  (lt (f11_bad k0 (-10) σ) fun w2 =>
  some (w2.1, w2.2))
  else
  (if (-1) ≤ x2 then
  (bnd (f11_layMissing k0 σ) fun w4 =>
  bnd (l11_order_38 k0 x1 x2 w4.1 (-1) 2000 1 2) fun w7 =>
  bnd (l11_order_60 k0 x1 x2 w4.1 w7.1 2000 (-1) 0 w4.2) fun w21 =>
  if x2 = (-1) then
  (some (w21.1, w21.2.2))
  else
  (if x2 < w4.1 then
  (ck (inb x2 6) <|
  some ((w21.2.2.1 22 7 (x2 : Int32).toNatClampNeg), w21.2.2))
  else
  (some ((-5), w21.2.2))))
  else
  (lt (f11_bad k0 (-10) σ) fun w25 =>
  some (w25.1, w25.2)))
theorem E11_order {k0 : Nat} {x1 : Int32} {x2 : Int32} {σ : Mem} {w : Int32 × Mem} (h : f11_order k0 x1 x2 σ = some w) : Ev m11_order [.inr (.inr (11, k0)), .inl x1, .inl x2] σ (some (.inl w.1) : Option AV) w.2 := by
  unfold f11_order at h
  show Go m11_order 0 [some (.inr (.inr (11, k0))), some (.inl x1), some (.inl x2), none, none, none, none, none, none] [] σ (some (.inl w.1) : Option AV) w.2
  refine g_iload_n a11_order_0 rfl ?_
  refine g_i2l a11_order_1 ?_
  refine g_lconst (v := 0) a11_order_2 rfl ?_
  refine g_ldc2 (v := 99) a11_order_3 wl11_156 ?_
  refine g_S3s (v1 := .inl (f11_in (x1.toInt64) 0 99)) (σ1 := σ) a11_order_6 cs11_59 (E11_in _ _ _ _) rfl (fun o1 => ?_)
  refine g_if_eq (tgt := 17) a11_order_9 rfl (fun c28 => ?_) (fun c28 => ?_)
  · have h := (if_pos c28).symm.trans h
    refine g_aload_n a11_order_17 rfl ?_
    refine g_bipush (v := (-10)) a11_order_18 rfl ?_
    obtain ⟨w2, hw2, h⟩ := lt_inv h
    refine g_V1s (v1 := .inl w2.1) (σ1 := w2.2) a11_order_20 cv11_73 (by rw [← hw2]; exact E11_bad _ _ _) rfl (fun o3 => ?_)
    have h := Option.some.inj h
    subst h
    exact g_retE a11_order_23 trivial rfl rfl
  · have h := (if_neg c28).symm.trans h
    refine g_iload_n a11_order_12 rfl ?_
    refine g_iconst (v := (-1)) a11_order_13 rfl ?_
    refine g_icmp_ge (tgt := 24) a11_order_14 rfl (fun c27 => ?_) (fun c27 => ?_)
    · have h := (if_pos c27).symm.trans h
      refine g_aload_n a11_order_24 rfl ?_
      obtain ⟨w4, hw4, h⟩ := bnd_inv h
      refine g_V0s (v1 := .inl w4.1) (σ1 := w4.2) a11_order_25 cv11_158 (E11_layMissing hw4) rfl (fun o5 => ?_)
      refine g_istore_n (L' := [some (.inr (.inr (11, k0))), some (.inl x1), some (.inl x2), some (.inl w4.1), none, none, none, none, none]) a11_order_28 (Nat.le_of_ble_eq_true rfl) rfl rfl ?_
      refine g_iconst (v := 1) a11_order_29 rfl ?_
      refine g_istore (L' := [some (.inr (.inr (11, k0))), some (.inl x1), some (.inl x2), some (.inl w4.1), some (.inl 1), none, none, none, none]) a11_order_30 (Nat.le_of_ble_eq_true rfl) rfl rfl ?_
      refine g_iconst (v := (-1)) a11_order_32 rfl ?_
      refine g_istore (L' := [some (.inr (.inr (11, k0))), some (.inl x1), some (.inl x2), some (.inl w4.1), some (.inl 1), some (.inl (-1)), none, none, none]) a11_order_33 (Nat.le_of_ble_eq_true rfl) rfl rfl ?_
      refine g_iconst (v := 2) a11_order_35 rfl ?_
      refine g_istore (L' := [some (.inr (.inr (11, k0))), some (.inl x1), some (.inl x2), some (.inl w4.1), some (.inl 1), some (.inl (-1)), some (.inl 2), none, none]) a11_order_36 (Nat.le_of_ble_eq_true rfl) rfl rfl ?_
      obtain ⟨w7, hw7, h⟩ := bnd_inv h
      refine g_weak (lE11_order_38 k0 x1 x2 w4.1 (-1) 2000 _ _ hw7 ?_) ⟨rfl, rfl, rfl, rfl, rfl, rfl, rfl, trivial⟩
      refine g_iconst (v := 0) a11_order_57 rfl ?_
      refine g_istore (L' := [some (.inr (.inr (11, k0))), some (.inl x1), some (.inl x2), some (.inl w4.1), some (.inl w7.1), some (.inl (-1)), some (.inl 0), none, none]) a11_order_58 (Nat.le_of_ble_eq_true rfl) rfl rfl ?_
      obtain ⟨w21, hw21, h⟩ := bnd_inv h
      refine g_weak (lE11_order_60 k0 x1 x2 w4.1 w7.1 2000 _ _ _ hw21 ?_) ⟨rfl, rfl, rfl, rfl, rfl, rfl, rfl, trivial⟩
      refine g_iload_n a11_order_128 rfl ?_
      refine g_iconst (v := (-1)) a11_order_129 rfl ?_
      refine g_icmp_ne (tgt := 138) a11_order_130 rfl (fun c24 => ?_) (fun c24 => ?_)
      · have h := (if_neg c24).symm.trans h
        refine g_iload_n a11_order_138 rfl ?_
        refine g_iload_n a11_order_139 rfl ?_
        refine g_icmp_lt (tgt := 148) a11_order_140 rfl (fun c23 => ?_) (fun c23 => ?_)
        · have h := (if_pos c23).symm.trans h
          refine g_aload_n a11_order_148 rfl ?_
          refine g_getf (v := .inr (.inr (22, 7))) a11_order_149 fs11_36 rfl ?_
          refine g_iload_n a11_order_152 rfl ?_
          obtain ⟨q22, h⟩ := ck_inv h
          refine g_iald (x := (w21.2.2.1 22 7 (x2 : Int32).toNatClampNeg)) a11_order_153 (rI22 (by decide)) (inb_ok q22) rfl ?_
          have h := Option.some.inj h
          subst h
          exact g_retE a11_order_154 trivial rfl rfl
        · have h := (if_neg c23).symm.trans h
          refine g_bipush (v := (-5)) a11_order_143 rfl ?_
          refine g_goto (tgt := 154) a11_order_145 rfl ?_
          have h := Option.some.inj h
          subst h
          exact g_retE a11_order_154 trivial rfl rfl
      · have h := (if_pos c24).symm.trans h
        refine g_iload a11_order_133 rfl ?_
        refine g_goto (tgt := 154) a11_order_135 rfl ?_
        have h := Option.some.inj h
        subst h
        exact g_retE a11_order_154 trivial rfl rfl
    · have h := (if_neg c27).symm.trans h
      refine g_aload_n a11_order_17 rfl ?_
      refine g_bipush (v := (-10)) a11_order_18 rfl ?_
      obtain ⟨w25, hw25, h⟩ := lt_inv h
      refine g_V1s (v1 := .inl w25.1) (σ1 := w25.2) a11_order_20 cv11_73 (by rw [← hw25]; exact E11_bad _ _ _) rfl (fun o26 => ?_)
      have h := Option.some.inj h
      subst h
      exact g_retE a11_order_23 trivial rfl rfl
theorem a11_seen_0 : At cX11_seen 0 (.iload_n 1) 1 1 := ⟨by decide +kernel, rfl⟩
theorem a11_seen_1 : At cX11_seen 1 (.invokestatic 67) 3 4 := ⟨by decide +kernel, rfl⟩
theorem a11_seen_4 : At cX11_seen 4 (.ifCond .eq 16) 3 7 := ⟨by decide +kernel, rfl⟩
theorem a11_seen_7 : At cX11_seen 7 (.iload_n 2) 1 8 := ⟨by decide +kernel, rfl⟩
theorem a11_seen_8 : At cX11_seen 8 (.iconst (-1)) 1 9 := ⟨by decide +kernel, rfl⟩
theorem a11_seen_9 : At cX11_seen 9 (.if_icmp .eq 18) 3 12 := ⟨by decide +kernel, rfl⟩
theorem a11_seen_12 : At cX11_seen 12 (.aload_n 0) 1 13 := ⟨by decide +kernel, rfl⟩
theorem a11_seen_13 : At cX11_seen 13 (.iload_n 2) 1 14 := ⟨by decide +kernel, rfl⟩
theorem a11_seen_14 : At cX11_seen 14 (.invokevirtual 134) 3 17 := ⟨by decide +kernel, rfl⟩
theorem a11_seen_17 : At cX11_seen 17 (.ifCond .ne 10) 3 20 := ⟨by decide +kernel, rfl⟩
theorem a11_seen_20 : At cX11_seen 20 (.aload_n 0) 1 21 := ⟨by decide +kernel, rfl⟩
theorem a11_seen_21 : At cX11_seen 21 (.bipush (-2)) 2 23 := ⟨by decide +kernel, rfl⟩
theorem a11_seen_23 : At cX11_seen 23 (.invokevirtual 73) 3 26 := ⟨by decide +kernel, rfl⟩
theorem a11_seen_26 : At cX11_seen 26 (.ireturn) 1 27 := ⟨by decide +kernel, rfl⟩
theorem a11_seen_27 : At cX11_seen 27 (.aload_n 0) 1 28 := ⟨by decide +kernel, rfl⟩
theorem a11_seen_28 : At cX11_seen 28 (.getfield 7) 3 31 := ⟨by decide +kernel, rfl⟩
theorem a11_seen_31 : At cX11_seen 31 (.iconst 2) 1 32 := ⟨by decide +kernel, rfl⟩
theorem a11_seen_32 : At cX11_seen 32 (.iaload) 1 33 := ⟨by decide +kernel, rfl⟩
theorem a11_seen_33 : At cX11_seen 33 (.iconst 5) 1 34 := ⟨by decide +kernel, rfl⟩
theorem a11_seen_34 : At cX11_seen 34 (.if_icmp .ne 8) 3 37 := ⟨by decide +kernel, rfl⟩
theorem a11_seen_37 : At cX11_seen 37 (.aload_n 0) 1 38 := ⟨by decide +kernel, rfl⟩
theorem a11_seen_38 : At cX11_seen 38 (.invokevirtual 82) 3 41 := ⟨by decide +kernel, rfl⟩
theorem a11_seen_41 : At cX11_seen 41 (.ireturn) 1 42 := ⟨by decide +kernel, rfl⟩
theorem a11_seen_42 : At cX11_seen 42 (.aload_n 0) 1 43 := ⟨by decide +kernel, rfl⟩
theorem a11_seen_43 : At cX11_seen 43 (.getfield 7) 3 46 := ⟨by decide +kernel, rfl⟩
theorem a11_seen_46 : At cX11_seen 46 (.bipush 46) 2 48 := ⟨by decide +kernel, rfl⟩
theorem a11_seen_48 : At cX11_seen 48 (.iconst 2) 1 49 := ⟨by decide +kernel, rfl⟩
theorem a11_seen_49 : At cX11_seen 49 (.aload_n 0) 1 50 := ⟨by decide +kernel, rfl⟩
theorem a11_seen_50 : At cX11_seen 50 (.getfield 7) 3 53 := ⟨by decide +kernel, rfl⟩
theorem a11_seen_53 : At cX11_seen 53 (.iconst 2) 1 54 := ⟨by decide +kernel, rfl⟩
theorem a11_seen_54 : At cX11_seen 54 (.iaload) 1 55 := ⟨by decide +kernel, rfl⟩
theorem a11_seen_55 : At cX11_seen 55 (.imul) 1 56 := ⟨by decide +kernel, rfl⟩
theorem a11_seen_56 : At cX11_seen 56 (.iadd) 1 57 := ⟨by decide +kernel, rfl⟩
theorem a11_seen_57 : At cX11_seen 57 (.iload_n 1) 1 58 := ⟨by decide +kernel, rfl⟩
theorem a11_seen_58 : At cX11_seen 58 (.iastore) 1 59 := ⟨by decide +kernel, rfl⟩
theorem a11_seen_59 : At cX11_seen 59 (.aload_n 0) 1 60 := ⟨by decide +kernel, rfl⟩
theorem a11_seen_60 : At cX11_seen 60 (.getfield 7) 3 63 := ⟨by decide +kernel, rfl⟩
theorem a11_seen_63 : At cX11_seen 63 (.bipush 46) 2 65 := ⟨by decide +kernel, rfl⟩
theorem a11_seen_65 : At cX11_seen 65 (.iconst 2) 1 66 := ⟨by decide +kernel, rfl⟩
theorem a11_seen_66 : At cX11_seen 66 (.aload_n 0) 1 67 := ⟨by decide +kernel, rfl⟩
theorem a11_seen_67 : At cX11_seen 67 (.getfield 7) 3 70 := ⟨by decide +kernel, rfl⟩
theorem a11_seen_70 : At cX11_seen 70 (.iconst 2) 1 71 := ⟨by decide +kernel, rfl⟩
theorem a11_seen_71 : At cX11_seen 71 (.iaload) 1 72 := ⟨by decide +kernel, rfl⟩
theorem a11_seen_72 : At cX11_seen 72 (.imul) 1 73 := ⟨by decide +kernel, rfl⟩
theorem a11_seen_73 : At cX11_seen 73 (.iadd) 1 74 := ⟨by decide +kernel, rfl⟩
theorem a11_seen_74 : At cX11_seen 74 (.iconst 1) 1 75 := ⟨by decide +kernel, rfl⟩
theorem a11_seen_75 : At cX11_seen 75 (.iadd) 1 76 := ⟨by decide +kernel, rfl⟩
theorem a11_seen_76 : At cX11_seen 76 (.iload_n 2) 1 77 := ⟨by decide +kernel, rfl⟩
theorem a11_seen_77 : At cX11_seen 77 (.iastore) 1 78 := ⟨by decide +kernel, rfl⟩
theorem a11_seen_78 : At cX11_seen 78 (.aload_n 0) 1 79 := ⟨by decide +kernel, rfl⟩
theorem a11_seen_79 : At cX11_seen 79 (.getfield 7) 3 82 := ⟨by decide +kernel, rfl⟩
theorem a11_seen_82 : At cX11_seen 82 (.iconst 2) 1 83 := ⟨by decide +kernel, rfl⟩
theorem a11_seen_83 : At cX11_seen 83 (.dup2) 1 84 := ⟨by decide +kernel, rfl⟩
theorem a11_seen_84 : At cX11_seen 84 (.iaload) 1 85 := ⟨by decide +kernel, rfl⟩
theorem a11_seen_85 : At cX11_seen 85 (.iconst 1) 1 86 := ⟨by decide +kernel, rfl⟩
theorem a11_seen_86 : At cX11_seen 86 (.iadd) 1 87 := ⟨by decide +kernel, rfl⟩
theorem a11_seen_87 : At cX11_seen 87 (.iastore) 1 88 := ⟨by decide +kernel, rfl⟩
theorem a11_seen_88 : At cX11_seen 88 (.aload_n 0) 1 89 := ⟨by decide +kernel, rfl⟩
theorem a11_seen_89 : At cX11_seen 89 (.getfield 7) 3 92 := ⟨by decide +kernel, rfl⟩
theorem a11_seen_92 : At cX11_seen 92 (.iconst 2) 1 93 := ⟨by decide +kernel, rfl⟩
theorem a11_seen_93 : At cX11_seen 93 (.iaload) 1 94 := ⟨by decide +kernel, rfl⟩
theorem a11_seen_94 : At cX11_seen 94 (.ireturn) 1 95 := ⟨by decide +kernel, rfl⟩
def f11_seen (k0 : Nat) (x1 : Int32) (x2 : Int32) (σ : Mem) : Option (Int32 × Mem) :=
  if (f11_isCell x1) = 0 then
  (lt (f11_bad k0 (-2) σ) fun w2 =>
  some (w2.1, w2.2))
  else
  (if x2 = (-1) then
  (if (σ.1 22 0 2) = 5 then
  (lt (f11_full k0 σ) fun w4 =>
  some (w4.1, w4.2))
  else
  (ck (inb (46 + (2 * (σ.1 22 0 2))) 142) <|
  lt (sI σ 22 0 ((46 + (2 * (σ.1 22 0 2))) : Int32).toNatClampNeg x1) fun σ7 =>
  ck (inb ((46 + (2 * (σ7.1 22 0 2))) + 1) 142) <|
  lt (sI σ7 22 0 (((46 + (2 * (σ7.1 22 0 2))) + 1) : Int32).toNatClampNeg x2) fun σ9 =>
  lt (sI σ9 22 0 2 ((σ9.1 22 0 2) + 1)) fun σ10 =>
  some ((σ10.1 22 0 2), σ10)))
  else
  (if (f11_isThing k0 x2 σ) = 0 then
  (lt (f11_bad k0 (-2) σ) fun w13 =>
  some (w13.1, w13.2))
  else
  (if (σ.1 22 0 2) = 5 then
  (lt (f11_full k0 σ) fun w15 =>
  some (w15.1, w15.2))
  else
  (ck (inb (46 + (2 * (σ.1 22 0 2))) 142) <|
  lt (sI σ 22 0 ((46 + (2 * (σ.1 22 0 2))) : Int32).toNatClampNeg x1) fun σ18 =>
  ck (inb ((46 + (2 * (σ18.1 22 0 2))) + 1) 142) <|
  lt (sI σ18 22 0 (((46 + (2 * (σ18.1 22 0 2))) + 1) : Int32).toNatClampNeg x2) fun σ20 =>
  lt (sI σ20 22 0 2 ((σ20.1 22 0 2) + 1)) fun σ21 =>
  some ((σ21.1 22 0 2), σ21)))))
theorem E11_seen {k0 : Nat} {x1 : Int32} {x2 : Int32} {σ : Mem} {w : Int32 × Mem} (h : f11_seen k0 x1 x2 σ = some w) : Ev m11_seen [.inr (.inr (11, k0)), .inl x1, .inl x2] σ (some (.inl w.1) : Option AV) w.2 := by
  unfold f11_seen at h
  show Go m11_seen 0 [some (.inr (.inr (11, k0))), some (.inl x1), some (.inl x2)] [] σ (some (.inl w.1) : Option AV) w.2
  refine g_iload_n a11_seen_0 rfl ?_
  refine g_S1s (v1 := .inl (f11_isCell x1)) (σ1 := σ) a11_seen_1 cs11_67 (E11_isCell _ _) rfl (fun o1 => ?_)
  refine g_if_eq (tgt := 20) a11_seen_4 rfl (fun c25 => ?_) (fun c25 => ?_)
  · have h := (if_pos c25).symm.trans h
    refine g_aload_n a11_seen_20 rfl ?_
    refine g_bipush (v := (-2)) a11_seen_21 rfl ?_
    obtain ⟨w2, hw2, h⟩ := lt_inv h
    refine g_V1s (v1 := .inl w2.1) (σ1 := w2.2) a11_seen_23 cv11_73 (by rw [← hw2]; exact E11_bad _ _ _) rfl (fun o3 => ?_)
    have h := Option.some.inj h
    subst h
    exact g_retE a11_seen_26 trivial rfl rfl
  · have h := (if_neg c25).symm.trans h
    refine g_iload_n a11_seen_7 rfl ?_
    refine g_iconst (v := (-1)) a11_seen_8 rfl ?_
    refine g_icmp_eq (tgt := 27) a11_seen_9 rfl (fun c24 => ?_) (fun c24 => ?_)
    · have h := (if_pos c24).symm.trans h
      refine g_aload_n a11_seen_27 rfl ?_
      refine g_getf (v := .inr (.inr (22, 0))) a11_seen_28 fs11_7 rfl ?_
      refine g_iconst (v := 2) a11_seen_31 rfl ?_
      refine g_iald (x := (σ.1 22 0 2)) a11_seen_32 (rI22 (by decide)) (inb_ok (by decide)) rfl ?_
      refine g_iconst (v := 5) a11_seen_33 rfl ?_
      refine g_icmp_ne (tgt := 42) a11_seen_34 rfl (fun c11 => ?_) (fun c11 => ?_)
      · have h := (if_neg c11).symm.trans h
        refine g_aload_n a11_seen_42 rfl ?_
        refine g_getf (v := .inr (.inr (22, 0))) a11_seen_43 fs11_7 rfl ?_
        refine g_bipush (v := 46) a11_seen_46 rfl ?_
        refine g_iconst (v := 2) a11_seen_48 rfl ?_
        refine g_aload_n a11_seen_49 rfl ?_
        refine g_getf (v := .inr (.inr (22, 0))) a11_seen_50 fs11_7 rfl ?_
        refine g_iconst (v := 2) a11_seen_53 rfl ?_
        refine g_iald (x := (σ.1 22 0 2)) a11_seen_54 (rI22 (by decide)) (inb_ok (by decide)) rfl ?_
        refine g_imul a11_seen_55 ?_
        refine g_iadd a11_seen_56 ?_
        refine g_iload_n a11_seen_57 rfl ?_
        obtain ⟨q6, h⟩ := ck_inv h
        obtain ⟨σ7, eσ7, h⟩ := lt_inv h
        refine g_iast (j := ((46 + (2 * (σ.1 22 0 2))) : Int32).toNatClampNeg) a11_seen_58 (rI22 (by decide)) (inb_ok q6) rfl ?_
        rw [eσ7]
        refine g_aload_n a11_seen_59 rfl ?_
        refine g_getf (v := .inr (.inr (22, 0))) a11_seen_60 fs11_7 rfl ?_
        refine g_bipush (v := 46) a11_seen_63 rfl ?_
        refine g_iconst (v := 2) a11_seen_65 rfl ?_
        refine g_aload_n a11_seen_66 rfl ?_
        refine g_getf (v := .inr (.inr (22, 0))) a11_seen_67 fs11_7 rfl ?_
        refine g_iconst (v := 2) a11_seen_70 rfl ?_
        refine g_iald (x := (σ7.1 22 0 2)) a11_seen_71 (rI22 (by decide)) (inb_ok (by decide)) rfl ?_
        refine g_imul a11_seen_72 ?_
        refine g_iadd a11_seen_73 ?_
        refine g_iconst (v := 1) a11_seen_74 rfl ?_
        refine g_iadd a11_seen_75 ?_
        refine g_iload_n a11_seen_76 rfl ?_
        obtain ⟨q8, h⟩ := ck_inv h
        obtain ⟨σ9, eσ9, h⟩ := lt_inv h
        refine g_iast (j := (((46 + (2 * (σ7.1 22 0 2))) + 1) : Int32).toNatClampNeg) a11_seen_77 (rI22 (by decide)) (inb_ok q8) rfl ?_
        rw [eσ9]
        refine g_aload_n a11_seen_78 rfl ?_
        refine g_getf (v := .inr (.inr (22, 0))) a11_seen_79 fs11_7 rfl ?_
        refine g_iconst (v := 2) a11_seen_82 rfl ?_
        refine g_dup2 a11_seen_83 (fun _ => rfl) (fun _ => rfl) ?_
        refine g_iald (x := (σ9.1 22 0 2)) a11_seen_84 (rI22 (by decide)) (inb_ok (by decide)) rfl ?_
        refine g_iconst (v := 1) a11_seen_85 rfl ?_
        refine g_iadd a11_seen_86 ?_
        obtain ⟨σ10, eσ10, h⟩ := lt_inv h
        refine g_iast (j := 2) a11_seen_87 (rI22 (by decide)) (inb_ok (by decide)) rfl ?_
        rw [eσ10]
        refine g_aload_n a11_seen_88 rfl ?_
        refine g_getf (v := .inr (.inr (22, 0))) a11_seen_89 fs11_7 rfl ?_
        refine g_iconst (v := 2) a11_seen_92 rfl ?_
        refine g_iald (x := (σ10.1 22 0 2)) a11_seen_93 (rI22 (by decide)) (inb_ok (by decide)) rfl ?_
        have h := Option.some.inj h
        subst h
        exact g_retE a11_seen_94 trivial rfl rfl
      · have h := (if_pos c11).symm.trans h
        refine g_aload_n a11_seen_37 rfl ?_
        obtain ⟨w4, hw4, h⟩ := lt_inv h
        refine g_V0s (v1 := .inl w4.1) (σ1 := w4.2) a11_seen_38 cv11_82 (by rw [← hw4]; exact E11_full _ _) rfl (fun o5 => ?_)
        have h := Option.some.inj h
        subst h
        exact g_retE a11_seen_41 trivial rfl rfl
    · have h := (if_neg c24).symm.trans h
      refine g_aload_n a11_seen_12 rfl ?_
      refine g_iload_n a11_seen_13 rfl ?_
      refine g_V1s (v1 := .inl (f11_isThing k0 x2 σ)) (σ1 := σ) a11_seen_14 cv11_134 (E11_isThing _ _ _) rfl (fun o12 => ?_)
      refine g_if_ne (tgt := 27) a11_seen_17 rfl (fun c23 => ?_) (fun c23 => ?_)
      · have h := (if_neg c23).symm.trans h
        refine g_aload_n a11_seen_27 rfl ?_
        refine g_getf (v := .inr (.inr (22, 0))) a11_seen_28 fs11_7 rfl ?_
        refine g_iconst (v := 2) a11_seen_31 rfl ?_
        refine g_iald (x := (σ.1 22 0 2)) a11_seen_32 (rI22 (by decide)) (inb_ok (by decide)) rfl ?_
        refine g_iconst (v := 5) a11_seen_33 rfl ?_
        refine g_icmp_ne (tgt := 42) a11_seen_34 rfl (fun c22 => ?_) (fun c22 => ?_)
        · have h := (if_neg c22).symm.trans h
          refine g_aload_n a11_seen_42 rfl ?_
          refine g_getf (v := .inr (.inr (22, 0))) a11_seen_43 fs11_7 rfl ?_
          refine g_bipush (v := 46) a11_seen_46 rfl ?_
          refine g_iconst (v := 2) a11_seen_48 rfl ?_
          refine g_aload_n a11_seen_49 rfl ?_
          refine g_getf (v := .inr (.inr (22, 0))) a11_seen_50 fs11_7 rfl ?_
          refine g_iconst (v := 2) a11_seen_53 rfl ?_
          refine g_iald (x := (σ.1 22 0 2)) a11_seen_54 (rI22 (by decide)) (inb_ok (by decide)) rfl ?_
          refine g_imul a11_seen_55 ?_
          refine g_iadd a11_seen_56 ?_
          refine g_iload_n a11_seen_57 rfl ?_
          obtain ⟨q17, h⟩ := ck_inv h
          obtain ⟨σ18, eσ18, h⟩ := lt_inv h
          refine g_iast (j := ((46 + (2 * (σ.1 22 0 2))) : Int32).toNatClampNeg) a11_seen_58 (rI22 (by decide)) (inb_ok q17) rfl ?_
          rw [eσ18]
          refine g_aload_n a11_seen_59 rfl ?_
          refine g_getf (v := .inr (.inr (22, 0))) a11_seen_60 fs11_7 rfl ?_
          refine g_bipush (v := 46) a11_seen_63 rfl ?_
          refine g_iconst (v := 2) a11_seen_65 rfl ?_
          refine g_aload_n a11_seen_66 rfl ?_
          refine g_getf (v := .inr (.inr (22, 0))) a11_seen_67 fs11_7 rfl ?_
          refine g_iconst (v := 2) a11_seen_70 rfl ?_
          refine g_iald (x := (σ18.1 22 0 2)) a11_seen_71 (rI22 (by decide)) (inb_ok (by decide)) rfl ?_
          refine g_imul a11_seen_72 ?_
          refine g_iadd a11_seen_73 ?_
          refine g_iconst (v := 1) a11_seen_74 rfl ?_
          refine g_iadd a11_seen_75 ?_
          refine g_iload_n a11_seen_76 rfl ?_
          obtain ⟨q19, h⟩ := ck_inv h
          obtain ⟨σ20, eσ20, h⟩ := lt_inv h
          refine g_iast (j := (((46 + (2 * (σ18.1 22 0 2))) + 1) : Int32).toNatClampNeg) a11_seen_77 (rI22 (by decide)) (inb_ok q19) rfl ?_
          rw [eσ20]
          refine g_aload_n a11_seen_78 rfl ?_
          refine g_getf (v := .inr (.inr (22, 0))) a11_seen_79 fs11_7 rfl ?_
          refine g_iconst (v := 2) a11_seen_82 rfl ?_
          refine g_dup2 a11_seen_83 (fun _ => rfl) (fun _ => rfl) ?_
          refine g_iald (x := (σ20.1 22 0 2)) a11_seen_84 (rI22 (by decide)) (inb_ok (by decide)) rfl ?_
          refine g_iconst (v := 1) a11_seen_85 rfl ?_
          refine g_iadd a11_seen_86 ?_
          obtain ⟨σ21, eσ21, h⟩ := lt_inv h
          refine g_iast (j := 2) a11_seen_87 (rI22 (by decide)) (inb_ok (by decide)) rfl ?_
          rw [eσ21]
          refine g_aload_n a11_seen_88 rfl ?_
          refine g_getf (v := .inr (.inr (22, 0))) a11_seen_89 fs11_7 rfl ?_
          refine g_iconst (v := 2) a11_seen_92 rfl ?_
          refine g_iald (x := (σ21.1 22 0 2)) a11_seen_93 (rI22 (by decide)) (inb_ok (by decide)) rfl ?_
          have h := Option.some.inj h
          subst h
          exact g_retE a11_seen_94 trivial rfl rfl
        · have h := (if_pos c22).symm.trans h
          refine g_aload_n a11_seen_37 rfl ?_
          obtain ⟨w15, hw15, h⟩ := lt_inv h
          refine g_V0s (v1 := .inl w15.1) (σ1 := w15.2) a11_seen_38 cv11_82 (by rw [← hw15]; exact E11_full _ _) rfl (fun o16 => ?_)
          have h := Option.some.inj h
          subst h
          exact g_retE a11_seen_41 trivial rfl rfl
      · have h := (if_pos c23).symm.trans h
        refine g_aload_n a11_seen_20 rfl ?_
        refine g_bipush (v := (-2)) a11_seen_21 rfl ?_
        obtain ⟨w13, hw13, h⟩ := lt_inv h
        refine g_V1s (v1 := .inl w13.1) (σ1 := w13.2) a11_seen_23 cv11_73 (by rw [← hw13]; exact E11_bad _ _ _) rfl (fun o14 => ?_)
        have h := Option.some.inj h
        subst h
        exact g_retE a11_seen_26 trivial rfl rfl
theorem a11_isSeenBy_0 : At cX11_isSeenBy 0 (.iconst 1) 1 1 := ⟨by decide +kernel, rfl⟩
theorem a11_isSeenBy_1 : At cX11_isSeenBy 1 (.istore_n 3) 1 2 := ⟨by decide +kernel, rfl⟩
theorem a11_isSeenBy_2 : At cX11_isSeenBy 2 (.aload_n 0) 1 3 := ⟨by decide +kernel, rfl⟩
theorem a11_isSeenBy_3 : At cX11_isSeenBy 3 (.invokevirtual 147) 3 6 := ⟨by decide +kernel, rfl⟩
theorem a11_isSeenBy_6 : At cX11_isSeenBy 6 (.aload_n 0) 1 7 := ⟨by decide +kernel, rfl⟩
theorem a11_isSeenBy_7 : At cX11_isSeenBy 7 (.getfield 27) 3 10 := ⟨by decide +kernel, rfl⟩
theorem a11_isSeenBy_10 : At cX11_isSeenBy 10 (.bipush 28) 2 12 := ⟨by decide +kernel, rfl⟩
theorem a11_isSeenBy_12 : At cX11_isSeenBy 12 (.iload_n 1) 1 13 := ⟨by decide +kernel, rfl⟩
theorem a11_isSeenBy_13 : At cX11_isSeenBy 13 (.iadd) 1 14 := ⟨by decide +kernel, rfl⟩
theorem a11_isSeenBy_14 : At cX11_isSeenBy 14 (.iload_n 2) 1 15 := ⟨by decide +kernel, rfl⟩
theorem a11_isSeenBy_15 : At cX11_isSeenBy 15 (.iastore) 1 16 := ⟨by decide +kernel, rfl⟩
theorem a11_isSeenBy_16 : At cX11_isSeenBy 16 (.iconst 0) 1 17 := ⟨by decide +kernel, rfl⟩
theorem a11_isSeenBy_17 : At cX11_isSeenBy 17 (.istore 4) 2 19 := ⟨by decide +kernel, rfl⟩
theorem a11_isSeenBy_19 : At cX11_isSeenBy 19 (.iload 4) 2 21 := ⟨by decide +kernel, rfl⟩
theorem a11_isSeenBy_21 : At cX11_isSeenBy 21 (.aload_n 0) 1 22 := ⟨by decide +kernel, rfl⟩
theorem a11_isSeenBy_22 : At cX11_isSeenBy 22 (.getfield 7) 3 25 := ⟨by decide +kernel, rfl⟩
theorem a11_isSeenBy_25 : At cX11_isSeenBy 25 (.iconst 2) 1 26 := ⟨by decide +kernel, rfl⟩
theorem a11_isSeenBy_26 : At cX11_isSeenBy 26 (.iaload) 1 27 := ⟨by decide +kernel, rfl⟩
theorem a11_isSeenBy_27 : At cX11_isSeenBy 27 (.if_icmp .ge 62) 3 30 := ⟨by decide +kernel, rfl⟩
theorem a11_isSeenBy_30 : At cX11_isSeenBy 30 (.iload_n 3) 1 31 := ⟨by decide +kernel, rfl⟩
theorem a11_isSeenBy_31 : At cX11_isSeenBy 31 (.ifCond .eq 50) 3 34 := ⟨by decide +kernel, rfl⟩
theorem a11_isSeenBy_34 : At cX11_isSeenBy 34 (.aload_n 0) 1 35 := ⟨by decide +kernel, rfl⟩
theorem a11_isSeenBy_35 : At cX11_isSeenBy 35 (.getfield 27) 3 38 := ⟨by decide +kernel, rfl⟩
theorem a11_isSeenBy_38 : At cX11_isSeenBy 38 (.aload_n 0) 1 39 := ⟨by decide +kernel, rfl⟩
theorem a11_isSeenBy_39 : At cX11_isSeenBy 39 (.getfield 27) 3 42 := ⟨by decide +kernel, rfl⟩
theorem a11_isSeenBy_42 : At cX11_isSeenBy 42 (.bipush 6) 2 44 := ⟨by decide +kernel, rfl⟩
theorem a11_isSeenBy_44 : At cX11_isSeenBy 44 (.iaload) 1 45 := ⟨by decide +kernel, rfl⟩
theorem a11_isSeenBy_45 : At cX11_isSeenBy 45 (.aload_n 0) 1 46 := ⟨by decide +kernel, rfl⟩
theorem a11_isSeenBy_46 : At cX11_isSeenBy 46 (.getfield 7) 3 49 := ⟨by decide +kernel, rfl⟩
theorem a11_isSeenBy_49 : At cX11_isSeenBy 49 (.bipush 46) 2 51 := ⟨by decide +kernel, rfl⟩
theorem a11_isSeenBy_51 : At cX11_isSeenBy 51 (.iconst 2) 1 52 := ⟨by decide +kernel, rfl⟩
theorem a11_isSeenBy_52 : At cX11_isSeenBy 52 (.iload 4) 2 54 := ⟨by decide +kernel, rfl⟩
theorem a11_isSeenBy_54 : At cX11_isSeenBy 54 (.imul) 1 55 := ⟨by decide +kernel, rfl⟩
theorem a11_isSeenBy_55 : At cX11_isSeenBy 55 (.iadd) 1 56 := ⟨by decide +kernel, rfl⟩
theorem a11_isSeenBy_56 : At cX11_isSeenBy 56 (.iaload) 1 57 := ⟨by decide +kernel, rfl⟩
theorem a11_isSeenBy_57 : At cX11_isSeenBy 57 (.invokestatic 112) 3 60 := ⟨by decide +kernel, rfl⟩
theorem a11_isSeenBy_60 : At cX11_isSeenBy 60 (.aload_n 0) 1 61 := ⟨by decide +kernel, rfl⟩
theorem a11_isSeenBy_61 : At cX11_isSeenBy 61 (.getfield 7) 3 64 := ⟨by decide +kernel, rfl⟩
theorem a11_isSeenBy_64 : At cX11_isSeenBy 64 (.bipush 46) 2 66 := ⟨by decide +kernel, rfl⟩
theorem a11_isSeenBy_66 : At cX11_isSeenBy 66 (.iconst 2) 1 67 := ⟨by decide +kernel, rfl⟩
theorem a11_isSeenBy_67 : At cX11_isSeenBy 67 (.iload 4) 2 69 := ⟨by decide +kernel, rfl⟩
theorem a11_isSeenBy_69 : At cX11_isSeenBy 69 (.imul) 1 70 := ⟨by decide +kernel, rfl⟩
theorem a11_isSeenBy_70 : At cX11_isSeenBy 70 (.iadd) 1 71 := ⟨by decide +kernel, rfl⟩
theorem a11_isSeenBy_71 : At cX11_isSeenBy 71 (.iconst 1) 1 72 := ⟨by decide +kernel, rfl⟩
theorem a11_isSeenBy_72 : At cX11_isSeenBy 72 (.iadd) 1 73 := ⟨by decide +kernel, rfl⟩
theorem a11_isSeenBy_73 : At cX11_isSeenBy 73 (.iaload) 1 74 := ⟨by decide +kernel, rfl⟩
theorem a11_isSeenBy_74 : At cX11_isSeenBy 74 (.if_icmp .ne 7) 3 77 := ⟨by decide +kernel, rfl⟩
theorem a11_isSeenBy_77 : At cX11_isSeenBy 77 (.iconst 1) 1 78 := ⟨by decide +kernel, rfl⟩
theorem a11_isSeenBy_78 : At cX11_isSeenBy 78 (.goto 4) 3 81 := ⟨by decide +kernel, rfl⟩
theorem a11_isSeenBy_81 : At cX11_isSeenBy 81 (.iconst 0) 1 82 := ⟨by decide +kernel, rfl⟩
theorem a11_isSeenBy_82 : At cX11_isSeenBy 82 (.istore_n 3) 1 83 := ⟨by decide +kernel, rfl⟩
theorem a11_isSeenBy_83 : At cX11_isSeenBy 83 (.iinc 4 1) 3 86 := ⟨by decide +kernel, rfl⟩
theorem a11_isSeenBy_86 : At cX11_isSeenBy 86 (.goto (-67)) 3 89 := ⟨by decide +kernel, rfl⟩
theorem a11_isSeenBy_89 : At cX11_isSeenBy 89 (.iload_n 3) 1 90 := ⟨by decide +kernel, rfl⟩
theorem a11_isSeenBy_90 : At cX11_isSeenBy 90 (.ireturn) 1 91 := ⟨by decide +kernel, rfl⟩
def l11_isSeenBy_19 (k0 : Nat) (σ : Mem) : Nat → Int32 → Int32 → Option (Int32 × Int32)
  | 0, _, _ => none
  | n + 1, x3, x4 =>
  if (σ.1 22 0 2) ≤ x4 then
  (some (x3, x4))
  else
  (bnd (if x3 = 0 then
  (some 0)
  else
  (ck (inb (46 + (2 * x4)) 142) <|
  bnd (f11_struckOf 4 (σ.1 22 4 6) (σ.1 22 0 ((46 + (2 * x4)) : Int32).toNatClampNeg) σ) fun w8 =>
  ck (inb ((46 + (2 * x4)) + 1) 142) <|
  if w8 = (σ.1 22 0 (((46 + (2 * x4)) + 1) : Int32).toNatClampNeg) then
  (some 1)
  else
  (some 0)) : Option (Int32)) fun w5 =>
  l11_isSeenBy_19 k0 σ n w5 (x4 + 1))
theorem lE11_isSeenBy_19 {V : Option AV} {S : Mem} (k0 : Nat) (σ : Mem) : ∀ (n : Nat) (x3 : Int32) (x4 : Int32) {w : Int32 × Int32}, l11_isSeenBy_19 k0 σ n x3 x4 = some w → (Go m11_isSeenBy 89 [some (.inr (.inr (11, k0))), none, none, some (.inl w.1), some (.inl w.2)] [] σ V S) → Go m11_isSeenBy 19 [some (.inr (.inr (11, k0))), none, none, some (.inl x3), some (.inl x4)] [] σ V S
  | 0, x3, x4, w, h, K1 => by cases h
  | n + 1, x3, x4, w, h, K1 => by
    rw [l11_isSeenBy_19] at h
    refine g_iload a11_isSeenBy_19 rfl ?_
    refine g_aload_n a11_isSeenBy_21 rfl ?_
    refine g_getf (v := .inr (.inr (22, 0))) a11_isSeenBy_22 fs11_7 rfl ?_
    refine g_iconst (v := 2) a11_isSeenBy_25 rfl ?_
    refine g_iald (x := (σ.1 22 0 2)) a11_isSeenBy_26 (rI22 (by decide)) (inb_ok (by decide)) rfl ?_
    refine g_icmp_ge (tgt := 89) a11_isSeenBy_27 rfl (fun c13 => ?_) (fun c13 => ?_)
    · have h := (if_pos c13).symm.trans h
      have h := Option.some.inj h
      subst h
      exact g_weak K1 ⟨rfl, rfl, rfl, trivial⟩
    · have h := (if_neg c13).symm.trans h
      refine g_iload_n a11_isSeenBy_30 rfl ?_
      obtain ⟨w5, hw5, h⟩ := bnd_inv h
      have J6 : Go m11_isSeenBy 82 [some (.inr (.inr (11, k0))), none, none, none, some (.inl x4)] [.inl w5] σ V S := by
        refine g_istore_n (L' := [some (.inr (.inr (11, k0))), none, none, some (.inl w5), some (.inl x4)]) a11_isSeenBy_82 (Nat.le_of_ble_eq_true rfl) rfl rfl ?_
        refine g_iinc (v := (x4 + 1)) (L' := [some (.inr (.inr (11, k0))), none, none, some (.inl w5), some (.inl (x4 + 1))]) a11_isSeenBy_83 rfl rfl (Nat.le_of_ble_eq_true rfl) rfl rfl ?_
        refine g_goto (tgt := 19) a11_isSeenBy_86 rfl ?_
        exact g_weak (lE11_isSeenBy_19 (V := V) (S := S)  k0 σ n _ _ h K1) ⟨rfl, rfl, rfl, trivial⟩
      clear h
      refine g_if_eq (tgt := 81) a11_isSeenBy_31 rfl (fun c12 => ?_) (fun c12 => ?_)
      · have hw5 := (if_pos c12).symm.trans hw5
        refine g_iconst (v := 0) a11_isSeenBy_81 rfl ?_
        have hw5 := Option.some.inj hw5
        subst hw5
        exact g_weak J6 ⟨rfl, rfl, trivial⟩
      · have hw5 := (if_neg c12).symm.trans hw5
        refine g_aload_n a11_isSeenBy_34 rfl ?_
        refine g_getf (v := .inr (.inr (22, 4))) a11_isSeenBy_35 fs11_27 rfl ?_
        refine g_aload_n a11_isSeenBy_38 rfl ?_
        refine g_getf (v := .inr (.inr (22, 4))) a11_isSeenBy_39 fs11_27 rfl ?_
        refine g_bipush (v := 6) a11_isSeenBy_42 rfl ?_
        refine g_iald (x := (σ.1 22 4 6)) a11_isSeenBy_44 (rI22 (by decide)) (inb_ok (by decide)) rfl ?_
        refine g_aload_n a11_isSeenBy_45 rfl ?_
        refine g_getf (v := .inr (.inr (22, 0))) a11_isSeenBy_46 fs11_7 rfl ?_
        refine g_bipush (v := 46) a11_isSeenBy_49 rfl ?_
        refine g_iconst (v := 2) a11_isSeenBy_51 rfl ?_
        refine g_iload a11_isSeenBy_52 rfl ?_
        refine g_imul a11_isSeenBy_54 ?_
        refine g_iadd a11_isSeenBy_55 ?_
        obtain ⟨q7, hw5⟩ := ck_inv hw5
        refine g_iald (x := (σ.1 22 0 ((46 + (2 * x4)) : Int32).toNatClampNeg)) a11_isSeenBy_56 (rI22 (by decide)) (inb_ok q7) rfl ?_
        obtain ⟨w8, hw8, hw5⟩ := bnd_inv hw5
        refine g_S3s (v1 := .inl w8) (σ1 := σ) a11_isSeenBy_57 cs11_112 (E11_struckOf hw8) rfl (fun o9 => ?_)
        refine g_aload_n a11_isSeenBy_60 rfl ?_
        refine g_getf (v := .inr (.inr (22, 0))) a11_isSeenBy_61 fs11_7 rfl ?_
        refine g_bipush (v := 46) a11_isSeenBy_64 rfl ?_
        refine g_iconst (v := 2) a11_isSeenBy_66 rfl ?_
        refine g_iload a11_isSeenBy_67 rfl ?_
        refine g_imul a11_isSeenBy_69 ?_
        refine g_iadd a11_isSeenBy_70 ?_
        refine g_iconst (v := 1) a11_isSeenBy_71 rfl ?_
        refine g_iadd a11_isSeenBy_72 ?_
        obtain ⟨q10, hw5⟩ := ck_inv hw5
        refine g_iald (x := (σ.1 22 0 (((46 + (2 * x4)) + 1) : Int32).toNatClampNeg)) a11_isSeenBy_73 (rI22 (by decide)) (inb_ok q10) rfl ?_
        refine g_icmp_ne (tgt := 81) a11_isSeenBy_74 rfl (fun c11 => ?_) (fun c11 => ?_)
        · have hw5 := (if_neg c11).symm.trans hw5
          refine g_iconst (v := 0) a11_isSeenBy_81 rfl ?_
          have hw5 := Option.some.inj hw5
          subst hw5
          exact g_weak J6 ⟨rfl, rfl, trivial⟩
        · have hw5 := (if_pos c11).symm.trans hw5
          refine g_iconst (v := 1) a11_isSeenBy_77 rfl ?_
          refine g_goto (tgt := 82) a11_isSeenBy_78 rfl ?_
          have hw5 := Option.some.inj hw5
          subst hw5
          exact g_weak J6 ⟨rfl, rfl, trivial⟩
def f11_isSeenBy (k0 : Nat) (x1 : Int32) (x2 : Int32) (σ : Mem) : Option (Int32 × Mem) :=
  bnd (f11_layHand k0 σ) fun w1 =>
  ck (inb (28 + x1) 46) <|
  lt (sI w1 22 4 ((28 + x1) : Int32).toNatClampNeg x2) fun σ4 =>
  bnd (l11_isSeenBy_19 k0 σ4 2000 1 0) fun w14 =>
  ck (decide (w14.1 = 0 ∨ w14.1 = 1)) <|
  some (w14.1, σ4)
theorem E11_isSeenBy {k0 : Nat} {x1 : Int32} {x2 : Int32} {σ : Mem} {w : Int32 × Mem} (h : f11_isSeenBy k0 x1 x2 σ = some w) : Ev m11_isSeenBy [.inr (.inr (11, k0)), .inl x1, .inl x2] σ (some (.inl w.1) : Option AV) w.2 := by
  unfold f11_isSeenBy at h
  show Go m11_isSeenBy 0 [some (.inr (.inr (11, k0))), some (.inl x1), some (.inl x2), none, none] [] σ (some (.inl w.1) : Option AV) w.2
  refine g_iconst (v := 1) a11_isSeenBy_0 rfl ?_
  refine g_istore_n (L' := [some (.inr (.inr (11, k0))), some (.inl x1), some (.inl x2), some (.inl 1), none]) a11_isSeenBy_1 (Nat.le_of_ble_eq_true rfl) rfl rfl ?_
  refine g_aload_n a11_isSeenBy_2 rfl ?_
  obtain ⟨w1, hw1, h⟩ := bnd_inv h
  refine g_V0n (σ1 := w1) a11_isSeenBy_3 cv11_147 (E11_layHand hw1) rfl (fun o2 => ?_)
  refine g_aload_n a11_isSeenBy_6 rfl ?_
  refine g_getf (v := .inr (.inr (22, 4))) a11_isSeenBy_7 fs11_27 rfl ?_
  refine g_bipush (v := 28) a11_isSeenBy_10 rfl ?_
  refine g_iload_n a11_isSeenBy_12 rfl ?_
  refine g_iadd a11_isSeenBy_13 ?_
  refine g_iload_n a11_isSeenBy_14 rfl ?_
  obtain ⟨q3, h⟩ := ck_inv h
  obtain ⟨σ4, eσ4, h⟩ := lt_inv h
  refine g_iast (j := ((28 + x1) : Int32).toNatClampNeg) a11_isSeenBy_15 (rI22 (by decide)) (inb_ok q3) rfl ?_
  rw [eσ4]
  refine g_iconst (v := 0) a11_isSeenBy_16 rfl ?_
  refine g_istore (L' := [some (.inr (.inr (11, k0))), some (.inl x1), some (.inl x2), some (.inl 1), some (.inl 0)]) a11_isSeenBy_17 (Nat.le_of_ble_eq_true rfl) rfl rfl ?_
  obtain ⟨w14, hw14, h⟩ := bnd_inv h
  refine g_weak (lE11_isSeenBy_19 k0 σ4 2000 _ _ hw14 ?_) ⟨rfl, rfl, rfl, trivial⟩
  refine g_iload_n a11_isSeenBy_89 rfl ?_
  obtain ⟨q15, h⟩ := ck_inv h
  have q15 := of_decide_eq_true q15
  have h := Option.some.inj h
  subst h
  exact g_retE a11_isSeenBy_90 q15 rfl rfl
theorem a11_tall_0 : At cX11_tall 0 (.aload_n 0) 1 1 := ⟨by decide +kernel, rfl⟩
theorem a11_tall_1 : At cX11_tall 1 (.iload_n 1) 1 2 := ⟨by decide +kernel, rfl⟩
theorem a11_tall_2 : At cX11_tall 2 (.invokevirtual 134) 3 5 := ⟨by decide +kernel, rfl⟩
theorem a11_tall_5 : At cX11_tall 5 (.ifCond .eq 15) 3 8 := ⟨by decide +kernel, rfl⟩
theorem a11_tall_8 : At cX11_tall 8 (.iload_n 2) 1 9 := ⟨by decide +kernel, rfl⟩
theorem a11_tall_9 : At cX11_tall 9 (.i2l) 1 10 := ⟨by decide +kernel, rfl⟩
theorem a11_tall_10 : At cX11_tall 10 (.lconst 0) 1 11 := ⟨by decide +kernel, rfl⟩
theorem a11_tall_11 : At cX11_tall 11 (.ldc2_w 145) 3 14 := ⟨by decide +kernel, rfl⟩
theorem a11_tall_14 : At cX11_tall 14 (.invokestatic 59) 3 17 := ⟨by decide +kernel, rfl⟩
theorem a11_tall_17 : At cX11_tall 17 (.ifCond .ne 10) 3 20 := ⟨by decide +kernel, rfl⟩
theorem a11_tall_20 : At cX11_tall 20 (.aload_n 0) 1 21 := ⟨by decide +kernel, rfl⟩
theorem a11_tall_21 : At cX11_tall 21 (.bipush (-2)) 2 23 := ⟨by decide +kernel, rfl⟩
theorem a11_tall_23 : At cX11_tall 23 (.invokevirtual 73) 3 26 := ⟨by decide +kernel, rfl⟩
theorem a11_tall_26 : At cX11_tall 26 (.ireturn) 1 27 := ⟨by decide +kernel, rfl⟩
theorem a11_tall_27 : At cX11_tall 27 (.iconst 0) 1 28 := ⟨by decide +kernel, rfl⟩
theorem a11_tall_28 : At cX11_tall 28 (.istore_n 3) 1 29 := ⟨by decide +kernel, rfl⟩
theorem a11_tall_29 : At cX11_tall 29 (.iconst (-1)) 1 30 := ⟨by decide +kernel, rfl⟩
theorem a11_tall_30 : At cX11_tall 30 (.istore 4) 2 32 := ⟨by decide +kernel, rfl⟩
theorem a11_tall_32 : At cX11_tall 32 (.iconst (-1)) 1 33 := ⟨by decide +kernel, rfl⟩
theorem a11_tall_33 : At cX11_tall 33 (.istore 5) 2 35 := ⟨by decide +kernel, rfl⟩
theorem a11_tall_35 : At cX11_tall 35 (.iconst 1) 1 36 := ⟨by decide +kernel, rfl⟩
theorem a11_tall_36 : At cX11_tall 36 (.istore 6) 2 38 := ⟨by decide +kernel, rfl⟩
theorem a11_tall_38 : At cX11_tall 38 (.iload 6) 2 40 := ⟨by decide +kernel, rfl⟩
theorem a11_tall_40 : At cX11_tall 40 (.bipush 30) 2 42 := ⟨by decide +kernel, rfl⟩
theorem a11_tall_42 : At cX11_tall 42 (.if_icmp .gt 39) 3 45 := ⟨by decide +kernel, rfl⟩
theorem a11_tall_45 : At cX11_tall 45 (.aload_n 0) 1 46 := ⟨by decide +kernel, rfl⟩
theorem a11_tall_46 : At cX11_tall 46 (.iload_n 1) 1 47 := ⟨by decide +kernel, rfl⟩
theorem a11_tall_47 : At cX11_tall 47 (.iload 6) 2 49 := ⟨by decide +kernel, rfl⟩
theorem a11_tall_49 : At cX11_tall 49 (.invokevirtual 169) 3 52 := ⟨by decide +kernel, rfl⟩
theorem a11_tall_52 : At cX11_tall 52 (.ifCond .eq 23) 3 55 := ⟨by decide +kernel, rfl⟩
theorem a11_tall_55 : At cX11_tall 55 (.iload_n 3) 1 56 := ⟨by decide +kernel, rfl⟩
theorem a11_tall_56 : At cX11_tall 56 (.ifCond .ne 8) 3 59 := ⟨by decide +kernel, rfl⟩
theorem a11_tall_59 : At cX11_tall 59 (.iload 6) 2 61 := ⟨by decide +kernel, rfl⟩
theorem a11_tall_61 : At cX11_tall 61 (.goto 5) 3 64 := ⟨by decide +kernel, rfl⟩
theorem a11_tall_64 : At cX11_tall 64 (.iload 4) 2 66 := ⟨by decide +kernel, rfl⟩
theorem a11_tall_66 : At cX11_tall 66 (.istore 4) 2 68 := ⟨by decide +kernel, rfl⟩
theorem a11_tall_68 : At cX11_tall 68 (.iload 6) 2 70 := ⟨by decide +kernel, rfl⟩
theorem a11_tall_70 : At cX11_tall 70 (.istore 5) 2 72 := ⟨by decide +kernel, rfl⟩
theorem a11_tall_72 : At cX11_tall 72 (.iinc 3 1) 3 75 := ⟨by decide +kernel, rfl⟩
theorem a11_tall_75 : At cX11_tall 75 (.iinc 6 1) 3 78 := ⟨by decide +kernel, rfl⟩
theorem a11_tall_78 : At cX11_tall 78 (.goto (-40)) 3 81 := ⟨by decide +kernel, rfl⟩
theorem a11_tall_81 : At cX11_tall 81 (.iload_n 2) 1 82 := ⟨by decide +kernel, rfl⟩
theorem a11_tall_82 : At cX11_tall 82 (.ifCond .ne 7) 3 85 := ⟨by decide +kernel, rfl⟩
theorem a11_tall_85 : At cX11_tall 85 (.iload_n 3) 1 86 := ⟨by decide +kernel, rfl⟩
theorem a11_tall_86 : At cX11_tall 86 (.goto 15) 3 89 := ⟨by decide +kernel, rfl⟩
theorem a11_tall_89 : At cX11_tall 89 (.iload_n 2) 1 90 := ⟨by decide +kernel, rfl⟩
theorem a11_tall_90 : At cX11_tall 90 (.iconst 1) 1 91 := ⟨by decide +kernel, rfl⟩
theorem a11_tall_91 : At cX11_tall 91 (.if_icmp .ne 8) 3 94 := ⟨by decide +kernel, rfl⟩
theorem a11_tall_94 : At cX11_tall 94 (.iload 4) 2 96 := ⟨by decide +kernel, rfl⟩
theorem a11_tall_96 : At cX11_tall 96 (.goto 5) 3 99 := ⟨by decide +kernel, rfl⟩
theorem a11_tall_99 : At cX11_tall 99 (.iload 5) 2 101 := ⟨by decide +kernel, rfl⟩
theorem a11_tall_101 : At cX11_tall 101 (.ireturn) 1 102 := ⟨by decide +kernel, rfl⟩
def l11_tall_38 (k0 : Nat) (x1 : Int32) (x2 : Int32) : Nat → Int32 → Int32 → Int32 → Int32 → Mem → Option (Int32 × Int32 × Int32 × Int32 × Mem)
  | 0, _, _, _, _, _ => none
  | n + 1, x3, x4, x5, x6, σ =>
  if 30 < x6 then
  (some (x3, x4, x5, x6, σ))
  else
  (bnd (f11_isSeenBy k0 x1 x6 σ) fun w7 =>
  lt (if w7.1 = 0 then
  ((x3, x4, x5))
  else
  (lt (if x3 = 0 then
  (x6)
  else
  (x4) : Int32) fun w11 =>
  ((x3 + 1), w11, x6)) : Int32 × Int32 × Int32) fun w9 =>
  l11_tall_38 k0 x1 x2 n w9.1 w9.2.1 w9.2.2 (x6 + 1) w7.2)
theorem lE11_tall_38 {V : Option AV} {S : Mem} (k0 : Nat) (x1 : Int32) (x2 : Int32) : ∀ (n : Nat) (x3 : Int32) (x4 : Int32) (x5 : Int32) (x6 : Int32) (σ : Mem) {w : Int32 × Int32 × Int32 × Int32 × Mem}, l11_tall_38 k0 x1 x2 n x3 x4 x5 x6 σ = some w → (Go m11_tall 81 [some (.inr (.inr (11, k0))), some (.inl x1), some (.inl x2), some (.inl w.1), some (.inl w.2.1), some (.inl w.2.2.1), some (.inl w.2.2.2.1)] [] w.2.2.2.2 V S) → Go m11_tall 38 [some (.inr (.inr (11, k0))), some (.inl x1), some (.inl x2), some (.inl x3), some (.inl x4), some (.inl x5), some (.inl x6)] [] σ V S
  | 0, x3, x4, x5, x6, σ, w, h, K1 => by cases h
  | n + 1, x3, x4, x5, x6, σ, w, h, K1 => by
    rw [l11_tall_38] at h
    refine g_iload a11_tall_38 rfl ?_
    refine g_bipush (v := 30) a11_tall_40 rfl ?_
    refine g_icmp_gt (tgt := 81) a11_tall_42 rfl (fun c15 => ?_) (fun c15 => ?_)
    · have h := (if_pos c15).symm.trans h
      have h := Option.some.inj h
      subst h
      exact g_weak K1 ⟨rfl, rfl, rfl, rfl, rfl, rfl, rfl, trivial⟩
    · have h := (if_neg c15).symm.trans h
      refine g_aload_n a11_tall_45 rfl ?_
      refine g_iload_n a11_tall_46 rfl ?_
      refine g_iload a11_tall_47 rfl ?_
      obtain ⟨w7, hw7, h⟩ := bnd_inv h
      refine g_V2s (v1 := .inl w7.1) (σ1 := w7.2) a11_tall_49 cv11_169 (E11_isSeenBy hw7) rfl (fun o8 => ?_)
      obtain ⟨w9, hw9, h⟩ := lt_inv h
      have J10 : Go m11_tall 75 [some (.inr (.inr (11, k0))), some (.inl x1), some (.inl x2), some (.inl w9.1), some (.inl w9.2.1), some (.inl w9.2.2), some (.inl x6)] [] w7.2 V S := by
        refine g_iinc (v := (x6 + 1)) (L' := [some (.inr (.inr (11, k0))), some (.inl x1), some (.inl x2), some (.inl w9.1), some (.inl w9.2.1), some (.inl w9.2.2), some (.inl (x6 + 1))]) a11_tall_75 rfl rfl (Nat.le_of_ble_eq_true rfl) rfl rfl ?_
        refine g_goto (tgt := 38) a11_tall_78 rfl ?_
        exact g_weak (lE11_tall_38 (V := V) (S := S)  k0 x1 x2 n _ _ _ _ _ h K1) ⟨rfl, rfl, rfl, rfl, rfl, rfl, rfl, trivial⟩
      clear h
      refine g_if_eq (tgt := 75) a11_tall_52 rfl (fun c14 => ?_) (fun c14 => ?_)
      · have hw9 := (if_pos c14).symm.trans hw9
        subst hw9
        exact g_weak J10 ⟨rfl, rfl, rfl, rfl, rfl, rfl, rfl, trivial⟩
      · have hw9 := (if_neg c14).symm.trans hw9
        refine g_iload_n a11_tall_55 rfl ?_
        obtain ⟨w11, hw11, hw9⟩ := lt_inv hw9
        have J12 : Go m11_tall 66 [some (.inr (.inr (11, k0))), some (.inl x1), some (.inl x2), some (.inl x3), none, none, some (.inl x6)] [.inl w11] w7.2 V S := by
          refine g_istore (L' := [some (.inr (.inr (11, k0))), some (.inl x1), some (.inl x2), some (.inl x3), some (.inl w11), none, some (.inl x6)]) a11_tall_66 (Nat.le_of_ble_eq_true rfl) rfl rfl ?_
          refine g_iload a11_tall_68 rfl ?_
          refine g_istore (L' := [some (.inr (.inr (11, k0))), some (.inl x1), some (.inl x2), some (.inl x3), some (.inl w11), some (.inl x6), some (.inl x6)]) a11_tall_70 (Nat.le_of_ble_eq_true rfl) rfl rfl ?_
          refine g_iinc (v := (x3 + 1)) (L' := [some (.inr (.inr (11, k0))), some (.inl x1), some (.inl x2), some (.inl (x3 + 1)), some (.inl w11), some (.inl x6), some (.inl x6)]) a11_tall_72 rfl rfl (Nat.le_of_ble_eq_true rfl) rfl rfl ?_
          subst hw9
          exact g_weak J10 ⟨rfl, rfl, rfl, rfl, rfl, rfl, rfl, trivial⟩
        clear hw9
        refine g_if_ne (tgt := 64) a11_tall_56 rfl (fun c13 => ?_) (fun c13 => ?_)
        · have hw11 := (if_neg c13).symm.trans hw11
          refine g_iload a11_tall_64 rfl ?_
          subst hw11
          exact g_weak J12 ⟨rfl, rfl, rfl, rfl, rfl, trivial⟩
        · have hw11 := (if_pos c13).symm.trans hw11
          refine g_iload a11_tall_59 rfl ?_
          refine g_goto (tgt := 66) a11_tall_61 rfl ?_
          subst hw11
          exact g_weak J12 ⟨rfl, rfl, rfl, rfl, rfl, trivial⟩
def f11_tall (k0 : Nat) (x1 : Int32) (x2 : Int32) (σ : Mem) : Option (Int32 × Mem) :=
  if (f11_isThing k0 x1 σ) = 0 then
  (lt (f11_bad k0 (-2) σ) fun w2 =>
  some (w2.1, w2.2))
  else
  (if (f11_in (x2.toInt64) 0 2) = 0 then
  (lt (f11_bad k0 (-2) σ) fun w5 =>
  some (w5.1, w5.2))
  else
  (bnd (l11_tall_38 k0 x1 x2 2000 0 (-1) (-1) 1 σ) fun w16 =>
  if x2 = 0 then
  (some (w16.1, w16.2.2.2.2))
  else
  (if x2 = 1 then
  (some (w16.2.1, w16.2.2.2.2))
  else
  (some (w16.2.2.1, w16.2.2.2.2)))))
theorem E11_tall {k0 : Nat} {x1 : Int32} {x2 : Int32} {σ : Mem} {w : Int32 × Mem} (h : f11_tall k0 x1 x2 σ = some w) : Ev m11_tall [.inr (.inr (11, k0)), .inl x1, .inl x2] σ (some (.inl w.1) : Option AV) w.2 := by
  unfold f11_tall at h
  show Go m11_tall 0 [some (.inr (.inr (11, k0))), some (.inl x1), some (.inl x2), none, none, none, none] [] σ (some (.inl w.1) : Option AV) w.2
  refine g_aload_n a11_tall_0 rfl ?_
  refine g_iload_n a11_tall_1 rfl ?_
  refine g_V1s (v1 := .inl (f11_isThing k0 x1 σ)) (σ1 := σ) a11_tall_2 cv11_134 (E11_isThing _ _ _) rfl (fun o1 => ?_)
  refine g_if_eq (tgt := 20) a11_tall_5 rfl (fun c20 => ?_) (fun c20 => ?_)
  · have h := (if_pos c20).symm.trans h
    refine g_aload_n a11_tall_20 rfl ?_
    refine g_bipush (v := (-2)) a11_tall_21 rfl ?_
    obtain ⟨w2, hw2, h⟩ := lt_inv h
    refine g_V1s (v1 := .inl w2.1) (σ1 := w2.2) a11_tall_23 cv11_73 (by rw [← hw2]; exact E11_bad _ _ _) rfl (fun o3 => ?_)
    have h := Option.some.inj h
    subst h
    exact g_retE a11_tall_26 trivial rfl rfl
  · have h := (if_neg c20).symm.trans h
    refine g_iload_n a11_tall_8 rfl ?_
    refine g_i2l a11_tall_9 ?_
    refine g_lconst (v := 0) a11_tall_10 rfl ?_
    refine g_ldc2 (v := 2) a11_tall_11 wl11_145 ?_
    refine g_S3s (v1 := .inl (f11_in (x2.toInt64) 0 2)) (σ1 := σ) a11_tall_14 cs11_59 (E11_in _ _ _ _) rfl (fun o4 => ?_)
    refine g_if_ne (tgt := 27) a11_tall_17 rfl (fun c19 => ?_) (fun c19 => ?_)
    · have h := (if_neg c19).symm.trans h
      refine g_iconst (v := 0) a11_tall_27 rfl ?_
      refine g_istore_n (L' := [some (.inr (.inr (11, k0))), some (.inl x1), some (.inl x2), some (.inl 0), none, none, none]) a11_tall_28 (Nat.le_of_ble_eq_true rfl) rfl rfl ?_
      refine g_iconst (v := (-1)) a11_tall_29 rfl ?_
      refine g_istore (L' := [some (.inr (.inr (11, k0))), some (.inl x1), some (.inl x2), some (.inl 0), some (.inl (-1)), none, none]) a11_tall_30 (Nat.le_of_ble_eq_true rfl) rfl rfl ?_
      refine g_iconst (v := (-1)) a11_tall_32 rfl ?_
      refine g_istore (L' := [some (.inr (.inr (11, k0))), some (.inl x1), some (.inl x2), some (.inl 0), some (.inl (-1)), some (.inl (-1)), none]) a11_tall_33 (Nat.le_of_ble_eq_true rfl) rfl rfl ?_
      refine g_iconst (v := 1) a11_tall_35 rfl ?_
      refine g_istore (L' := [some (.inr (.inr (11, k0))), some (.inl x1), some (.inl x2), some (.inl 0), some (.inl (-1)), some (.inl (-1)), some (.inl 1)]) a11_tall_36 (Nat.le_of_ble_eq_true rfl) rfl rfl ?_
      obtain ⟨w16, hw16, h⟩ := bnd_inv h
      refine g_weak (lE11_tall_38 k0 x1 x2 2000 _ _ _ _ _ hw16 ?_) ⟨rfl, rfl, rfl, rfl, rfl, rfl, rfl, trivial⟩
      refine g_iload_n a11_tall_81 rfl ?_
      refine g_if_ne (tgt := 89) a11_tall_82 rfl (fun c18 => ?_) (fun c18 => ?_)
      · have h := (if_neg c18).symm.trans h
        refine g_iload_n a11_tall_89 rfl ?_
        refine g_iconst (v := 1) a11_tall_90 rfl ?_
        refine g_icmp_ne (tgt := 99) a11_tall_91 rfl (fun c17 => ?_) (fun c17 => ?_)
        · have h := (if_neg c17).symm.trans h
          refine g_iload a11_tall_99 rfl ?_
          have h := Option.some.inj h
          subst h
          exact g_retE a11_tall_101 trivial rfl rfl
        · have h := (if_pos c17).symm.trans h
          refine g_iload a11_tall_94 rfl ?_
          refine g_goto (tgt := 101) a11_tall_96 rfl ?_
          have h := Option.some.inj h
          subst h
          exact g_retE a11_tall_101 trivial rfl rfl
      · have h := (if_pos c18).symm.trans h
        refine g_iload_n a11_tall_85 rfl ?_
        refine g_goto (tgt := 101) a11_tall_86 rfl ?_
        have h := Option.some.inj h
        subst h
        exact g_retE a11_tall_101 trivial rfl rfl
    · have h := (if_pos c19).symm.trans h
      refine g_aload_n a11_tall_20 rfl ?_
      refine g_bipush (v := (-2)) a11_tall_21 rfl ?_
      obtain ⟨w5, hw5, h⟩ := lt_inv h
      refine g_V1s (v1 := .inl w5.1) (σ1 := w5.2) a11_tall_23 cv11_73 (by rw [← hw5]; exact E11_bad _ _ _) rfl (fun o6 => ?_)
      have h := Option.some.inj h
      subst h
      exact g_retE a11_tall_26 trivial rfl rfl
theorem a11_note_0 : At cX11_note 0 (.aload_n 0) 1 1 := ⟨by decide +kernel, rfl⟩
theorem a11_note_1 : At cX11_note 1 (.iload_n 1) 1 2 := ⟨by decide +kernel, rfl⟩
theorem a11_note_2 : At cX11_note 2 (.invokevirtual 134) 3 5 := ⟨by decide +kernel, rfl⟩
theorem a11_note_5 : At cX11_note 5 (.ifCond .eq 48) 3 8 := ⟨by decide +kernel, rfl⟩
theorem a11_note_8 : At cX11_note 8 (.iload_n 2) 1 9 := ⟨by decide +kernel, rfl⟩
theorem a11_note_9 : At cX11_note 9 (.i2l) 1 10 := ⟨by decide +kernel, rfl⟩
theorem a11_note_10 : At cX11_note 10 (.lconst 1) 1 11 := ⟨by decide +kernel, rfl⟩
theorem a11_note_11 : At cX11_note 11 (.ldc2_w 80) 3 14 := ⟨by decide +kernel, rfl⟩
theorem a11_note_14 : At cX11_note 14 (.invokestatic 59) 3 17 := ⟨by decide +kernel, rfl⟩
theorem a11_note_17 : At cX11_note 17 (.ifCond .eq 36) 3 20 := ⟨by decide +kernel, rfl⟩
theorem a11_note_20 : At cX11_note 20 (.iload_n 3) 1 21 := ⟨by decide +kernel, rfl⟩
theorem a11_note_21 : At cX11_note 21 (.invokestatic 67) 3 24 := ⟨by decide +kernel, rfl⟩
theorem a11_note_24 : At cX11_note 24 (.ifCond .eq 29) 3 27 := ⟨by decide +kernel, rfl⟩
theorem a11_note_27 : At cX11_note 27 (.iload 4) 2 29 := ⟨by decide +kernel, rfl⟩
theorem a11_note_29 : At cX11_note 29 (.i2l) 1 30 := ⟨by decide +kernel, rfl⟩
theorem a11_note_30 : At cX11_note 30 (.lconst 0) 1 31 := ⟨by decide +kernel, rfl⟩
theorem a11_note_31 : At cX11_note 31 (.ldc2_w 156) 3 34 := ⟨by decide +kernel, rfl⟩
theorem a11_note_34 : At cX11_note 34 (.invokestatic 59) 3 37 := ⟨by decide +kernel, rfl⟩
theorem a11_note_37 : At cX11_note 37 (.ifCond .eq 16) 3 40 := ⟨by decide +kernel, rfl⟩
theorem a11_note_40 : At cX11_note 40 (.iload 5) 2 42 := ⟨by decide +kernel, rfl⟩
theorem a11_note_42 : At cX11_note 42 (.i2l) 1 43 := ⟨by decide +kernel, rfl⟩
theorem a11_note_43 : At cX11_note 43 (.lconst 0) 1 44 := ⟨by decide +kernel, rfl⟩
theorem a11_note_44 : At cX11_note 44 (.ldc2_w 156) 3 47 := ⟨by decide +kernel, rfl⟩
theorem a11_note_47 : At cX11_note 47 (.invokestatic 59) 3 50 := ⟨by decide +kernel, rfl⟩
theorem a11_note_50 : At cX11_note 50 (.ifCond .ne 10) 3 53 := ⟨by decide +kernel, rfl⟩
theorem a11_note_53 : At cX11_note 53 (.aload_n 0) 1 54 := ⟨by decide +kernel, rfl⟩
theorem a11_note_54 : At cX11_note 54 (.bipush (-2)) 2 56 := ⟨by decide +kernel, rfl⟩
theorem a11_note_56 : At cX11_note 56 (.invokevirtual 73) 3 59 := ⟨by decide +kernel, rfl⟩
theorem a11_note_59 : At cX11_note 59 (.ireturn) 1 60 := ⟨by decide +kernel, rfl⟩
theorem a11_note_60 : At cX11_note 60 (.aload_n 0) 1 61 := ⟨by decide +kernel, rfl⟩
theorem a11_note_61 : At cX11_note 61 (.getfield 7) 3 64 := ⟨by decide +kernel, rfl⟩
theorem a11_note_64 : At cX11_note 64 (.iconst 3) 1 65 := ⟨by decide +kernel, rfl⟩
theorem a11_note_65 : At cX11_note 65 (.iaload) 1 66 := ⟨by decide +kernel, rfl⟩
theorem a11_note_66 : At cX11_note 66 (.bipush 6) 2 68 := ⟨by decide +kernel, rfl⟩
theorem a11_note_68 : At cX11_note 68 (.if_icmp .ne 8) 3 71 := ⟨by decide +kernel, rfl⟩
theorem a11_note_71 : At cX11_note 71 (.aload_n 0) 1 72 := ⟨by decide +kernel, rfl⟩
theorem a11_note_72 : At cX11_note 72 (.invokevirtual 82) 3 75 := ⟨by decide +kernel, rfl⟩
theorem a11_note_75 : At cX11_note 75 (.ireturn) 1 76 := ⟨by decide +kernel, rfl⟩
theorem a11_note_76 : At cX11_note 76 (.bipush 56) 2 78 := ⟨by decide +kernel, rfl⟩
theorem a11_note_78 : At cX11_note 78 (.iconst 5) 1 79 := ⟨by decide +kernel, rfl⟩
theorem a11_note_79 : At cX11_note 79 (.aload_n 0) 1 80 := ⟨by decide +kernel, rfl⟩
theorem a11_note_80 : At cX11_note 80 (.getfield 7) 3 83 := ⟨by decide +kernel, rfl⟩
theorem a11_note_83 : At cX11_note 83 (.iconst 3) 1 84 := ⟨by decide +kernel, rfl⟩
theorem a11_note_84 : At cX11_note 84 (.iaload) 1 85 := ⟨by decide +kernel, rfl⟩
theorem a11_note_85 : At cX11_note 85 (.imul) 1 86 := ⟨by decide +kernel, rfl⟩
theorem a11_note_86 : At cX11_note 86 (.iadd) 1 87 := ⟨by decide +kernel, rfl⟩
theorem a11_note_87 : At cX11_note 87 (.istore 6) 2 89 := ⟨by decide +kernel, rfl⟩
theorem a11_note_89 : At cX11_note 89 (.aload_n 0) 1 90 := ⟨by decide +kernel, rfl⟩
theorem a11_note_90 : At cX11_note 90 (.getfield 7) 3 93 := ⟨by decide +kernel, rfl⟩
theorem a11_note_93 : At cX11_note 93 (.iload 6) 2 95 := ⟨by decide +kernel, rfl⟩
theorem a11_note_95 : At cX11_note 95 (.iload_n 1) 1 96 := ⟨by decide +kernel, rfl⟩
theorem a11_note_96 : At cX11_note 96 (.iastore) 1 97 := ⟨by decide +kernel, rfl⟩
theorem a11_note_97 : At cX11_note 97 (.aload_n 0) 1 98 := ⟨by decide +kernel, rfl⟩
theorem a11_note_98 : At cX11_note 98 (.getfield 7) 3 101 := ⟨by decide +kernel, rfl⟩
theorem a11_note_101 : At cX11_note 101 (.iload 6) 2 103 := ⟨by decide +kernel, rfl⟩
theorem a11_note_103 : At cX11_note 103 (.iconst 1) 1 104 := ⟨by decide +kernel, rfl⟩
theorem a11_note_104 : At cX11_note 104 (.iadd) 1 105 := ⟨by decide +kernel, rfl⟩
theorem a11_note_105 : At cX11_note 105 (.iload_n 2) 1 106 := ⟨by decide +kernel, rfl⟩
theorem a11_note_106 : At cX11_note 106 (.iastore) 1 107 := ⟨by decide +kernel, rfl⟩
theorem a11_note_107 : At cX11_note 107 (.aload_n 0) 1 108 := ⟨by decide +kernel, rfl⟩
theorem a11_note_108 : At cX11_note 108 (.getfield 7) 3 111 := ⟨by decide +kernel, rfl⟩
theorem a11_note_111 : At cX11_note 111 (.iload 6) 2 113 := ⟨by decide +kernel, rfl⟩
theorem a11_note_113 : At cX11_note 113 (.iconst 2) 1 114 := ⟨by decide +kernel, rfl⟩
theorem a11_note_114 : At cX11_note 114 (.iadd) 1 115 := ⟨by decide +kernel, rfl⟩
theorem a11_note_115 : At cX11_note 115 (.iload_n 3) 1 116 := ⟨by decide +kernel, rfl⟩
theorem a11_note_116 : At cX11_note 116 (.iastore) 1 117 := ⟨by decide +kernel, rfl⟩
theorem a11_note_117 : At cX11_note 117 (.aload_n 0) 1 118 := ⟨by decide +kernel, rfl⟩
theorem a11_note_118 : At cX11_note 118 (.getfield 7) 3 121 := ⟨by decide +kernel, rfl⟩
theorem a11_note_121 : At cX11_note 121 (.iload 6) 2 123 := ⟨by decide +kernel, rfl⟩
theorem a11_note_123 : At cX11_note 123 (.iconst 3) 1 124 := ⟨by decide +kernel, rfl⟩
theorem a11_note_124 : At cX11_note 124 (.iadd) 1 125 := ⟨by decide +kernel, rfl⟩
theorem a11_note_125 : At cX11_note 125 (.iload 4) 2 127 := ⟨by decide +kernel, rfl⟩
theorem a11_note_127 : At cX11_note 127 (.iastore) 1 128 := ⟨by decide +kernel, rfl⟩
theorem a11_note_128 : At cX11_note 128 (.aload_n 0) 1 129 := ⟨by decide +kernel, rfl⟩
theorem a11_note_129 : At cX11_note 129 (.getfield 7) 3 132 := ⟨by decide +kernel, rfl⟩
theorem a11_note_132 : At cX11_note 132 (.iload 6) 2 134 := ⟨by decide +kernel, rfl⟩
theorem a11_note_134 : At cX11_note 134 (.iconst 4) 1 135 := ⟨by decide +kernel, rfl⟩
theorem a11_note_135 : At cX11_note 135 (.iadd) 1 136 := ⟨by decide +kernel, rfl⟩
theorem a11_note_136 : At cX11_note 136 (.iload 5) 2 138 := ⟨by decide +kernel, rfl⟩
theorem a11_note_138 : At cX11_note 138 (.iastore) 1 139 := ⟨by decide +kernel, rfl⟩
theorem a11_note_139 : At cX11_note 139 (.aload_n 0) 1 140 := ⟨by decide +kernel, rfl⟩
theorem a11_note_140 : At cX11_note 140 (.getfield 7) 3 143 := ⟨by decide +kernel, rfl⟩
theorem a11_note_143 : At cX11_note 143 (.iconst 3) 1 144 := ⟨by decide +kernel, rfl⟩
theorem a11_note_144 : At cX11_note 144 (.dup2) 1 145 := ⟨by decide +kernel, rfl⟩
theorem a11_note_145 : At cX11_note 145 (.iaload) 1 146 := ⟨by decide +kernel, rfl⟩
theorem a11_note_146 : At cX11_note 146 (.iconst 1) 1 147 := ⟨by decide +kernel, rfl⟩
theorem a11_note_147 : At cX11_note 147 (.iadd) 1 148 := ⟨by decide +kernel, rfl⟩
theorem a11_note_148 : At cX11_note 148 (.iastore) 1 149 := ⟨by decide +kernel, rfl⟩
theorem a11_note_149 : At cX11_note 149 (.aload_n 0) 1 150 := ⟨by decide +kernel, rfl⟩
theorem a11_note_150 : At cX11_note 150 (.getfield 7) 3 153 := ⟨by decide +kernel, rfl⟩
theorem a11_note_153 : At cX11_note 153 (.iconst 3) 1 154 := ⟨by decide +kernel, rfl⟩
theorem a11_note_154 : At cX11_note 154 (.iaload) 1 155 := ⟨by decide +kernel, rfl⟩
theorem a11_note_155 : At cX11_note 155 (.ireturn) 1 156 := ⟨by decide +kernel, rfl⟩
def f11_note (k0 : Nat) (x1 : Int32) (x2 : Int32) (x3 : Int32) (x4 : Int32) (x5 : Int32) (σ : Mem) : Option (Int32 × Mem) :=
  if (f11_isThing k0 x1 σ) = 0 then
  (lt (f11_bad k0 (-2) σ) fun w2 =>
  some (w2.1, w2.2))
  else
  (if (f11_in (x2.toInt64) 1 30) = 0 then
  (lt (f11_bad k0 (-2) σ) fun w5 =>
  some (w5.1, w5.2))
  else
  (if (f11_isCell x3) = 0 then
  (lt (f11_bad k0 (-2) σ) fun w8 =>
  some (w8.1, w8.2))
  else
  (if (f11_in (x4.toInt64) 0 99) = 0 then
  (lt (f11_bad k0 (-2) σ) fun w11 =>
  some (w11.1, w11.2))
  else
  (if (f11_in (x5.toInt64) 0 99) = 0 then
  (lt (f11_bad k0 (-2) σ) fun w14 =>
  some (w14.1, w14.2))
  else
  (if (σ.1 22 0 3) = 6 then
  (lt (f11_full k0 σ) fun w16 =>
  some (w16.1, w16.2))
  else
  (ck (inb (56 + (5 * (σ.1 22 0 3))) 142) <|
  lt (sI σ 22 0 ((56 + (5 * (σ.1 22 0 3))) : Int32).toNatClampNeg x1) fun σ19 =>
  ck (inb ((56 + (5 * (σ.1 22 0 3))) + 1) 142) <|
  lt (sI σ19 22 0 (((56 + (5 * (σ.1 22 0 3))) + 1) : Int32).toNatClampNeg x2) fun σ21 =>
  ck (inb ((56 + (5 * (σ.1 22 0 3))) + 2) 142) <|
  lt (sI σ21 22 0 (((56 + (5 * (σ.1 22 0 3))) + 2) : Int32).toNatClampNeg x3) fun σ23 =>
  ck (inb ((56 + (5 * (σ.1 22 0 3))) + 3) 142) <|
  lt (sI σ23 22 0 (((56 + (5 * (σ.1 22 0 3))) + 3) : Int32).toNatClampNeg x4) fun σ25 =>
  ck (inb ((56 + (5 * (σ.1 22 0 3))) + 4) 142) <|
  lt (sI σ25 22 0 (((56 + (5 * (σ.1 22 0 3))) + 4) : Int32).toNatClampNeg x5) fun σ27 =>
  lt (sI σ27 22 0 3 ((σ27.1 22 0 3) + 1)) fun σ28 =>
  some ((σ28.1 22 0 3), σ28)))))))
theorem E11_note {k0 : Nat} {x1 : Int32} {x2 : Int32} {x3 : Int32} {x4 : Int32} {x5 : Int32} {σ : Mem} {w : Int32 × Mem} (h : f11_note k0 x1 x2 x3 x4 x5 σ = some w) : Ev m11_note [.inr (.inr (11, k0)), .inl x1, .inl x2, .inl x3, .inl x4, .inl x5] σ (some (.inl w.1) : Option AV) w.2 := by
  unfold f11_note at h
  show Go m11_note 0 [some (.inr (.inr (11, k0))), some (.inl x1), some (.inl x2), some (.inl x3), some (.inl x4), some (.inl x5), none] [] σ (some (.inl w.1) : Option AV) w.2
  refine g_aload_n a11_note_0 rfl ?_
  refine g_iload_n a11_note_1 rfl ?_
  refine g_V1s (v1 := .inl (f11_isThing k0 x1 σ)) (σ1 := σ) a11_note_2 cv11_134 (E11_isThing _ _ _) rfl (fun o1 => ?_)
  refine g_if_eq (tgt := 53) a11_note_5 rfl (fun c34 => ?_) (fun c34 => ?_)
  · have h := (if_pos c34).symm.trans h
    refine g_aload_n a11_note_53 rfl ?_
    refine g_bipush (v := (-2)) a11_note_54 rfl ?_
    obtain ⟨w2, hw2, h⟩ := lt_inv h
    refine g_V1s (v1 := .inl w2.1) (σ1 := w2.2) a11_note_56 cv11_73 (by rw [← hw2]; exact E11_bad _ _ _) rfl (fun o3 => ?_)
    have h := Option.some.inj h
    subst h
    exact g_retE a11_note_59 trivial rfl rfl
  · have h := (if_neg c34).symm.trans h
    refine g_iload_n a11_note_8 rfl ?_
    refine g_i2l a11_note_9 ?_
    refine g_lconst (v := 1) a11_note_10 rfl ?_
    refine g_ldc2 (v := 30) a11_note_11 wl11_80 ?_
    refine g_S3s (v1 := .inl (f11_in (x2.toInt64) 1 30)) (σ1 := σ) a11_note_14 cs11_59 (E11_in _ _ _ _) rfl (fun o4 => ?_)
    refine g_if_eq (tgt := 53) a11_note_17 rfl (fun c33 => ?_) (fun c33 => ?_)
    · have h := (if_pos c33).symm.trans h
      refine g_aload_n a11_note_53 rfl ?_
      refine g_bipush (v := (-2)) a11_note_54 rfl ?_
      obtain ⟨w5, hw5, h⟩ := lt_inv h
      refine g_V1s (v1 := .inl w5.1) (σ1 := w5.2) a11_note_56 cv11_73 (by rw [← hw5]; exact E11_bad _ _ _) rfl (fun o6 => ?_)
      have h := Option.some.inj h
      subst h
      exact g_retE a11_note_59 trivial rfl rfl
    · have h := (if_neg c33).symm.trans h
      refine g_iload_n a11_note_20 rfl ?_
      refine g_S1s (v1 := .inl (f11_isCell x3)) (σ1 := σ) a11_note_21 cs11_67 (E11_isCell _ _) rfl (fun o7 => ?_)
      refine g_if_eq (tgt := 53) a11_note_24 rfl (fun c32 => ?_) (fun c32 => ?_)
      · have h := (if_pos c32).symm.trans h
        refine g_aload_n a11_note_53 rfl ?_
        refine g_bipush (v := (-2)) a11_note_54 rfl ?_
        obtain ⟨w8, hw8, h⟩ := lt_inv h
        refine g_V1s (v1 := .inl w8.1) (σ1 := w8.2) a11_note_56 cv11_73 (by rw [← hw8]; exact E11_bad _ _ _) rfl (fun o9 => ?_)
        have h := Option.some.inj h
        subst h
        exact g_retE a11_note_59 trivial rfl rfl
      · have h := (if_neg c32).symm.trans h
        refine g_iload a11_note_27 rfl ?_
        refine g_i2l a11_note_29 ?_
        refine g_lconst (v := 0) a11_note_30 rfl ?_
        refine g_ldc2 (v := 99) a11_note_31 wl11_156 ?_
        refine g_S3s (v1 := .inl (f11_in (x4.toInt64) 0 99)) (σ1 := σ) a11_note_34 cs11_59 (E11_in _ _ _ _) rfl (fun o10 => ?_)
        refine g_if_eq (tgt := 53) a11_note_37 rfl (fun c31 => ?_) (fun c31 => ?_)
        · have h := (if_pos c31).symm.trans h
          refine g_aload_n a11_note_53 rfl ?_
          refine g_bipush (v := (-2)) a11_note_54 rfl ?_
          obtain ⟨w11, hw11, h⟩ := lt_inv h
          refine g_V1s (v1 := .inl w11.1) (σ1 := w11.2) a11_note_56 cv11_73 (by rw [← hw11]; exact E11_bad _ _ _) rfl (fun o12 => ?_)
          have h := Option.some.inj h
          subst h
          exact g_retE a11_note_59 trivial rfl rfl
        · have h := (if_neg c31).symm.trans h
          refine g_iload a11_note_40 rfl ?_
          refine g_i2l a11_note_42 ?_
          refine g_lconst (v := 0) a11_note_43 rfl ?_
          refine g_ldc2 (v := 99) a11_note_44 wl11_156 ?_
          refine g_S3s (v1 := .inl (f11_in (x5.toInt64) 0 99)) (σ1 := σ) a11_note_47 cs11_59 (E11_in _ _ _ _) rfl (fun o13 => ?_)
          refine g_if_ne (tgt := 60) a11_note_50 rfl (fun c30 => ?_) (fun c30 => ?_)
          · have h := (if_neg c30).symm.trans h
            refine g_aload_n a11_note_60 rfl ?_
            refine g_getf (v := .inr (.inr (22, 0))) a11_note_61 fs11_7 rfl ?_
            refine g_iconst (v := 3) a11_note_64 rfl ?_
            refine g_iald (x := (σ.1 22 0 3)) a11_note_65 (rI22 (by decide)) (inb_ok (by decide)) rfl ?_
            refine g_bipush (v := 6) a11_note_66 rfl ?_
            refine g_icmp_ne (tgt := 76) a11_note_68 rfl (fun c29 => ?_) (fun c29 => ?_)
            · have h := (if_neg c29).symm.trans h
              refine g_bipush (v := 56) a11_note_76 rfl ?_
              refine g_iconst (v := 5) a11_note_78 rfl ?_
              refine g_aload_n a11_note_79 rfl ?_
              refine g_getf (v := .inr (.inr (22, 0))) a11_note_80 fs11_7 rfl ?_
              refine g_iconst (v := 3) a11_note_83 rfl ?_
              refine g_iald (x := (σ.1 22 0 3)) a11_note_84 (rI22 (by decide)) (inb_ok (by decide)) rfl ?_
              refine g_imul a11_note_85 ?_
              refine g_iadd a11_note_86 ?_
              refine g_istore (L' := [some (.inr (.inr (11, k0))), some (.inl x1), some (.inl x2), some (.inl x3), some (.inl x4), some (.inl x5), some (.inl (56 + (5 * (σ.1 22 0 3))))]) a11_note_87 (Nat.le_of_ble_eq_true rfl) rfl rfl ?_
              refine g_aload_n a11_note_89 rfl ?_
              refine g_getf (v := .inr (.inr (22, 0))) a11_note_90 fs11_7 rfl ?_
              refine g_iload a11_note_93 rfl ?_
              refine g_iload_n a11_note_95 rfl ?_
              obtain ⟨q18, h⟩ := ck_inv h
              obtain ⟨σ19, eσ19, h⟩ := lt_inv h
              refine g_iast (j := ((56 + (5 * (σ.1 22 0 3))) : Int32).toNatClampNeg) a11_note_96 (rI22 (by decide)) (inb_ok q18) rfl ?_
              rw [eσ19]
              refine g_aload_n a11_note_97 rfl ?_
              refine g_getf (v := .inr (.inr (22, 0))) a11_note_98 fs11_7 rfl ?_
              refine g_iload a11_note_101 rfl ?_
              refine g_iconst (v := 1) a11_note_103 rfl ?_
              refine g_iadd a11_note_104 ?_
              refine g_iload_n a11_note_105 rfl ?_
              obtain ⟨q20, h⟩ := ck_inv h
              obtain ⟨σ21, eσ21, h⟩ := lt_inv h
              refine g_iast (j := (((56 + (5 * (σ.1 22 0 3))) + 1) : Int32).toNatClampNeg) a11_note_106 (rI22 (by decide)) (inb_ok q20) rfl ?_
              rw [eσ21]
              refine g_aload_n a11_note_107 rfl ?_
              refine g_getf (v := .inr (.inr (22, 0))) a11_note_108 fs11_7 rfl ?_
              refine g_iload a11_note_111 rfl ?_
              refine g_iconst (v := 2) a11_note_113 rfl ?_
              refine g_iadd a11_note_114 ?_
              refine g_iload_n a11_note_115 rfl ?_
              obtain ⟨q22, h⟩ := ck_inv h
              obtain ⟨σ23, eσ23, h⟩ := lt_inv h
              refine g_iast (j := (((56 + (5 * (σ.1 22 0 3))) + 2) : Int32).toNatClampNeg) a11_note_116 (rI22 (by decide)) (inb_ok q22) rfl ?_
              rw [eσ23]
              refine g_aload_n a11_note_117 rfl ?_
              refine g_getf (v := .inr (.inr (22, 0))) a11_note_118 fs11_7 rfl ?_
              refine g_iload a11_note_121 rfl ?_
              refine g_iconst (v := 3) a11_note_123 rfl ?_
              refine g_iadd a11_note_124 ?_
              refine g_iload a11_note_125 rfl ?_
              obtain ⟨q24, h⟩ := ck_inv h
              obtain ⟨σ25, eσ25, h⟩ := lt_inv h
              refine g_iast (j := (((56 + (5 * (σ.1 22 0 3))) + 3) : Int32).toNatClampNeg) a11_note_127 (rI22 (by decide)) (inb_ok q24) rfl ?_
              rw [eσ25]
              refine g_aload_n a11_note_128 rfl ?_
              refine g_getf (v := .inr (.inr (22, 0))) a11_note_129 fs11_7 rfl ?_
              refine g_iload a11_note_132 rfl ?_
              refine g_iconst (v := 4) a11_note_134 rfl ?_
              refine g_iadd a11_note_135 ?_
              refine g_iload a11_note_136 rfl ?_
              obtain ⟨q26, h⟩ := ck_inv h
              obtain ⟨σ27, eσ27, h⟩ := lt_inv h
              refine g_iast (j := (((56 + (5 * (σ.1 22 0 3))) + 4) : Int32).toNatClampNeg) a11_note_138 (rI22 (by decide)) (inb_ok q26) rfl ?_
              rw [eσ27]
              refine g_aload_n a11_note_139 rfl ?_
              refine g_getf (v := .inr (.inr (22, 0))) a11_note_140 fs11_7 rfl ?_
              refine g_iconst (v := 3) a11_note_143 rfl ?_
              refine g_dup2 a11_note_144 (fun _ => rfl) (fun _ => rfl) ?_
              refine g_iald (x := (σ27.1 22 0 3)) a11_note_145 (rI22 (by decide)) (inb_ok (by decide)) rfl ?_
              refine g_iconst (v := 1) a11_note_146 rfl ?_
              refine g_iadd a11_note_147 ?_
              obtain ⟨σ28, eσ28, h⟩ := lt_inv h
              refine g_iast (j := 3) a11_note_148 (rI22 (by decide)) (inb_ok (by decide)) rfl ?_
              rw [eσ28]
              refine g_aload_n a11_note_149 rfl ?_
              refine g_getf (v := .inr (.inr (22, 0))) a11_note_150 fs11_7 rfl ?_
              refine g_iconst (v := 3) a11_note_153 rfl ?_
              refine g_iald (x := (σ28.1 22 0 3)) a11_note_154 (rI22 (by decide)) (inb_ok (by decide)) rfl ?_
              have h := Option.some.inj h
              subst h
              exact g_retE a11_note_155 trivial rfl rfl
            · have h := (if_pos c29).symm.trans h
              refine g_aload_n a11_note_71 rfl ?_
              obtain ⟨w16, hw16, h⟩ := lt_inv h
              refine g_V0s (v1 := .inl w16.1) (σ1 := w16.2) a11_note_72 cv11_82 (by rw [← hw16]; exact E11_full _ _) rfl (fun o17 => ?_)
              have h := Option.some.inj h
              subst h
              exact g_retE a11_note_75 trivial rfl rfl
          · have h := (if_pos c30).symm.trans h
            refine g_aload_n a11_note_53 rfl ?_
            refine g_bipush (v := (-2)) a11_note_54 rfl ?_
            obtain ⟨w14, hw14, h⟩ := lt_inv h
            refine g_V1s (v1 := .inl w14.1) (σ1 := w14.2) a11_note_56 cv11_73 (by rw [← hw14]; exact E11_bad _ _ _) rfl (fun o15 => ?_)
            have h := Option.some.inj h
            subst h
            exact g_retE a11_note_59 trivial rfl rfl
theorem a11_mark_0 : At cX11_mark 0 (.aload_n 0) 1 1 := ⟨by decide +kernel, rfl⟩
theorem a11_mark_1 : At cX11_mark 1 (.iload_n 1) 1 2 := ⟨by decide +kernel, rfl⟩
theorem a11_mark_2 : At cX11_mark 2 (.invokevirtual 142) 3 5 := ⟨by decide +kernel, rfl⟩
theorem a11_mark_5 : At cX11_mark 5 (.ifCond .eq 40) 3 8 := ⟨by decide +kernel, rfl⟩
theorem a11_mark_8 : At cX11_mark 8 (.iload_n 2) 1 9 := ⟨by decide +kernel, rfl⟩
theorem a11_mark_9 : At cX11_mark 9 (.i2l) 1 10 := ⟨by decide +kernel, rfl⟩
theorem a11_mark_10 : At cX11_mark 10 (.lconst 0) 1 11 := ⟨by decide +kernel, rfl⟩
theorem a11_mark_11 : At cX11_mark 11 (.ldc2_w 65) 3 14 := ⟨by decide +kernel, rfl⟩
theorem a11_mark_14 : At cX11_mark 14 (.invokestatic 59) 3 17 := ⟨by decide +kernel, rfl⟩
theorem a11_mark_17 : At cX11_mark 17 (.ifCond .eq 28) 3 20 := ⟨by decide +kernel, rfl⟩
theorem a11_mark_20 : At cX11_mark 20 (.iload_n 3) 1 21 := ⟨by decide +kernel, rfl⟩
theorem a11_mark_21 : At cX11_mark 21 (.i2l) 1 22 := ⟨by decide +kernel, rfl⟩
theorem a11_mark_22 : At cX11_mark 22 (.lconst 0) 1 23 := ⟨by decide +kernel, rfl⟩
theorem a11_mark_23 : At cX11_mark 23 (.ldc2_w 156) 3 26 := ⟨by decide +kernel, rfl⟩
theorem a11_mark_26 : At cX11_mark 26 (.invokestatic 59) 3 29 := ⟨by decide +kernel, rfl⟩
theorem a11_mark_29 : At cX11_mark 29 (.ifCond .eq 16) 3 32 := ⟨by decide +kernel, rfl⟩
theorem a11_mark_32 : At cX11_mark 32 (.iload 4) 2 34 := ⟨by decide +kernel, rfl⟩
theorem a11_mark_34 : At cX11_mark 34 (.i2l) 1 35 := ⟨by decide +kernel, rfl⟩
theorem a11_mark_35 : At cX11_mark 35 (.lconst 0) 1 36 := ⟨by decide +kernel, rfl⟩
theorem a11_mark_36 : At cX11_mark 36 (.ldc2_w 156) 3 39 := ⟨by decide +kernel, rfl⟩
theorem a11_mark_39 : At cX11_mark 39 (.invokestatic 59) 3 42 := ⟨by decide +kernel, rfl⟩
theorem a11_mark_42 : At cX11_mark 42 (.ifCond .ne 10) 3 45 := ⟨by decide +kernel, rfl⟩
theorem a11_mark_45 : At cX11_mark 45 (.aload_n 0) 1 46 := ⟨by decide +kernel, rfl⟩
theorem a11_mark_46 : At cX11_mark 46 (.bipush (-2)) 2 48 := ⟨by decide +kernel, rfl⟩
theorem a11_mark_48 : At cX11_mark 48 (.invokevirtual 73) 3 51 := ⟨by decide +kernel, rfl⟩
theorem a11_mark_51 : At cX11_mark 51 (.ireturn) 1 52 := ⟨by decide +kernel, rfl⟩
theorem a11_mark_52 : At cX11_mark 52 (.aload_n 0) 1 53 := ⟨by decide +kernel, rfl⟩
theorem a11_mark_53 : At cX11_mark 53 (.getfield 7) 3 56 := ⟨by decide +kernel, rfl⟩
theorem a11_mark_56 : At cX11_mark 56 (.iconst 4) 1 57 := ⟨by decide +kernel, rfl⟩
theorem a11_mark_57 : At cX11_mark 57 (.iaload) 1 58 := ⟨by decide +kernel, rfl⟩
theorem a11_mark_58 : At cX11_mark 58 (.bipush 6) 2 60 := ⟨by decide +kernel, rfl⟩
theorem a11_mark_60 : At cX11_mark 60 (.if_icmp .ne 8) 3 63 := ⟨by decide +kernel, rfl⟩
theorem a11_mark_63 : At cX11_mark 63 (.aload_n 0) 1 64 := ⟨by decide +kernel, rfl⟩
theorem a11_mark_64 : At cX11_mark 64 (.invokevirtual 82) 3 67 := ⟨by decide +kernel, rfl⟩
theorem a11_mark_67 : At cX11_mark 67 (.ireturn) 1 68 := ⟨by decide +kernel, rfl⟩
theorem a11_mark_68 : At cX11_mark 68 (.bipush 86) 2 70 := ⟨by decide +kernel, rfl⟩
theorem a11_mark_70 : At cX11_mark 70 (.iconst 4) 1 71 := ⟨by decide +kernel, rfl⟩
theorem a11_mark_71 : At cX11_mark 71 (.aload_n 0) 1 72 := ⟨by decide +kernel, rfl⟩
theorem a11_mark_72 : At cX11_mark 72 (.getfield 7) 3 75 := ⟨by decide +kernel, rfl⟩
theorem a11_mark_75 : At cX11_mark 75 (.iconst 4) 1 76 := ⟨by decide +kernel, rfl⟩
theorem a11_mark_76 : At cX11_mark 76 (.iaload) 1 77 := ⟨by decide +kernel, rfl⟩
theorem a11_mark_77 : At cX11_mark 77 (.imul) 1 78 := ⟨by decide +kernel, rfl⟩
theorem a11_mark_78 : At cX11_mark 78 (.iadd) 1 79 := ⟨by decide +kernel, rfl⟩
theorem a11_mark_79 : At cX11_mark 79 (.istore 5) 2 81 := ⟨by decide +kernel, rfl⟩
theorem a11_mark_81 : At cX11_mark 81 (.aload_n 0) 1 82 := ⟨by decide +kernel, rfl⟩
theorem a11_mark_82 : At cX11_mark 82 (.getfield 7) 3 85 := ⟨by decide +kernel, rfl⟩
theorem a11_mark_85 : At cX11_mark 85 (.iload 5) 2 87 := ⟨by decide +kernel, rfl⟩
theorem a11_mark_87 : At cX11_mark 87 (.iload_n 1) 1 88 := ⟨by decide +kernel, rfl⟩
theorem a11_mark_88 : At cX11_mark 88 (.iastore) 1 89 := ⟨by decide +kernel, rfl⟩
theorem a11_mark_89 : At cX11_mark 89 (.aload_n 0) 1 90 := ⟨by decide +kernel, rfl⟩
theorem a11_mark_90 : At cX11_mark 90 (.getfield 7) 3 93 := ⟨by decide +kernel, rfl⟩
theorem a11_mark_93 : At cX11_mark 93 (.iload 5) 2 95 := ⟨by decide +kernel, rfl⟩
theorem a11_mark_95 : At cX11_mark 95 (.iconst 1) 1 96 := ⟨by decide +kernel, rfl⟩
theorem a11_mark_96 : At cX11_mark 96 (.iadd) 1 97 := ⟨by decide +kernel, rfl⟩
theorem a11_mark_97 : At cX11_mark 97 (.iload_n 2) 1 98 := ⟨by decide +kernel, rfl⟩
theorem a11_mark_98 : At cX11_mark 98 (.iastore) 1 99 := ⟨by decide +kernel, rfl⟩
theorem a11_mark_99 : At cX11_mark 99 (.aload_n 0) 1 100 := ⟨by decide +kernel, rfl⟩
theorem a11_mark_100 : At cX11_mark 100 (.getfield 7) 3 103 := ⟨by decide +kernel, rfl⟩
theorem a11_mark_103 : At cX11_mark 103 (.iload 5) 2 105 := ⟨by decide +kernel, rfl⟩
theorem a11_mark_105 : At cX11_mark 105 (.iconst 2) 1 106 := ⟨by decide +kernel, rfl⟩
theorem a11_mark_106 : At cX11_mark 106 (.iadd) 1 107 := ⟨by decide +kernel, rfl⟩
theorem a11_mark_107 : At cX11_mark 107 (.iload_n 3) 1 108 := ⟨by decide +kernel, rfl⟩
theorem a11_mark_108 : At cX11_mark 108 (.iastore) 1 109 := ⟨by decide +kernel, rfl⟩
theorem a11_mark_109 : At cX11_mark 109 (.aload_n 0) 1 110 := ⟨by decide +kernel, rfl⟩
theorem a11_mark_110 : At cX11_mark 110 (.getfield 7) 3 113 := ⟨by decide +kernel, rfl⟩
theorem a11_mark_113 : At cX11_mark 113 (.iload 5) 2 115 := ⟨by decide +kernel, rfl⟩
theorem a11_mark_115 : At cX11_mark 115 (.iconst 3) 1 116 := ⟨by decide +kernel, rfl⟩
theorem a11_mark_116 : At cX11_mark 116 (.iadd) 1 117 := ⟨by decide +kernel, rfl⟩
theorem a11_mark_117 : At cX11_mark 117 (.iload 4) 2 119 := ⟨by decide +kernel, rfl⟩
theorem a11_mark_119 : At cX11_mark 119 (.iastore) 1 120 := ⟨by decide +kernel, rfl⟩
theorem a11_mark_120 : At cX11_mark 120 (.aload_n 0) 1 121 := ⟨by decide +kernel, rfl⟩
theorem a11_mark_121 : At cX11_mark 121 (.getfield 7) 3 124 := ⟨by decide +kernel, rfl⟩
theorem a11_mark_124 : At cX11_mark 124 (.iconst 4) 1 125 := ⟨by decide +kernel, rfl⟩
theorem a11_mark_125 : At cX11_mark 125 (.dup2) 1 126 := ⟨by decide +kernel, rfl⟩
theorem a11_mark_126 : At cX11_mark 126 (.iaload) 1 127 := ⟨by decide +kernel, rfl⟩
theorem a11_mark_127 : At cX11_mark 127 (.iconst 1) 1 128 := ⟨by decide +kernel, rfl⟩
theorem a11_mark_128 : At cX11_mark 128 (.iadd) 1 129 := ⟨by decide +kernel, rfl⟩
theorem a11_mark_129 : At cX11_mark 129 (.iastore) 1 130 := ⟨by decide +kernel, rfl⟩
theorem a11_mark_130 : At cX11_mark 130 (.aload_n 0) 1 131 := ⟨by decide +kernel, rfl⟩
theorem a11_mark_131 : At cX11_mark 131 (.getfield 7) 3 134 := ⟨by decide +kernel, rfl⟩
theorem a11_mark_134 : At cX11_mark 134 (.iconst 4) 1 135 := ⟨by decide +kernel, rfl⟩
theorem a11_mark_135 : At cX11_mark 135 (.iaload) 1 136 := ⟨by decide +kernel, rfl⟩
theorem a11_mark_136 : At cX11_mark 136 (.ireturn) 1 137 := ⟨by decide +kernel, rfl⟩
def f11_mark (k0 : Nat) (x1 : Int32) (x2 : Int32) (x3 : Int32) (x4 : Int32) (σ : Mem) : Option (Int32 × Mem) :=
  if (f11_isPart k0 x1 σ) = 0 then
  (lt (f11_bad k0 (-2) σ) fun w2 =>
  some (w2.1, w2.2))
  else
  (if (f11_in (x2.toInt64) 0 5) = 0 then
  (lt (f11_bad k0 (-2) σ) fun w5 =>
  some (w5.1, w5.2))
  else
  (if (f11_in (x3.toInt64) 0 99) = 0 then
  (lt (f11_bad k0 (-2) σ) fun w8 =>
  some (w8.1, w8.2))
  else
  (if (f11_in (x4.toInt64) 0 99) = 0 then
  (lt (f11_bad k0 (-2) σ) fun w11 =>
  some (w11.1, w11.2))
  else
  (if (σ.1 22 0 4) = 6 then
  (lt (f11_full k0 σ) fun w13 =>
  some (w13.1, w13.2))
  else
  (ck (inb (86 + (4 * (σ.1 22 0 4))) 142) <|
  lt (sI σ 22 0 ((86 + (4 * (σ.1 22 0 4))) : Int32).toNatClampNeg x1) fun σ16 =>
  ck (inb ((86 + (4 * (σ.1 22 0 4))) + 1) 142) <|
  lt (sI σ16 22 0 (((86 + (4 * (σ.1 22 0 4))) + 1) : Int32).toNatClampNeg x2) fun σ18 =>
  ck (inb ((86 + (4 * (σ.1 22 0 4))) + 2) 142) <|
  lt (sI σ18 22 0 (((86 + (4 * (σ.1 22 0 4))) + 2) : Int32).toNatClampNeg x3) fun σ20 =>
  ck (inb ((86 + (4 * (σ.1 22 0 4))) + 3) 142) <|
  lt (sI σ20 22 0 (((86 + (4 * (σ.1 22 0 4))) + 3) : Int32).toNatClampNeg x4) fun σ22 =>
  lt (sI σ22 22 0 4 ((σ22.1 22 0 4) + 1)) fun σ23 =>
  some ((σ23.1 22 0 4), σ23))))))
theorem E11_mark {k0 : Nat} {x1 : Int32} {x2 : Int32} {x3 : Int32} {x4 : Int32} {σ : Mem} {w : Int32 × Mem} (h : f11_mark k0 x1 x2 x3 x4 σ = some w) : Ev m11_mark [.inr (.inr (11, k0)), .inl x1, .inl x2, .inl x3, .inl x4] σ (some (.inl w.1) : Option AV) w.2 := by
  unfold f11_mark at h
  show Go m11_mark 0 [some (.inr (.inr (11, k0))), some (.inl x1), some (.inl x2), some (.inl x3), some (.inl x4), none] [] σ (some (.inl w.1) : Option AV) w.2
  refine g_aload_n a11_mark_0 rfl ?_
  refine g_iload_n a11_mark_1 rfl ?_
  refine g_V1s (v1 := .inl (f11_isPart k0 x1 σ)) (σ1 := σ) a11_mark_2 cv11_142 (E11_isPart _ _ _) rfl (fun o1 => ?_)
  refine g_if_eq (tgt := 45) a11_mark_5 rfl (fun c28 => ?_) (fun c28 => ?_)
  · have h := (if_pos c28).symm.trans h
    refine g_aload_n a11_mark_45 rfl ?_
    refine g_bipush (v := (-2)) a11_mark_46 rfl ?_
    obtain ⟨w2, hw2, h⟩ := lt_inv h
    refine g_V1s (v1 := .inl w2.1) (σ1 := w2.2) a11_mark_48 cv11_73 (by rw [← hw2]; exact E11_bad _ _ _) rfl (fun o3 => ?_)
    have h := Option.some.inj h
    subst h
    exact g_retE a11_mark_51 trivial rfl rfl
  · have h := (if_neg c28).symm.trans h
    refine g_iload_n a11_mark_8 rfl ?_
    refine g_i2l a11_mark_9 ?_
    refine g_lconst (v := 0) a11_mark_10 rfl ?_
    refine g_ldc2 (v := 5) a11_mark_11 wl11_65 ?_
    refine g_S3s (v1 := .inl (f11_in (x2.toInt64) 0 5)) (σ1 := σ) a11_mark_14 cs11_59 (E11_in _ _ _ _) rfl (fun o4 => ?_)
    refine g_if_eq (tgt := 45) a11_mark_17 rfl (fun c27 => ?_) (fun c27 => ?_)
    · have h := (if_pos c27).symm.trans h
      refine g_aload_n a11_mark_45 rfl ?_
      refine g_bipush (v := (-2)) a11_mark_46 rfl ?_
      obtain ⟨w5, hw5, h⟩ := lt_inv h
      refine g_V1s (v1 := .inl w5.1) (σ1 := w5.2) a11_mark_48 cv11_73 (by rw [← hw5]; exact E11_bad _ _ _) rfl (fun o6 => ?_)
      have h := Option.some.inj h
      subst h
      exact g_retE a11_mark_51 trivial rfl rfl
    · have h := (if_neg c27).symm.trans h
      refine g_iload_n a11_mark_20 rfl ?_
      refine g_i2l a11_mark_21 ?_
      refine g_lconst (v := 0) a11_mark_22 rfl ?_
      refine g_ldc2 (v := 99) a11_mark_23 wl11_156 ?_
      refine g_S3s (v1 := .inl (f11_in (x3.toInt64) 0 99)) (σ1 := σ) a11_mark_26 cs11_59 (E11_in _ _ _ _) rfl (fun o7 => ?_)
      refine g_if_eq (tgt := 45) a11_mark_29 rfl (fun c26 => ?_) (fun c26 => ?_)
      · have h := (if_pos c26).symm.trans h
        refine g_aload_n a11_mark_45 rfl ?_
        refine g_bipush (v := (-2)) a11_mark_46 rfl ?_
        obtain ⟨w8, hw8, h⟩ := lt_inv h
        refine g_V1s (v1 := .inl w8.1) (σ1 := w8.2) a11_mark_48 cv11_73 (by rw [← hw8]; exact E11_bad _ _ _) rfl (fun o9 => ?_)
        have h := Option.some.inj h
        subst h
        exact g_retE a11_mark_51 trivial rfl rfl
      · have h := (if_neg c26).symm.trans h
        refine g_iload a11_mark_32 rfl ?_
        refine g_i2l a11_mark_34 ?_
        refine g_lconst (v := 0) a11_mark_35 rfl ?_
        refine g_ldc2 (v := 99) a11_mark_36 wl11_156 ?_
        refine g_S3s (v1 := .inl (f11_in (x4.toInt64) 0 99)) (σ1 := σ) a11_mark_39 cs11_59 (E11_in _ _ _ _) rfl (fun o10 => ?_)
        refine g_if_ne (tgt := 52) a11_mark_42 rfl (fun c25 => ?_) (fun c25 => ?_)
        · have h := (if_neg c25).symm.trans h
          refine g_aload_n a11_mark_52 rfl ?_
          refine g_getf (v := .inr (.inr (22, 0))) a11_mark_53 fs11_7 rfl ?_
          refine g_iconst (v := 4) a11_mark_56 rfl ?_
          refine g_iald (x := (σ.1 22 0 4)) a11_mark_57 (rI22 (by decide)) (inb_ok (by decide)) rfl ?_
          refine g_bipush (v := 6) a11_mark_58 rfl ?_
          refine g_icmp_ne (tgt := 68) a11_mark_60 rfl (fun c24 => ?_) (fun c24 => ?_)
          · have h := (if_neg c24).symm.trans h
            refine g_bipush (v := 86) a11_mark_68 rfl ?_
            refine g_iconst (v := 4) a11_mark_70 rfl ?_
            refine g_aload_n a11_mark_71 rfl ?_
            refine g_getf (v := .inr (.inr (22, 0))) a11_mark_72 fs11_7 rfl ?_
            refine g_iconst (v := 4) a11_mark_75 rfl ?_
            refine g_iald (x := (σ.1 22 0 4)) a11_mark_76 (rI22 (by decide)) (inb_ok (by decide)) rfl ?_
            refine g_imul a11_mark_77 ?_
            refine g_iadd a11_mark_78 ?_
            refine g_istore (L' := [some (.inr (.inr (11, k0))), some (.inl x1), some (.inl x2), some (.inl x3), some (.inl x4), some (.inl (86 + (4 * (σ.1 22 0 4))))]) a11_mark_79 (Nat.le_of_ble_eq_true rfl) rfl rfl ?_
            refine g_aload_n a11_mark_81 rfl ?_
            refine g_getf (v := .inr (.inr (22, 0))) a11_mark_82 fs11_7 rfl ?_
            refine g_iload a11_mark_85 rfl ?_
            refine g_iload_n a11_mark_87 rfl ?_
            obtain ⟨q15, h⟩ := ck_inv h
            obtain ⟨σ16, eσ16, h⟩ := lt_inv h
            refine g_iast (j := ((86 + (4 * (σ.1 22 0 4))) : Int32).toNatClampNeg) a11_mark_88 (rI22 (by decide)) (inb_ok q15) rfl ?_
            rw [eσ16]
            refine g_aload_n a11_mark_89 rfl ?_
            refine g_getf (v := .inr (.inr (22, 0))) a11_mark_90 fs11_7 rfl ?_
            refine g_iload a11_mark_93 rfl ?_
            refine g_iconst (v := 1) a11_mark_95 rfl ?_
            refine g_iadd a11_mark_96 ?_
            refine g_iload_n a11_mark_97 rfl ?_
            obtain ⟨q17, h⟩ := ck_inv h
            obtain ⟨σ18, eσ18, h⟩ := lt_inv h
            refine g_iast (j := (((86 + (4 * (σ.1 22 0 4))) + 1) : Int32).toNatClampNeg) a11_mark_98 (rI22 (by decide)) (inb_ok q17) rfl ?_
            rw [eσ18]
            refine g_aload_n a11_mark_99 rfl ?_
            refine g_getf (v := .inr (.inr (22, 0))) a11_mark_100 fs11_7 rfl ?_
            refine g_iload a11_mark_103 rfl ?_
            refine g_iconst (v := 2) a11_mark_105 rfl ?_
            refine g_iadd a11_mark_106 ?_
            refine g_iload_n a11_mark_107 rfl ?_
            obtain ⟨q19, h⟩ := ck_inv h
            obtain ⟨σ20, eσ20, h⟩ := lt_inv h
            refine g_iast (j := (((86 + (4 * (σ.1 22 0 4))) + 2) : Int32).toNatClampNeg) a11_mark_108 (rI22 (by decide)) (inb_ok q19) rfl ?_
            rw [eσ20]
            refine g_aload_n a11_mark_109 rfl ?_
            refine g_getf (v := .inr (.inr (22, 0))) a11_mark_110 fs11_7 rfl ?_
            refine g_iload a11_mark_113 rfl ?_
            refine g_iconst (v := 3) a11_mark_115 rfl ?_
            refine g_iadd a11_mark_116 ?_
            refine g_iload a11_mark_117 rfl ?_
            obtain ⟨q21, h⟩ := ck_inv h
            obtain ⟨σ22, eσ22, h⟩ := lt_inv h
            refine g_iast (j := (((86 + (4 * (σ.1 22 0 4))) + 3) : Int32).toNatClampNeg) a11_mark_119 (rI22 (by decide)) (inb_ok q21) rfl ?_
            rw [eσ22]
            refine g_aload_n a11_mark_120 rfl ?_
            refine g_getf (v := .inr (.inr (22, 0))) a11_mark_121 fs11_7 rfl ?_
            refine g_iconst (v := 4) a11_mark_124 rfl ?_
            refine g_dup2 a11_mark_125 (fun _ => rfl) (fun _ => rfl) ?_
            refine g_iald (x := (σ22.1 22 0 4)) a11_mark_126 (rI22 (by decide)) (inb_ok (by decide)) rfl ?_
            refine g_iconst (v := 1) a11_mark_127 rfl ?_
            refine g_iadd a11_mark_128 ?_
            obtain ⟨σ23, eσ23, h⟩ := lt_inv h
            refine g_iast (j := 4) a11_mark_129 (rI22 (by decide)) (inb_ok (by decide)) rfl ?_
            rw [eσ23]
            refine g_aload_n a11_mark_130 rfl ?_
            refine g_getf (v := .inr (.inr (22, 0))) a11_mark_131 fs11_7 rfl ?_
            refine g_iconst (v := 4) a11_mark_134 rfl ?_
            refine g_iald (x := (σ23.1 22 0 4)) a11_mark_135 (rI22 (by decide)) (inb_ok (by decide)) rfl ?_
            have h := Option.some.inj h
            subst h
            exact g_retE a11_mark_136 trivial rfl rfl
          · have h := (if_pos c24).symm.trans h
            refine g_aload_n a11_mark_63 rfl ?_
            obtain ⟨w13, hw13, h⟩ := lt_inv h
            refine g_V0s (v1 := .inl w13.1) (σ1 := w13.2) a11_mark_64 cv11_82 (by rw [← hw13]; exact E11_full _ _) rfl (fun o14 => ?_)
            have h := Option.some.inj h
            subst h
            exact g_retE a11_mark_67 trivial rfl rfl
        · have h := (if_pos c25).symm.trans h
          refine g_aload_n a11_mark_45 rfl ?_
          refine g_bipush (v := (-2)) a11_mark_46 rfl ?_
          obtain ⟨w11, hw11, h⟩ := lt_inv h
          refine g_V1s (v1 := .inl w11.1) (σ1 := w11.2) a11_mark_48 cv11_73 (by rw [← hw11]; exact E11_bad _ _ _) rfl (fun o12 => ?_)
          have h := Option.some.inj h
          subst h
          exact g_retE a11_mark_51 trivial rfl rfl
theorem a11_forget_0 : At cX11_forget 0 (.iload_n 1) 1 1 := ⟨by decide +kernel, rfl⟩
theorem a11_forget_1 : At cX11_forget 1 (.i2l) 1 2 := ⟨by decide +kernel, rfl⟩
theorem a11_forget_2 : At cX11_forget 2 (.lconst 0) 1 3 := ⟨by decide +kernel, rfl⟩
theorem a11_forget_3 : At cX11_forget 3 (.ldc2_w 145) 3 6 := ⟨by decide +kernel, rfl⟩
theorem a11_forget_6 : At cX11_forget 6 (.invokestatic 59) 3 9 := ⟨by decide +kernel, rfl⟩
theorem a11_forget_9 : At cX11_forget 9 (.ifCond .ne 10) 3 12 := ⟨by decide +kernel, rfl⟩
theorem a11_forget_12 : At cX11_forget 12 (.aload_n 0) 1 13 := ⟨by decide +kernel, rfl⟩
theorem a11_forget_13 : At cX11_forget 13 (.bipush (-2)) 2 15 := ⟨by decide +kernel, rfl⟩
theorem a11_forget_15 : At cX11_forget 15 (.invokevirtual 73) 3 18 := ⟨by decide +kernel, rfl⟩
theorem a11_forget_18 : At cX11_forget 18 (.ireturn) 1 19 := ⟨by decide +kernel, rfl⟩
theorem a11_forget_19 : At cX11_forget 19 (.aload_n 0) 1 20 := ⟨by decide +kernel, rfl⟩
theorem a11_forget_20 : At cX11_forget 20 (.getfield 7) 3 23 := ⟨by decide +kernel, rfl⟩
theorem a11_forget_23 : At cX11_forget 23 (.iconst 2) 1 24 := ⟨by decide +kernel, rfl⟩
theorem a11_forget_24 : At cX11_forget 24 (.iload_n 1) 1 25 := ⟨by decide +kernel, rfl⟩
theorem a11_forget_25 : At cX11_forget 25 (.iadd) 1 26 := ⟨by decide +kernel, rfl⟩
theorem a11_forget_26 : At cX11_forget 26 (.iaload) 1 27 := ⟨by decide +kernel, rfl⟩
theorem a11_forget_27 : At cX11_forget 27 (.istore_n 2) 1 28 := ⟨by decide +kernel, rfl⟩
theorem a11_forget_28 : At cX11_forget 28 (.aload_n 0) 1 29 := ⟨by decide +kernel, rfl⟩
theorem a11_forget_29 : At cX11_forget 29 (.getfield 7) 3 32 := ⟨by decide +kernel, rfl⟩
theorem a11_forget_32 : At cX11_forget 32 (.iconst 2) 1 33 := ⟨by decide +kernel, rfl⟩
theorem a11_forget_33 : At cX11_forget 33 (.iload_n 1) 1 34 := ⟨by decide +kernel, rfl⟩
theorem a11_forget_34 : At cX11_forget 34 (.iadd) 1 35 := ⟨by decide +kernel, rfl⟩
theorem a11_forget_35 : At cX11_forget 35 (.iconst 0) 1 36 := ⟨by decide +kernel, rfl⟩
theorem a11_forget_36 : At cX11_forget 36 (.iastore) 1 37 := ⟨by decide +kernel, rfl⟩
theorem a11_forget_37 : At cX11_forget 37 (.iload_n 2) 1 38 := ⟨by decide +kernel, rfl⟩
theorem a11_forget_38 : At cX11_forget 38 (.ireturn) 1 39 := ⟨by decide +kernel, rfl⟩
def f11_forget (k0 : Nat) (x1 : Int32) (σ : Mem) : Option (Int32 × Mem) :=
  if (f11_in (x1.toInt64) 0 2) = 0 then
  (lt (f11_bad k0 (-2) σ) fun w2 =>
  some (w2.1, w2.2))
  else
  (ck (inb (2 + x1) 142) <|
  ck (inb (2 + x1) 142) <|
  lt (sI σ 22 0 ((2 + x1) : Int32).toNatClampNeg 0) fun σ6 =>
  some ((σ.1 22 0 ((2 + x1) : Int32).toNatClampNeg), σ6))
theorem E11_forget {k0 : Nat} {x1 : Int32} {σ : Mem} {w : Int32 × Mem} (h : f11_forget k0 x1 σ = some w) : Ev m11_forget [.inr (.inr (11, k0)), .inl x1] σ (some (.inl w.1) : Option AV) w.2 := by
  unfold f11_forget at h
  show Go m11_forget 0 [some (.inr (.inr (11, k0))), some (.inl x1), none] [] σ (some (.inl w.1) : Option AV) w.2
  refine g_iload_n a11_forget_0 rfl ?_
  refine g_i2l a11_forget_1 ?_
  refine g_lconst (v := 0) a11_forget_2 rfl ?_
  refine g_ldc2 (v := 2) a11_forget_3 wl11_145 ?_
  refine g_S3s (v1 := .inl (f11_in (x1.toInt64) 0 2)) (σ1 := σ) a11_forget_6 cs11_59 (E11_in _ _ _ _) rfl (fun o1 => ?_)
  refine g_if_ne (tgt := 19) a11_forget_9 rfl (fun c7 => ?_) (fun c7 => ?_)
  · have h := (if_neg c7).symm.trans h
    refine g_aload_n a11_forget_19 rfl ?_
    refine g_getf (v := .inr (.inr (22, 0))) a11_forget_20 fs11_7 rfl ?_
    refine g_iconst (v := 2) a11_forget_23 rfl ?_
    refine g_iload_n a11_forget_24 rfl ?_
    refine g_iadd a11_forget_25 ?_
    obtain ⟨q4, h⟩ := ck_inv h
    refine g_iald (x := (σ.1 22 0 ((2 + x1) : Int32).toNatClampNeg)) a11_forget_26 (rI22 (by decide)) (inb_ok q4) rfl ?_
    refine g_istore_n (L' := [some (.inr (.inr (11, k0))), some (.inl x1), some (.inl (σ.1 22 0 ((2 + x1) : Int32).toNatClampNeg))]) a11_forget_27 (Nat.le_of_ble_eq_true rfl) rfl rfl ?_
    refine g_aload_n a11_forget_28 rfl ?_
    refine g_getf (v := .inr (.inr (22, 0))) a11_forget_29 fs11_7 rfl ?_
    refine g_iconst (v := 2) a11_forget_32 rfl ?_
    refine g_iload_n a11_forget_33 rfl ?_
    refine g_iadd a11_forget_34 ?_
    refine g_iconst (v := 0) a11_forget_35 rfl ?_
    obtain ⟨q5, h⟩ := ck_inv h
    obtain ⟨σ6, eσ6, h⟩ := lt_inv h
    refine g_iast (j := ((2 + x1) : Int32).toNatClampNeg) a11_forget_36 (rI22 (by decide)) (inb_ok q5) rfl ?_
    rw [eσ6]
    refine g_iload_n a11_forget_37 rfl ?_
    have h := Option.some.inj h
    subst h
    exact g_retE a11_forget_38 trivial rfl rfl
  · have h := (if_pos c7).symm.trans h
    refine g_aload_n a11_forget_12 rfl ?_
    refine g_bipush (v := (-2)) a11_forget_13 rfl ?_
    obtain ⟨w2, hw2, h⟩ := lt_inv h
    refine g_V1s (v1 := .inl w2.1) (σ1 := w2.2) a11_forget_15 cv11_73 (by rw [← hw2]; exact E11_bad _ _ _) rfl (fun o3 => ?_)
    have h := Option.some.inj h
    subst h
    exact g_retE a11_forget_18 trivial rfl rfl
theorem a11_kindsOfThing_0 : At cX11_kindsOfThing 0 (.iconst 0) 1 1 := ⟨by decide +kernel, rfl⟩
theorem a11_kindsOfThing_1 : At cX11_kindsOfThing 1 (.istore_n 2) 1 2 := ⟨by decide +kernel, rfl⟩
theorem a11_kindsOfThing_2 : At cX11_kindsOfThing 2 (.iconst 0) 1 3 := ⟨by decide +kernel, rfl⟩
theorem a11_kindsOfThing_3 : At cX11_kindsOfThing 3 (.istore_n 3) 1 4 := ⟨by decide +kernel, rfl⟩
theorem a11_kindsOfThing_4 : At cX11_kindsOfThing 4 (.iload_n 3) 1 5 := ⟨by decide +kernel, rfl⟩
theorem a11_kindsOfThing_5 : At cX11_kindsOfThing 5 (.bipush 6) 2 7 := ⟨by decide +kernel, rfl⟩
theorem a11_kindsOfThing_7 : At cX11_kindsOfThing 7 (.if_icmp .ge 122) 3 10 := ⟨by decide +kernel, rfl⟩
theorem a11_kindsOfThing_10 : At cX11_kindsOfThing 10 (.iconst 1) 1 11 := ⟨by decide +kernel, rfl⟩
theorem a11_kindsOfThing_11 : At cX11_kindsOfThing 11 (.istore 4) 2 13 := ⟨by decide +kernel, rfl⟩
theorem a11_kindsOfThing_13 : At cX11_kindsOfThing 13 (.iconst 0) 1 14 := ⟨by decide +kernel, rfl⟩
theorem a11_kindsOfThing_14 : At cX11_kindsOfThing 14 (.istore 5) 2 16 := ⟨by decide +kernel, rfl⟩
theorem a11_kindsOfThing_16 : At cX11_kindsOfThing 16 (.iload 5) 2 18 := ⟨by decide +kernel, rfl⟩
theorem a11_kindsOfThing_18 : At cX11_kindsOfThing 18 (.aload_n 0) 1 19 := ⟨by decide +kernel, rfl⟩
theorem a11_kindsOfThing_19 : At cX11_kindsOfThing 19 (.getfield 7) 3 22 := ⟨by decide +kernel, rfl⟩
theorem a11_kindsOfThing_22 : At cX11_kindsOfThing 22 (.iconst 3) 1 23 := ⟨by decide +kernel, rfl⟩
theorem a11_kindsOfThing_23 : At cX11_kindsOfThing 23 (.iaload) 1 24 := ⟨by decide +kernel, rfl⟩
theorem a11_kindsOfThing_24 : At cX11_kindsOfThing 24 (.if_icmp .ge 84) 3 27 := ⟨by decide +kernel, rfl⟩
theorem a11_kindsOfThing_27 : At cX11_kindsOfThing 27 (.bipush 56) 2 29 := ⟨by decide +kernel, rfl⟩
theorem a11_kindsOfThing_29 : At cX11_kindsOfThing 29 (.iconst 5) 1 30 := ⟨by decide +kernel, rfl⟩
theorem a11_kindsOfThing_30 : At cX11_kindsOfThing 30 (.iload 5) 2 32 := ⟨by decide +kernel, rfl⟩
theorem a11_kindsOfThing_32 : At cX11_kindsOfThing 32 (.imul) 1 33 := ⟨by decide +kernel, rfl⟩
theorem a11_kindsOfThing_33 : At cX11_kindsOfThing 33 (.iadd) 1 34 := ⟨by decide +kernel, rfl⟩
theorem a11_kindsOfThing_34 : At cX11_kindsOfThing 34 (.istore 6) 2 36 := ⟨by decide +kernel, rfl⟩
theorem a11_kindsOfThing_36 : At cX11_kindsOfThing 36 (.iload 4) 2 38 := ⟨by decide +kernel, rfl⟩
theorem a11_kindsOfThing_38 : At cX11_kindsOfThing 38 (.ifCond .eq 61) 3 41 := ⟨by decide +kernel, rfl⟩
theorem a11_kindsOfThing_41 : At cX11_kindsOfThing 41 (.aload_n 0) 1 42 := ⟨by decide +kernel, rfl⟩
theorem a11_kindsOfThing_42 : At cX11_kindsOfThing 42 (.getfield 7) 3 45 := ⟨by decide +kernel, rfl⟩
theorem a11_kindsOfThing_45 : At cX11_kindsOfThing 45 (.iload 6) 2 47 := ⟨by decide +kernel, rfl⟩
theorem a11_kindsOfThing_47 : At cX11_kindsOfThing 47 (.iaload) 1 48 := ⟨by decide +kernel, rfl⟩
theorem a11_kindsOfThing_48 : At cX11_kindsOfThing 48 (.iload_n 1) 1 49 := ⟨by decide +kernel, rfl⟩
theorem a11_kindsOfThing_49 : At cX11_kindsOfThing 49 (.if_icmp .ne 46) 3 52 := ⟨by decide +kernel, rfl⟩
theorem a11_kindsOfThing_52 : At cX11_kindsOfThing 52 (.iload_n 3) 1 53 := ⟨by decide +kernel, rfl⟩
theorem a11_kindsOfThing_53 : At cX11_kindsOfThing 53 (.aload_n 0) 1 54 := ⟨by decide +kernel, rfl⟩
theorem a11_kindsOfThing_54 : At cX11_kindsOfThing 54 (.getfield 7) 3 57 := ⟨by decide +kernel, rfl⟩
theorem a11_kindsOfThing_57 : At cX11_kindsOfThing 57 (.iload 6) 2 59 := ⟨by decide +kernel, rfl⟩
theorem a11_kindsOfThing_59 : At cX11_kindsOfThing 59 (.iconst 1) 1 60 := ⟨by decide +kernel, rfl⟩
theorem a11_kindsOfThing_60 : At cX11_kindsOfThing 60 (.iadd) 1 61 := ⟨by decide +kernel, rfl⟩
theorem a11_kindsOfThing_61 : At cX11_kindsOfThing 61 (.iaload) 1 62 := ⟨by decide +kernel, rfl⟩
theorem a11_kindsOfThing_62 : At cX11_kindsOfThing 62 (.aload_n 0) 1 63 := ⟨by decide +kernel, rfl⟩
theorem a11_kindsOfThing_63 : At cX11_kindsOfThing 63 (.getfield 7) 3 66 := ⟨by decide +kernel, rfl⟩
theorem a11_kindsOfThing_66 : At cX11_kindsOfThing 66 (.iload 6) 2 68 := ⟨by decide +kernel, rfl⟩
theorem a11_kindsOfThing_68 : At cX11_kindsOfThing 68 (.iconst 2) 1 69 := ⟨by decide +kernel, rfl⟩
theorem a11_kindsOfThing_69 : At cX11_kindsOfThing 69 (.iadd) 1 70 := ⟨by decide +kernel, rfl⟩
theorem a11_kindsOfThing_70 : At cX11_kindsOfThing 70 (.iaload) 1 71 := ⟨by decide +kernel, rfl⟩
theorem a11_kindsOfThing_71 : At cX11_kindsOfThing 71 (.aload_n 0) 1 72 := ⟨by decide +kernel, rfl⟩
theorem a11_kindsOfThing_72 : At cX11_kindsOfThing 72 (.getfield 7) 3 75 := ⟨by decide +kernel, rfl⟩
theorem a11_kindsOfThing_75 : At cX11_kindsOfThing 75 (.iload 6) 2 77 := ⟨by decide +kernel, rfl⟩
theorem a11_kindsOfThing_77 : At cX11_kindsOfThing 77 (.iconst 3) 1 78 := ⟨by decide +kernel, rfl⟩
theorem a11_kindsOfThing_78 : At cX11_kindsOfThing 78 (.iadd) 1 79 := ⟨by decide +kernel, rfl⟩
theorem a11_kindsOfThing_79 : At cX11_kindsOfThing 79 (.iaload) 1 80 := ⟨by decide +kernel, rfl⟩
theorem a11_kindsOfThing_80 : At cX11_kindsOfThing 80 (.invokestatic 89) 3 83 := ⟨by decide +kernel, rfl⟩
theorem a11_kindsOfThing_83 : At cX11_kindsOfThing 83 (.aload_n 0) 1 84 := ⟨by decide +kernel, rfl⟩
theorem a11_kindsOfThing_84 : At cX11_kindsOfThing 84 (.getfield 7) 3 87 := ⟨by decide +kernel, rfl⟩
theorem a11_kindsOfThing_87 : At cX11_kindsOfThing 87 (.iload 6) 2 89 := ⟨by decide +kernel, rfl⟩
theorem a11_kindsOfThing_89 : At cX11_kindsOfThing 89 (.iconst 4) 1 90 := ⟨by decide +kernel, rfl⟩
theorem a11_kindsOfThing_90 : At cX11_kindsOfThing 90 (.iadd) 1 91 := ⟨by decide +kernel, rfl⟩
theorem a11_kindsOfThing_91 : At cX11_kindsOfThing 91 (.iaload) 1 92 := ⟨by decide +kernel, rfl⟩
theorem a11_kindsOfThing_92 : At cX11_kindsOfThing 92 (.if_icmp .ne 7) 3 95 := ⟨by decide +kernel, rfl⟩
theorem a11_kindsOfThing_95 : At cX11_kindsOfThing 95 (.iconst 1) 1 96 := ⟨by decide +kernel, rfl⟩
theorem a11_kindsOfThing_96 : At cX11_kindsOfThing 96 (.goto 4) 3 99 := ⟨by decide +kernel, rfl⟩
theorem a11_kindsOfThing_99 : At cX11_kindsOfThing 99 (.iconst 0) 1 100 := ⟨by decide +kernel, rfl⟩
theorem a11_kindsOfThing_100 : At cX11_kindsOfThing 100 (.istore 4) 2 102 := ⟨by decide +kernel, rfl⟩
theorem a11_kindsOfThing_102 : At cX11_kindsOfThing 102 (.iinc 5 1) 3 105 := ⟨by decide +kernel, rfl⟩
theorem a11_kindsOfThing_105 : At cX11_kindsOfThing 105 (.goto (-89)) 3 108 := ⟨by decide +kernel, rfl⟩
theorem a11_kindsOfThing_108 : At cX11_kindsOfThing 108 (.iload_n 2) 1 109 := ⟨by decide +kernel, rfl⟩
theorem a11_kindsOfThing_109 : At cX11_kindsOfThing 109 (.iload 4) 2 111 := ⟨by decide +kernel, rfl⟩
theorem a11_kindsOfThing_111 : At cX11_kindsOfThing 111 (.ifCond .eq 9) 3 114 := ⟨by decide +kernel, rfl⟩
theorem a11_kindsOfThing_114 : At cX11_kindsOfThing 114 (.iconst 1) 1 115 := ⟨by decide +kernel, rfl⟩
theorem a11_kindsOfThing_115 : At cX11_kindsOfThing 115 (.iload_n 3) 1 116 := ⟨by decide +kernel, rfl⟩
theorem a11_kindsOfThing_116 : At cX11_kindsOfThing 116 (.ishl) 1 117 := ⟨by decide +kernel, rfl⟩
theorem a11_kindsOfThing_117 : At cX11_kindsOfThing 117 (.goto 4) 3 120 := ⟨by decide +kernel, rfl⟩
theorem a11_kindsOfThing_120 : At cX11_kindsOfThing 120 (.iconst 0) 1 121 := ⟨by decide +kernel, rfl⟩
theorem a11_kindsOfThing_121 : At cX11_kindsOfThing 121 (.ior) 1 122 := ⟨by decide +kernel, rfl⟩
theorem a11_kindsOfThing_122 : At cX11_kindsOfThing 122 (.istore_n 2) 1 123 := ⟨by decide +kernel, rfl⟩
theorem a11_kindsOfThing_123 : At cX11_kindsOfThing 123 (.iinc 3 1) 3 126 := ⟨by decide +kernel, rfl⟩
theorem a11_kindsOfThing_126 : At cX11_kindsOfThing 126 (.goto (-122)) 3 129 := ⟨by decide +kernel, rfl⟩
theorem a11_kindsOfThing_129 : At cX11_kindsOfThing 129 (.iload_n 2) 1 130 := ⟨by decide +kernel, rfl⟩
theorem a11_kindsOfThing_130 : At cX11_kindsOfThing 130 (.ireturn) 1 131 := ⟨by decide +kernel, rfl⟩
def l11_kindsOfThing_16 (k0 : Nat) (x1 : Int32) (x2 : Int32) (x3 : Int32) (σ : Mem) : Nat → Int32 → Int32 → Option (Int32 × Int32)
  | 0, _, _ => none
  | n + 1, x4, x5 =>
  if (σ.1 22 0 3) ≤ x5 then
  (some (x4, x5))
  else
  (bnd (if x4 = 0 then
  (some 0)
  else
  (ck (inb (56 + (5 * x5)) 142) <|
  if (σ.1 22 0 ((56 + (5 * x5)) : Int32).toNatClampNeg) = x1 then
  (ck (inb ((56 + (5 * x5)) + 1) 142) <|
  ck (inb ((56 + (5 * x5)) + 2) 142) <|
  ck (inb ((56 + (5 * x5)) + 3) 142) <|
  ck (inb ((56 + (5 * x5)) + 4) 142) <|
  if (f11_drawsAs x3 (σ.1 22 0 (((56 + (5 * x5)) + 1) : Int32).toNatClampNeg) (σ.1 22 0 (((56 + (5 * x5)) + 2) : Int32).toNatClampNeg) (σ.1 22 0 (((56 + (5 * x5)) + 3) : Int32).toNatClampNeg)) = (σ.1 22 0 (((56 + (5 * x5)) + 4) : Int32).toNatClampNeg) then
  (some 1)
  else
  (some 0))
  else
  (some 1)) : Option (Int32)) fun w1 =>
  l11_kindsOfThing_16 k0 x1 x2 x3 σ n w1 (x5 + 1))
theorem lE11_kindsOfThing_16 {V : Option AV} {S : Mem} (k0 : Nat) (x1 : Int32) (x2 : Int32) (x3 : Int32) (σ : Mem) : ∀ (n : Nat) (x4 : Int32) (x5 : Int32) {w : Int32 × Int32}, l11_kindsOfThing_16 k0 x1 x2 x3 σ n x4 x5 = some w → (Go m11_kindsOfThing 108 [some (.inr (.inr (11, k0))), some (.inl x1), some (.inl x2), some (.inl x3), some (.inl w.1), some (.inl w.2), none] [] σ V S) → Go m11_kindsOfThing 16 [some (.inr (.inr (11, k0))), some (.inl x1), some (.inl x2), some (.inl x3), some (.inl x4), some (.inl x5), none] [] σ V S
  | 0, x4, x5, w, h, K1 => by cases h
  | n + 1, x4, x5, w, h, K1 => by
    rw [l11_kindsOfThing_16] at h
    refine g_iload a11_kindsOfThing_16 rfl ?_
    refine g_aload_n a11_kindsOfThing_18 rfl ?_
    refine g_getf (v := .inr (.inr (22, 0))) a11_kindsOfThing_19 fs11_7 rfl ?_
    refine g_iconst (v := 3) a11_kindsOfThing_22 rfl ?_
    refine g_iald (x := (σ.1 22 0 3)) a11_kindsOfThing_23 (rI22 (by decide)) (inb_ok (by decide)) rfl ?_
    refine g_icmp_ge (tgt := 108) a11_kindsOfThing_24 rfl (fun c12 => ?_) (fun c12 => ?_)
    · have h := (if_pos c12).symm.trans h
      have h := Option.some.inj h
      subst h
      exact g_weak K1 ⟨rfl, rfl, rfl, rfl, rfl, rfl, trivial⟩
    · have h := (if_neg c12).symm.trans h
      refine g_bipush (v := 56) a11_kindsOfThing_27 rfl ?_
      refine g_iconst (v := 5) a11_kindsOfThing_29 rfl ?_
      refine g_iload a11_kindsOfThing_30 rfl ?_
      refine g_imul a11_kindsOfThing_32 ?_
      refine g_iadd a11_kindsOfThing_33 ?_
      refine g_istore (L' := [some (.inr (.inr (11, k0))), some (.inl x1), some (.inl x2), some (.inl x3), some (.inl x4), some (.inl x5), some (.inl (56 + (5 * x5)))]) a11_kindsOfThing_34 (Nat.le_of_ble_eq_true rfl) rfl rfl ?_
      refine g_iload a11_kindsOfThing_36 rfl ?_
      obtain ⟨w1, hw1, h⟩ := bnd_inv h
      have J2 : Go m11_kindsOfThing 100 [some (.inr (.inr (11, k0))), some (.inl x1), some (.inl x2), some (.inl x3), none, some (.inl x5), none] [.inl w1] σ V S := by
        refine g_istore (L' := [some (.inr (.inr (11, k0))), some (.inl x1), some (.inl x2), some (.inl x3), some (.inl w1), some (.inl x5), none]) a11_kindsOfThing_100 (Nat.le_of_ble_eq_true rfl) rfl rfl ?_
        refine g_iinc (v := (x5 + 1)) (L' := [some (.inr (.inr (11, k0))), some (.inl x1), some (.inl x2), some (.inl x3), some (.inl w1), some (.inl (x5 + 1)), none]) a11_kindsOfThing_102 rfl rfl (Nat.le_of_ble_eq_true rfl) rfl rfl ?_
        refine g_goto (tgt := 16) a11_kindsOfThing_105 rfl ?_
        exact g_weak (lE11_kindsOfThing_16 (V := V) (S := S)  k0 x1 x2 x3 σ n _ _ h K1) ⟨rfl, rfl, rfl, rfl, rfl, rfl, trivial⟩
      clear h
      refine g_if_eq (tgt := 99) a11_kindsOfThing_38 rfl (fun c11 => ?_) (fun c11 => ?_)
      · have hw1 := (if_pos c11).symm.trans hw1
        refine g_iconst (v := 0) a11_kindsOfThing_99 rfl ?_
        have hw1 := Option.some.inj hw1
        subst hw1
        exact g_weak J2 ⟨rfl, rfl, rfl, rfl, rfl, trivial⟩
      · have hw1 := (if_neg c11).symm.trans hw1
        refine g_aload_n a11_kindsOfThing_41 rfl ?_
        refine g_getf (v := .inr (.inr (22, 0))) a11_kindsOfThing_42 fs11_7 rfl ?_
        refine g_iload a11_kindsOfThing_45 rfl ?_
        obtain ⟨q3, hw1⟩ := ck_inv hw1
        refine g_iald (x := (σ.1 22 0 ((56 + (5 * x5)) : Int32).toNatClampNeg)) a11_kindsOfThing_47 (rI22 (by decide)) (inb_ok q3) rfl ?_
        refine g_iload_n a11_kindsOfThing_48 rfl ?_
        refine g_icmp_ne (tgt := 95) a11_kindsOfThing_49 rfl (fun c10 => ?_) (fun c10 => ?_)
        · have hw1 := (if_neg c10).symm.trans hw1
          refine g_iconst (v := 1) a11_kindsOfThing_95 rfl ?_
          refine g_goto (tgt := 100) a11_kindsOfThing_96 rfl ?_
          have hw1 := Option.some.inj hw1
          subst hw1
          exact g_weak J2 ⟨rfl, rfl, rfl, rfl, rfl, trivial⟩
        · have hw1 := (if_pos c10).symm.trans hw1
          refine g_iload_n a11_kindsOfThing_52 rfl ?_
          refine g_aload_n a11_kindsOfThing_53 rfl ?_
          refine g_getf (v := .inr (.inr (22, 0))) a11_kindsOfThing_54 fs11_7 rfl ?_
          refine g_iload a11_kindsOfThing_57 rfl ?_
          refine g_iconst (v := 1) a11_kindsOfThing_59 rfl ?_
          refine g_iadd a11_kindsOfThing_60 ?_
          obtain ⟨q4, hw1⟩ := ck_inv hw1
          refine g_iald (x := (σ.1 22 0 (((56 + (5 * x5)) + 1) : Int32).toNatClampNeg)) a11_kindsOfThing_61 (rI22 (by decide)) (inb_ok q4) rfl ?_
          refine g_aload_n a11_kindsOfThing_62 rfl ?_
          refine g_getf (v := .inr (.inr (22, 0))) a11_kindsOfThing_63 fs11_7 rfl ?_
          refine g_iload a11_kindsOfThing_66 rfl ?_
          refine g_iconst (v := 2) a11_kindsOfThing_68 rfl ?_
          refine g_iadd a11_kindsOfThing_69 ?_
          obtain ⟨q5, hw1⟩ := ck_inv hw1
          refine g_iald (x := (σ.1 22 0 (((56 + (5 * x5)) + 2) : Int32).toNatClampNeg)) a11_kindsOfThing_70 (rI22 (by decide)) (inb_ok q5) rfl ?_
          refine g_aload_n a11_kindsOfThing_71 rfl ?_
          refine g_getf (v := .inr (.inr (22, 0))) a11_kindsOfThing_72 fs11_7 rfl ?_
          refine g_iload a11_kindsOfThing_75 rfl ?_
          refine g_iconst (v := 3) a11_kindsOfThing_77 rfl ?_
          refine g_iadd a11_kindsOfThing_78 ?_
          obtain ⟨q6, hw1⟩ := ck_inv hw1
          refine g_iald (x := (σ.1 22 0 (((56 + (5 * x5)) + 3) : Int32).toNatClampNeg)) a11_kindsOfThing_79 (rI22 (by decide)) (inb_ok q6) rfl ?_
          refine g_S4s (v1 := .inl (f11_drawsAs x3 (σ.1 22 0 (((56 + (5 * x5)) + 1) : Int32).toNatClampNeg) (σ.1 22 0 (((56 + (5 * x5)) + 2) : Int32).toNatClampNeg) (σ.1 22 0 (((56 + (5 * x5)) + 3) : Int32).toNatClampNeg))) (σ1 := σ) a11_kindsOfThing_80 cs11_89 (E11_drawsAs _ _ _ _ _) rfl (fun o7 => ?_)
          refine g_aload_n a11_kindsOfThing_83 rfl ?_
          refine g_getf (v := .inr (.inr (22, 0))) a11_kindsOfThing_84 fs11_7 rfl ?_
          refine g_iload a11_kindsOfThing_87 rfl ?_
          refine g_iconst (v := 4) a11_kindsOfThing_89 rfl ?_
          refine g_iadd a11_kindsOfThing_90 ?_
          obtain ⟨q8, hw1⟩ := ck_inv hw1
          refine g_iald (x := (σ.1 22 0 (((56 + (5 * x5)) + 4) : Int32).toNatClampNeg)) a11_kindsOfThing_91 (rI22 (by decide)) (inb_ok q8) rfl ?_
          refine g_icmp_ne (tgt := 99) a11_kindsOfThing_92 rfl (fun c9 => ?_) (fun c9 => ?_)
          · have hw1 := (if_neg c9).symm.trans hw1
            refine g_iconst (v := 0) a11_kindsOfThing_99 rfl ?_
            have hw1 := Option.some.inj hw1
            subst hw1
            exact g_weak J2 ⟨rfl, rfl, rfl, rfl, rfl, trivial⟩
          · have hw1 := (if_pos c9).symm.trans hw1
            refine g_iconst (v := 1) a11_kindsOfThing_95 rfl ?_
            refine g_goto (tgt := 100) a11_kindsOfThing_96 rfl ?_
            have hw1 := Option.some.inj hw1
            subst hw1
            exact g_weak J2 ⟨rfl, rfl, rfl, rfl, rfl, trivial⟩
def l11_kindsOfThing_4 (k0 : Nat) (x1 : Int32) (σ : Mem) : Nat → Int32 → Int32 → Option (Int32 × Int32)
  | 0, _, _ => none
  | n + 1, x2, x3 =>
  if 6 ≤ x3 then
  (some (x2, x3))
  else
  (bnd (l11_kindsOfThing_16 k0 x1 x2 x3 σ 2000 1 0) fun w13 =>
  lt (if w13.1 = 0 then
  (0)
  else
  ((1 <<< (x3 &&& 31))) : Int32) fun w14 =>
  l11_kindsOfThing_4 k0 x1 σ n (x2 ||| w14) (x3 + 1))
theorem lE11_kindsOfThing_4 {V : Option AV} {S : Mem} (k0 : Nat) (x1 : Int32) (σ : Mem) : ∀ (n : Nat) (x2 : Int32) (x3 : Int32) {w : Int32 × Int32}, l11_kindsOfThing_4 k0 x1 σ n x2 x3 = some w → (Go m11_kindsOfThing 129 [some (.inr (.inr (11, k0))), some (.inl x1), some (.inl w.1), some (.inl w.2), none, none, none] [] σ V S) → Go m11_kindsOfThing 4 [some (.inr (.inr (11, k0))), some (.inl x1), some (.inl x2), some (.inl x3), none, none, none] [] σ V S
  | 0, x2, x3, w, h, K1 => by cases h
  | n + 1, x2, x3, w, h, K1 => by
    rw [l11_kindsOfThing_4] at h
    refine g_iload_n a11_kindsOfThing_4 rfl ?_
    refine g_bipush (v := 6) a11_kindsOfThing_5 rfl ?_
    refine g_icmp_ge (tgt := 129) a11_kindsOfThing_7 rfl (fun c17 => ?_) (fun c17 => ?_)
    · have h := (if_pos c17).symm.trans h
      have h := Option.some.inj h
      subst h
      exact g_weak K1 ⟨rfl, rfl, rfl, rfl, trivial⟩
    · have h := (if_neg c17).symm.trans h
      refine g_iconst (v := 1) a11_kindsOfThing_10 rfl ?_
      refine g_istore (L' := [some (.inr (.inr (11, k0))), some (.inl x1), some (.inl x2), some (.inl x3), some (.inl 1), none, none]) a11_kindsOfThing_11 (Nat.le_of_ble_eq_true rfl) rfl rfl ?_
      refine g_iconst (v := 0) a11_kindsOfThing_13 rfl ?_
      refine g_istore (L' := [some (.inr (.inr (11, k0))), some (.inl x1), some (.inl x2), some (.inl x3), some (.inl 1), some (.inl 0), none]) a11_kindsOfThing_14 (Nat.le_of_ble_eq_true rfl) rfl rfl ?_
      obtain ⟨w13, hw13, h⟩ := bnd_inv h
      refine g_weak (lE11_kindsOfThing_16 k0 x1 x2 x3 σ 2000 _ _ hw13 ?_) ⟨rfl, rfl, rfl, rfl, rfl, rfl, trivial⟩
      refine g_iload_n a11_kindsOfThing_108 rfl ?_
      refine g_iload a11_kindsOfThing_109 rfl ?_
      obtain ⟨w14, hw14, h⟩ := lt_inv h
      have J15 : Go m11_kindsOfThing 121 [some (.inr (.inr (11, k0))), some (.inl x1), none, some (.inl x3), none, none, none] [.inl w14, .inl x2] σ V S := by
        refine g_ior a11_kindsOfThing_121 ?_
        refine g_istore_n (L' := [some (.inr (.inr (11, k0))), some (.inl x1), some (.inl (x2 ||| w14)), some (.inl x3), none, none, none]) a11_kindsOfThing_122 (Nat.le_of_ble_eq_true rfl) rfl rfl ?_
        refine g_iinc (v := (x3 + 1)) (L' := [some (.inr (.inr (11, k0))), some (.inl x1), some (.inl (x2 ||| w14)), some (.inl (x3 + 1)), none, none, none]) a11_kindsOfThing_123 rfl rfl (Nat.le_of_ble_eq_true rfl) rfl rfl ?_
        refine g_goto (tgt := 4) a11_kindsOfThing_126 rfl ?_
        exact g_weak (lE11_kindsOfThing_4 (V := V) (S := S)  k0 x1 σ n _ _ h K1) ⟨rfl, rfl, rfl, rfl, trivial⟩
      clear h
      refine g_if_eq (tgt := 120) a11_kindsOfThing_111 rfl (fun c16 => ?_) (fun c16 => ?_)
      · have hw14 := (if_pos c16).symm.trans hw14
        refine g_iconst (v := 0) a11_kindsOfThing_120 rfl ?_
        subst hw14
        exact g_weak J15 ⟨rfl, rfl, rfl, trivial⟩
      · have hw14 := (if_neg c16).symm.trans hw14
        refine g_iconst (v := 1) a11_kindsOfThing_114 rfl ?_
        refine g_iload_n a11_kindsOfThing_115 rfl ?_
        refine g_ishl a11_kindsOfThing_116 ?_
        refine g_goto (tgt := 121) a11_kindsOfThing_117 rfl ?_
        subst hw14
        exact g_weak J15 ⟨rfl, rfl, rfl, trivial⟩
def f11_kindsOfThing (k0 : Nat) (x1 : Int32) (σ : Mem) : Option (Int32) :=
  bnd (l11_kindsOfThing_4 k0 x1 σ 2000 0 0) fun w18 =>
  some w18.1
theorem E11_kindsOfThing {k0 : Nat} {x1 : Int32} {σ : Mem} {w : Int32} (h : f11_kindsOfThing k0 x1 σ = some w) : Ev m11_kindsOfThing [.inr (.inr (11, k0)), .inl x1] σ (some (.inl w) : Option AV) σ := by
  unfold f11_kindsOfThing at h
  show Go m11_kindsOfThing 0 [some (.inr (.inr (11, k0))), some (.inl x1), none, none, none, none, none] [] σ (some (.inl w) : Option AV) σ
  refine g_iconst (v := 0) a11_kindsOfThing_0 rfl ?_
  refine g_istore_n (L' := [some (.inr (.inr (11, k0))), some (.inl x1), some (.inl 0), none, none, none, none]) a11_kindsOfThing_1 (Nat.le_of_ble_eq_true rfl) rfl rfl ?_
  refine g_iconst (v := 0) a11_kindsOfThing_2 rfl ?_
  refine g_istore_n (L' := [some (.inr (.inr (11, k0))), some (.inl x1), some (.inl 0), some (.inl 0), none, none, none]) a11_kindsOfThing_3 (Nat.le_of_ble_eq_true rfl) rfl rfl ?_
  obtain ⟨w18, hw18, h⟩ := bnd_inv h
  refine g_weak (lE11_kindsOfThing_4 k0 x1 σ 2000 _ _ hw18 ?_) ⟨rfl, rfl, rfl, rfl, trivial⟩
  refine g_iload_n a11_kindsOfThing_129 rfl ?_
  have h := Option.some.inj h
  subst h
  exact g_retE a11_kindsOfThing_130 trivial rfl rfl
theorem a11_is_0 : At cX11_is 0 (.aload_n 0) 1 1 := ⟨by decide +kernel, rfl⟩
theorem a11_is_1 : At cX11_is 1 (.iload_n 1) 1 2 := ⟨by decide +kernel, rfl⟩
theorem a11_is_2 : At cX11_is 2 (.invokevirtual 134) 3 5 := ⟨by decide +kernel, rfl⟩
theorem a11_is_5 : At cX11_is 5 (.ifCond .eq 11) 3 8 := ⟨by decide +kernel, rfl⟩
theorem a11_is_8 : At cX11_is 8 (.aload_n 0) 1 9 := ⟨by decide +kernel, rfl⟩
theorem a11_is_9 : At cX11_is 9 (.iload_n 1) 1 10 := ⟨by decide +kernel, rfl⟩
theorem a11_is_10 : At cX11_is 10 (.invokevirtual 172) 3 13 := ⟨by decide +kernel, rfl⟩
theorem a11_is_13 : At cX11_is 13 (.goto 9) 3 16 := ⟨by decide +kernel, rfl⟩
theorem a11_is_16 : At cX11_is 16 (.aload_n 0) 1 17 := ⟨by decide +kernel, rfl⟩
theorem a11_is_17 : At cX11_is 17 (.bipush (-2)) 2 19 := ⟨by decide +kernel, rfl⟩
theorem a11_is_19 : At cX11_is 19 (.invokevirtual 73) 3 22 := ⟨by decide +kernel, rfl⟩
theorem a11_is_22 : At cX11_is 22 (.ireturn) 1 23 := ⟨by decide +kernel, rfl⟩
def f11_is (k0 : Nat) (x1 : Int32) (σ : Mem) : Option (Int32 × Mem) :=
  if (f11_isThing k0 x1 σ) = 0 then
  (lt (f11_bad k0 (-2) σ) fun w2 =>
  some (w2.1, w2.2))
  else
  (bnd (f11_kindsOfThing k0 x1 σ) fun w4 =>
  some (w4, σ))
theorem E11_is {k0 : Nat} {x1 : Int32} {σ : Mem} {w : Int32 × Mem} (h : f11_is k0 x1 σ = some w) : Ev m11_is [.inr (.inr (11, k0)), .inl x1] σ (some (.inl w.1) : Option AV) w.2 := by
  unfold f11_is at h
  show Go m11_is 0 [some (.inr (.inr (11, k0))), some (.inl x1)] [] σ (some (.inl w.1) : Option AV) w.2
  refine g_aload_n a11_is_0 rfl ?_
  refine g_iload_n a11_is_1 rfl ?_
  refine g_V1s (v1 := .inl (f11_isThing k0 x1 σ)) (σ1 := σ) a11_is_2 cv11_134 (E11_isThing _ _ _) rfl (fun o1 => ?_)
  refine g_if_eq (tgt := 16) a11_is_5 rfl (fun c6 => ?_) (fun c6 => ?_)
  · have h := (if_pos c6).symm.trans h
    refine g_aload_n a11_is_16 rfl ?_
    refine g_bipush (v := (-2)) a11_is_17 rfl ?_
    obtain ⟨w2, hw2, h⟩ := lt_inv h
    refine g_V1s (v1 := .inl w2.1) (σ1 := w2.2) a11_is_19 cv11_73 (by rw [← hw2]; exact E11_bad _ _ _) rfl (fun o3 => ?_)
    have h := Option.some.inj h
    subst h
    exact g_retE a11_is_22 trivial rfl rfl
  · have h := (if_neg c6).symm.trans h
    refine g_aload_n a11_is_8 rfl ?_
    refine g_iload_n a11_is_9 rfl ?_
    obtain ⟨w4, hw4, h⟩ := bnd_inv h
    refine g_V1s (v1 := .inl w4) (σ1 := σ) a11_is_10 cv11_172 (E11_kindsOfThing hw4) rfl (fun o5 => ?_)
    refine g_goto (tgt := 22) a11_is_13 rfl ?_
    have h := Option.some.inj h
    subst h
    exact g_retE a11_is_22 trivial rfl rfl
theorem a11_mostAlike_0 : At cX11_mostAlike 0 (.iconst 0) 1 1 := ⟨by decide +kernel, rfl⟩
theorem a11_mostAlike_1 : At cX11_mostAlike 1 (.istore_n 2) 1 2 := ⟨by decide +kernel, rfl⟩
theorem a11_mostAlike_2 : At cX11_mostAlike 2 (.iconst 0) 1 3 := ⟨by decide +kernel, rfl⟩
theorem a11_mostAlike_3 : At cX11_mostAlike 3 (.istore_n 3) 1 4 := ⟨by decide +kernel, rfl⟩
theorem a11_mostAlike_4 : At cX11_mostAlike 4 (.iload_n 3) 1 5 := ⟨by decide +kernel, rfl⟩
theorem a11_mostAlike_5 : At cX11_mostAlike 5 (.bipush 6) 2 7 := ⟨by decide +kernel, rfl⟩
theorem a11_mostAlike_7 : At cX11_mostAlike 7 (.if_icmp .ge 84) 3 10 := ⟨by decide +kernel, rfl⟩
theorem a11_mostAlike_10 : At cX11_mostAlike 10 (.iconst 0) 1 11 := ⟨by decide +kernel, rfl⟩
theorem a11_mostAlike_11 : At cX11_mostAlike 11 (.istore 4) 2 13 := ⟨by decide +kernel, rfl⟩
theorem a11_mostAlike_13 : At cX11_mostAlike 13 (.iconst 0) 1 14 := ⟨by decide +kernel, rfl⟩
theorem a11_mostAlike_14 : At cX11_mostAlike 14 (.istore 5) 2 16 := ⟨by decide +kernel, rfl⟩
theorem a11_mostAlike_16 : At cX11_mostAlike 16 (.iload 5) 2 18 := ⟨by decide +kernel, rfl⟩
theorem a11_mostAlike_18 : At cX11_mostAlike 18 (.bipush 6) 2 20 := ⟨by decide +kernel, rfl⟩
theorem a11_mostAlike_20 : At cX11_mostAlike 20 (.if_icmp .ge 52) 3 23 := ⟨by decide +kernel, rfl⟩
theorem a11_mostAlike_23 : At cX11_mostAlike 23 (.iload_n 1) 1 24 := ⟨by decide +kernel, rfl⟩
theorem a11_mostAlike_24 : At cX11_mostAlike 24 (.iload_n 3) 1 25 := ⟨by decide +kernel, rfl⟩
theorem a11_mostAlike_25 : At cX11_mostAlike 25 (.invokestatic 93) 3 28 := ⟨by decide +kernel, rfl⟩
theorem a11_mostAlike_28 : At cX11_mostAlike 28 (.ifCond .eq 44) 3 31 := ⟨by decide +kernel, rfl⟩
theorem a11_mostAlike_31 : At cX11_mostAlike 31 (.iload 4) 2 33 := ⟨by decide +kernel, rfl⟩
theorem a11_mostAlike_33 : At cX11_mostAlike 33 (.iload_n 1) 1 34 := ⟨by decide +kernel, rfl⟩
theorem a11_mostAlike_34 : At cX11_mostAlike 34 (.iload 5) 2 36 := ⟨by decide +kernel, rfl⟩
theorem a11_mostAlike_36 : At cX11_mostAlike 36 (.invokestatic 93) 3 39 := ⟨by decide +kernel, rfl⟩
theorem a11_mostAlike_39 : At cX11_mostAlike 39 (.ifCond .eq 23) 3 42 := ⟨by decide +kernel, rfl⟩
theorem a11_mostAlike_42 : At cX11_mostAlike 42 (.aload_n 0) 1 43 := ⟨by decide +kernel, rfl⟩
theorem a11_mostAlike_43 : At cX11_mostAlike 43 (.getfield 39) 3 46 := ⟨by decide +kernel, rfl⟩
theorem a11_mostAlike_46 : At cX11_mostAlike 46 (.iload_n 3) 1 47 := ⟨by decide +kernel, rfl⟩
theorem a11_mostAlike_47 : At cX11_mostAlike 47 (.iaload) 1 48 := ⟨by decide +kernel, rfl⟩
theorem a11_mostAlike_48 : At cX11_mostAlike 48 (.aload_n 0) 1 49 := ⟨by decide +kernel, rfl⟩
theorem a11_mostAlike_49 : At cX11_mostAlike 49 (.getfield 39) 3 52 := ⟨by decide +kernel, rfl⟩
theorem a11_mostAlike_52 : At cX11_mostAlike 52 (.iload 5) 2 54 := ⟨by decide +kernel, rfl⟩
theorem a11_mostAlike_54 : At cX11_mostAlike 54 (.iaload) 1 55 := ⟨by decide +kernel, rfl⟩
theorem a11_mostAlike_55 : At cX11_mostAlike 55 (.if_icmp .ne 7) 3 58 := ⟨by decide +kernel, rfl⟩
theorem a11_mostAlike_58 : At cX11_mostAlike 58 (.iconst 1) 1 59 := ⟨by decide +kernel, rfl⟩
theorem a11_mostAlike_59 : At cX11_mostAlike 59 (.goto 4) 3 62 := ⟨by decide +kernel, rfl⟩
theorem a11_mostAlike_62 : At cX11_mostAlike 62 (.iconst 0) 1 63 := ⟨by decide +kernel, rfl⟩
theorem a11_mostAlike_63 : At cX11_mostAlike 63 (.iadd) 1 64 := ⟨by decide +kernel, rfl⟩
theorem a11_mostAlike_64 : At cX11_mostAlike 64 (.istore 4) 2 66 := ⟨by decide +kernel, rfl⟩
theorem a11_mostAlike_66 : At cX11_mostAlike 66 (.iinc 5 1) 3 69 := ⟨by decide +kernel, rfl⟩
theorem a11_mostAlike_69 : At cX11_mostAlike 69 (.goto (-53)) 3 72 := ⟨by decide +kernel, rfl⟩
theorem a11_mostAlike_72 : At cX11_mostAlike 72 (.iload 4) 2 74 := ⟨by decide +kernel, rfl⟩
theorem a11_mostAlike_74 : At cX11_mostAlike 74 (.iload_n 2) 1 75 := ⟨by decide +kernel, rfl⟩
theorem a11_mostAlike_75 : At cX11_mostAlike 75 (.if_icmp .le 8) 3 78 := ⟨by decide +kernel, rfl⟩
theorem a11_mostAlike_78 : At cX11_mostAlike 78 (.iload 4) 2 80 := ⟨by decide +kernel, rfl⟩
theorem a11_mostAlike_80 : At cX11_mostAlike 80 (.goto 4) 3 83 := ⟨by decide +kernel, rfl⟩
theorem a11_mostAlike_83 : At cX11_mostAlike 83 (.iload_n 2) 1 84 := ⟨by decide +kernel, rfl⟩
theorem a11_mostAlike_84 : At cX11_mostAlike 84 (.istore_n 2) 1 85 := ⟨by decide +kernel, rfl⟩
theorem a11_mostAlike_85 : At cX11_mostAlike 85 (.iinc 3 1) 3 88 := ⟨by decide +kernel, rfl⟩
theorem a11_mostAlike_88 : At cX11_mostAlike 88 (.goto (-84)) 3 91 := ⟨by decide +kernel, rfl⟩
theorem a11_mostAlike_91 : At cX11_mostAlike 91 (.iload_n 2) 1 92 := ⟨by decide +kernel, rfl⟩
theorem a11_mostAlike_92 : At cX11_mostAlike 92 (.ireturn) 1 93 := ⟨by decide +kernel, rfl⟩
def l11_mostAlike_16 (k0 : Nat) (x1 : Int32) (x2 : Int32) (x3 : Int32) (σ : Mem) : Nat → Int32 → Int32 → Option (Int32 × Int32)
  | 0, _, _ => none
  | n + 1, x4, x5 =>
  if 6 ≤ x5 then
  (some (x4, x5))
  else
  (if (f11_has x1 x3) = 0 then
  (some (x4, x5))
  else
  (bnd (if (f11_has x1 x5) = 0 then
  (some 0)
  else
  (ck (inb x3 6) <|
  ck (inb x5 6) <|
  if (σ.1 22 8 (x3 : Int32).toNatClampNeg) = (σ.1 22 8 (x5 : Int32).toNatClampNeg) then
  (some 1)
  else
  (some 0)) : Option (Int32)) fun w3 =>
  l11_mostAlike_16 k0 x1 x2 x3 σ n (x4 + w3) (x5 + 1)))
theorem lE11_mostAlike_16 {V : Option AV} {S : Mem} (k0 : Nat) (x1 : Int32) (x2 : Int32) (x3 : Int32) (σ : Mem) : ∀ (n : Nat) (x4 : Int32) (x5 : Int32) {w : Int32 × Int32}, l11_mostAlike_16 k0 x1 x2 x3 σ n x4 x5 = some w → (Go m11_mostAlike 72 [some (.inr (.inr (11, k0))), some (.inl x1), some (.inl x2), some (.inl x3), some (.inl w.1), some (.inl w.2)] [] σ V S) → Go m11_mostAlike 16 [some (.inr (.inr (11, k0))), some (.inl x1), some (.inl x2), some (.inl x3), some (.inl x4), some (.inl x5)] [] σ V S
  | 0, x4, x5, w, h, K1 => by cases h
  | n + 1, x4, x5, w, h, K1 => by
    rw [l11_mostAlike_16] at h
    refine g_iload a11_mostAlike_16 rfl ?_
    refine g_bipush (v := 6) a11_mostAlike_18 rfl ?_
    refine g_icmp_ge (tgt := 72) a11_mostAlike_20 rfl (fun c10 => ?_) (fun c10 => ?_)
    · have h := (if_pos c10).symm.trans h
      have h := Option.some.inj h
      subst h
      exact g_weak K1 ⟨rfl, rfl, rfl, rfl, rfl, rfl, trivial⟩
    · have h := (if_neg c10).symm.trans h
      refine g_iload_n a11_mostAlike_23 rfl ?_
      refine g_iload_n a11_mostAlike_24 rfl ?_
      refine g_S2s (v1 := .inl (f11_has x1 x3)) (σ1 := σ) a11_mostAlike_25 cs11_93 (E11_has _ _ _) rfl (fun o1 => ?_)
      refine g_if_eq (tgt := 72) a11_mostAlike_28 rfl (fun c9 => ?_) (fun c9 => ?_)
      · have h := (if_pos c9).symm.trans h
        have h := Option.some.inj h
        subst h
        exact g_weak K1 ⟨rfl, rfl, rfl, rfl, rfl, rfl, trivial⟩
      · have h := (if_neg c9).symm.trans h
        refine g_iload a11_mostAlike_31 rfl ?_
        refine g_iload_n a11_mostAlike_33 rfl ?_
        refine g_iload a11_mostAlike_34 rfl ?_
        refine g_S2s (v1 := .inl (f11_has x1 x5)) (σ1 := σ) a11_mostAlike_36 cs11_93 (E11_has _ _ _) rfl (fun o2 => ?_)
        obtain ⟨w3, hw3, h⟩ := bnd_inv h
        have J4 : Go m11_mostAlike 63 [some (.inr (.inr (11, k0))), some (.inl x1), some (.inl x2), some (.inl x3), none, some (.inl x5)] [.inl w3, .inl x4] σ V S := by
          refine g_iadd a11_mostAlike_63 ?_
          refine g_istore (L' := [some (.inr (.inr (11, k0))), some (.inl x1), some (.inl x2), some (.inl x3), some (.inl (x4 + w3)), some (.inl x5)]) a11_mostAlike_64 (Nat.le_of_ble_eq_true rfl) rfl rfl ?_
          refine g_iinc (v := (x5 + 1)) (L' := [some (.inr (.inr (11, k0))), some (.inl x1), some (.inl x2), some (.inl x3), some (.inl (x4 + w3)), some (.inl (x5 + 1))]) a11_mostAlike_66 rfl rfl (Nat.le_of_ble_eq_true rfl) rfl rfl ?_
          refine g_goto (tgt := 16) a11_mostAlike_69 rfl ?_
          exact g_weak (lE11_mostAlike_16 (V := V) (S := S)  k0 x1 x2 x3 σ n _ _ h K1) ⟨rfl, rfl, rfl, rfl, rfl, rfl, trivial⟩
        clear h
        refine g_if_eq (tgt := 62) a11_mostAlike_39 rfl (fun c8 => ?_) (fun c8 => ?_)
        · have hw3 := (if_pos c8).symm.trans hw3
          refine g_iconst (v := 0) a11_mostAlike_62 rfl ?_
          have hw3 := Option.some.inj hw3
          subst hw3
          exact g_weak J4 ⟨rfl, rfl, rfl, rfl, rfl, trivial⟩
        · have hw3 := (if_neg c8).symm.trans hw3
          refine g_aload_n a11_mostAlike_42 rfl ?_
          refine g_getf (v := .inr (.inr (22, 8))) a11_mostAlike_43 fs11_39 rfl ?_
          refine g_iload_n a11_mostAlike_46 rfl ?_
          obtain ⟨q5, hw3⟩ := ck_inv hw3
          refine g_iald (x := (σ.1 22 8 (x3 : Int32).toNatClampNeg)) a11_mostAlike_47 (rI22 (by decide)) (inb_ok q5) rfl ?_
          refine g_aload_n a11_mostAlike_48 rfl ?_
          refine g_getf (v := .inr (.inr (22, 8))) a11_mostAlike_49 fs11_39 rfl ?_
          refine g_iload a11_mostAlike_52 rfl ?_
          obtain ⟨q6, hw3⟩ := ck_inv hw3
          refine g_iald (x := (σ.1 22 8 (x5 : Int32).toNatClampNeg)) a11_mostAlike_54 (rI22 (by decide)) (inb_ok q6) rfl ?_
          refine g_icmp_ne (tgt := 62) a11_mostAlike_55 rfl (fun c7 => ?_) (fun c7 => ?_)
          · have hw3 := (if_neg c7).symm.trans hw3
            refine g_iconst (v := 0) a11_mostAlike_62 rfl ?_
            have hw3 := Option.some.inj hw3
            subst hw3
            exact g_weak J4 ⟨rfl, rfl, rfl, rfl, rfl, trivial⟩
          · have hw3 := (if_pos c7).symm.trans hw3
            refine g_iconst (v := 1) a11_mostAlike_58 rfl ?_
            refine g_goto (tgt := 63) a11_mostAlike_59 rfl ?_
            have hw3 := Option.some.inj hw3
            subst hw3
            exact g_weak J4 ⟨rfl, rfl, rfl, rfl, rfl, trivial⟩
def l11_mostAlike_4 (k0 : Nat) (x1 : Int32) (σ : Mem) : Nat → Int32 → Int32 → Option (Int32 × Int32)
  | 0, _, _ => none
  | n + 1, x2, x3 =>
  if 6 ≤ x3 then
  (some (x2, x3))
  else
  (bnd (l11_mostAlike_16 k0 x1 x2 x3 σ 2000 0 0) fun w11 =>
  lt (if w11.1 ≤ x2 then
  (x2)
  else
  (w11.1) : Int32) fun w12 =>
  l11_mostAlike_4 k0 x1 σ n w12 (x3 + 1))
theorem lE11_mostAlike_4 {V : Option AV} {S : Mem} (k0 : Nat) (x1 : Int32) (σ : Mem) : ∀ (n : Nat) (x2 : Int32) (x3 : Int32) {w : Int32 × Int32}, l11_mostAlike_4 k0 x1 σ n x2 x3 = some w → (Go m11_mostAlike 91 [some (.inr (.inr (11, k0))), some (.inl x1), some (.inl w.1), some (.inl w.2), none, none] [] σ V S) → Go m11_mostAlike 4 [some (.inr (.inr (11, k0))), some (.inl x1), some (.inl x2), some (.inl x3), none, none] [] σ V S
  | 0, x2, x3, w, h, K1 => by cases h
  | n + 1, x2, x3, w, h, K1 => by
    rw [l11_mostAlike_4] at h
    refine g_iload_n a11_mostAlike_4 rfl ?_
    refine g_bipush (v := 6) a11_mostAlike_5 rfl ?_
    refine g_icmp_ge (tgt := 91) a11_mostAlike_7 rfl (fun c15 => ?_) (fun c15 => ?_)
    · have h := (if_pos c15).symm.trans h
      have h := Option.some.inj h
      subst h
      exact g_weak K1 ⟨rfl, rfl, rfl, rfl, trivial⟩
    · have h := (if_neg c15).symm.trans h
      refine g_iconst (v := 0) a11_mostAlike_10 rfl ?_
      refine g_istore (L' := [some (.inr (.inr (11, k0))), some (.inl x1), some (.inl x2), some (.inl x3), some (.inl 0), none]) a11_mostAlike_11 (Nat.le_of_ble_eq_true rfl) rfl rfl ?_
      refine g_iconst (v := 0) a11_mostAlike_13 rfl ?_
      refine g_istore (L' := [some (.inr (.inr (11, k0))), some (.inl x1), some (.inl x2), some (.inl x3), some (.inl 0), some (.inl 0)]) a11_mostAlike_14 (Nat.le_of_ble_eq_true rfl) rfl rfl ?_
      obtain ⟨w11, hw11, h⟩ := bnd_inv h
      refine g_weak (lE11_mostAlike_16 k0 x1 x2 x3 σ 2000 _ _ hw11 ?_) ⟨rfl, rfl, rfl, rfl, rfl, rfl, trivial⟩
      refine g_iload a11_mostAlike_72 rfl ?_
      refine g_iload_n a11_mostAlike_74 rfl ?_
      obtain ⟨w12, hw12, h⟩ := lt_inv h
      have J13 : Go m11_mostAlike 84 [some (.inr (.inr (11, k0))), some (.inl x1), none, some (.inl x3), none, none] [.inl w12] σ V S := by
        refine g_istore_n (L' := [some (.inr (.inr (11, k0))), some (.inl x1), some (.inl w12), some (.inl x3), none, none]) a11_mostAlike_84 (Nat.le_of_ble_eq_true rfl) rfl rfl ?_
        refine g_iinc (v := (x3 + 1)) (L' := [some (.inr (.inr (11, k0))), some (.inl x1), some (.inl w12), some (.inl (x3 + 1)), none, none]) a11_mostAlike_85 rfl rfl (Nat.le_of_ble_eq_true rfl) rfl rfl ?_
        refine g_goto (tgt := 4) a11_mostAlike_88 rfl ?_
        exact g_weak (lE11_mostAlike_4 (V := V) (S := S)  k0 x1 σ n _ _ h K1) ⟨rfl, rfl, rfl, rfl, trivial⟩
      clear h
      refine g_icmp_le (tgt := 83) a11_mostAlike_75 rfl (fun c14 => ?_) (fun c14 => ?_)
      · have hw12 := (if_pos c14).symm.trans hw12
        refine g_iload_n a11_mostAlike_83 rfl ?_
        subst hw12
        exact g_weak J13 ⟨rfl, rfl, rfl, trivial⟩
      · have hw12 := (if_neg c14).symm.trans hw12
        refine g_iload a11_mostAlike_78 rfl ?_
        refine g_goto (tgt := 84) a11_mostAlike_80 rfl ?_
        subst hw12
        exact g_weak J13 ⟨rfl, rfl, rfl, trivial⟩
def f11_mostAlike (k0 : Nat) (x1 : Int32) (σ : Mem) : Option (Int32) :=
  bnd (l11_mostAlike_4 k0 x1 σ 2000 0 0) fun w16 =>
  some w16.1
theorem E11_mostAlike {k0 : Nat} {x1 : Int32} {σ : Mem} {w : Int32} (h : f11_mostAlike k0 x1 σ = some w) : Ev m11_mostAlike [.inr (.inr (11, k0)), .inl x1] σ (some (.inl w) : Option AV) σ := by
  unfold f11_mostAlike at h
  show Go m11_mostAlike 0 [some (.inr (.inr (11, k0))), some (.inl x1), none, none, none, none] [] σ (some (.inl w) : Option AV) σ
  refine g_iconst (v := 0) a11_mostAlike_0 rfl ?_
  refine g_istore_n (L' := [some (.inr (.inr (11, k0))), some (.inl x1), some (.inl 0), none, none, none]) a11_mostAlike_1 (Nat.le_of_ble_eq_true rfl) rfl rfl ?_
  refine g_iconst (v := 0) a11_mostAlike_2 rfl ?_
  refine g_istore_n (L' := [some (.inr (.inr (11, k0))), some (.inl x1), some (.inl 0), some (.inl 0), none, none]) a11_mostAlike_3 (Nat.le_of_ble_eq_true rfl) rfl rfl ?_
  obtain ⟨w16, hw16, h⟩ := bnd_inv h
  refine g_weak (lE11_mostAlike_4 k0 x1 σ 2000 _ _ hw16 ?_) ⟨rfl, rfl, rfl, rfl, trivial⟩
  refine g_iload_n a11_mostAlike_91 rfl ?_
  have h := Option.some.inj h
  subst h
  exact g_retE a11_mostAlike_92 trivial rfl rfl
