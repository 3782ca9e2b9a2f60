theorem a11_look_0 : At cX11_look 0 (.aload_n 0) 1 1 := ⟨by decide +kernel, rfl⟩
theorem a11_look_1 : At cX11_look 1 (.iload_n 1) 1 2 := ⟨by decide +kernel, rfl⟩
theorem a11_look_2 : At cX11_look 2 (.invokevirtual 134) 3 5 := ⟨by decide +kernel, rfl⟩
theorem a11_look_5 : At cX11_look 5 (.ifCond .ne 10) 3 8 := ⟨by decide +kernel, rfl⟩
theorem a11_look_8 : At cX11_look 8 (.aload_n 0) 1 9 := ⟨by decide +kernel, rfl⟩
theorem a11_look_9 : At cX11_look 9 (.bipush (-2)) 2 11 := ⟨by decide +kernel, rfl⟩
theorem a11_look_11 : At cX11_look 11 (.invokevirtual 73) 3 14 := ⟨by decide +kernel, rfl⟩
theorem a11_look_14 : At cX11_look 14 (.ireturn) 1 15 := ⟨by decide +kernel, rfl⟩
theorem a11_look_15 : At cX11_look 15 (.aload_n 0) 1 16 := ⟨by decide +kernel, rfl⟩
theorem a11_look_16 : At cX11_look 16 (.iload_n 1) 1 17 := ⟨by decide +kernel, rfl⟩
theorem a11_look_17 : At cX11_look 17 (.invokevirtual 172) 3 20 := ⟨by decide +kernel, rfl⟩
theorem a11_look_20 : At cX11_look 20 (.istore_n 2) 1 21 := ⟨by decide +kernel, rfl⟩
theorem a11_look_21 : At cX11_look 21 (.iconst (-1)) 1 22 := ⟨by decide +kernel, rfl⟩
theorem a11_look_22 : At cX11_look 22 (.istore_n 3) 1 23 := ⟨by decide +kernel, rfl⟩
theorem a11_look_23 : At cX11_look 23 (.ldc 175) 2 25 := ⟨by decide +kernel, rfl⟩
theorem a11_look_25 : At cX11_look 25 (.istore 4) 2 27 := ⟨by decide +kernel, rfl⟩
theorem a11_look_27 : At cX11_look 27 (.iconst 0) 1 28 := ⟨by decide +kernel, rfl⟩
theorem a11_look_28 : At cX11_look 28 (.istore 5) 2 30 := ⟨by decide +kernel, rfl⟩
theorem a11_look_30 : At cX11_look 30 (.iload 5) 2 32 := ⟨by decide +kernel, rfl⟩
theorem a11_look_32 : At cX11_look 32 (.bipush 12) 2 34 := ⟨by decide +kernel, rfl⟩
theorem a11_look_34 : At cX11_look 34 (.if_icmp .ge 113) 3 37 := ⟨by decide +kernel, rfl⟩
theorem a11_look_37 : At cX11_look 37 (.iload_n 2) 1 38 := ⟨by decide +kernel, rfl⟩
theorem a11_look_38 : At cX11_look 38 (.ifCond .le 109) 3 41 := ⟨by decide +kernel, rfl⟩
theorem a11_look_41 : At cX11_look 41 (.iconst 0) 1 42 := ⟨by decide +kernel, rfl⟩
theorem a11_look_42 : At cX11_look 42 (.istore 6) 2 44 := ⟨by decide +kernel, rfl⟩
theorem a11_look_44 : At cX11_look 44 (.iload 6) 2 46 := ⟨by decide +kernel, rfl⟩
theorem a11_look_46 : At cX11_look 46 (.bipush 10) 2 48 := ⟨by decide +kernel, rfl⟩
theorem a11_look_48 : At cX11_look 48 (.if_icmp .ge 93) 3 51 := ⟨by decide +kernel, rfl⟩
theorem a11_look_51 : At cX11_look 51 (.iconst 0) 1 52 := ⟨by decide +kernel, rfl⟩
theorem a11_look_52 : At cX11_look 52 (.istore 7) 2 54 := ⟨by decide +kernel, rfl⟩
theorem a11_look_54 : At cX11_look 54 (.iload 7) 2 56 := ⟨by decide +kernel, rfl⟩
theorem a11_look_56 : At cX11_look 56 (.bipush 6) 2 58 := ⟨by decide +kernel, rfl⟩
theorem a11_look_58 : At cX11_look 58 (.if_icmp .ge 34) 3 61 := ⟨by decide +kernel, rfl⟩
theorem a11_look_61 : At cX11_look 61 (.aload_n 0) 1 62 := ⟨by decide +kernel, rfl⟩
theorem a11_look_62 : At cX11_look 62 (.getfield 39) 3 65 := ⟨by decide +kernel, rfl⟩
theorem a11_look_65 : At cX11_look 65 (.iload 7) 2 67 := ⟨by decide +kernel, rfl⟩
theorem a11_look_67 : At cX11_look 67 (.iload 7) 2 69 := ⟨by decide +kernel, rfl⟩
theorem a11_look_69 : At cX11_look 69 (.aload_n 0) 1 70 := ⟨by decide +kernel, rfl⟩
theorem a11_look_70 : At cX11_look 70 (.getfield 7) 3 73 := ⟨by decide +kernel, rfl⟩
theorem a11_look_73 : At cX11_look 73 (.bipush 28) 2 75 := ⟨by decide +kernel, rfl⟩
theorem a11_look_75 : At cX11_look 75 (.iload_n 1) 1 76 := ⟨by decide +kernel, rfl⟩
theorem a11_look_76 : At cX11_look 76 (.iadd) 1 77 := ⟨by decide +kernel, rfl⟩
theorem a11_look_77 : At cX11_look 77 (.iaload) 1 78 := ⟨by decide +kernel, rfl⟩
theorem a11_look_78 : At cX11_look 78 (.iload 5) 2 80 := ⟨by decide +kernel, rfl⟩
theorem a11_look_80 : At cX11_look 80 (.iload 6) 2 82 := ⟨by decide +kernel, rfl⟩
theorem a11_look_82 : At cX11_look 82 (.invokestatic 89) 3 85 := ⟨by decide +kernel, rfl⟩
theorem a11_look_85 : At cX11_look 85 (.iastore) 1 86 := ⟨by decide +kernel, rfl⟩
theorem a11_look_86 : At cX11_look 86 (.iinc 7 1) 3 89 := ⟨by decide +kernel, rfl⟩
theorem a11_look_89 : At cX11_look 89 (.goto (-35)) 3 92 := ⟨by decide +kernel, rfl⟩
theorem a11_look_92 : At cX11_look 92 (.aload_n 0) 1 93 := ⟨by decide +kernel, rfl⟩
theorem a11_look_93 : At cX11_look 93 (.iload_n 2) 1 94 := ⟨by decide +kernel, rfl⟩
theorem a11_look_94 : At cX11_look 94 (.invokevirtual 176) 3 97 := ⟨by decide +kernel, rfl⟩
theorem a11_look_97 : At cX11_look 97 (.istore 7) 2 99 := ⟨by decide +kernel, rfl⟩
theorem a11_look_99 : At cX11_look 99 (.iload 7) 2 101 := ⟨by decide +kernel, rfl⟩
theorem a11_look_101 : At cX11_look 101 (.iload 4) 2 103 := ⟨by decide +kernel, rfl⟩
theorem a11_look_103 : At cX11_look 103 (.if_icmp .ge 14) 3 106 := ⟨by decide +kernel, rfl⟩
theorem a11_look_106 : At cX11_look 106 (.bipush 100) 2 108 := ⟨by decide +kernel, rfl⟩
theorem a11_look_108 : At cX11_look 108 (.iload 5) 2 110 := ⟨by decide +kernel, rfl⟩
theorem a11_look_110 : At cX11_look 110 (.imul) 1 111 := ⟨by decide +kernel, rfl⟩
theorem a11_look_111 : At cX11_look 111 (.iload 6) 2 113 := ⟨by decide +kernel, rfl⟩
theorem a11_look_113 : At cX11_look 113 (.iadd) 1 114 := ⟨by decide +kernel, rfl⟩
theorem a11_look_114 : At cX11_look 114 (.goto 4) 3 117 := ⟨by decide +kernel, rfl⟩
theorem a11_look_117 : At cX11_look 117 (.iload_n 3) 1 118 := ⟨by decide +kernel, rfl⟩
theorem a11_look_118 : At cX11_look 118 (.istore_n 3) 1 119 := ⟨by decide +kernel, rfl⟩
theorem a11_look_119 : At cX11_look 119 (.iload 7) 2 121 := ⟨by decide +kernel, rfl⟩
theorem a11_look_121 : At cX11_look 121 (.iload 4) 2 123 := ⟨by decide +kernel, rfl⟩
theorem a11_look_123 : At cX11_look 123 (.if_icmp .ge 8) 3 126 := ⟨by decide +kernel, rfl⟩
theorem a11_look_126 : At cX11_look 126 (.iload 7) 2 128 := ⟨by decide +kernel, rfl⟩
theorem a11_look_128 : At cX11_look 128 (.goto 5) 3 131 := ⟨by decide +kernel, rfl⟩
theorem a11_look_131 : At cX11_look 131 (.iload 4) 2 133 := ⟨by decide +kernel, rfl⟩
theorem a11_look_133 : At cX11_look 133 (.istore 4) 2 135 := ⟨by decide +kernel, rfl⟩
theorem a11_look_135 : At cX11_look 135 (.iinc 6 1) 3 138 := ⟨by decide +kernel, rfl⟩
theorem a11_look_138 : At cX11_look 138 (.goto (-94)) 3 141 := ⟨by decide +kernel, rfl⟩
theorem a11_look_141 : At cX11_look 141 (.iinc 5 1) 3 144 := ⟨by decide +kernel, rfl⟩
theorem a11_look_144 : At cX11_look 144 (.goto (-114)) 3 147 := ⟨by decide +kernel, rfl⟩
theorem a11_look_147 : At cX11_look 147 (.iload_n 3) 1 148 := ⟨by decide +kernel, rfl⟩
theorem a11_look_148 : At cX11_look 148 (.ireturn) 1 149 := ⟨by decide +kernel, rfl⟩
def l11_look_54 (k0 : Nat) (x1 : Int32) (x2 : Int32) (x3 : Int32) (x4 : Int32) (x5 : Int32) (x6 : Int32) : Nat → Int32 → Mem → Option (Int32 × Mem)
  | 0, _, _ => none
  | n + 1, x7, σ =>
  if 6 ≤ x7 then
  (some (x7, σ))
  else
  (ck (inb (28 + x1) 142) <|
  ck (inb x7 6) <|
  lt (sI σ 22 8 (x7 : Int32).toNatClampNeg (f11_drawsAs x7 (σ.1 22 0 ((28 + x1) : Int32).toNatClampNeg) x5 x6)) fun σ9 =>
  l11_look_54 k0 x1 x2 x3 x4 x5 x6 n (x7 + 1) σ9)
theorem lE11_look_54 {V : Option AV} {S : Mem} (k0 : Nat) (x1 : Int32) (x2 : Int32) (x3 : Int32) (x4 : Int32) (x5 : Int32) (x6 : Int32) : ∀ (n : Nat) (x7 : Int32) (σ : Mem) {w : Int32 × Mem}, l11_look_54 k0 x1 x2 x3 x4 x5 x6 n x7 σ = some w → (Go m11_look 92 [some (.inr (.inr (11, k0))), some (.inl x1), some (.inl x2), some (.inl x3), some (.inl x4), some (.inl x5), some (.inl x6), some (.inl w.1)] [] w.2 V S) → Go m11_look 54 [some (.inr (.inr (11, k0))), some (.inl x1), some (.inl x2), some (.inl x3), some (.inl x4), some (.inl x5), some (.inl x6), some (.inl x7)] [] σ V S
  | 0, x7, σ, w, h, K1 => by cases h
  | n + 1, x7, σ, w, h, K1 => by
    rw [l11_look_54] at h
    refine g_iload a11_look_54 rfl ?_
    refine g_bipush (v := 6) a11_look_56 rfl ?_
    refine g_icmp_ge (tgt := 92) a11_look_58 rfl (fun c10 => ?_) (fun c10 => ?_)
    · have h := (if_pos c10).symm.trans h
      have h := Option.some.inj h
      subst h
      exact g_weak K1 ⟨rfl, rfl, rfl, rfl, rfl, rfl, rfl, rfl, trivial⟩
    · have h := (if_neg c10).symm.trans h
      refine g_aload_n a11_look_61 rfl ?_
      refine g_getf (v := .inr (.inr (22, 8))) a11_look_62 fs11_39 rfl ?_
      refine g_iload a11_look_65 rfl ?_
      refine g_iload a11_look_67 rfl ?_
      refine g_aload_n a11_look_69 rfl ?_
      refine g_getf (v := .inr (.inr (22, 0))) a11_look_70 fs11_7 rfl ?_
      refine g_bipush (v := 28) a11_look_73 rfl ?_
      refine g_iload_n a11_look_75 rfl ?_
      refine g_iadd a11_look_76 ?_
      obtain ⟨q6, h⟩ := ck_inv h
      refine g_iald (x := (σ.1 22 0 ((28 + x1) : Int32).toNatClampNeg)) a11_look_77 (rI22 (by decide)) (inb_ok q6) rfl ?_
      refine g_iload a11_look_78 rfl ?_
      refine g_iload a11_look_80 rfl ?_
      refine g_S4s (v1 := .inl (f11_drawsAs x7 (σ.1 22 0 ((28 + x1) : Int32).toNatClampNeg) x5 x6)) (σ1 := σ) a11_look_82 cs11_89 (E11_drawsAs _ _ _ _ _) rfl (fun o7 => ?_)
      obtain ⟨q8, h⟩ := ck_inv h
      obtain ⟨σ9, eσ9, h⟩ := lt_inv h
      refine g_iast (j := (x7 : Int32).toNatClampNeg) a11_look_85 (rI22 (by decide)) (inb_ok q8) rfl ?_
      rw [eσ9]
      refine g_iinc (v := (x7 + 1)) (L' := [some (.inr (.inr (11, k0))), some (.inl x1), some (.inl x2), some (.inl x3), some (.inl x4), some (.inl x5), some (.inl x6), some (.inl (x7 + 1))]) a11_look_86 rfl rfl (Nat.le_of_ble_eq_true rfl) rfl rfl ?_
      refine g_goto (tgt := 54) a11_look_89 rfl ?_
      exact g_weak (lE11_look_54 (V := V) (S := S)  k0 x1 x2 x3 x4 x5 x6 n _ _ h K1) ⟨rfl, rfl, rfl, rfl, rfl, rfl, rfl, rfl, trivial⟩
def l11_look_44 (k0 : Nat) (x1 : Int32) (x2 : Int32) (x5 : Int32) : Nat → Int32 → Int32 → Int32 → Mem → Option (Int32 × Int32 × Int32 × Mem)
  | 0, _, _, _, _ => none
  | n + 1, x3, x4, x6, σ =>
  if 10 ≤ x6 then
  (some (x3, x4, x6, σ))
  else
  (bnd (l11_look_54 k0 x1 x2 x3 x4 x5 x6 2000 0 σ) fun w11 =>
  bnd (f11_mostAlike k0 x2 w11.2) fun w12 =>
  lt (if x4 ≤ w12 then
  (x3)
  else
  (((100 * x5) + x6)) : Int32) fun w14 =>
  lt (if x4 ≤ w12 then
  (x4)
  else
  (w12) : Int32) fun w17 =>
  l11_look_44 k0 x1 x2 x5 n w14 w17 (x6 + 1) w11.2)
theorem lE11_look_44 {V : Option AV} {S : Mem} (k0 : Nat) (x1 : Int32) (x2 : Int32) (x5 : Int32) : ∀ (n : Nat) (x3 : Int32) (x4 : Int32) (x6 : Int32) (σ : Mem) {w : Int32 × Int32 × Int32 × Mem}, l11_look_44 k0 x1 x2 x5 n x3 x4 x6 σ = some w → (Go m11_look 141 [some (.inr (.inr (11, k0))), some (.inl x1), some (.inl x2), some (.inl w.1), some (.inl w.2.1), some (.inl x5), some (.inl w.2.2.1), none] [] w.2.2.2 V S) → Go m11_look 44 [some (.inr (.inr (11, k0))), some (.inl x1), some (.inl x2), some (.inl x3), some (.inl x4), some (.inl x5), some (.inl x6), none] [] σ V S
  | 0, x3, x4, x6, σ, w, h, K1 => by cases h
  | n + 1, x3, x4, x6, σ, w, h, K1 => by
    rw [l11_look_44] at h
    refine g_iload a11_look_44 rfl ?_
    refine g_bipush (v := 10) a11_look_46 rfl ?_
    refine g_icmp_ge (tgt := 141) a11_look_48 rfl (fun c20 => ?_) (fun c20 => ?_)
    · have h := (if_pos c20).symm.trans h
      have h := Option.some.inj h
      subst h
      exact g_weak K1 ⟨rfl, rfl, rfl, rfl, rfl, rfl, rfl, trivial⟩
    · have h := (if_neg c20).symm.trans h
      refine g_iconst (v := 0) a11_look_51 rfl ?_
      refine g_istore (L' := [some (.inr (.inr (11, k0))), some (.inl x1), some (.inl x2), some (.inl x3), some (.inl x4), some (.inl x5), some (.inl x6), some (.inl 0)]) a11_look_52 (Nat.le_of_ble_eq_true rfl) rfl rfl ?_
      obtain ⟨w11, hw11, h⟩ := bnd_inv h
      refine g_weak (lE11_look_54 k0 x1 x2 x3 x4 x5 x6 2000 _ _ hw11 ?_) ⟨rfl, rfl, rfl, rfl, rfl, rfl, rfl, rfl, trivial⟩
      refine g_aload_n a11_look_92 rfl ?_
      refine g_iload_n a11_look_93 rfl ?_
      obtain ⟨w12, hw12, h⟩ := bnd_inv h
      refine g_V1s (v1 := .inl w12) (σ1 := w11.2) a11_look_94 cv11_176 (E11_mostAlike hw12) rfl (fun o13 => ?_)
      refine g_istore (L' := [some (.inr (.inr (11, k0))), some (.inl x1), some (.inl x2), some (.inl x3), some (.inl x4), some (.inl x5), some (.inl x6), some (.inl w12)]) a11_look_97 (Nat.le_of_ble_eq_true rfl) rfl rfl ?_
      refine g_iload a11_look_99 rfl ?_
      refine g_iload a11_look_101 rfl ?_
      obtain ⟨w14, hw14, h⟩ := lt_inv h
      have J15 : Go m11_look 118 [some (.inr (.inr (11, k0))), some (.inl x1), some (.inl x2), none, some (.inl x4), some (.inl x5), some (.inl x6), some (.inl w12)] [.inl w14] w11.2 V S := by
        refine g_istore_n (L' := [some (.inr (.inr (11, k0))), some (.inl x1), some (.inl x2), some (.inl w14), some (.inl x4), some (.inl x5), some (.inl x6), some (.inl w12)]) a11_look_118 (Nat.le_of_ble_eq_true rfl) rfl rfl ?_
        refine g_iload a11_look_119 rfl ?_
        refine g_iload a11_look_121 rfl ?_
        obtain ⟨w17, hw17, h⟩ := lt_inv h
        have J18 : Go m11_look 133 [some (.inr (.inr (11, k0))), some (.inl x1), some (.inl x2), some (.inl w14), none, some (.inl x5), some (.inl x6), none] [.inl w17] w11.2 V S := by
          refine g_istore (L' := [some (.inr (.inr (11, k0))), some (.inl x1), some (.inl x2), some (.inl w14), some (.inl w17), some (.inl x5), some (.inl x6), none]) a11_look_133 (Nat.le_of_ble_eq_true rfl) rfl rfl ?_
          refine g_iinc (v := (x6 + 1)) (L' := [some (.inr (.inr (11, k0))), some (.inl x1), some (.inl x2), some (.inl w14), some (.inl w17), some (.inl x5), some (.inl (x6 + 1)), none]) a11_look_135 rfl rfl (Nat.le_of_ble_eq_true rfl) rfl rfl ?_
          refine g_goto (tgt := 44) a11_look_138 rfl ?_
          exact g_weak (lE11_look_44 (V := V) (S := S)  k0 x1 x2 x5 n _ _ _ _ h K1) ⟨rfl, rfl, rfl, rfl, rfl, rfl, rfl, trivial⟩
        clear h
        refine g_icmp_ge (tgt := 131) a11_look_123 rfl (fun c19 => ?_) (fun c19 => ?_)
        · have hw17 := (if_pos c19).symm.trans hw17
          refine g_iload a11_look_131 rfl ?_
          subst hw17
          exact g_weak J18 ⟨rfl, rfl, rfl, rfl, rfl, rfl, trivial⟩
        · have hw17 := (if_neg c19).symm.trans hw17
          refine g_iload a11_look_126 rfl ?_
          refine g_goto (tgt := 133) a11_look_128 rfl ?_
          subst hw17
          exact g_weak J18 ⟨rfl, rfl, rfl, rfl, rfl, rfl, trivial⟩
      clear h
      refine g_icmp_ge (tgt := 117) a11_look_103 rfl (fun c16 => ?_) (fun c16 => ?_)
      · have hw14 := (if_pos c16).symm.trans hw14
        refine g_iload_n a11_look_117 rfl ?_
        subst hw14
        exact g_weak J15 ⟨rfl, rfl, rfl, rfl, rfl, rfl, rfl, trivial⟩
      · have hw14 := (if_neg c16).symm.trans hw14
        refine g_bipush (v := 100) a11_look_106 rfl ?_
        refine g_iload a11_look_108 rfl ?_
        refine g_imul a11_look_110 ?_
        refine g_iload a11_look_111 rfl ?_
        refine g_iadd a11_look_113 ?_
        refine g_goto (tgt := 118) a11_look_114 rfl ?_
        subst hw14
        exact g_weak J15 ⟨rfl, rfl, rfl, rfl, rfl, rfl, rfl, trivial⟩
def l11_look_30 (k0 : Nat) (x1 : Int32) (x2 : Int32) : Nat → Int32 → Int32 → Int32 → Mem → Option (Int32 × Int32 × Int32 × Mem)
  | 0, _, _, _, _ => none
  | n + 1, x3, x4, x5, σ =>
  if 12 ≤ x5 then
  (some (x3, x4, x5, σ))
  else
  (if x2 ≤ 0 then
  (some (x3, x4, x5, σ))
  else
  (bnd (l11_look_44 k0 x1 x2 x5 2000 x3 x4 0 σ) fun w21 =>
  l11_look_30 k0 x1 x2 n w21.1 w21.2.1 (x5 + 1) w21.2.2.2))
theorem lE11_look_30 {V : Option AV} {S : Mem} (k0 : Nat) (x1 : Int32) (x2 : Int32) : ∀ (n : Nat) (x3 : Int32) (x4 : Int32) (x5 : Int32) (σ : Mem) {w : Int32 × Int32 × Int32 × Mem}, l11_look_30 k0 x1 x2 n x3 x4 x5 σ = some w → (Go m11_look 147 [some (.inr (.inr (11, k0))), some (.inl x1), some (.inl x2), some (.inl w.1), some (.inl w.2.1), some (.inl w.2.2.1), none, none] [] w.2.2.2 V S) → Go m11_look 30 [some (.inr (.inr (11, k0))), some (.inl x1), some (.inl x2), some (.inl x3), some (.inl x4), some (.inl x5), none, none] [] σ V S
  | 0, x3, x4, x5, σ, w, h, K1 => by cases h
  | n + 1, x3, x4, x5, σ, w, h, K1 => by
    rw [l11_look_30] at h
    refine g_iload a11_look_30 rfl ?_
    refine g_bipush (v := 12) a11_look_32 rfl ?_
    refine g_icmp_ge (tgt := 147) a11_look_34 rfl (fun c23 => ?_) (fun c23 => ?_)
    · have h := (if_pos c23).symm.trans h
      have h := Option.some.inj h
      subst h
      exact g_weak K1 ⟨rfl, rfl, rfl, rfl, rfl, rfl, trivial⟩
    · have h := (if_neg c23).symm.trans h
      refine g_iload_n a11_look_37 rfl ?_
      refine g_if_le (tgt := 147) a11_look_38 rfl (fun c22 => ?_) (fun c22 => ?_)
      · have h := (if_pos c22).symm.trans h
        have h := Option.some.inj h
        subst h
        exact g_weak K1 ⟨rfl, rfl, rfl, rfl, rfl, rfl, trivial⟩
      · have h := (if_neg c22).symm.trans h
        refine g_iconst (v := 0) a11_look_41 rfl ?_
        refine g_istore (L' := [some (.inr (.inr (11, k0))), some (.inl x1), some (.inl x2), some (.inl x3), some (.inl x4), some (.inl x5), some (.inl 0), none]) a11_look_42 (Nat.le_of_ble_eq_true rfl) rfl rfl ?_
        obtain ⟨w21, hw21, h⟩ := bnd_inv h
        refine g_weak (lE11_look_44 k0 x1 x2 x5 2000 _ _ _ _ hw21 ?_) ⟨rfl, rfl, rfl, rfl, rfl, rfl, rfl, trivial⟩
        refine g_iinc (v := (x5 + 1)) (L' := [some (.inr (.inr (11, k0))), some (.inl x1), some (.inl x2), some (.inl w21.1), some (.inl w21.2.1), some (.inl (x5 + 1)), some (.inl w21.2.2.1), none]) a11_look_141 rfl rfl (Nat.le_of_ble_eq_true rfl) rfl rfl ?_
        refine g_goto (tgt := 30) a11_look_144 rfl ?_
        exact g_weak (lE11_look_30 (V := V) (S := S)  k0 x1 x2 n _ _ _ _ h K1) ⟨rfl, rfl, rfl, rfl, rfl, rfl, trivial⟩
def f11_look (k0 : Nat) (x1 : Int32) (σ : Mem) : Option (Int32 × Mem) :=
  if (f11_isThing k0 x1 σ) = 0 then
  (lt (f11_bad k0 (-2) σ) fun w2 =>
  some (w2.1, w2.2))
  else
  (bnd (f11_kindsOfThing k0 x1 σ) fun w4 =>
  bnd (l11_look_30 k0 x1 w4 2000 (-1) 1000000 0 σ) fun w24 =>
  some (w24.1, w24.2.2.2))
theorem E11_look {k0 : Nat} {x1 : Int32} {σ : Mem} {w : Int32 × Mem} (h : f11_look k0 x1 σ = some w) : Ev m11_look [.inr (.inr (11, k0)), .inl x1] σ (some (.inl w.1) : Option AV) w.2 := by
  unfold f11_look at h
  show Go m11_look 0 [some (.inr (.inr (11, k0))), some (.inl x1), none, none, none, none, none, none] [] σ (some (.inl w.1) : Option AV) w.2
  refine g_aload_n a11_look_0 rfl ?_
  refine g_iload_n a11_look_1 rfl ?_
  refine g_V1s (v1 := .inl (f11_isThing k0 x1 σ)) (σ1 := σ) a11_look_2 cv11_134 (E11_isThing _ _ _) rfl (fun o1 => ?_)
  refine g_if_ne (tgt := 15) a11_look_5 rfl (fun c25 => ?_) (fun c25 => ?_)
  · have h := (if_neg c25).symm.trans h
    refine g_aload_n a11_look_15 rfl ?_
    refine g_iload_n a11_look_16 rfl ?_
    obtain ⟨w4, hw4, h⟩ := bnd_inv h
    refine g_V1s (v1 := .inl w4) (σ1 := σ) a11_look_17 cv11_172 (E11_kindsOfThing hw4) rfl (fun o5 => ?_)
    refine g_istore_n (L' := [some (.inr (.inr (11, k0))), some (.inl x1), some (.inl w4), none, none, none, none, none]) a11_look_20 (Nat.le_of_ble_eq_true rfl) rfl rfl ?_
    refine g_iconst (v := (-1)) a11_look_21 rfl ?_
    refine g_istore_n (L' := [some (.inr (.inr (11, k0))), some (.inl x1), some (.inl w4), some (.inl (-1)), none, none, none, none]) a11_look_22 (Nat.le_of_ble_eq_true rfl) rfl rfl ?_
    refine g_ldc (v := 1000000) a11_look_23 wc11_175 ?_
    refine g_istore (L' := [some (.inr (.inr (11, k0))), some (.inl x1), some (.inl w4), some (.inl (-1)), some (.inl 1000000), none, none, none]) a11_look_25 (Nat.le_of_ble_eq_true rfl) rfl rfl ?_
    refine g_iconst (v := 0) a11_look_27 rfl ?_
    refine g_istore (L' := [some (.inr (.inr (11, k0))), some (.inl x1), some (.inl w4), some (.inl (-1)), some (.inl 1000000), some (.inl 0), none, none]) a11_look_28 (Nat.le_of_ble_eq_true rfl) rfl rfl ?_
    obtain ⟨w24, hw24, h⟩ := bnd_inv h
    refine g_weak (lE11_look_30 k0 x1 w4 2000 _ _ _ _ hw24 ?_) ⟨rfl, rfl, rfl, rfl, rfl, rfl, trivial⟩
    refine g_iload_n a11_look_147 rfl ?_
    have h := Option.some.inj h
    subst h
    exact g_retE a11_look_148 trivial rfl rfl
  · have h := (if_pos c25).symm.trans h
    refine g_aload_n a11_look_8 rfl ?_
    refine g_bipush (v := (-2)) a11_look_9 rfl ?_
    obtain ⟨w2, hw2, h⟩ := lt_inv h
    refine g_V1s (v1 := .inl w2.1) (σ1 := w2.2) a11_look_11 cv11_73 (by rw [← hw2]; exact E11_bad _ _ _) rfl (fun o3 => ?_)
    have h := Option.some.inj h
    subst h
    exact g_retE a11_look_14 trivial rfl rfl
theorem a11_kindsOfPart_0 : At cX11_kindsOfPart 0 (.iconst 0) 1 1 := ⟨by decide +kernel, rfl⟩
theorem a11_kindsOfPart_1 : At cX11_kindsOfPart 1 (.istore_n 2) 1 2 := ⟨by decide +kernel, rfl⟩
theorem a11_kindsOfPart_2 : At cX11_kindsOfPart 2 (.iconst 0) 1 3 := ⟨by decide +kernel, rfl⟩
theorem a11_kindsOfPart_3 : At cX11_kindsOfPart 3 (.istore_n 3) 1 4 := ⟨by decide +kernel, rfl⟩
theorem a11_kindsOfPart_4 : At cX11_kindsOfPart 4 (.iload_n 3) 1 5 := ⟨by decide +kernel, rfl⟩
theorem a11_kindsOfPart_5 : At cX11_kindsOfPart 5 (.bipush 6) 2 7 := ⟨by decide +kernel, rfl⟩
theorem a11_kindsOfPart_7 : At cX11_kindsOfPart 7 (.if_icmp .ge 113) 3 10 := ⟨by decide +kernel, rfl⟩
theorem a11_kindsOfPart_10 : At cX11_kindsOfPart 10 (.iconst 1) 1 11 := ⟨by decide +kernel, rfl⟩
theorem a11_kindsOfPart_11 : At cX11_kindsOfPart 11 (.istore 4) 2 13 := ⟨by decide +kernel, rfl⟩
theorem a11_kindsOfPart_13 : At cX11_kindsOfPart 13 (.iconst 0) 1 14 := ⟨by decide +kernel, rfl⟩
theorem a11_kindsOfPart_14 : At cX11_kindsOfPart 14 (.istore 5) 2 16 := ⟨by decide +kernel, rfl⟩
theorem a11_kindsOfPart_16 : At cX11_kindsOfPart 16 (.iload 5) 2 18 := ⟨by decide +kernel, rfl⟩
theorem a11_kindsOfPart_18 : At cX11_kindsOfPart 18 (.aload_n 0) 1 19 := ⟨by decide +kernel, rfl⟩
theorem a11_kindsOfPart_19 : At cX11_kindsOfPart 19 (.getfield 7) 3 22 := ⟨by decide +kernel, rfl⟩
theorem a11_kindsOfPart_22 : At cX11_kindsOfPart 22 (.iconst 4) 1 23 := ⟨by decide +kernel, rfl⟩
theorem a11_kindsOfPart_23 : At cX11_kindsOfPart 23 (.iaload) 1 24 := ⟨by decide +kernel, rfl⟩
theorem a11_kindsOfPart_24 : At cX11_kindsOfPart 24 (.if_icmp .ge 75) 3 27 := ⟨by decide +kernel, rfl⟩
theorem a11_kindsOfPart_27 : At cX11_kindsOfPart 27 (.bipush 86) 2 29 := ⟨by decide +kernel, rfl⟩
theorem a11_kindsOfPart_29 : At cX11_kindsOfPart 29 (.iconst 4) 1 30 := ⟨by decide +kernel, rfl⟩
theorem a11_kindsOfPart_30 : At cX11_kindsOfPart 30 (.iload 5) 2 32 := ⟨by decide +kernel, rfl⟩
theorem a11_kindsOfPart_32 : At cX11_kindsOfPart 32 (.imul) 1 33 := ⟨by decide +kernel, rfl⟩
theorem a11_kindsOfPart_33 : At cX11_kindsOfPart 33 (.iadd) 1 34 := ⟨by decide +kernel, rfl⟩
theorem a11_kindsOfPart_34 : At cX11_kindsOfPart 34 (.istore 6) 2 36 := ⟨by decide +kernel, rfl⟩
theorem a11_kindsOfPart_36 : At cX11_kindsOfPart 36 (.iload 4) 2 38 := ⟨by decide +kernel, rfl⟩
theorem a11_kindsOfPart_38 : At cX11_kindsOfPart 38 (.ifCond .eq 52) 3 41 := ⟨by decide +kernel, rfl⟩
theorem a11_kindsOfPart_41 : At cX11_kindsOfPart 41 (.aload_n 0) 1 42 := ⟨by decide +kernel, rfl⟩
theorem a11_kindsOfPart_42 : At cX11_kindsOfPart 42 (.getfield 7) 3 45 := ⟨by decide +kernel, rfl⟩
theorem a11_kindsOfPart_45 : At cX11_kindsOfPart 45 (.iload 6) 2 47 := ⟨by decide +kernel, rfl⟩
theorem a11_kindsOfPart_47 : At cX11_kindsOfPart 47 (.iaload) 1 48 := ⟨by decide +kernel, rfl⟩
theorem a11_kindsOfPart_48 : At cX11_kindsOfPart 48 (.iload_n 1) 1 49 := ⟨by decide +kernel, rfl⟩
theorem a11_kindsOfPart_49 : At cX11_kindsOfPart 49 (.if_icmp .ne 37) 3 52 := ⟨by decide +kernel, rfl⟩
theorem a11_kindsOfPart_52 : At cX11_kindsOfPart 52 (.iload_n 3) 1 53 := ⟨by decide +kernel, rfl⟩
theorem a11_kindsOfPart_53 : At cX11_kindsOfPart 53 (.aload_n 0) 1 54 := ⟨by decide +kernel, rfl⟩
theorem a11_kindsOfPart_54 : At cX11_kindsOfPart 54 (.getfield 7) 3 57 := ⟨by decide +kernel, rfl⟩
theorem a11_kindsOfPart_57 : At cX11_kindsOfPart 57 (.iload 6) 2 59 := ⟨by decide +kernel, rfl⟩
theorem a11_kindsOfPart_59 : At cX11_kindsOfPart 59 (.iconst 1) 1 60 := ⟨by decide +kernel, rfl⟩
theorem a11_kindsOfPart_60 : At cX11_kindsOfPart 60 (.iadd) 1 61 := ⟨by decide +kernel, rfl⟩
theorem a11_kindsOfPart_61 : At cX11_kindsOfPart 61 (.iaload) 1 62 := ⟨by decide +kernel, rfl⟩
theorem a11_kindsOfPart_62 : At cX11_kindsOfPart 62 (.aload_n 0) 1 63 := ⟨by decide +kernel, rfl⟩
theorem a11_kindsOfPart_63 : At cX11_kindsOfPart 63 (.getfield 7) 3 66 := ⟨by decide +kernel, rfl⟩
theorem a11_kindsOfPart_66 : At cX11_kindsOfPart 66 (.iload 6) 2 68 := ⟨by decide +kernel, rfl⟩
theorem a11_kindsOfPart_68 : At cX11_kindsOfPart 68 (.iconst 2) 1 69 := ⟨by decide +kernel, rfl⟩
theorem a11_kindsOfPart_69 : At cX11_kindsOfPart 69 (.iadd) 1 70 := ⟨by decide +kernel, rfl⟩
theorem a11_kindsOfPart_70 : At cX11_kindsOfPart 70 (.iaload) 1 71 := ⟨by decide +kernel, rfl⟩
theorem a11_kindsOfPart_71 : At cX11_kindsOfPart 71 (.invokestatic 108) 3 74 := ⟨by decide +kernel, rfl⟩
theorem a11_kindsOfPart_74 : At cX11_kindsOfPart 74 (.aload_n 0) 1 75 := ⟨by decide +kernel, rfl⟩
theorem a11_kindsOfPart_75 : At cX11_kindsOfPart 75 (.getfield 7) 3 78 := ⟨by decide +kernel, rfl⟩
theorem a11_kindsOfPart_78 : At cX11_kindsOfPart 78 (.iload 6) 2 80 := ⟨by decide +kernel, rfl⟩
theorem a11_kindsOfPart_80 : At cX11_kindsOfPart 80 (.iconst 3) 1 81 := ⟨by decide +kernel, rfl⟩
theorem a11_kindsOfPart_81 : At cX11_kindsOfPart 81 (.iadd) 1 82 := ⟨by decide +kernel, rfl⟩
theorem a11_kindsOfPart_82 : At cX11_kindsOfPart 82 (.iaload) 1 83 := ⟨by decide +kernel, rfl⟩
theorem a11_kindsOfPart_83 : At cX11_kindsOfPart 83 (.if_icmp .ne 7) 3 86 := ⟨by decide +kernel, rfl⟩
theorem a11_kindsOfPart_86 : At cX11_kindsOfPart 86 (.iconst 1) 1 87 := ⟨by decide +kernel, rfl⟩
theorem a11_kindsOfPart_87 : At cX11_kindsOfPart 87 (.goto 4) 3 90 := ⟨by decide +kernel, rfl⟩
theorem a11_kindsOfPart_90 : At cX11_kindsOfPart 90 (.iconst 0) 1 91 := ⟨by decide +kernel, rfl⟩
theorem a11_kindsOfPart_91 : At cX11_kindsOfPart 91 (.istore 4) 2 93 := ⟨by decide +kernel, rfl⟩
theorem a11_kindsOfPart_93 : At cX11_kindsOfPart 93 (.iinc 5 1) 3 96 := ⟨by decide +kernel, rfl⟩
theorem a11_kindsOfPart_96 : At cX11_kindsOfPart 96 (.goto (-80)) 3 99 := ⟨by decide +kernel, rfl⟩
theorem a11_kindsOfPart_99 : At cX11_kindsOfPart 99 (.iload_n 2) 1 100 := ⟨by decide +kernel, rfl⟩
theorem a11_kindsOfPart_100 : At cX11_kindsOfPart 100 (.iload 4) 2 102 := ⟨by decide +kernel, rfl⟩
theorem a11_kindsOfPart_102 : At cX11_kindsOfPart 102 (.ifCond .eq 9) 3 105 := ⟨by decide +kernel, rfl⟩
theorem a11_kindsOfPart_105 : At cX11_kindsOfPart 105 (.iconst 1) 1 106 := ⟨by decide +kernel, rfl⟩
theorem a11_kindsOfPart_106 : At cX11_kindsOfPart 106 (.iload_n 3) 1 107 := ⟨by decide +kernel, rfl⟩
theorem a11_kindsOfPart_107 : At cX11_kindsOfPart 107 (.ishl) 1 108 := ⟨by decide +kernel, rfl⟩
theorem a11_kindsOfPart_108 : At cX11_kindsOfPart 108 (.goto 4) 3 111 := ⟨by decide +kernel, rfl⟩
theorem a11_kindsOfPart_111 : At cX11_kindsOfPart 111 (.iconst 0) 1 112 := ⟨by decide +kernel, rfl⟩
theorem a11_kindsOfPart_112 : At cX11_kindsOfPart 112 (.ior) 1 113 := ⟨by decide +kernel, rfl⟩
theorem a11_kindsOfPart_113 : At cX11_kindsOfPart 113 (.istore_n 2) 1 114 := ⟨by decide +kernel, rfl⟩
theorem a11_kindsOfPart_114 : At cX11_kindsOfPart 114 (.iinc 3 1) 3 117 := ⟨by decide +kernel, rfl⟩
theorem a11_kindsOfPart_117 : At cX11_kindsOfPart 117 (.goto (-113)) 3 120 := ⟨by decide +kernel, rfl⟩
theorem a11_kindsOfPart_120 : At cX11_kindsOfPart 120 (.iload_n 2) 1 121 := ⟨by decide +kernel, rfl⟩
theorem a11_kindsOfPart_121 : At cX11_kindsOfPart 121 (.ireturn) 1 122 := ⟨by decide +kernel, rfl⟩
def l11_kindsOfPart_16 (k0 : Nat) (x1 : Int32) (x2 : Int32) (x3 : Int32) (σ : Mem) : Nat → Int32 → Int32 → Option (Int32 × Int32)
  | 0, _, _ => none
  | n + 1, x4, x5 =>
  if (σ.1 22 0 4) ≤ x5 then
  (some (x4, x5))
  else
  (bnd (if x4 = 0 then
  (some 0)
  else
  (ck (inb (86 + (4 * x5)) 142) <|
  if (σ.1 22 0 ((86 + (4 * x5)) : Int32).toNatClampNeg) = x1 then
  (ck (inb ((86 + (4 * x5)) + 1) 142) <|
  ck (inb ((86 + (4 * x5)) + 2) 142) <|
  ck (inb ((86 + (4 * x5)) + 3) 142) <|
  if (f11_needsAs x3 (σ.1 22 0 (((86 + (4 * x5)) + 1) : Int32).toNatClampNeg) (σ.1 22 0 (((86 + (4 * x5)) + 2) : Int32).toNatClampNeg)) = (σ.1 22 0 (((86 + (4 * x5)) + 3) : Int32).toNatClampNeg) then
  (some 1)
  else
  (some 0))
  else
  (some 1)) : Option (Int32)) fun w1 =>
  l11_kindsOfPart_16 k0 x1 x2 x3 σ n w1 (x5 + 1))
theorem lE11_kindsOfPart_16 {V : Option AV} {S : Mem} (k0 : Nat) (x1 : Int32) (x2 : Int32) (x3 : Int32) (σ : Mem) : ∀ (n : Nat) (x4 : Int32) (x5 : Int32) {w : Int32 × Int32}, l11_kindsOfPart_16 k0 x1 x2 x3 σ n x4 x5 = some w → (Go m11_kindsOfPart 99 [some (.inr (.inr (11, k0))), some (.inl x1), some (.inl x2), some (.inl x3), some (.inl w.1), some (.inl w.2), none] [] σ V S) → Go m11_kindsOfPart 16 [some (.inr (.inr (11, k0))), some (.inl x1), some (.inl x2), some (.inl x3), some (.inl x4), some (.inl x5), none] [] σ V S
  | 0, x4, x5, w, h, K1 => by cases h
  | n + 1, x4, x5, w, h, K1 => by
    rw [l11_kindsOfPart_16] at h
    refine g_iload a11_kindsOfPart_16 rfl ?_
    refine g_aload_n a11_kindsOfPart_18 rfl ?_
    refine g_getf (v := .inr (.inr (22, 0))) a11_kindsOfPart_19 fs11_7 rfl ?_
    refine g_iconst (v := 4) a11_kindsOfPart_22 rfl ?_
    refine g_iald (x := (σ.1 22 0 4)) a11_kindsOfPart_23 (rI22 (by decide)) (inb_ok (by decide)) rfl ?_
    refine g_icmp_ge (tgt := 99) a11_kindsOfPart_24 rfl (fun c11 => ?_) (fun c11 => ?_)
    · have h := (if_pos c11).symm.trans h
      have h := Option.some.inj h
      subst h
      exact g_weak K1 ⟨rfl, rfl, rfl, rfl, rfl, rfl, trivial⟩
    · have h := (if_neg c11).symm.trans h
      refine g_bipush (v := 86) a11_kindsOfPart_27 rfl ?_
      refine g_iconst (v := 4) a11_kindsOfPart_29 rfl ?_
      refine g_iload a11_kindsOfPart_30 rfl ?_
      refine g_imul a11_kindsOfPart_32 ?_
      refine g_iadd a11_kindsOfPart_33 ?_
      refine g_istore (L' := [some (.inr (.inr (11, k0))), some (.inl x1), some (.inl x2), some (.inl x3), some (.inl x4), some (.inl x5), some (.inl (86 + (4 * x5)))]) a11_kindsOfPart_34 (Nat.le_of_ble_eq_true rfl) rfl rfl ?_
      refine g_iload a11_kindsOfPart_36 rfl ?_
      obtain ⟨w1, hw1, h⟩ := bnd_inv h
      have J2 : Go m11_kindsOfPart 91 [some (.inr (.inr (11, k0))), some (.inl x1), some (.inl x2), some (.inl x3), none, some (.inl x5), none] [.inl w1] σ V S := by
        refine g_istore (L' := [some (.inr (.inr (11, k0))), some (.inl x1), some (.inl x2), some (.inl x3), some (.inl w1), some (.inl x5), none]) a11_kindsOfPart_91 (Nat.le_of_ble_eq_true rfl) rfl rfl ?_
        refine g_iinc (v := (x5 + 1)) (L' := [some (.inr (.inr (11, k0))), some (.inl x1), some (.inl x2), some (.inl x3), some (.inl w1), some (.inl (x5 + 1)), none]) a11_kindsOfPart_93 rfl rfl (Nat.le_of_ble_eq_true rfl) rfl rfl ?_
        refine g_goto (tgt := 16) a11_kindsOfPart_96 rfl ?_
        exact g_weak (lE11_kindsOfPart_16 (V := V) (S := S)  k0 x1 x2 x3 σ n _ _ h K1) ⟨rfl, rfl, rfl, rfl, rfl, rfl, trivial⟩
      clear h
      refine g_if_eq (tgt := 90) a11_kindsOfPart_38 rfl (fun c10 => ?_) (fun c10 => ?_)
      · have hw1 := (if_pos c10).symm.trans hw1
        refine g_iconst (v := 0) a11_kindsOfPart_90 rfl ?_
        have hw1 := Option.some.inj hw1
        subst hw1
        exact g_weak J2 ⟨rfl, rfl, rfl, rfl, rfl, trivial⟩
      · have hw1 := (if_neg c10).symm.trans hw1
        refine g_aload_n a11_kindsOfPart_41 rfl ?_
        refine g_getf (v := .inr (.inr (22, 0))) a11_kindsOfPart_42 fs11_7 rfl ?_
        refine g_iload a11_kindsOfPart_45 rfl ?_
        obtain ⟨q3, hw1⟩ := ck_inv hw1
        refine g_iald (x := (σ.1 22 0 ((86 + (4 * x5)) : Int32).toNatClampNeg)) a11_kindsOfPart_47 (rI22 (by decide)) (inb_ok q3) rfl ?_
        refine g_iload_n a11_kindsOfPart_48 rfl ?_
        refine g_icmp_ne (tgt := 86) a11_kindsOfPart_49 rfl (fun c9 => ?_) (fun c9 => ?_)
        · have hw1 := (if_neg c9).symm.trans hw1
          refine g_iconst (v := 1) a11_kindsOfPart_86 rfl ?_
          refine g_goto (tgt := 91) a11_kindsOfPart_87 rfl ?_
          have hw1 := Option.some.inj hw1
          subst hw1
          exact g_weak J2 ⟨rfl, rfl, rfl, rfl, rfl, trivial⟩
        · have hw1 := (if_pos c9).symm.trans hw1
          refine g_iload_n a11_kindsOfPart_52 rfl ?_
          refine g_aload_n a11_kindsOfPart_53 rfl ?_
          refine g_getf (v := .inr (.inr (22, 0))) a11_kindsOfPart_54 fs11_7 rfl ?_
          refine g_iload a11_kindsOfPart_57 rfl ?_
          refine g_iconst (v := 1) a11_kindsOfPart_59 rfl ?_
          refine g_iadd a11_kindsOfPart_60 ?_
          obtain ⟨q4, hw1⟩ := ck_inv hw1
          refine g_iald (x := (σ.1 22 0 (((86 + (4 * x5)) + 1) : Int32).toNatClampNeg)) a11_kindsOfPart_61 (rI22 (by decide)) (inb_ok q4) rfl ?_
          refine g_aload_n a11_kindsOfPart_62 rfl ?_
          refine g_getf (v := .inr (.inr (22, 0))) a11_kindsOfPart_63 fs11_7 rfl ?_
          refine g_iload a11_kindsOfPart_66 rfl ?_
          refine g_iconst (v := 2) a11_kindsOfPart_68 rfl ?_
          refine g_iadd a11_kindsOfPart_69 ?_
          obtain ⟨q5, hw1⟩ := ck_inv hw1
          refine g_iald (x := (σ.1 22 0 (((86 + (4 * x5)) + 2) : Int32).toNatClampNeg)) a11_kindsOfPart_70 (rI22 (by decide)) (inb_ok q5) rfl ?_
          refine g_S3s (v1 := .inl (f11_needsAs x3 (σ.1 22 0 (((86 + (4 * x5)) + 1) : Int32).toNatClampNeg) (σ.1 22 0 (((86 + (4 * x5)) + 2) : Int32).toNatClampNeg))) (σ1 := σ) a11_kindsOfPart_71 cs11_108 (E11_needsAs _ _ _ _) rfl (fun o6 => ?_)
          refine g_aload_n a11_kindsOfPart_74 rfl ?_
          refine g_getf (v := .inr (.inr (22, 0))) a11_kindsOfPart_75 fs11_7 rfl ?_
          refine g_iload a11_kindsOfPart_78 rfl ?_
          refine g_iconst (v := 3) a11_kindsOfPart_80 rfl ?_
          refine g_iadd a11_kindsOfPart_81 ?_
          obtain ⟨q7, hw1⟩ := ck_inv hw1
          refine g_iald (x := (σ.1 22 0 (((86 + (4 * x5)) + 3) : Int32).toNatClampNeg)) a11_kindsOfPart_82 (rI22 (by decide)) (inb_ok q7) rfl ?_
          refine g_icmp_ne (tgt := 90) a11_kindsOfPart_83 rfl (fun c8 => ?_) (fun c8 => ?_)
          · have hw1 := (if_neg c8).symm.trans hw1
            refine g_iconst (v := 0) a11_kindsOfPart_90 rfl ?_
            have hw1 := Option.some.inj hw1
            subst hw1
            exact g_weak J2 ⟨rfl, rfl, rfl, rfl, rfl, trivial⟩
          · have hw1 := (if_pos c8).symm.trans hw1
            refine g_iconst (v := 1) a11_kindsOfPart_86 rfl ?_
            refine g_goto (tgt := 91) a11_kindsOfPart_87 rfl ?_
            have hw1 := Option.some.inj hw1
            subst hw1
            exact g_weak J2 ⟨rfl, rfl, rfl, rfl, rfl, trivial⟩
def l11_kindsOfPart_4 (k0 : Nat) (x1 : Int32) (σ : Mem) : Nat → Int32 → Int32 → Option (Int32 × Int32)
  | 0, _, _ => none
  | n + 1, x2, x3 =>
  if 6 ≤ x3 then
  (some (x2, x3))
  else
  (bnd (l11_kindsOfPart_16 k0 x1 x2 x3 σ 2000 1 0) fun w12 =>
  lt (if w12.1 = 0 then
  (0)
  else
  ((1 <<< (x3 &&& 31))) : Int32) fun w13 =>
  l11_kindsOfPart_4 k0 x1 σ n (x2 ||| w13) (x3 + 1))
theorem lE11_kindsOfPart_4 {V : Option AV} {S : Mem} (k0 : Nat) (x1 : Int32) (σ : Mem) : ∀ (n : Nat) (x2 : Int32) (x3 : Int32) {w : Int32 × Int32}, l11_kindsOfPart_4 k0 x1 σ n x2 x3 = some w → (Go m11_kindsOfPart 120 [some (.inr (.inr (11, k0))), some (.inl x1), some (.inl w.1), some (.inl w.2), none, none, none] [] σ V S) → Go m11_kindsOfPart 4 [some (.inr (.inr (11, k0))), some (.inl x1), some (.inl x2), some (.inl x3), none, none, none] [] σ V S
  | 0, x2, x3, w, h, K1 => by cases h
  | n + 1, x2, x3, w, h, K1 => by
    rw [l11_kindsOfPart_4] at h
    refine g_iload_n a11_kindsOfPart_4 rfl ?_
    refine g_bipush (v := 6) a11_kindsOfPart_5 rfl ?_
    refine g_icmp_ge (tgt := 120) a11_kindsOfPart_7 rfl (fun c16 => ?_) (fun c16 => ?_)
    · have h := (if_pos c16).symm.trans h
      have h := Option.some.inj h
      subst h
      exact g_weak K1 ⟨rfl, rfl, rfl, rfl, trivial⟩
    · have h := (if_neg c16).symm.trans h
      refine g_iconst (v := 1) a11_kindsOfPart_10 rfl ?_
      refine g_istore (L' := [some (.inr (.inr (11, k0))), some (.inl x1), some (.inl x2), some (.inl x3), some (.inl 1), none, none]) a11_kindsOfPart_11 (Nat.le_of_ble_eq_true rfl) rfl rfl ?_
      refine g_iconst (v := 0) a11_kindsOfPart_13 rfl ?_
      refine g_istore (L' := [some (.inr (.inr (11, k0))), some (.inl x1), some (.inl x2), some (.inl x3), some (.inl 1), some (.inl 0), none]) a11_kindsOfPart_14 (Nat.le_of_ble_eq_true rfl) rfl rfl ?_
      obtain ⟨w12, hw12, h⟩ := bnd_inv h
      refine g_weak (lE11_kindsOfPart_16 k0 x1 x2 x3 σ 2000 _ _ hw12 ?_) ⟨rfl, rfl, rfl, rfl, rfl, rfl, trivial⟩
      refine g_iload_n a11_kindsOfPart_99 rfl ?_
      refine g_iload a11_kindsOfPart_100 rfl ?_
      obtain ⟨w13, hw13, h⟩ := lt_inv h
      have J14 : Go m11_kindsOfPart 112 [some (.inr (.inr (11, k0))), some (.inl x1), none, some (.inl x3), none, none, none] [.inl w13, .inl x2] σ V S := by
        refine g_ior a11_kindsOfPart_112 ?_
        refine g_istore_n (L' := [some (.inr (.inr (11, k0))), some (.inl x1), some (.inl (x2 ||| w13)), some (.inl x3), none, none, none]) a11_kindsOfPart_113 (Nat.le_of_ble_eq_true rfl) rfl rfl ?_
        refine g_iinc (v := (x3 + 1)) (L' := [some (.inr (.inr (11, k0))), some (.inl x1), some (.inl (x2 ||| w13)), some (.inl (x3 + 1)), none, none, none]) a11_kindsOfPart_114 rfl rfl (Nat.le_of_ble_eq_true rfl) rfl rfl ?_
        refine g_goto (tgt := 4) a11_kindsOfPart_117 rfl ?_
        exact g_weak (lE11_kindsOfPart_4 (V := V) (S := S)  k0 x1 σ n _ _ h K1) ⟨rfl, rfl, rfl, rfl, trivial⟩
      clear h
      refine g_if_eq (tgt := 111) a11_kindsOfPart_102 rfl (fun c15 => ?_) (fun c15 => ?_)
      · have hw13 := (if_pos c15).symm.trans hw13
        refine g_iconst (v := 0) a11_kindsOfPart_111 rfl ?_
        subst hw13
        exact g_weak J14 ⟨rfl, rfl, rfl, trivial⟩
      · have hw13 := (if_neg c15).symm.trans hw13
        refine g_iconst (v := 1) a11_kindsOfPart_105 rfl ?_
        refine g_iload_n a11_kindsOfPart_106 rfl ?_
        refine g_ishl a11_kindsOfPart_107 ?_
        refine g_goto (tgt := 112) a11_kindsOfPart_108 rfl ?_
        subst hw13
        exact g_weak J14 ⟨rfl, rfl, rfl, trivial⟩
def f11_kindsOfPart (k0 : Nat) (x1 : Int32) (σ : Mem) : Option (Int32) :=
  bnd (l11_kindsOfPart_4 k0 x1 σ 2000 0 0) fun w17 =>
  some w17.1
theorem E11_kindsOfPart {k0 : Nat} {x1 : Int32} {σ : Mem} {w : Int32} (h : f11_kindsOfPart k0 x1 σ = some w) : Ev m11_kindsOfPart [.inr (.inr (11, k0)), .inl x1] σ (some (.inl w) : Option AV) σ := by
  unfold f11_kindsOfPart at h
  show Go m11_kindsOfPart 0 [some (.inr (.inr (11, k0))), some (.inl x1), none, none, none, none, none] [] σ (some (.inl w) : Option AV) σ
  refine g_iconst (v := 0) a11_kindsOfPart_0 rfl ?_
  refine g_istore_n (L' := [some (.inr (.inr (11, k0))), some (.inl x1), some (.inl 0), none, none, none, none]) a11_kindsOfPart_1 (Nat.le_of_ble_eq_true rfl) rfl rfl ?_
  refine g_iconst (v := 0) a11_kindsOfPart_2 rfl ?_
  refine g_istore_n (L' := [some (.inr (.inr (11, k0))), some (.inl x1), some (.inl 0), some (.inl 0), none, none, none]) a11_kindsOfPart_3 (Nat.le_of_ble_eq_true rfl) rfl rfl ?_
  obtain ⟨w17, hw17, h⟩ := bnd_inv h
  refine g_weak (lE11_kindsOfPart_4 k0 x1 σ 2000 _ _ hw17 ?_) ⟨rfl, rfl, rfl, rfl, trivial⟩
  refine g_iload_n a11_kindsOfPart_120 rfl ?_
  have h := Option.some.inj h
  subst h
  exact g_retE a11_kindsOfPart_121 trivial rfl rfl
theorem a11_kinds_0 : At cX11_kinds 0 (.aload_n 0) 1 1 := ⟨by decide +kernel, rfl⟩
theorem a11_kinds_1 : At cX11_kinds 1 (.iload_n 1) 1 2 := ⟨by decide +kernel, rfl⟩
theorem a11_kinds_2 : At cX11_kinds 2 (.invokevirtual 142) 3 5 := ⟨by decide +kernel, rfl⟩
theorem a11_kinds_5 : At cX11_kinds 5 (.ifCond .eq 11) 3 8 := ⟨by decide +kernel, rfl⟩
theorem a11_kinds_8 : At cX11_kinds 8 (.aload_n 0) 1 9 := ⟨by decide +kernel, rfl⟩
theorem a11_kinds_9 : At cX11_kinds 9 (.iload_n 1) 1 10 := ⟨by decide +kernel, rfl⟩
theorem a11_kinds_10 : At cX11_kinds 10 (.invokevirtual 179) 3 13 := ⟨by decide +kernel, rfl⟩
theorem a11_kinds_13 : At cX11_kinds 13 (.goto 9) 3 16 := ⟨by decide +kernel, rfl⟩
theorem a11_kinds_16 : At cX11_kinds 16 (.aload_n 0) 1 17 := ⟨by decide +kernel, rfl⟩
theorem a11_kinds_17 : At cX11_kinds 17 (.bipush (-2)) 2 19 := ⟨by decide +kernel, rfl⟩
theorem a11_kinds_19 : At cX11_kinds 19 (.invokevirtual 73) 3 22 := ⟨by decide +kernel, rfl⟩
theorem a11_kinds_22 : At cX11_kinds 22 (.ireturn) 1 23 := ⟨by decide +kernel, rfl⟩
def f11_kinds (k0 : Nat) (x1 : Int32) (σ : Mem) : Option (Int32 × Mem) :=
  if (f11_isPart k0 x1 σ) = 0 then
  (lt (f11_bad k0 (-2) σ) fun w2 =>
  some (w2.1, w2.2))
  else
  (bnd (f11_kindsOfPart k0 x1 σ) fun w4 =>
  some (w4, σ))
theorem E11_kinds {k0 : Nat} {x1 : Int32} {σ : Mem} {w : Int32 × Mem} (h : f11_kinds k0 x1 σ = some w) : Ev m11_kinds [.inr (.inr (11, k0)), .inl x1] σ (some (.inl w.1) : Option AV) w.2 := by
  unfold f11_kinds at h
  show Go m11_kinds 0 [some (.inr (.inr (11, k0))), some (.inl x1)] [] σ (some (.inl w.1) : Option AV) w.2
  refine g_aload_n a11_kinds_0 rfl ?_
  refine g_iload_n a11_kinds_1 rfl ?_
  refine g_V1s (v1 := .inl (f11_isPart k0 x1 σ)) (σ1 := σ) a11_kinds_2 cv11_142 (E11_isPart _ _ _) rfl (fun o1 => ?_)
  refine g_if_eq (tgt := 16) a11_kinds_5 rfl (fun c6 => ?_) (fun c6 => ?_)
  · have h := (if_pos c6).symm.trans h
    refine g_aload_n a11_kinds_16 rfl ?_
    refine g_bipush (v := (-2)) a11_kinds_17 rfl ?_
    obtain ⟨w2, hw2, h⟩ := lt_inv h
    refine g_V1s (v1 := .inl w2.1) (σ1 := w2.2) a11_kinds_19 cv11_73 (by rw [← hw2]; exact E11_bad _ _ _) rfl (fun o3 => ?_)
    have h := Option.some.inj h
    subst h
    exact g_retE a11_kinds_22 trivial rfl rfl
  · have h := (if_neg c6).symm.trans h
    refine g_aload_n a11_kinds_8 rfl ?_
    refine g_iload_n a11_kinds_9 rfl ?_
    obtain ⟨w4, hw4, h⟩ := bnd_inv h
    refine g_V1s (v1 := .inl w4) (σ1 := σ) a11_kinds_10 cv11_179 (E11_kindsOfPart hw4) rfl (fun o5 => ?_)
    refine g_goto (tgt := 22) a11_kinds_13 rfl ?_
    have h := Option.some.inj h
    subst h
    exact g_retE a11_kinds_22 trivial rfl rfl
theorem a11_ask_0 : At cX11_ask 0 (.aload_n 0) 1 1 := ⟨by decide +kernel, rfl⟩
theorem a11_ask_1 : At cX11_ask 1 (.iload_n 1) 1 2 := ⟨by decide +kernel, rfl⟩
theorem a11_ask_2 : At cX11_ask 2 (.invokevirtual 142) 3 5 := ⟨by decide +kernel, rfl⟩
theorem a11_ask_5 : At cX11_ask 5 (.ifCond .ne 10) 3 8 := ⟨by decide +kernel, rfl⟩
theorem a11_ask_8 : At cX11_ask 8 (.aload_n 0) 1 9 := ⟨by decide +kernel, rfl⟩
theorem a11_ask_9 : At cX11_ask 9 (.bipush (-2)) 2 11 := ⟨by decide +kernel, rfl⟩
theorem a11_ask_11 : At cX11_ask 11 (.invokevirtual 73) 3 14 := ⟨by decide +kernel, rfl⟩
theorem a11_ask_14 : At cX11_ask 14 (.ireturn) 1 15 := ⟨by decide +kernel, rfl⟩
theorem a11_ask_15 : At cX11_ask 15 (.aload_n 0) 1 16 := ⟨by decide +kernel, rfl⟩
theorem a11_ask_16 : At cX11_ask 16 (.iload_n 1) 1 17 := ⟨by decide +kernel, rfl⟩
theorem a11_ask_17 : At cX11_ask 17 (.invokevirtual 179) 3 20 := ⟨by decide +kernel, rfl⟩
theorem a11_ask_20 : At cX11_ask 20 (.istore_n 2) 1 21 := ⟨by decide +kernel, rfl⟩
theorem a11_ask_21 : At cX11_ask 21 (.iconst (-1)) 1 22 := ⟨by decide +kernel, rfl⟩
theorem a11_ask_22 : At cX11_ask 22 (.istore_n 3) 1 23 := ⟨by decide +kernel, rfl⟩
theorem a11_ask_23 : At cX11_ask 23 (.ldc 175) 2 25 := ⟨by decide +kernel, rfl⟩
theorem a11_ask_25 : At cX11_ask 25 (.istore 4) 2 27 := ⟨by decide +kernel, rfl⟩
theorem a11_ask_27 : At cX11_ask 27 (.iconst 0) 1 28 := ⟨by decide +kernel, rfl⟩
theorem a11_ask_28 : At cX11_ask 28 (.istore 5) 2 30 := ⟨by decide +kernel, rfl⟩
theorem a11_ask_30 : At cX11_ask 30 (.iload 5) 2 32 := ⟨by decide +kernel, rfl⟩
theorem a11_ask_32 : At cX11_ask 32 (.bipush 6) 2 34 := ⟨by decide +kernel, rfl⟩
theorem a11_ask_34 : At cX11_ask 34 (.if_icmp .ge 103) 3 37 := ⟨by decide +kernel, rfl⟩
theorem a11_ask_37 : At cX11_ask 37 (.iload_n 2) 1 38 := ⟨by decide +kernel, rfl⟩
theorem a11_ask_38 : At cX11_ask 38 (.ifCond .le 99) 3 41 := ⟨by decide +kernel, rfl⟩
theorem a11_ask_41 : At cX11_ask 41 (.iconst 0) 1 42 := ⟨by decide +kernel, rfl⟩
theorem a11_ask_42 : At cX11_ask 42 (.istore 6) 2 44 := ⟨by decide +kernel, rfl⟩
theorem a11_ask_44 : At cX11_ask 44 (.iload 6) 2 46 := ⟨by decide +kernel, rfl⟩
theorem a11_ask_46 : At cX11_ask 46 (.iconst 2) 1 47 := ⟨by decide +kernel, rfl⟩
theorem a11_ask_47 : At cX11_ask 47 (.if_icmp .ge 84) 3 50 := ⟨by decide +kernel, rfl⟩
theorem a11_ask_50 : At cX11_ask 50 (.iconst 0) 1 51 := ⟨by decide +kernel, rfl⟩
theorem a11_ask_51 : At cX11_ask 51 (.istore 7) 2 53 := ⟨by decide +kernel, rfl⟩
theorem a11_ask_53 : At cX11_ask 53 (.iload 7) 2 55 := ⟨by decide +kernel, rfl⟩
theorem a11_ask_55 : At cX11_ask 55 (.bipush 6) 2 57 := ⟨by decide +kernel, rfl⟩
theorem a11_ask_57 : At cX11_ask 57 (.if_icmp .ge 25) 3 60 := ⟨by decide +kernel, rfl⟩
theorem a11_ask_60 : At cX11_ask 60 (.aload_n 0) 1 61 := ⟨by decide +kernel, rfl⟩
theorem a11_ask_61 : At cX11_ask 61 (.getfield 39) 3 64 := ⟨by decide +kernel, rfl⟩
theorem a11_ask_64 : At cX11_ask 64 (.iload 7) 2 66 := ⟨by decide +kernel, rfl⟩
theorem a11_ask_66 : At cX11_ask 66 (.iload 7) 2 68 := ⟨by decide +kernel, rfl⟩
theorem a11_ask_68 : At cX11_ask 68 (.iload 5) 2 70 := ⟨by decide +kernel, rfl⟩
theorem a11_ask_70 : At cX11_ask 70 (.iload 6) 2 72 := ⟨by decide +kernel, rfl⟩
theorem a11_ask_72 : At cX11_ask 72 (.invokestatic 108) 3 75 := ⟨by decide +kernel, rfl⟩
theorem a11_ask_75 : At cX11_ask 75 (.iastore) 1 76 := ⟨by decide +kernel, rfl⟩
theorem a11_ask_76 : At cX11_ask 76 (.iinc 7 1) 3 79 := ⟨by decide +kernel, rfl⟩
theorem a11_ask_79 : At cX11_ask 79 (.goto (-26)) 3 82 := ⟨by decide +kernel, rfl⟩
theorem a11_ask_82 : At cX11_ask 82 (.aload_n 0) 1 83 := ⟨by decide +kernel, rfl⟩
theorem a11_ask_83 : At cX11_ask 83 (.iload_n 2) 1 84 := ⟨by decide +kernel, rfl⟩
theorem a11_ask_84 : At cX11_ask 84 (.invokevirtual 176) 3 87 := ⟨by decide +kernel, rfl⟩
theorem a11_ask_87 : At cX11_ask 87 (.istore 7) 2 89 := ⟨by decide +kernel, rfl⟩
theorem a11_ask_89 : At cX11_ask 89 (.iload 7) 2 91 := ⟨by decide +kernel, rfl⟩
theorem a11_ask_91 : At cX11_ask 91 (.iload 4) 2 93 := ⟨by decide +kernel, rfl⟩
theorem a11_ask_93 : At cX11_ask 93 (.if_icmp .ge 14) 3 96 := ⟨by decide +kernel, rfl⟩
theorem a11_ask_96 : At cX11_ask 96 (.bipush 10) 2 98 := ⟨by decide +kernel, rfl⟩
theorem a11_ask_98 : At cX11_ask 98 (.iload 5) 2 100 := ⟨by decide +kernel, rfl⟩
theorem a11_ask_100 : At cX11_ask 100 (.imul) 1 101 := ⟨by decide +kernel, rfl⟩
theorem a11_ask_101 : At cX11_ask 101 (.iload 6) 2 103 := ⟨by decide +kernel, rfl⟩
theorem a11_ask_103 : At cX11_ask 103 (.iadd) 1 104 := ⟨by decide +kernel, rfl⟩
theorem a11_ask_104 : At cX11_ask 104 (.goto 4) 3 107 := ⟨by decide +kernel, rfl⟩
theorem a11_ask_107 : At cX11_ask 107 (.iload_n 3) 1 108 := ⟨by decide +kernel, rfl⟩
theorem a11_ask_108 : At cX11_ask 108 (.istore_n 3) 1 109 := ⟨by decide +kernel, rfl⟩
theorem a11_ask_109 : At cX11_ask 109 (.iload 7) 2 111 := ⟨by decide +kernel, rfl⟩
theorem a11_ask_111 : At cX11_ask 111 (.iload 4) 2 113 := ⟨by decide +kernel, rfl⟩
theorem a11_ask_113 : At cX11_ask 113 (.if_icmp .ge 8) 3 116 := ⟨by decide +kernel, rfl⟩
theorem a11_ask_116 : At cX11_ask 116 (.iload 7) 2 118 := ⟨by decide +kernel, rfl⟩
theorem a11_ask_118 : At cX11_ask 118 (.goto 5) 3 121 := ⟨by decide +kernel, rfl⟩
theorem a11_ask_121 : At cX11_ask 121 (.iload 4) 2 123 := ⟨by decide +kernel, rfl⟩
theorem a11_ask_123 : At cX11_ask 123 (.istore 4) 2 125 := ⟨by decide +kernel, rfl⟩
theorem a11_ask_125 : At cX11_ask 125 (.iinc 6 1) 3 128 := ⟨by decide +kernel, rfl⟩
theorem a11_ask_128 : At cX11_ask 128 (.goto (-84)) 3 131 := ⟨by decide +kernel, rfl⟩
theorem a11_ask_131 : At cX11_ask 131 (.iinc 5 1) 3 134 := ⟨by decide +kernel, rfl⟩
theorem a11_ask_134 : At cX11_ask 134 (.goto (-104)) 3 137 := ⟨by decide +kernel, rfl⟩
theorem a11_ask_137 : At cX11_ask 137 (.iload_n 3) 1 138 := ⟨by decide +kernel, rfl⟩
theorem a11_ask_138 : At cX11_ask 138 (.ireturn) 1 139 := ⟨by decide +kernel, rfl⟩
def l11_ask_53 (k0 : Nat) (x2 : Int32) (x3 : Int32) (x4 : Int32) (x5 : Int32) (x6 : Int32) : Nat → Int32 → Mem → Option (Int32 × Mem)
  | 0, _, _ => none
  | n + 1, x7, σ =>
  if 6 ≤ x7 then
  (some (x7, σ))
  else
  (ck (inb x7 6) <|
  lt (sI σ 22 8 (x7 : Int32).toNatClampNeg (f11_needsAs x7 x5 x6)) fun σ8 =>
  l11_ask_53 k0 x2 x3 x4 x5 x6 n (x7 + 1) σ8)
theorem lE11_ask_53 {V : Option AV} {S : Mem} (k0 : Nat) (x2 : Int32) (x3 : Int32) (x4 : Int32) (x5 : Int32) (x6 : Int32) : ∀ (n : Nat) (x7 : Int32) (σ : Mem) {w : Int32 × Mem}, l11_ask_53 k0 x2 x3 x4 x5 x6 n x7 σ = some w → (Go m11_ask 82 [some (.inr (.inr (11, k0))), none, some (.inl x2), some (.inl x3), some (.inl x4), some (.inl x5), some (.inl x6), some (.inl w.1)] [] w.2 V S) → Go m11_ask 53 [some (.inr (.inr (11, k0))), none, some (.inl x2), some (.inl x3), some (.inl x4), some (.inl x5), some (.inl x6), some (.inl x7)] [] σ V S
  | 0, x7, σ, w, h, K1 => by cases h
  | n + 1, x7, σ, w, h, K1 => by
    rw [l11_ask_53] at h
    refine g_iload a11_ask_53 rfl ?_
    refine g_bipush (v := 6) a11_ask_55 rfl ?_
    refine g_icmp_ge (tgt := 82) a11_ask_57 rfl (fun c9 => ?_) (fun c9 => ?_)
    · have h := (if_pos c9).symm.trans h
      have h := Option.some.inj h
      subst h
      exact g_weak K1 ⟨rfl, rfl, rfl, rfl, rfl, rfl, rfl, trivial⟩
    · have h := (if_neg c9).symm.trans h
      refine g_aload_n a11_ask_60 rfl ?_
      refine g_getf (v := .inr (.inr (22, 8))) a11_ask_61 fs11_39 rfl ?_
      refine g_iload a11_ask_64 rfl ?_
      refine g_iload a11_ask_66 rfl ?_
      refine g_iload a11_ask_68 rfl ?_
      refine g_iload a11_ask_70 rfl ?_
      refine g_S3s (v1 := .inl (f11_needsAs x7 x5 x6)) (σ1 := σ) a11_ask_72 cs11_108 (E11_needsAs _ _ _ _) rfl (fun o6 => ?_)
      obtain ⟨q7, h⟩ := ck_inv h
      obtain ⟨σ8, eσ8, h⟩ := lt_inv h
      refine g_iast (j := (x7 : Int32).toNatClampNeg) a11_ask_75 (rI22 (by decide)) (inb_ok q7) rfl ?_
      rw [eσ8]
      refine g_iinc (v := (x7 + 1)) (L' := [some (.inr (.inr (11, k0))), none, some (.inl x2), some (.inl x3), some (.inl x4), some (.inl x5), some (.inl x6), some (.inl (x7 + 1))]) a11_ask_76 rfl rfl (Nat.le_of_ble_eq_true rfl) rfl rfl ?_
      refine g_goto (tgt := 53) a11_ask_79 rfl ?_
      exact g_weak (lE11_ask_53 (V := V) (S := S)  k0 x2 x3 x4 x5 x6 n _ _ h K1) ⟨rfl, rfl, rfl, rfl, rfl, rfl, rfl, trivial⟩
def l11_ask_44 (k0 : Nat) (x2 : Int32) (x5 : Int32) : Nat → Int32 → Int32 → Int32 → Mem → Option (Int32 × Int32 × Int32 × Mem)
  | 0, _, _, _, _ => none
  | n + 1, x3, x4, x6, σ =>
  if 2 ≤ x6 then
  (some (x3, x4, x6, σ))
  else
  (bnd (l11_ask_53 k0 x2 x3 x4 x5 x6 2000 0 σ) fun w10 =>
  bnd (f11_mostAlike k0 x2 w10.2) fun w11 =>
  lt (if x4 ≤ w11 then
  (x3)
  else
  (((10 * x5) + x6)) : Int32) fun w13 =>
  lt (if x4 ≤ w11 then
  (x4)
  else
  (w11) : Int32) fun w16 =>
  l11_ask_44 k0 x2 x5 n w13 w16 (x6 + 1) w10.2)
theorem lE11_ask_44 {V : Option AV} {S : Mem} (k0 : Nat) (x2 : Int32) (x5 : Int32) : ∀ (n : Nat) (x3 : Int32) (x4 : Int32) (x6 : Int32) (σ : Mem) {w : Int32 × Int32 × Int32 × Mem}, l11_ask_44 k0 x2 x5 n x3 x4 x6 σ = some w → (Go m11_ask 131 [some (.inr (.inr (11, k0))), none, some (.inl x2), some (.inl w.1), some (.inl w.2.1), some (.inl x5), some (.inl w.2.2.1), none] [] w.2.2.2 V S) → Go m11_ask 44 [some (.inr (.inr (11, k0))), none, some (.inl x2), some (.inl x3), some (.inl x4), some (.inl x5), some (.inl x6), none] [] σ V S
  | 0, x3, x4, x6, σ, w, h, K1 => by cases h
  | n + 1, x3, x4, x6, σ, w, h, K1 => by
    rw [l11_ask_44] at h
    refine g_iload a11_ask_44 rfl ?_
    refine g_iconst (v := 2) a11_ask_46 rfl ?_
    refine g_icmp_ge (tgt := 131) a11_ask_47 rfl (fun c19 => ?_) (fun c19 => ?_)
    · have h := (if_pos c19).symm.trans h
      have h := Option.some.inj h
      subst h
      exact g_weak K1 ⟨rfl, rfl, rfl, rfl, rfl, rfl, trivial⟩
    · have h := (if_neg c19).symm.trans h
      refine g_iconst (v := 0) a11_ask_50 rfl ?_
      refine g_istore (L' := [some (.inr (.inr (11, k0))), none, some (.inl x2), some (.inl x3), some (.inl x4), some (.inl x5), some (.inl x6), some (.inl 0)]) a11_ask_51 (Nat.le_of_ble_eq_true rfl) rfl rfl ?_
      obtain ⟨w10, hw10, h⟩ := bnd_inv h
      refine g_weak (lE11_ask_53 k0 x2 x3 x4 x5 x6 2000 _ _ hw10 ?_) ⟨rfl, rfl, rfl, rfl, rfl, rfl, rfl, trivial⟩
      refine g_aload_n a11_ask_82 rfl ?_
      refine g_iload_n a11_ask_83 rfl ?_
      obtain ⟨w11, hw11, h⟩ := bnd_inv h
      refine g_V1s (v1 := .inl w11) (σ1 := w10.2) a11_ask_84 cv11_176 (E11_mostAlike hw11) rfl (fun o12 => ?_)
      refine g_istore (L' := [some (.inr (.inr (11, k0))), none, some (.inl x2), some (.inl x3), some (.inl x4), some (.inl x5), some (.inl x6), some (.inl w11)]) a11_ask_87 (Nat.le_of_ble_eq_true rfl) rfl rfl ?_
      refine g_iload a11_ask_89 rfl ?_
      refine g_iload a11_ask_91 rfl ?_
      obtain ⟨w13, hw13, h⟩ := lt_inv h
      have J14 : Go m11_ask 108 [some (.inr (.inr (11, k0))), none, some (.inl x2), none, some (.inl x4), some (.inl x5), some (.inl x6), some (.inl w11)] [.inl w13] w10.2 V S := by
        refine g_istore_n (L' := [some (.inr (.inr (11, k0))), none, some (.inl x2), some (.inl w13), some (.inl x4), some (.inl x5), some (.inl x6), some (.inl w11)]) a11_ask_108 (Nat.le_of_ble_eq_true rfl) rfl rfl ?_
        refine g_iload a11_ask_109 rfl ?_
        refine g_iload a11_ask_111 rfl ?_
        obtain ⟨w16, hw16, h⟩ := lt_inv h
        have J17 : Go m11_ask 123 [some (.inr (.inr (11, k0))), none, some (.inl x2), some (.inl w13), none, some (.inl x5), some (.inl x6), none] [.inl w16] w10.2 V S := by
          refine g_istore (L' := [some (.inr (.inr (11, k0))), none, some (.inl x2), some (.inl w13), some (.inl w16), some (.inl x5), some (.inl x6), none]) a11_ask_123 (Nat.le_of_ble_eq_true rfl) rfl rfl ?_
          refine g_iinc (v := (x6 + 1)) (L' := [some (.inr (.inr (11, k0))), none, some (.inl x2), some (.inl w13), some (.inl w16), some (.inl x5), some (.inl (x6 + 1)), none]) a11_ask_125 rfl rfl (Nat.le_of_ble_eq_true rfl) rfl rfl ?_
          refine g_goto (tgt := 44) a11_ask_128 rfl ?_
          exact g_weak (lE11_ask_44 (V := V) (S := S)  k0 x2 x5 n _ _ _ _ h K1) ⟨rfl, rfl, rfl, rfl, rfl, rfl, trivial⟩
        clear h
        refine g_icmp_ge (tgt := 121) a11_ask_113 rfl (fun c18 => ?_) (fun c18 => ?_)
        · have hw16 := (if_pos c18).symm.trans hw16
          refine g_iload a11_ask_121 rfl ?_
          subst hw16
          exact g_weak J17 ⟨rfl, rfl, rfl, rfl, rfl, trivial⟩
        · have hw16 := (if_neg c18).symm.trans hw16
          refine g_iload a11_ask_116 rfl ?_
          refine g_goto (tgt := 123) a11_ask_118 rfl ?_
          subst hw16
          exact g_weak J17 ⟨rfl, rfl, rfl, rfl, rfl, trivial⟩
      clear h
      refine g_icmp_ge (tgt := 107) a11_ask_93 rfl (fun c15 => ?_) (fun c15 => ?_)
      · have hw13 := (if_pos c15).symm.trans hw13
        refine g_iload_n a11_ask_107 rfl ?_
        subst hw13
        exact g_weak J14 ⟨rfl, rfl, rfl, rfl, rfl, rfl, trivial⟩
      · have hw13 := (if_neg c15).symm.trans hw13
        refine g_bipush (v := 10) a11_ask_96 rfl ?_
        refine g_iload a11_ask_98 rfl ?_
        refine g_imul a11_ask_100 ?_
        refine g_iload a11_ask_101 rfl ?_
        refine g_iadd a11_ask_103 ?_
        refine g_goto (tgt := 108) a11_ask_104 rfl ?_
        subst hw13
        exact g_weak J14 ⟨rfl, rfl, rfl, rfl, rfl, rfl, trivial⟩
def l11_ask_30 (k0 : Nat) (x2 : Int32) : Nat → Int32 → Int32 → Int32 → Mem → Option (Int32 × Int32 × Int32 × Mem)
  | 0, _, _, _, _ => none
  | n + 1, x3, x4, x5, σ =>
  if 6 ≤ x5 then
  (some (x3, x4, x5, σ))
  else
  (if x2 ≤ 0 then
  (some (x3, x4, x5, σ))
  else
  (bnd (l11_ask_44 k0 x2 x5 2000 x3 x4 0 σ) fun w20 =>
  l11_ask_30 k0 x2 n w20.1 w20.2.1 (x5 + 1) w20.2.2.2))
theorem lE11_ask_30 {V : Option AV} {S : Mem} (k0 : Nat) (x2 : Int32) : ∀ (n : Nat) (x3 : Int32) (x4 : Int32) (x5 : Int32) (σ : Mem) {w : Int32 × Int32 × Int32 × Mem}, l11_ask_30 k0 x2 n x3 x4 x5 σ = some w → (Go m11_ask 137 [some (.inr (.inr (11, k0))), none, some (.inl x2), some (.inl w.1), some (.inl w.2.1), some (.inl w.2.2.1), none, none] [] w.2.2.2 V S) → Go m11_ask 30 [some (.inr (.inr (11, k0))), none, some (.inl x2), some (.inl x3), some (.inl x4), some (.inl x5), none, none] [] σ V S
  | 0, x3, x4, x5, σ, w, h, K1 => by cases h
  | n + 1, x3, x4, x5, σ, w, h, K1 => by
    rw [l11_ask_30] at h
    refine g_iload a11_ask_30 rfl ?_
    refine g_bipush (v := 6) a11_ask_32 rfl ?_
    refine g_icmp_ge (tgt := 137) a11_ask_34 rfl (fun c22 => ?_) (fun c22 => ?_)
    · have h := (if_pos c22).symm.trans h
      have h := Option.some.inj h
      subst h
      exact g_weak K1 ⟨rfl, rfl, rfl, rfl, rfl, trivial⟩
    · have h := (if_neg c22).symm.trans h
      refine g_iload_n a11_ask_37 rfl ?_
      refine g_if_le (tgt := 137) a11_ask_38 rfl (fun c21 => ?_) (fun c21 => ?_)
      · have h := (if_pos c21).symm.trans h
        have h := Option.some.inj h
        subst h
        exact g_weak K1 ⟨rfl, rfl, rfl, rfl, rfl, trivial⟩
      · have h := (if_neg c21).symm.trans h
        refine g_iconst (v := 0) a11_ask_41 rfl ?_
        refine g_istore (L' := [some (.inr (.inr (11, k0))), none, some (.inl x2), some (.inl x3), some (.inl x4), some (.inl x5), some (.inl 0), none]) a11_ask_42 (Nat.le_of_ble_eq_true rfl) rfl rfl ?_
        obtain ⟨w20, hw20, h⟩ := bnd_inv h
        refine g_weak (lE11_ask_44 k0 x2 x5 2000 _ _ _ _ hw20 ?_) ⟨rfl, rfl, rfl, rfl, rfl, rfl, trivial⟩
        refine g_iinc (v := (x5 + 1)) (L' := [some (.inr (.inr (11, k0))), none, some (.inl x2), some (.inl w20.1), some (.inl w20.2.1), some (.inl (x5 + 1)), some (.inl w20.2.2.1), none]) a11_ask_131 rfl rfl (Nat.le_of_ble_eq_true rfl) rfl rfl ?_
        refine g_goto (tgt := 30) a11_ask_134 rfl ?_
        exact g_weak (lE11_ask_30 (V := V) (S := S)  k0 x2 n _ _ _ _ h K1) ⟨rfl, rfl, rfl, rfl, rfl, trivial⟩
def f11_ask (k0 : Nat) (x1 : Int32) (σ : Mem) : Option (Int32 × Mem) :=
  if (f11_isPart k0 x1 σ) = 0 then
  (lt (f11_bad k0 (-2) σ) fun w2 =>
  some (w2.1, w2.2))
  else
  (bnd (f11_kindsOfPart k0 x1 σ) fun w4 =>
  bnd (l11_ask_30 k0 w4 2000 (-1) 1000000 0 σ) fun w23 =>
  some (w23.1, w23.2.2.2))
theorem E11_ask {k0 : Nat} {x1 : Int32} {σ : Mem} {w : Int32 × Mem} (h : f11_ask k0 x1 σ = some w) : Ev m11_ask [.inr (.inr (11, k0)), .inl x1] σ (some (.inl w.1) : Option AV) w.2 := by
  unfold f11_ask at h
  show Go m11_ask 0 [some (.inr (.inr (11, k0))), some (.inl x1), none, none, none, none, none, none] [] σ (some (.inl w.1) : Option AV) w.2
  refine g_aload_n a11_ask_0 rfl ?_
  refine g_iload_n a11_ask_1 rfl ?_
  refine g_V1s (v1 := .inl (f11_isPart k0 x1 σ)) (σ1 := σ) a11_ask_2 cv11_142 (E11_isPart _ _ _) rfl (fun o1 => ?_)
  refine g_if_ne (tgt := 15) a11_ask_5 rfl (fun c24 => ?_) (fun c24 => ?_)
  · have h := (if_neg c24).symm.trans h
    refine g_aload_n a11_ask_15 rfl ?_
    refine g_iload_n a11_ask_16 rfl ?_
    obtain ⟨w4, hw4, h⟩ := bnd_inv h
    refine g_V1s (v1 := .inl w4) (σ1 := σ) a11_ask_17 cv11_179 (E11_kindsOfPart hw4) rfl (fun o5 => ?_)
    refine g_istore_n (L' := [some (.inr (.inr (11, k0))), some (.inl x1), some (.inl w4), none, none, none, none, none]) a11_ask_20 (Nat.le_of_ble_eq_true rfl) rfl rfl ?_
    refine g_iconst (v := (-1)) a11_ask_21 rfl ?_
    refine g_istore_n (L' := [some (.inr (.inr (11, k0))), some (.inl x1), some (.inl w4), some (.inl (-1)), none, none, none, none]) a11_ask_22 (Nat.le_of_ble_eq_true rfl) rfl rfl ?_
    refine g_ldc (v := 1000000) a11_ask_23 wc11_175 ?_
    refine g_istore (L' := [some (.inr (.inr (11, k0))), some (.inl x1), some (.inl w4), some (.inl (-1)), some (.inl 1000000), none, none, none]) a11_ask_25 (Nat.le_of_ble_eq_true rfl) rfl rfl ?_
    refine g_iconst (v := 0) a11_ask_27 rfl ?_
    refine g_istore (L' := [some (.inr (.inr (11, k0))), some (.inl x1), some (.inl w4), some (.inl (-1)), some (.inl 1000000), some (.inl 0), none, none]) a11_ask_28 (Nat.le_of_ble_eq_true rfl) rfl rfl ?_
    obtain ⟨w23, hw23, h⟩ := bnd_inv h
    refine g_weak (lE11_ask_30 k0 w4 2000 _ _ _ _ hw23 ?_) ⟨rfl, rfl, rfl, rfl, rfl, trivial⟩
    refine g_iload_n a11_ask_137 rfl ?_
    have h := Option.some.inj h
    subst h
    exact g_retE a11_ask_138 trivial rfl rfl
  · have h := (if_pos c24).symm.trans h
    refine g_aload_n a11_ask_8 rfl ?_
    refine g_bipush (v := (-2)) a11_ask_9 rfl ?_
    obtain ⟨w2, hw2, h⟩ := lt_inv h
    refine g_V1s (v1 := .inl w2.1) (σ1 := w2.2) a11_ask_11 cv11_73 (by rw [← hw2]; exact E11_bad _ _ _) rfl (fun o3 => ?_)
    have h := Option.some.inj h
    subst h
    exact g_retE a11_ask_14 trivial rfl rfl
theorem a11_off_0 : At cX11_off 0 (.iload_n 0) 1 1 := ⟨by decide +kernel, rfl⟩
theorem a11_off_1 : At cX11_off 1 (.iload_n 1) 1 2 := ⟨by decide +kernel, rfl⟩
theorem a11_off_2 : At cX11_off 2 (.if_icmp .le 9) 3 5 := ⟨by decide +kernel, rfl⟩
theorem a11_off_5 : At cX11_off 5 (.iload_n 0) 1 6 := ⟨by decide +kernel, rfl⟩
theorem a11_off_6 : At cX11_off 6 (.iload_n 1) 1 7 := ⟨by decide +kernel, rfl⟩
theorem a11_off_7 : At cX11_off 7 (.isub) 1 8 := ⟨by decide +kernel, rfl⟩
theorem a11_off_8 : At cX11_off 8 (.goto 6) 3 11 := ⟨by decide +kernel, rfl⟩
theorem a11_off_11 : At cX11_off 11 (.iload_n 1) 1 12 := ⟨by decide +kernel, rfl⟩
theorem a11_off_12 : At cX11_off 12 (.iload_n 0) 1 13 := ⟨by decide +kernel, rfl⟩
theorem a11_off_13 : At cX11_off 13 (.isub) 1 14 := ⟨by decide +kernel, rfl⟩
theorem a11_off_14 : At cX11_off 14 (.ireturn) 1 15 := ⟨by decide +kernel, rfl⟩
def f11_off (x0 : Int32) (x1 : Int32) : Int32 :=
  if x0 ≤ x1 then
  ((x1 - x0))
  else
  ((x0 - x1))
theorem E11_off (x0 : Int32) (x1 : Int32) (σ : Mem) : Ev m11_off [.inl x0, .inl x1] σ (some (.inl (f11_off x0 x1)) : Option AV) σ := by
  obtain ⟨w, h⟩ : ∃ w, f11_off x0 x1 = w := ⟨_, rfl⟩
  rw [h]
  unfold f11_off at h
  show Go m11_off 0 [some (.inl x0), some (.inl x1)] [] σ (some (.inl w) : Option AV) σ
  refine g_iload_n a11_off_0 rfl ?_
  refine g_iload_n a11_off_1 rfl ?_
  refine g_icmp_le (tgt := 11) a11_off_2 rfl (fun c1 => ?_) (fun c1 => ?_)
  · have h := (if_pos c1).symm.trans h
    refine g_iload_n a11_off_11 rfl ?_
    refine g_iload_n a11_off_12 rfl ?_
    refine g_isub a11_off_13 ?_
    subst h
    exact g_retE a11_off_14 trivial rfl rfl
  · have h := (if_neg c1).symm.trans h
    refine g_iload_n a11_off_5 rfl ?_
    refine g_iload_n a11_off_6 rfl ?_
    refine g_isub a11_off_7 ?_
    refine g_goto (tgt := 14) a11_off_8 rfl ?_
    subst h
    exact g_retE a11_off_14 trivial rfl rfl
theorem a11_getsBy_0 : At cX11_getsBy 0 (.iload_n 0) 1 1 := ⟨by decide +kernel, rfl⟩
theorem a11_getsBy_1 : At cX11_getsBy 1 (.iload_n 2) 1 2 := ⟨by decide +kernel, rfl⟩
theorem a11_getsBy_2 : At cX11_getsBy 2 (.invokestatic 182) 3 5 := ⟨by decide +kernel, rfl⟩
theorem a11_getsBy_5 : At cX11_getsBy 5 (.istore_n 3) 1 6 := ⟨by decide +kernel, rfl⟩
theorem a11_getsBy_6 : At cX11_getsBy 6 (.iload_n 1) 1 7 := ⟨by decide +kernel, rfl⟩
theorem a11_getsBy_7 : At cX11_getsBy 7 (.iload_n 2) 1 8 := ⟨by decide +kernel, rfl⟩
theorem a11_getsBy_8 : At cX11_getsBy 8 (.invokestatic 182) 3 11 := ⟨by decide +kernel, rfl⟩
theorem a11_getsBy_11 : At cX11_getsBy 11 (.istore 4) 2 13 := ⟨by decide +kernel, rfl⟩
theorem a11_getsBy_13 : At cX11_getsBy 13 (.iload_n 3) 1 14 := ⟨by decide +kernel, rfl⟩
theorem a11_getsBy_14 : At cX11_getsBy 14 (.iload 4) 2 16 := ⟨by decide +kernel, rfl⟩
theorem a11_getsBy_16 : At cX11_getsBy 16 (.if_icmp .ne 8) 3 19 := ⟨by decide +kernel, rfl⟩
theorem a11_getsBy_19 : At cX11_getsBy 19 (.bipush 6) 2 21 := ⟨by decide +kernel, rfl⟩
theorem a11_getsBy_21 : At cX11_getsBy 21 (.goto 17) 3 24 := ⟨by decide +kernel, rfl⟩
theorem a11_getsBy_24 : At cX11_getsBy 24 (.iload_n 3) 1 25 := ⟨by decide +kernel, rfl⟩
theorem a11_getsBy_25 : At cX11_getsBy 25 (.iload 4) 2 27 := ⟨by decide +kernel, rfl⟩
theorem a11_getsBy_27 : At cX11_getsBy 27 (.if_icmp .ge 10) 3 30 := ⟨by decide +kernel, rfl⟩
theorem a11_getsBy_30 : At cX11_getsBy 30 (.bipush 12) 2 32 := ⟨by decide +kernel, rfl⟩
theorem a11_getsBy_32 : At cX11_getsBy 32 (.iload_n 3) 1 33 := ⟨by decide +kernel, rfl⟩
theorem a11_getsBy_33 : At cX11_getsBy 33 (.isub) 1 34 := ⟨by decide +kernel, rfl⟩
theorem a11_getsBy_34 : At cX11_getsBy 34 (.goto 4) 3 37 := ⟨by decide +kernel, rfl⟩
theorem a11_getsBy_37 : At cX11_getsBy 37 (.iconst 0) 1 38 := ⟨by decide +kernel, rfl⟩
theorem a11_getsBy_38 : At cX11_getsBy 38 (.ireturn) 1 39 := ⟨by decide +kernel, rfl⟩
def f11_getsBy (x0 : Int32) (x1 : Int32) (x2 : Int32) : Int32 :=
  if (f11_off x0 x2) = (f11_off x1 x2) then
  (6)
  else
  (if (f11_off x1 x2) ≤ (f11_off x0 x2) then
  (0)
  else
  ((12 - (f11_off x0 x2))))
theorem E11_getsBy (x0 : Int32) (x1 : Int32) (x2 : Int32) (σ : Mem) : Ev m11_getsBy [.inl x0, .inl x1, .inl x2] σ (some (.inl (f11_getsBy x0 x1 x2)) : Option AV) σ := by
  obtain ⟨w, h⟩ : ∃ w, f11_getsBy x0 x1 x2 = w := ⟨_, rfl⟩
  rw [h]
  unfold f11_getsBy at h
  show Go m11_getsBy 0 [some (.inl x0), some (.inl x1), some (.inl x2), none, none] [] σ (some (.inl w) : Option AV) σ
  refine g_iload_n a11_getsBy_0 rfl ?_
  refine g_iload_n a11_getsBy_1 rfl ?_
  refine g_S2s (v1 := .inl (f11_off x0 x2)) (σ1 := σ) a11_getsBy_2 cs11_182 (E11_off _ _ _) rfl (fun o1 => ?_)
  refine g_istore_n (L' := [some (.inl x0), some (.inl x1), some (.inl x2), some (.inl (f11_off x0 x2)), none]) a11_getsBy_5 (Nat.le_of_ble_eq_true rfl) rfl rfl ?_
  refine g_iload_n a11_getsBy_6 rfl ?_
  refine g_iload_n a11_getsBy_7 rfl ?_
  refine g_S2s (v1 := .inl (f11_off x1 x2)) (σ1 := σ) a11_getsBy_8 cs11_182 (E11_off _ _ _) rfl (fun o2 => ?_)
  refine g_istore (L' := [some (.inl x0), some (.inl x1), some (.inl x2), some (.inl (f11_off x0 x2)), some (.inl (f11_off x1 x2))]) a11_getsBy_11 (Nat.le_of_ble_eq_true rfl) rfl rfl ?_
  refine g_iload_n a11_getsBy_13 rfl ?_
  refine g_iload a11_getsBy_14 rfl ?_
  refine g_icmp_ne (tgt := 24) a11_getsBy_16 rfl (fun c4 => ?_) (fun c4 => ?_)
  · have h := (if_neg c4).symm.trans h
    refine g_iload_n a11_getsBy_24 rfl ?_
    refine g_iload a11_getsBy_25 rfl ?_
    refine g_icmp_ge (tgt := 37) a11_getsBy_27 rfl (fun c3 => ?_) (fun c3 => ?_)
    · have h := (if_pos c3).symm.trans h
      refine g_iconst (v := 0) a11_getsBy_37 rfl ?_
      subst h
      exact g_retE a11_getsBy_38 trivial rfl rfl
    · have h := (if_neg c3).symm.trans h
      refine g_bipush (v := 12) a11_getsBy_30 rfl ?_
      refine g_iload_n a11_getsBy_32 rfl ?_
      refine g_isub a11_getsBy_33 ?_
      refine g_goto (tgt := 38) a11_getsBy_34 rfl ?_
      subst h
      exact g_retE a11_getsBy_38 trivial rfl rfl
  · have h := (if_pos c4).symm.trans h
    refine g_bipush (v := 6) a11_getsBy_19 rfl ?_
    refine g_goto (tgt := 38) a11_getsBy_21 rfl ?_
    subst h
    exact g_retE a11_getsBy_38 trivial rfl rfl
theorem a11_isBest_0 : At cX11_isBest 0 (.iconst 1) 1 1 := ⟨by decide +kernel, rfl⟩
theorem a11_isBest_1 : At cX11_isBest 1 (.istore_n 3) 1 2 := ⟨by decide +kernel, rfl⟩
theorem a11_isBest_2 : At cX11_isBest 2 (.iconst 0) 1 3 := ⟨by decide +kernel, rfl⟩
theorem a11_isBest_3 : At cX11_isBest 3 (.istore 4) 2 5 := ⟨by decide +kernel, rfl⟩
theorem a11_isBest_5 : At cX11_isBest 5 (.iload 4) 2 7 := ⟨by decide +kernel, rfl⟩
theorem a11_isBest_7 : At cX11_isBest 7 (.bipush 10) 2 9 := ⟨by decide +kernel, rfl⟩
theorem a11_isBest_9 : At cX11_isBest 9 (.if_icmp .ge 35) 3 12 := ⟨by decide +kernel, rfl⟩
theorem a11_isBest_12 : At cX11_isBest 12 (.iload_n 3) 1 13 := ⟨by decide +kernel, rfl⟩
theorem a11_isBest_13 : At cX11_isBest 13 (.ifCond .eq 31) 3 16 := ⟨by decide +kernel, rfl⟩
theorem a11_isBest_16 : At cX11_isBest 16 (.iload 4) 2 18 := ⟨by decide +kernel, rfl⟩
theorem a11_isBest_18 : At cX11_isBest 18 (.iload_n 1) 1 19 := ⟨by decide +kernel, rfl⟩
theorem a11_isBest_19 : At cX11_isBest 19 (.iload_n 2) 1 20 := ⟨by decide +kernel, rfl⟩
theorem a11_isBest_20 : At cX11_isBest 20 (.invokestatic 185) 3 23 := ⟨by decide +kernel, rfl⟩
theorem a11_isBest_23 : At cX11_isBest 23 (.iload_n 0) 1 24 := ⟨by decide +kernel, rfl⟩
theorem a11_isBest_24 : At cX11_isBest 24 (.iload_n 1) 1 25 := ⟨by decide +kernel, rfl⟩
theorem a11_isBest_25 : At cX11_isBest 25 (.iload_n 2) 1 26 := ⟨by decide +kernel, rfl⟩
theorem a11_isBest_26 : At cX11_isBest 26 (.invokestatic 185) 3 29 := ⟨by decide +kernel, rfl⟩
theorem a11_isBest_29 : At cX11_isBest 29 (.if_icmp .gt 7) 3 32 := ⟨by decide +kernel, rfl⟩
theorem a11_isBest_32 : At cX11_isBest 32 (.iconst 1) 1 33 := ⟨by decide +kernel, rfl⟩
theorem a11_isBest_33 : At cX11_isBest 33 (.goto 4) 3 36 := ⟨by decide +kernel, rfl⟩
theorem a11_isBest_36 : At cX11_isBest 36 (.iconst 0) 1 37 := ⟨by decide +kernel, rfl⟩
theorem a11_isBest_37 : At cX11_isBest 37 (.istore_n 3) 1 38 := ⟨by decide +kernel, rfl⟩
theorem a11_isBest_38 : At cX11_isBest 38 (.iinc 4 1) 3 41 := ⟨by decide +kernel, rfl⟩
theorem a11_isBest_41 : At cX11_isBest 41 (.goto (-36)) 3 44 := ⟨by decide +kernel, rfl⟩
theorem a11_isBest_44 : At cX11_isBest 44 (.iload_n 3) 1 45 := ⟨by decide +kernel, rfl⟩
theorem a11_isBest_45 : At cX11_isBest 45 (.ireturn) 1 46 := ⟨by decide +kernel, rfl⟩
def l11_isBest_5 (x0 : Int32) (x1 : Int32) (x2 : Int32) : Nat → Int32 → Int32 → Option (Int32 × Int32)
  | 0, _, _ => none
  | n + 1, x3, x4 =>
  if 10 ≤ x4 then
  (some (x3, x4))
  else
  (if x3 = 0 then
  (some (x3, x4))
  else
  (lt (if (f11_getsBy x0 x1 x2) < (f11_getsBy x4 x1 x2) then
  (0)
  else
  (1) : Int32) fun w3 =>
  l11_isBest_5 x0 x1 x2 n w3 (x4 + 1)))
theorem lE11_isBest_5 {V : Option AV} {S : Mem} (x0 : Int32) (x1 : Int32) (x2 : Int32) {σ : Mem} : ∀ (n : Nat) (x3 : Int32) (x4 : Int32) {w : Int32 × Int32}, l11_isBest_5 x0 x1 x2 n x3 x4 = some w → (Go m11_isBest 44 [some (.inl x0), some (.inl x1), some (.inl x2), some (.inl w.1), some (.inl w.2)] [] σ V S) → Go m11_isBest 5 [some (.inl x0), some (.inl x1), some (.inl x2), some (.inl x3), some (.inl x4)] [] σ V S
  | 0, x3, x4, w, h, K1 => by cases h
  | n + 1, x3, x4, w, h, K1 => by
    rw [l11_isBest_5] at h
    refine g_iload a11_isBest_5 rfl ?_
    refine g_bipush (v := 10) a11_isBest_7 rfl ?_
    refine g_icmp_ge (tgt := 44) a11_isBest_9 rfl (fun c8 => ?_) (fun c8 => ?_)
    · have h := (if_pos c8).symm.trans h
      have h := Option.some.inj h
      subst h
      exact g_weak K1 ⟨rfl, rfl, rfl, rfl, rfl, trivial⟩
    · have h := (if_neg c8).symm.trans h
      refine g_iload_n a11_isBest_12 rfl ?_
      refine g_if_eq (tgt := 44) a11_isBest_13 rfl (fun c7 => ?_) (fun c7 => ?_)
      · have h := (if_pos c7).symm.trans h
        have h := Option.some.inj h
        subst h
        exact g_weak K1 ⟨rfl, rfl, rfl, rfl, rfl, trivial⟩
      · have h := (if_neg c7).symm.trans h
        refine g_iload a11_isBest_16 rfl ?_
        refine g_iload_n a11_isBest_18 rfl ?_
        refine g_iload_n a11_isBest_19 rfl ?_
        refine g_S3s (v1 := .inl (f11_getsBy x4 x1 x2)) (σ1 := σ) a11_isBest_20 cs11_185 (E11_getsBy _ _ _ _) rfl (fun o1 => ?_)
        refine g_iload_n a11_isBest_23 rfl ?_
        refine g_iload_n a11_isBest_24 rfl ?_
        refine g_iload_n a11_isBest_25 rfl ?_
        refine g_S3s (v1 := .inl (f11_getsBy x0 x1 x2)) (σ1 := σ) a11_isBest_26 cs11_185 (E11_getsBy _ _ _ _) rfl (fun o2 => ?_)
        obtain ⟨w3, hw3, h⟩ := lt_inv h
        have b6 : w3 = 0 ∨ w3 = 1 := by rw [← hw3]; repeat (first | exact Or.inl rfl | exact Or.inr rfl | split)
        have J4 : Go m11_isBest 37 [some (.inl x0), some (.inl x1), some (.inl x2), none, some (.inl x4)] [.inl w3] σ V S := by
          refine g_istore_n (L' := [some (.inl x0), some (.inl x1), some (.inl x2), some (.inl w3), some (.inl x4)]) a11_isBest_37 (Nat.le_of_ble_eq_true rfl) rfl rfl ?_
          refine g_iinc (v := (x4 + 1)) (L' := [some (.inl x0), some (.inl x1), some (.inl x2), some (.inl w3), some (.inl (x4 + 1))]) a11_isBest_38 rfl rfl (Nat.le_of_ble_eq_true rfl) rfl rfl ?_
          refine g_goto (tgt := 5) a11_isBest_41 rfl ?_
          exact g_weak (lE11_isBest_5 (V := V) (S := S)  x0 x1 x2 n _ _ h K1) ⟨rfl, rfl, rfl, rfl, rfl, trivial⟩
        clear h
        refine g_icmp_gt (tgt := 36) a11_isBest_29 rfl (fun c5 => ?_) (fun c5 => ?_)
        · have hw3 := (if_pos c5).symm.trans hw3
          refine g_iconst (v := 0) a11_isBest_36 rfl ?_
          subst hw3
          exact g_weak J4 ⟨rfl, rfl, rfl, rfl, trivial⟩
        · have hw3 := (if_neg c5).symm.trans hw3
          refine g_iconst (v := 1) a11_isBest_32 rfl ?_
          refine g_goto (tgt := 37) a11_isBest_33 rfl ?_
          subst hw3
          exact g_weak J4 ⟨rfl, rfl, rfl, rfl, trivial⟩
def f11_isBest (x0 : Int32) (x1 : Int32) (x2 : Int32) : Option (Int32) :=
  bnd (l11_isBest_5 x0 x1 x2 2000 1 0) fun w9 =>
  ck (decide (w9.1 = 0 ∨ w9.1 = 1)) <|
  some w9.1
theorem E11_isBest {x0 : Int32} {x1 : Int32} {x2 : Int32} {σ : Mem} {w : Int32} (h : f11_isBest x0 x1 x2 = some w) : Ev m11_isBest [.inl x0, .inl x1, .inl x2] σ (some (.inl w) : Option AV) σ := by
  unfold f11_isBest at h
  show Go m11_isBest 0 [some (.inl x0), some (.inl x1), some (.inl x2), none, none] [] σ (some (.inl w) : Option AV) σ
  refine g_iconst (v := 1) a11_isBest_0 rfl ?_
  refine g_istore_n (L' := [some (.inl x0), some (.inl x1), some (.inl x2), some (.inl 1), none]) a11_isBest_1 (Nat.le_of_ble_eq_true rfl) rfl rfl ?_
  refine g_iconst (v := 0) a11_isBest_2 rfl ?_
  refine g_istore (L' := [some (.inl x0), some (.inl x1), some (.inl x2), some (.inl 1), some (.inl 0)]) a11_isBest_3 (Nat.le_of_ble_eq_true rfl) rfl rfl ?_
  obtain ⟨w9, hw9, h⟩ := bnd_inv h
  refine g_weak (lE11_isBest_5 x0 x1 x2 2000 _ _ hw9 ?_) ⟨rfl, rfl, rfl, rfl, rfl, trivial⟩
  refine g_iload_n a11_isBest_44 rfl ?_
  obtain ⟨q10, h⟩ := ck_inv h
  have q10 := of_decide_eq_true q10
  have h := Option.some.inj h
  subst h
  exact g_retE a11_isBest_45 q10 rfl rfl
theorem a11_sweep_0 : At cX11_sweep 0 (.aload_n 0) 1 1 := ⟨by decide +kernel, rfl⟩
theorem a11_sweep_1 : At cX11_sweep 1 (.iload_n 1) 1 2 := ⟨by decide +kernel, rfl⟩
theorem a11_sweep_2 : At cX11_sweep 2 (.invokevirtual 142) 3 5 := ⟨by decide +kernel, rfl⟩
theorem a11_sweep_5 : At cX11_sweep 5 (.ifCond .eq 8) 3 8 := ⟨by decide +kernel, rfl⟩
theorem a11_sweep_8 : At cX11_sweep 8 (.iload_n 2) 1 9 := ⟨by decide +kernel, rfl⟩
theorem a11_sweep_9 : At cX11_sweep 9 (.iconst (-1)) 1 10 := ⟨by decide +kernel, rfl⟩
theorem a11_sweep_10 : At cX11_sweep 10 (.if_icmp .ge 10) 3 13 := ⟨by decide +kernel, rfl⟩
theorem a11_sweep_13 : At cX11_sweep 13 (.aload_n 0) 1 14 := ⟨by decide +kernel, rfl⟩
theorem a11_sweep_14 : At cX11_sweep 14 (.bipush (-10)) 2 16 := ⟨by decide +kernel, rfl⟩
theorem a11_sweep_16 : At cX11_sweep 16 (.invokevirtual 73) 3 19 := ⟨by decide +kernel, rfl⟩
theorem a11_sweep_19 : At cX11_sweep 19 (.ireturn) 1 20 := ⟨by decide +kernel, rfl⟩
theorem a11_sweep_20 : At cX11_sweep 20 (.aload_n 0) 1 21 := ⟨by decide +kernel, rfl⟩
theorem a11_sweep_21 : At cX11_sweep 21 (.iload_n 1) 1 22 := ⟨by decide +kernel, rfl⟩
theorem a11_sweep_22 : At cX11_sweep 22 (.invokevirtual 150) 3 25 := ⟨by decide +kernel, rfl⟩
theorem a11_sweep_25 : At cX11_sweep 25 (.istore_n 3) 1 26 := ⟨by decide +kernel, rfl⟩
theorem a11_sweep_26 : At cX11_sweep 26 (.iconst 0) 1 27 := ⟨by decide +kernel, rfl⟩
theorem a11_sweep_27 : At cX11_sweep 27 (.istore 4) 2 29 := ⟨by decide +kernel, rfl⟩
theorem a11_sweep_29 : At cX11_sweep 29 (.iload_n 3) 1 30 := ⟨by decide +kernel, rfl⟩
theorem a11_sweep_30 : At cX11_sweep 30 (.iconst (-1)) 1 31 := ⟨by decide +kernel, rfl⟩
theorem a11_sweep_31 : At cX11_sweep 31 (.if_icmp .eq 9) 3 34 := ⟨by decide +kernel, rfl⟩
theorem a11_sweep_34 : At cX11_sweep 34 (.iload_n 3) 1 35 := ⟨by decide +kernel, rfl⟩
theorem a11_sweep_35 : At cX11_sweep 35 (.bipush 10) 2 37 := ⟨by decide +kernel, rfl⟩
theorem a11_sweep_37 : At cX11_sweep 37 (.if_icmp .le 8) 3 40 := ⟨by decide +kernel, rfl⟩
theorem a11_sweep_40 : At cX11_sweep 40 (.bipush 10) 2 42 := ⟨by decide +kernel, rfl⟩
theorem a11_sweep_42 : At cX11_sweep 42 (.goto 4) 3 45 := ⟨by decide +kernel, rfl⟩
theorem a11_sweep_45 : At cX11_sweep 45 (.iload_n 3) 1 46 := ⟨by decide +kernel, rfl⟩
theorem a11_sweep_46 : At cX11_sweep 46 (.istore_n 3) 1 47 := ⟨by decide +kernel, rfl⟩
theorem a11_sweep_47 : At cX11_sweep 47 (.iconst 0) 1 48 := ⟨by decide +kernel, rfl⟩
theorem a11_sweep_48 : At cX11_sweep 48 (.istore 5) 2 50 := ⟨by decide +kernel, rfl⟩
theorem a11_sweep_50 : At cX11_sweep 50 (.iload 5) 2 52 := ⟨by decide +kernel, rfl⟩
theorem a11_sweep_52 : At cX11_sweep 52 (.bipush 100) 2 54 := ⟨by decide +kernel, rfl⟩
theorem a11_sweep_54 : At cX11_sweep 54 (.if_icmp .ge 55) 3 57 := ⟨by decide +kernel, rfl⟩
theorem a11_sweep_57 : At cX11_sweep 57 (.iload 5) 2 59 := ⟨by decide +kernel, rfl⟩
theorem a11_sweep_59 : At cX11_sweep 59 (.bipush 10) 2 61 := ⟨by decide +kernel, rfl⟩
theorem a11_sweep_61 : At cX11_sweep 61 (.idiv) 1 62 := ⟨by decide +kernel, rfl⟩
theorem a11_sweep_62 : At cX11_sweep 62 (.iload 5) 2 64 := ⟨by decide +kernel, rfl⟩
theorem a11_sweep_64 : At cX11_sweep 64 (.bipush 10) 2 66 := ⟨by decide +kernel, rfl⟩
theorem a11_sweep_66 : At cX11_sweep 66 (.irem) 1 67 := ⟨by decide +kernel, rfl⟩
theorem a11_sweep_67 : At cX11_sweep 67 (.iload_n 3) 1 68 := ⟨by decide +kernel, rfl⟩
theorem a11_sweep_68 : At cX11_sweep 68 (.invokestatic 188) 3 71 := ⟨by decide +kernel, rfl⟩
theorem a11_sweep_71 : At cX11_sweep 71 (.ifCond .eq 32) 3 74 := ⟨by decide +kernel, rfl⟩
theorem a11_sweep_74 : At cX11_sweep 74 (.iload 5) 2 76 := ⟨by decide +kernel, rfl⟩
theorem a11_sweep_76 : At cX11_sweep 76 (.bipush 10) 2 78 := ⟨by decide +kernel, rfl⟩
theorem a11_sweep_78 : At cX11_sweep 78 (.irem) 1 79 := ⟨by decide +kernel, rfl⟩
theorem a11_sweep_79 : At cX11_sweep 79 (.iload 5) 2 81 := ⟨by decide +kernel, rfl⟩
theorem a11_sweep_81 : At cX11_sweep 81 (.bipush 10) 2 83 := ⟨by decide +kernel, rfl⟩
theorem a11_sweep_83 : At cX11_sweep 83 (.idiv) 1 84 := ⟨by decide +kernel, rfl⟩
theorem a11_sweep_84 : At cX11_sweep 84 (.iload_n 3) 1 85 := ⟨by decide +kernel, rfl⟩
theorem a11_sweep_85 : At cX11_sweep 85 (.invokestatic 188) 3 88 := ⟨by decide +kernel, rfl⟩
theorem a11_sweep_88 : At cX11_sweep 88 (.ifCond .eq 15) 3 91 := ⟨by decide +kernel, rfl⟩
theorem a11_sweep_91 : At cX11_sweep 91 (.iload 4) 2 93 := ⟨by decide +kernel, rfl⟩
theorem a11_sweep_93 : At cX11_sweep 93 (.iload_n 2) 1 94 := ⟨by decide +kernel, rfl⟩
theorem a11_sweep_94 : At cX11_sweep 94 (.if_icmp .ne 6) 3 97 := ⟨by decide +kernel, rfl⟩
theorem a11_sweep_97 : At cX11_sweep 97 (.iload 5) 2 99 := ⟨by decide +kernel, rfl⟩
theorem a11_sweep_99 : At cX11_sweep 99 (.ireturn) 1 100 := ⟨by decide +kernel, rfl⟩
theorem a11_sweep_100 : At cX11_sweep 100 (.iinc 4 1) 3 103 := ⟨by decide +kernel, rfl⟩
theorem a11_sweep_103 : At cX11_sweep 103 (.iinc 5 1) 3 106 := ⟨by decide +kernel, rfl⟩
theorem a11_sweep_106 : At cX11_sweep 106 (.goto (-56)) 3 109 := ⟨by decide +kernel, rfl⟩
theorem a11_sweep_109 : At cX11_sweep 109 (.iload_n 2) 1 110 := ⟨by decide +kernel, rfl⟩
theorem a11_sweep_110 : At cX11_sweep 110 (.iconst (-1)) 1 111 := ⟨by decide +kernel, rfl⟩
theorem a11_sweep_111 : At cX11_sweep 111 (.if_icmp .ne 8) 3 114 := ⟨by decide +kernel, rfl⟩
theorem a11_sweep_114 : At cX11_sweep 114 (.iload 4) 2 116 := ⟨by decide +kernel, rfl⟩
theorem a11_sweep_116 : At cX11_sweep 116 (.goto 5) 3 119 := ⟨by decide +kernel, rfl⟩
theorem a11_sweep_119 : At cX11_sweep 119 (.bipush (-5)) 2 121 := ⟨by decide +kernel, rfl⟩
theorem a11_sweep_121 : At cX11_sweep 121 (.ireturn) 1 122 := ⟨by decide +kernel, rfl⟩
def l11_sweep_50 (x2 : Int32) (x3 : Int32) (σ : Mem) : Nat → Int32 → Int32 → Option ((Int32 × Int32) ⊕ (Int32 × Mem))
  | 0, _, _ => none
  | n + 1, x4, x5 =>
  if 100 ≤ x5 then
  (some (.inl (x4, x5)))
  else
  (bnd (f11_isBest (x5 / 10) (x5 - x5 / 10 * 10) x3) fun w10 =>
  if w10 = 0 then
  (l11_sweep_50 x2 x3 σ n x4 (x5 + 1))
  else
  (bnd (f11_isBest (x5 - x5 / 10 * 10) (x5 / 10) x3) fun w12 =>
  if w12 = 0 then
  (l11_sweep_50 x2 x3 σ n x4 (x5 + 1))
  else
  (if x4 = x2 then
  (some (.inr (x5, σ)))
  else
  (l11_sweep_50 x2 x3 σ n (x4 + 1) (x5 + 1)))))
theorem lE11_sweep_50 {V : Option AV} {S : Mem} (x2 : Int32) (x3 : Int32) (σ : Mem) : ∀ (n : Nat) (x4 : Int32) (x5 : Int32) {w : (Int32 × Int32) ⊕ (Int32 × Mem)}, l11_sweep_50 x2 x3 σ n x4 x5 = some w → (∀ u, w = .inl u → Go m11_sweep 109 [none, none, some (.inl x2), some (.inl x3), some (.inl u.1), some (.inl u.2)] [] σ V S) → (∀ u, w = .inr u → (some (.inl u.1) : Option AV) = V ∧ u.2 = S) → Go m11_sweep 50 [none, none, some (.inl x2), some (.inl x3), some (.inl x4), some (.inl x5)] [] σ V S
  | 0, x4, x5, w, h, K1, K2 => by cases h
  | n + 1, x4, x5, w, h, K1, K2 => by
    rw [l11_sweep_50] at h
    refine g_iload a11_sweep_50 rfl ?_
    refine g_bipush (v := 100) a11_sweep_52 rfl ?_
    refine g_icmp_ge (tgt := 109) a11_sweep_54 rfl (fun c17 => ?_) (fun c17 => ?_)
    · have h := (if_pos c17).symm.trans h
      have h := Option.some.inj h
      subst h
      exact g_weak (K1 _ rfl) ⟨rfl, rfl, rfl, rfl, trivial⟩
    · have h := (if_neg c17).symm.trans h
      refine g_iload a11_sweep_57 rfl ?_
      refine g_bipush (v := 10) a11_sweep_59 rfl ?_
      refine g_idiv a11_sweep_61 (by decide) ?_
      refine g_iload a11_sweep_62 rfl ?_
      refine g_bipush (v := 10) a11_sweep_64 rfl ?_
      refine g_irem a11_sweep_66 (by decide) ?_
      refine g_iload_n a11_sweep_67 rfl ?_
      obtain ⟨w10, hw10, h⟩ := bnd_inv h
      refine g_S3s (v1 := .inl w10) (σ1 := σ) a11_sweep_68 cs11_188 (E11_isBest hw10) rfl (fun o11 => ?_)
      refine g_if_eq (tgt := 103) a11_sweep_71 rfl (fun c16 => ?_) (fun c16 => ?_)
      · have h := (if_pos c16).symm.trans h
        refine g_iinc (v := (x5 + 1)) (L' := [none, none, some (.inl x2), some (.inl x3), some (.inl x4), some (.inl (x5 + 1))]) a11_sweep_103 rfl rfl (Nat.le_of_ble_eq_true rfl) rfl rfl ?_
        refine g_goto (tgt := 50) a11_sweep_106 rfl ?_
        exact g_weak (lE11_sweep_50 (V := V) (S := S)  x2 x3 σ n _ _ h K1 K2) ⟨rfl, rfl, rfl, rfl, trivial⟩
      · have h := (if_neg c16).symm.trans h
        refine g_iload a11_sweep_74 rfl ?_
        refine g_bipush (v := 10) a11_sweep_76 rfl ?_
        refine g_irem a11_sweep_78 (by decide) ?_
        refine g_iload a11_sweep_79 rfl ?_
        refine g_bipush (v := 10) a11_sweep_81 rfl ?_
        refine g_idiv a11_sweep_83 (by decide) ?_
        refine g_iload_n a11_sweep_84 rfl ?_
        obtain ⟨w12, hw12, h⟩ := bnd_inv h
        refine g_S3s (v1 := .inl w12) (σ1 := σ) a11_sweep_85 cs11_188 (E11_isBest hw12) rfl (fun o13 => ?_)
        refine g_if_eq (tgt := 103) a11_sweep_88 rfl (fun c15 => ?_) (fun c15 => ?_)
        · have h := (if_pos c15).symm.trans h
          refine g_iinc (v := (x5 + 1)) (L' := [none, none, some (.inl x2), some (.inl x3), some (.inl x4), some (.inl (x5 + 1))]) a11_sweep_103 rfl rfl (Nat.le_of_ble_eq_true rfl) rfl rfl ?_
          refine g_goto (tgt := 50) a11_sweep_106 rfl ?_
          exact g_weak (lE11_sweep_50 (V := V) (S := S)  x2 x3 σ n _ _ h K1 K2) ⟨rfl, rfl, rfl, rfl, trivial⟩
        · have h := (if_neg c15).symm.trans h
          refine g_iload a11_sweep_91 rfl ?_
          refine g_iload_n a11_sweep_93 rfl ?_
          refine g_icmp_ne (tgt := 100) a11_sweep_94 rfl (fun c14 => ?_) (fun c14 => ?_)
          · have h := (if_neg c14).symm.trans h
            refine g_iinc (v := (x4 + 1)) (L' := [none, none, some (.inl x2), some (.inl x3), some (.inl (x4 + 1)), some (.inl x5)]) a11_sweep_100 rfl rfl (Nat.le_of_ble_eq_true rfl) rfl rfl ?_
            refine g_iinc (v := (x5 + 1)) (L' := [none, none, some (.inl x2), some (.inl x3), some (.inl (x4 + 1)), some (.inl (x5 + 1))]) a11_sweep_103 rfl rfl (Nat.le_of_ble_eq_true rfl) rfl rfl ?_
            refine g_goto (tgt := 50) a11_sweep_106 rfl ?_
            exact g_weak (lE11_sweep_50 (V := V) (S := S)  x2 x3 σ n _ _ h K1 K2) ⟨rfl, rfl, rfl, rfl, trivial⟩
          · have h := (if_pos c14).symm.trans h
            refine g_iload a11_sweep_97 rfl ?_
            have h := Option.some.inj h
            subst h
            obtain ⟨hV, hS⟩ := K2 _ rfl
            subst hV; subst hS
            exact g_retE a11_sweep_99 trivial rfl rfl
def f11_sweep (k0 : Nat) (x1 : Int32) (x2 : Int32) (σ : Mem) : Option (Int32 × Mem) :=
  if (f11_isPart k0 x1 σ) = 0 then
  (lt (f11_bad k0 (-10) σ) fun w2 =>
  some (w2.1, w2.2))
  else
  (if (-1) ≤ x2 then
  (bnd (f11_whenOf k0 x1 σ) fun w4 =>
  lt (if w4.1 = (-1) then
  (10)
  else
  (if w4.1 ≤ 10 then
  (w4.1)
  else
  (10)) : Int32) fun w6 =>
  bnd (l11_sweep_50 x2 w6 w4.2 2000 0 0) fun w18 =>
  sm w18 (fun u19 =>
  if x2 = (-1) then
  (some (u19.1, w4.2))
  else
  (some ((-5), w4.2))) (fun u19 => some u19))
  else
  (lt (f11_bad k0 (-10) σ) fun w21 =>
  some (w21.1, w21.2)))
theorem E11_sweep {k0 : Nat} {x1 : Int32} {x2 : Int32} {σ : Mem} {w : Int32 × Mem} (h : f11_sweep k0 x1 x2 σ = some w) : Ev m11_sweep [.inr (.inr (11, k0)), .inl x1, .inl x2] σ (some (.inl w.1) : Option AV) w.2 := by
  unfold f11_sweep at h
  show Go m11_sweep 0 [some (.inr (.inr (11, k0))), some (.inl x1), some (.inl x2), none, none, none] [] σ (some (.inl w.1) : Option AV) w.2
  refine g_aload_n a11_sweep_0 rfl ?_
  refine g_iload_n a11_sweep_1 rfl ?_
  refine g_V1s (v1 := .inl (f11_isPart k0 x1 σ)) (σ1 := σ) a11_sweep_2 cv11_142 (E11_isPart _ _ _) rfl (fun o1 => ?_)
  refine g_if_eq (tgt := 13) a11_sweep_5 rfl (fun c24 => ?_) (fun c24 => ?_)
  · have h := (if_pos c24).symm.trans h
    refine g_aload_n a11_sweep_13 rfl ?_
    refine g_bipush (v := (-10)) a11_sweep_14 rfl ?_
    obtain ⟨w2, hw2, h⟩ := lt_inv h
    refine g_V1s (v1 := .inl w2.1) (σ1 := w2.2) a11_sweep_16 cv11_73 (by rw [← hw2]; exact E11_bad _ _ _) rfl (fun o3 => ?_)
    have h := Option.some.inj h
    subst h
    exact g_retE a11_sweep_19 trivial rfl rfl
  · have h := (if_neg c24).symm.trans h
    refine g_iload_n a11_sweep_8 rfl ?_
    refine g_iconst (v := (-1)) a11_sweep_9 rfl ?_
    refine g_icmp_ge (tgt := 20) a11_sweep_10 rfl (fun c23 => ?_) (fun c23 => ?_)
    · have h := (if_pos c23).symm.trans h
      refine g_aload_n a11_sweep_20 rfl ?_
      refine g_iload_n a11_sweep_21 rfl ?_
      obtain ⟨w4, hw4, h⟩ := bnd_inv h
      refine g_V1s (v1 := .inl w4.1) (σ1 := w4.2) a11_sweep_22 cv11_150 (E11_whenOf hw4) rfl (fun o5 => ?_)
      refine g_istore_n (L' := [some (.inr (.inr (11, k0))), some (.inl x1), some (.inl x2), some (.inl w4.1), none, none]) a11_sweep_25 (Nat.le_of_ble_eq_true rfl) rfl rfl ?_
      refine g_iconst (v := 0) a11_sweep_26 rfl ?_
      refine g_istore (L' := [some (.inr (.inr (11, k0))), some (.inl x1), some (.inl x2), some (.inl w4.1), some (.inl 0), none]) a11_sweep_27 (Nat.le_of_ble_eq_true rfl) rfl rfl ?_
      refine g_iload_n a11_sweep_29 rfl ?_
      refine g_iconst (v := (-1)) a11_sweep_30 rfl ?_
      obtain ⟨w6, hw6, h⟩ := lt_inv h
      have J7 : Go m11_sweep 46 [none, none, some (.inl x2), none, some (.inl 0), none] [.inl w6] w4.2 (some (.inl w.1) : Option AV) w.2 := by
        refine g_istore_n (L' := [none, none, some (.inl x2), some (.inl w6), some (.inl 0), none]) a11_sweep_46 (Nat.le_of_ble_eq_true rfl) rfl rfl ?_
        refine g_iconst (v := 0) a11_sweep_47 rfl ?_
        refine g_istore (L' := [none, none, some (.inl x2), some (.inl w6), some (.inl 0), some (.inl 0)]) a11_sweep_48 (Nat.le_of_ble_eq_true rfl) rfl rfl ?_
        obtain ⟨w18, hw18, h⟩ := bnd_inv h
        rcases w18 with u19 | u19
        · have h := sm_l h
          refine g_weak (lE11_sweep_50 x2 w6 w4.2 2000 _ _ hw18 (fun _ e => ?_) (fun _ e => by cases e)) ⟨rfl, rfl, rfl, rfl, trivial⟩
          cases e
          refine g_iload_n a11_sweep_109 rfl ?_
          refine g_iconst (v := (-1)) a11_sweep_110 rfl ?_
          refine g_icmp_ne (tgt := 119) a11_sweep_111 rfl (fun c20 => ?_) (fun c20 => ?_)
          · have h := (if_neg c20).symm.trans h
            refine g_bipush (v := (-5)) a11_sweep_119 rfl ?_
            have h := Option.some.inj h
            subst h
            exact g_retE a11_sweep_121 trivial rfl rfl
          · have h := (if_pos c20).symm.trans h
            refine g_iload a11_sweep_114 rfl ?_
            refine g_goto (tgt := 121) a11_sweep_116 rfl ?_
            have h := Option.some.inj h
            subst h
            exact g_retE a11_sweep_121 trivial rfl rfl
        · have h := sm_r h
          have h := Option.some.inj h
          subst h
          exact g_weak (lE11_sweep_50 x2 w6 w4.2 2000 _ _ hw18 (fun _ e => by cases e) (fun _ e => by cases e; exact ⟨rfl, rfl⟩)) ⟨rfl, rfl, rfl, rfl, trivial⟩
      clear h
      refine g_icmp_eq (tgt := 40) a11_sweep_31 rfl (fun c9 => ?_) (fun c9 => ?_)
      · have hw6 := (if_pos c9).symm.trans hw6
        refine g_bipush (v := 10) a11_sweep_40 rfl ?_
        refine g_goto (tgt := 46) a11_sweep_42 rfl ?_
        subst hw6
        exact g_weak J7 ⟨rfl, rfl, trivial⟩
      · have hw6 := (if_neg c9).symm.trans hw6
        refine g_iload_n a11_sweep_34 rfl ?_
        refine g_bipush (v := 10) a11_sweep_35 rfl ?_
        refine g_icmp_le (tgt := 45) a11_sweep_37 rfl (fun c8 => ?_) (fun c8 => ?_)
        · have hw6 := (if_pos c8).symm.trans hw6
          refine g_iload_n a11_sweep_45 rfl ?_
          subst hw6
          exact g_weak J7 ⟨rfl, rfl, trivial⟩
        · have hw6 := (if_neg c8).symm.trans hw6
          refine g_bipush (v := 10) a11_sweep_40 rfl ?_
          refine g_goto (tgt := 46) a11_sweep_42 rfl ?_
          subst hw6
          exact g_weak J7 ⟨rfl, rfl, trivial⟩
    · have h := (if_neg c23).symm.trans h
      refine g_aload_n a11_sweep_13 rfl ?_
      refine g_bipush (v := (-10)) a11_sweep_14 rfl ?_
      obtain ⟨w21, hw21, h⟩ := lt_inv h
      refine g_V1s (v1 := .inl w21.1) (σ1 := w21.2) a11_sweep_16 cv11_73 (by rw [← hw21]; exact E11_bad _ _ _) rfl (fun o22 => ?_)
      have h := Option.some.inj h
      subst h
      exact g_retE a11_sweep_19 trivial rfl rfl
theorem a11_fraction_0 : At cX11_fraction 0 (.lload_n 1) 1 1 := ⟨by decide +kernel, rfl⟩
theorem a11_fraction_1 : At cX11_fraction 1 (.lstore 5) 2 3 := ⟨by decide +kernel, rfl⟩
theorem a11_fraction_3 : At cX11_fraction 3 (.lload_n 3) 1 4 := ⟨by decide +kernel, rfl⟩
theorem a11_fraction_4 : At cX11_fraction 4 (.lstore 7) 2 6 := ⟨by decide +kernel, rfl⟩
theorem a11_fraction_6 : At cX11_fraction 6 (.lload 7) 2 8 := ⟨by decide +kernel, rfl⟩
theorem a11_fraction_8 : At cX11_fraction 8 (.lconst 0) 1 9 := ⟨by decide +kernel, rfl⟩
theorem a11_fraction_9 : At cX11_fraction 9 (.lcmp) 1 10 := ⟨by decide +kernel, rfl⟩
theorem a11_fraction_10 : At cX11_fraction 10 (.ifCond .eq 21) 3 13 := ⟨by decide +kernel, rfl⟩
theorem a11_fraction_13 : At cX11_fraction 13 (.lload 5) 2 15 := ⟨by decide +kernel, rfl⟩
theorem a11_fraction_15 : At cX11_fraction 15 (.lload 7) 2 17 := ⟨by decide +kernel, rfl⟩
theorem a11_fraction_17 : At cX11_fraction 17 (.lrem) 1 18 := ⟨by decide +kernel, rfl⟩
theorem a11_fraction_18 : At cX11_fraction 18 (.lstore 9) 2 20 := ⟨by decide +kernel, rfl⟩
theorem a11_fraction_20 : At cX11_fraction 20 (.lload 7) 2 22 := ⟨by decide +kernel, rfl⟩
theorem a11_fraction_22 : At cX11_fraction 22 (.lstore 5) 2 24 := ⟨by decide +kernel, rfl⟩
theorem a11_fraction_24 : At cX11_fraction 24 (.lload 9) 2 26 := ⟨by decide +kernel, rfl⟩
theorem a11_fraction_26 : At cX11_fraction 26 (.lstore 7) 2 28 := ⟨by decide +kernel, rfl⟩
theorem a11_fraction_28 : At cX11_fraction 28 (.goto (-22)) 3 31 := ⟨by decide +kernel, rfl⟩
theorem a11_fraction_31 : At cX11_fraction 31 (.aload_n 0) 1 32 := ⟨by decide +kernel, rfl⟩
theorem a11_fraction_32 : At cX11_fraction 32 (.lload_n 1) 1 33 := ⟨by decide +kernel, rfl⟩
theorem a11_fraction_33 : At cX11_fraction 33 (.lload 5) 2 35 := ⟨by decide +kernel, rfl⟩
theorem a11_fraction_35 : At cX11_fraction 35 (.ldiv) 1 36 := ⟨by decide +kernel, rfl⟩
theorem a11_fraction_36 : At cX11_fraction 36 (.putfield 192) 3 39 := ⟨by decide +kernel, rfl⟩
theorem a11_fraction_39 : At cX11_fraction 39 (.aload_n 0) 1 40 := ⟨by decide +kernel, rfl⟩
theorem a11_fraction_40 : At cX11_fraction 40 (.lload_n 3) 1 41 := ⟨by decide +kernel, rfl⟩
theorem a11_fraction_41 : At cX11_fraction 41 (.lload 5) 2 43 := ⟨by decide +kernel, rfl⟩
theorem a11_fraction_43 : At cX11_fraction 43 (.ldiv) 1 44 := ⟨by decide +kernel, rfl⟩
theorem a11_fraction_44 : At cX11_fraction 44 (.putfield 23) 3 47 := ⟨by decide +kernel, rfl⟩
theorem a11_fraction_47 : At cX11_fraction 47 (.return_) 1 48 := ⟨by decide +kernel, rfl⟩
def l11_fraction_6 (k0 : Nat) (x1 : Int64) (x3 : Int64) : Nat → Int64 → Int64 → Option (Int64 × Int64)
  | 0, _, _ => none
  | n + 1, x5, x7 =>
  if (lg_cmp x7 0) = 0 then
  (some (x5, x7))
  else
  (ck (decide (¬ x7 = 0)) <|
  l11_fraction_6 k0 x1 x3 n x7 (x5 - x5 / x7 * x7))
theorem lE11_fraction_6 {V : Option AV} {S : Mem} (k0 : Nat) (x1 : Int64) (x3 : Int64) {σ : Mem} : ∀ (n : Nat) (x5 : Int64) (x7 : Int64) {w : Int64 × Int64}, l11_fraction_6 k0 x1 x3 n x5 x7 = some w → (Go m11_fraction 31 [some (.inr (.inr (11, k0))), some (.inr (.inl x1)), none, some (.inr (.inl x3)), none, some (.inr (.inl w.1)), none, some (.inr (.inl w.2)), none, none, none] [] σ V S) → Go m11_fraction 6 [some (.inr (.inr (11, k0))), some (.inr (.inl x1)), none, some (.inr (.inl x3)), none, some (.inr (.inl x5)), none, some (.inr (.inl x7)), none, none, none] [] σ V S
  | 0, x5, x7, w, h, K1 => by cases h
  | n + 1, x5, x7, w, h, K1 => by
    rw [l11_fraction_6] at h
    refine g_lload a11_fraction_6 rfl ?_
    refine g_lconst (v := 0) a11_fraction_8 rfl ?_
    refine g_lcmp a11_fraction_9 ?_
    refine g_if_eq (tgt := 31) a11_fraction_10 rfl (fun c2 => ?_) (fun c2 => ?_)
    · have h := (if_pos c2).symm.trans h
      have h := Option.some.inj h
      subst h
      exact g_weak K1 ⟨rfl, rfl, rfl, rfl, rfl, trivial⟩
    · have h := (if_neg c2).symm.trans h
      refine g_lload a11_fraction_13 rfl ?_
      refine g_lload a11_fraction_15 rfl ?_
      obtain ⟨q1, h⟩ := ck_inv h
      refine g_lrem a11_fraction_17 (of_decide_eq_true q1) ?_
      refine g_lstore (L' := [some (.inr (.inr (11, k0))), some (.inr (.inl x1)), none, some (.inr (.inl x3)), none, some (.inr (.inl x5)), none, some (.inr (.inl x7)), none, some (.inr (.inl (x5 - x5 / x7 * x7))), none]) a11_fraction_18 (Nat.le_of_ble_eq_true rfl) rfl rfl ?_
      refine g_lload a11_fraction_20 rfl ?_
      refine g_lstore (L' := [some (.inr (.inr (11, k0))), some (.inr (.inl x1)), none, some (.inr (.inl x3)), none, some (.inr (.inl x7)), none, some (.inr (.inl x7)), none, some (.inr (.inl (x5 - x5 / x7 * x7))), none]) a11_fraction_22 (Nat.le_of_ble_eq_true rfl) rfl rfl ?_
      refine g_lload a11_fraction_24 rfl ?_
      refine g_lstore (L' := [some (.inr (.inr (11, k0))), some (.inr (.inl x1)), none, some (.inr (.inl x3)), none, some (.inr (.inl x7)), none, some (.inr (.inl (x5 - x5 / x7 * x7))), none, some (.inr (.inl (x5 - x5 / x7 * x7))), none]) a11_fraction_26 (Nat.le_of_ble_eq_true rfl) rfl rfl ?_
      refine g_goto (tgt := 6) a11_fraction_28 rfl ?_
      exact g_weak (lE11_fraction_6 (V := V) (S := S)  k0 x1 x3 n _ _ h K1) ⟨rfl, rfl, rfl, rfl, rfl, trivial⟩
def f11_fraction (k0 : Nat) (x1 : Int64) (x3 : Int64) (σ : Mem) : Option (Mem) :=
  bnd (l11_fraction_6 k0 x1 x3 2000 x1 x3) fun w3 =>
  ck (decide (¬ w3.1 = 0)) <|
  lt (sL σ 11 k0 4 (x1 / w3.1)) fun σ5 =>
  ck (decide (¬ w3.1 = 0)) <|
  lt (sL σ5 11 k0 5 (x3 / w3.1)) fun σ7 =>
  some σ7
theorem E11_fraction {k0 : Nat} {x1 : Int64} {x3 : Int64} {σ : Mem} {w : Mem} (h : f11_fraction k0 x1 x3 σ = some w) : Ev m11_fraction [.inr (.inr (11, k0)), .inr (.inl x1), .inr (.inl x3)] σ none w := by
  unfold f11_fraction at h
  show Go m11_fraction 0 [some (.inr (.inr (11, k0))), some (.inr (.inl x1)), none, some (.inr (.inl x3)), none, none, none, none, none, none, none] [] σ none w
  refine g_lload_n a11_fraction_0 rfl ?_
  refine g_lstore (L' := [some (.inr (.inr (11, k0))), some (.inr (.inl x1)), none, some (.inr (.inl x3)), none, some (.inr (.inl x1)), none, none, none, none, none]) a11_fraction_1 (Nat.le_of_ble_eq_true rfl) rfl rfl ?_
  refine g_lload_n a11_fraction_3 rfl ?_
  refine g_lstore (L' := [some (.inr (.inr (11, k0))), some (.inr (.inl x1)), none, some (.inr (.inl x3)), none, some (.inr (.inl x1)), none, some (.inr (.inl x3)), none, none, none]) a11_fraction_4 (Nat.le_of_ble_eq_true rfl) rfl rfl ?_
  obtain ⟨w3, hw3, h⟩ := bnd_inv h
  refine g_weak (lE11_fraction_6 k0 x1 x3 2000 _ _ hw3 ?_) ⟨rfl, rfl, rfl, rfl, rfl, trivial⟩
  refine g_aload_n a11_fraction_31 rfl ?_
  refine g_lload_n a11_fraction_32 rfl ?_
  refine g_lload a11_fraction_33 rfl ?_
  obtain ⟨q4, h⟩ := ck_inv h
  refine g_ldiv a11_fraction_35 (of_decide_eq_true q4) ?_
  obtain ⟨σ5, eσ5, h⟩ := lt_inv h
  refine g_putl a11_fraction_36 fs11_192 ps11_4 (fun _ _ _ => rfl) ?_
  rw [eσ5]
  refine g_aload_n a11_fraction_39 rfl ?_
  refine g_lload_n a11_fraction_40 rfl ?_
  refine g_lload a11_fraction_41 rfl ?_
  obtain ⟨q6, h⟩ := ck_inv h
  refine g_ldiv a11_fraction_43 (of_decide_eq_true q6) ?_
  obtain ⟨σ7, eσ7, h⟩ := lt_inv h
  refine g_putl a11_fraction_44 fs11_23 ps11_5 (fun _ _ _ => rfl) ?_
  rw [eσ7]
  have h := Option.some.inj h
  subst h
  exact g_retE a11_fraction_47 trivial rfl rfl
theorem a11_falls_0 : At cX11_falls 0 (.iload_n 1) 1 1 := ⟨by decide +kernel, rfl⟩
theorem a11_falls_1 : At cX11_falls 1 (.invokestatic 67) 3 4 := ⟨by decide +kernel, rfl⟩
theorem a11_falls_4 : At cX11_falls 4 (.ifCond .eq 15) 3 7 := ⟨by decide +kernel, rfl⟩
theorem a11_falls_7 : At cX11_falls 7 (.iload_n 2) 1 8 := ⟨by decide +kernel, rfl⟩
theorem a11_falls_8 : At cX11_falls 8 (.i2l) 1 9 := ⟨by decide +kernel, rfl⟩
theorem a11_falls_9 : At cX11_falls 9 (.lconst 0) 1 10 := ⟨by decide +kernel, rfl⟩
theorem a11_falls_10 : At cX11_falls 10 (.ldc2_w 195) 3 13 := ⟨by decide +kernel, rfl⟩
theorem a11_falls_13 : At cX11_falls 13 (.invokestatic 59) 3 16 := ⟨by decide +kernel, rfl⟩
theorem a11_falls_16 : At cX11_falls 16 (.ifCond .ne 10) 3 19 := ⟨by decide +kernel, rfl⟩
theorem a11_falls_19 : At cX11_falls 19 (.aload_n 0) 1 20 := ⟨by decide +kernel, rfl⟩
theorem a11_falls_20 : At cX11_falls 20 (.bipush (-2)) 2 22 := ⟨by decide +kernel, rfl⟩
theorem a11_falls_22 : At cX11_falls 22 (.invokevirtual 73) 3 25 := ⟨by decide +kernel, rfl⟩
theorem a11_falls_25 : At cX11_falls 25 (.ireturn) 1 26 := ⟨by decide +kernel, rfl⟩
theorem a11_falls_26 : At cX11_falls 26 (.lconst 0) 1 27 := ⟨by decide +kernel, rfl⟩
theorem a11_falls_27 : At cX11_falls 27 (.lstore_n 3) 1 28 := ⟨by decide +kernel, rfl⟩
theorem a11_falls_28 : At cX11_falls 28 (.lconst 1) 1 29 := ⟨by decide +kernel, rfl⟩
theorem a11_falls_29 : At cX11_falls 29 (.lstore 5) 2 31 := ⟨by decide +kernel, rfl⟩
theorem a11_falls_31 : At cX11_falls 31 (.iconst 0) 1 32 := ⟨by decide +kernel, rfl⟩
theorem a11_falls_32 : At cX11_falls 32 (.istore 7) 2 34 := ⟨by decide +kernel, rfl⟩
theorem a11_falls_34 : At cX11_falls 34 (.iload 7) 2 36 := ⟨by decide +kernel, rfl⟩
theorem a11_falls_36 : At cX11_falls 36 (.aload_n 0) 1 37 := ⟨by decide +kernel, rfl⟩
theorem a11_falls_37 : At cX11_falls 37 (.getfield 7) 3 40 := ⟨by decide +kernel, rfl⟩
theorem a11_falls_40 : At cX11_falls 40 (.bipush 6) 2 42 := ⟨by decide +kernel, rfl⟩
theorem a11_falls_42 : At cX11_falls 42 (.iaload) 1 43 := ⟨by decide +kernel, rfl⟩
theorem a11_falls_43 : At cX11_falls 43 (.invokestatic 105) 3 46 := ⟨by decide +kernel, rfl⟩
theorem a11_falls_46 : At cX11_falls 46 (.if_icmp .ge 17) 3 49 := ⟨by decide +kernel, rfl⟩
theorem a11_falls_49 : At cX11_falls 49 (.lload 5) 2 51 := ⟨by decide +kernel, rfl⟩
theorem a11_falls_51 : At cX11_falls 51 (.ldc2_w 195) 3 54 := ⟨by decide +kernel, rfl⟩
theorem a11_falls_54 : At cX11_falls 54 (.lmul) 1 55 := ⟨by decide +kernel, rfl⟩
theorem a11_falls_55 : At cX11_falls 55 (.lstore 5) 2 57 := ⟨by decide +kernel, rfl⟩
theorem a11_falls_57 : At cX11_falls 57 (.iinc 7 1) 3 60 := ⟨by decide +kernel, rfl⟩
theorem a11_falls_60 : At cX11_falls 60 (.goto (-26)) 3 63 := ⟨by decide +kernel, rfl⟩
theorem a11_falls_63 : At cX11_falls 63 (.iconst 0) 1 64 := ⟨by decide +kernel, rfl⟩
theorem a11_falls_64 : At cX11_falls 64 (.istore 7) 2 66 := ⟨by decide +kernel, rfl⟩
theorem a11_falls_66 : At cX11_falls 66 (.iload 7) 2 68 := ⟨by decide +kernel, rfl⟩
theorem a11_falls_68 : At cX11_falls 68 (.iconst 1) 1 69 := ⟨by decide +kernel, rfl⟩
theorem a11_falls_69 : At cX11_falls 69 (.aload_n 0) 1 70 := ⟨by decide +kernel, rfl⟩
theorem a11_falls_70 : At cX11_falls 70 (.invokevirtual 55) 3 73 := ⟨by decide +kernel, rfl⟩
theorem a11_falls_73 : At cX11_falls 73 (.ishl) 1 74 := ⟨by decide +kernel, rfl⟩
theorem a11_falls_74 : At cX11_falls 74 (.if_icmp .ge 115) 3 77 := ⟨by decide +kernel, rfl⟩
theorem a11_falls_77 : At cX11_falls 77 (.iload 7) 2 79 := ⟨by decide +kernel, rfl⟩
theorem a11_falls_79 : At cX11_falls 79 (.aload_n 0) 1 80 := ⟨by decide +kernel, rfl⟩
theorem a11_falls_80 : At cX11_falls 80 (.getfield 7) 3 83 := ⟨by decide +kernel, rfl⟩
theorem a11_falls_83 : At cX11_falls 83 (.bipush 6) 2 85 := ⟨by decide +kernel, rfl⟩
theorem a11_falls_85 : At cX11_falls 85 (.iaload) 1 86 := ⟨by decide +kernel, rfl⟩
theorem a11_falls_86 : At cX11_falls 86 (.iconst (-1)) 1 87 := ⟨by decide +kernel, rfl⟩
theorem a11_falls_87 : At cX11_falls 87 (.ixor) 1 88 := ⟨by decide +kernel, rfl⟩
theorem a11_falls_88 : At cX11_falls 88 (.iand) 1 89 := ⟨by decide +kernel, rfl⟩
theorem a11_falls_89 : At cX11_falls 89 (.ifCond .ne 7) 3 92 := ⟨by decide +kernel, rfl⟩
theorem a11_falls_92 : At cX11_falls 92 (.lconst 1) 1 93 := ⟨by decide +kernel, rfl⟩
theorem a11_falls_93 : At cX11_falls 93 (.goto 4) 3 96 := ⟨by decide +kernel, rfl⟩
theorem a11_falls_96 : At cX11_falls 96 (.lconst 0) 1 97 := ⟨by decide +kernel, rfl⟩
theorem a11_falls_97 : At cX11_falls 97 (.lstore 8) 2 99 := ⟨by decide +kernel, rfl⟩
theorem a11_falls_99 : At cX11_falls 99 (.iconst 0) 1 100 := ⟨by decide +kernel, rfl⟩
theorem a11_falls_100 : At cX11_falls 100 (.istore 10) 2 102 := ⟨by decide +kernel, rfl⟩
theorem a11_falls_102 : At cX11_falls 102 (.iload 10) 2 104 := ⟨by decide +kernel, rfl⟩
theorem a11_falls_104 : At cX11_falls 104 (.aload_n 0) 1 105 := ⟨by decide +kernel, rfl⟩
theorem a11_falls_105 : At cX11_falls 105 (.invokevirtual 55) 3 108 := ⟨by decide +kernel, rfl⟩
theorem a11_falls_108 : At cX11_falls 108 (.if_icmp .ge 53) 3 111 := ⟨by decide +kernel, rfl⟩
theorem a11_falls_111 : At cX11_falls 111 (.lload 8) 2 113 := ⟨by decide +kernel, rfl⟩
theorem a11_falls_113 : At cX11_falls 113 (.aload_n 0) 1 114 := ⟨by decide +kernel, rfl⟩
theorem a11_falls_114 : At cX11_falls 114 (.getfield 7) 3 117 := ⟨by decide +kernel, rfl⟩
theorem a11_falls_117 : At cX11_falls 117 (.bipush 6) 2 119 := ⟨by decide +kernel, rfl⟩
theorem a11_falls_119 : At cX11_falls 119 (.iaload) 1 120 := ⟨by decide +kernel, rfl⟩
theorem a11_falls_120 : At cX11_falls 120 (.iload 10) 2 122 := ⟨by decide +kernel, rfl⟩
theorem a11_falls_122 : At cX11_falls 122 (.invokestatic 93) 3 125 := ⟨by decide +kernel, rfl⟩
theorem a11_falls_125 : At cX11_falls 125 (.ifCond .ne 7) 3 128 := ⟨by decide +kernel, rfl⟩
theorem a11_falls_128 : At cX11_falls 128 (.lconst 1) 1 129 := ⟨by decide +kernel, rfl⟩
theorem a11_falls_129 : At cX11_falls 129 (.goto 23) 3 132 := ⟨by decide +kernel, rfl⟩
theorem a11_falls_132 : At cX11_falls 132 (.iload 7) 2 134 := ⟨by decide +kernel, rfl⟩
theorem a11_falls_134 : At cX11_falls 134 (.iload 10) 2 136 := ⟨by decide +kernel, rfl⟩
theorem a11_falls_136 : At cX11_falls 136 (.invokestatic 93) 3 139 := ⟨by decide +kernel, rfl⟩
theorem a11_falls_139 : At cX11_falls 139 (.ifCond .eq 11) 3 142 := ⟨by decide +kernel, rfl⟩
theorem a11_falls_142 : At cX11_falls 142 (.bipush 10) 2 144 := ⟨by decide +kernel, rfl⟩
theorem a11_falls_144 : At cX11_falls 144 (.iload_n 2) 1 145 := ⟨by decide +kernel, rfl⟩
theorem a11_falls_145 : At cX11_falls 145 (.isub) 1 146 := ⟨by decide +kernel, rfl⟩
theorem a11_falls_146 : At cX11_falls 146 (.i2l) 1 147 := ⟨by decide +kernel, rfl⟩
theorem a11_falls_147 : At cX11_falls 147 (.goto 5) 3 150 := ⟨by decide +kernel, rfl⟩
theorem a11_falls_150 : At cX11_falls 150 (.iload_n 2) 1 151 := ⟨by decide +kernel, rfl⟩
theorem a11_falls_151 : At cX11_falls 151 (.i2l) 1 152 := ⟨by decide +kernel, rfl⟩
theorem a11_falls_152 : At cX11_falls 152 (.lmul) 1 153 := ⟨by decide +kernel, rfl⟩
theorem a11_falls_153 : At cX11_falls 153 (.lstore 8) 2 155 := ⟨by decide +kernel, rfl⟩
theorem a11_falls_155 : At cX11_falls 155 (.iinc 10 1) 3 158 := ⟨by decide +kernel, rfl⟩
theorem a11_falls_158 : At cX11_falls 158 (.goto (-56)) 3 161 := ⟨by decide +kernel, rfl⟩
theorem a11_falls_161 : At cX11_falls 161 (.lload_n 3) 1 162 := ⟨by decide +kernel, rfl⟩
theorem a11_falls_162 : At cX11_falls 162 (.aload_n 0) 1 163 := ⟨by decide +kernel, rfl⟩
theorem a11_falls_163 : At cX11_falls 163 (.getfield 7) 3 166 := ⟨by decide +kernel, rfl⟩
theorem a11_falls_166 : At cX11_falls 166 (.iload 7) 2 168 := ⟨by decide +kernel, rfl⟩
theorem a11_falls_168 : At cX11_falls 168 (.iload_n 1) 1 169 := ⟨by decide +kernel, rfl⟩
theorem a11_falls_169 : At cX11_falls 169 (.invokestatic 112) 3 172 := ⟨by decide +kernel, rfl⟩
theorem a11_falls_172 : At cX11_falls 172 (.ifCond .ne 8) 3 175 := ⟨by decide +kernel, rfl⟩
theorem a11_falls_175 : At cX11_falls 175 (.lload 8) 2 177 := ⟨by decide +kernel, rfl⟩
theorem a11_falls_177 : At cX11_falls 177 (.goto 4) 3 180 := ⟨by decide +kernel, rfl⟩
theorem a11_falls_180 : At cX11_falls 180 (.lconst 0) 1 181 := ⟨by decide +kernel, rfl⟩
theorem a11_falls_181 : At cX11_falls 181 (.ladd) 1 182 := ⟨by decide +kernel, rfl⟩
theorem a11_falls_182 : At cX11_falls 182 (.lstore_n 3) 1 183 := ⟨by decide +kernel, rfl⟩
theorem a11_falls_183 : At cX11_falls 183 (.iinc 7 1) 3 186 := ⟨by decide +kernel, rfl⟩
theorem a11_falls_186 : At cX11_falls 186 (.goto (-120)) 3 189 := ⟨by decide +kernel, rfl⟩
theorem a11_falls_189 : At cX11_falls 189 (.aload_n 0) 1 190 := ⟨by decide +kernel, rfl⟩
theorem a11_falls_190 : At cX11_falls 190 (.lload_n 3) 1 191 := ⟨by decide +kernel, rfl⟩
theorem a11_falls_191 : At cX11_falls 191 (.lload 5) 2 193 := ⟨by decide +kernel, rfl⟩
theorem a11_falls_193 : At cX11_falls 193 (.invokevirtual 197) 3 196 := ⟨by decide +kernel, rfl⟩
theorem a11_falls_196 : At cX11_falls 196 (.iconst 1) 1 197 := ⟨by decide +kernel, rfl⟩
theorem a11_falls_197 : At cX11_falls 197 (.ireturn) 1 198 := ⟨by decide +kernel, rfl⟩
def l11_falls_34 (k0 : Nat) (x1 : Int32) (x2 : Int32) (x3 : Int64) (σ : Mem) : Nat → Int64 → Int32 → Option (Int64 × Int32)
  | 0, _, _ => none
  | n + 1, x5, x7 =>
  bnd (f11_bits (σ.1 22 0 6)) fun w7 =>
  if w7 ≤ x7 then
  (some (x5, x7))
  else
  (l11_falls_34 k0 x1 x2 x3 σ n (x5 * 10) (x7 + 1))
theorem lE11_falls_34 {V : Option AV} {S : Mem} (k0 : Nat) (x1 : Int32) (x2 : Int32) (x3 : Int64) (σ : Mem) : ∀ (n : Nat) (x5 : Int64) (x7 : Int32) {w : Int64 × Int32}, l11_falls_34 k0 x1 x2 x3 σ n x5 x7 = some w → (Go m11_falls 63 [some (.inr (.inr (11, k0))), some (.inl x1), some (.inl x2), some (.inr (.inl x3)), none, some (.inr (.inl w.1)), none, some (.inl w.2), none, none, none] [] σ V S) → Go m11_falls 34 [some (.inr (.inr (11, k0))), some (.inl x1), some (.inl x2), some (.inr (.inl x3)), none, some (.inr (.inl x5)), none, some (.inl x7), none, none, none] [] σ V S
  | 0, x5, x7, w, h, K1 => by cases h
  | n + 1, x5, x7, w, h, K1 => by
    rw [l11_falls_34] at h
    refine g_iload a11_falls_34 rfl ?_
    refine g_aload_n a11_falls_36 rfl ?_
    refine g_getf (v := .inr (.inr (22, 0))) a11_falls_37 fs11_7 rfl ?_
    refine g_bipush (v := 6) a11_falls_40 rfl ?_
    refine g_iald (x := (σ.1 22 0 6)) a11_falls_42 (rI22 (by decide)) (inb_ok (by decide)) rfl ?_
    obtain ⟨w7, hw7, h⟩ := bnd_inv h
    refine g_S1s (v1 := .inl w7) (σ1 := σ) a11_falls_43 cs11_105 (E11_bits hw7) rfl (fun o8 => ?_)
    refine g_icmp_ge (tgt := 63) a11_falls_46 rfl (fun c9 => ?_) (fun c9 => ?_)
    · have h := (if_pos c9).symm.trans h
      have h := Option.some.inj h
      subst h
      exact g_weak K1 ⟨rfl, rfl, rfl, rfl, rfl, rfl, trivial⟩
    · have h := (if_neg c9).symm.trans h
      refine g_lload a11_falls_49 rfl ?_
      refine g_ldc2 (v := 10) a11_falls_51 wl11_195 ?_
      refine g_lmul a11_falls_54 ?_
      refine g_lstore (L' := [some (.inr (.inr (11, k0))), some (.inl x1), some (.inl x2), some (.inr (.inl x3)), none, some (.inr (.inl (x5 * 10))), none, some (.inl x7), none, none, none]) a11_falls_55 (Nat.le_of_ble_eq_true rfl) rfl rfl ?_
      refine g_iinc (v := (x7 + 1)) (L' := [some (.inr (.inr (11, k0))), some (.inl x1), some (.inl x2), some (.inr (.inl x3)), none, some (.inr (.inl (x5 * 10))), none, some (.inl (x7 + 1)), none, none, none]) a11_falls_57 rfl rfl (Nat.le_of_ble_eq_true rfl) rfl rfl ?_
      refine g_goto (tgt := 34) a11_falls_60 rfl ?_
      exact g_weak (lE11_falls_34 (V := V) (S := S)  k0 x1 x2 x3 σ n _ _ h K1) ⟨rfl, rfl, rfl, rfl, rfl, rfl, trivial⟩
def l11_falls_102 (k0 : Nat) (x1 : Int32) (x2 : Int32) (x3 : Int64) (x5 : Int64) (x7 : Int32) (σ : Mem) : Nat → Int64 → Int32 → Option (Int64 × Int32)
  | 0, _, _ => none
  | n + 1, x8, x10 =>
  if (f11_many k0 σ) ≤ x10 then
  (some (x8, x10))
  else
  (lt (if (f11_has (σ.1 22 0 6) x10) = 0 then
  (1)
  else
  (if (f11_has x7 x10) = 0 then
  ((x2.toInt64))
  else
  ((((10 - x2) : Int32).toInt64))) : Int64) fun w17 =>
  l11_falls_102 k0 x1 x2 x3 x5 x7 σ n (x8 * w17) (x10 + 1))
theorem lE11_falls_102 {V : Option AV} {S : Mem} (k0 : Nat) (x1 : Int32) (x2 : Int32) (x3 : Int64) (x5 : Int64) (x7 : Int32) (σ : Mem) : ∀ (n : Nat) (x8 : Int64) (x10 : Int32) {w : Int64 × Int32}, l11_falls_102 k0 x1 x2 x3 x5 x7 σ n x8 x10 = some w → (Go m11_falls 161 [some (.inr (.inr (11, k0))), some (.inl x1), some (.inl x2), some (.inr (.inl x3)), none, some (.inr (.inl x5)), none, some (.inl x7), some (.inr (.inl w.1)), none, some (.inl w.2)] [] σ V S) → Go m11_falls 102 [some (.inr (.inr (11, k0))), some (.inl x1), some (.inl x2), some (.inr (.inl x3)), none, some (.inr (.inl x5)), none, some (.inl x7), some (.inr (.inl x8)), none, some (.inl x10)] [] σ V S
  | 0, x8, x10, w, h, K1 => by cases h
  | n + 1, x8, x10, w, h, K1 => by
    rw [l11_falls_102] at h
    refine g_iload a11_falls_102 rfl ?_
    refine g_aload_n a11_falls_104 rfl ?_
    refine g_V0s (v1 := .inl (f11_many k0 σ)) (σ1 := σ) a11_falls_105 cv11_55 (E11_many _ _) rfl (fun o15 => ?_)
    refine g_icmp_ge (tgt := 161) a11_falls_108 rfl (fun c22 => ?_) (fun c22 => ?_)
    · have h := (if_pos c22).symm.trans h
      have h := Option.some.inj h
      subst h
      exact g_weak K1 ⟨rfl, rfl, rfl, rfl, rfl, rfl, rfl, rfl, trivial⟩
    · have h := (if_neg c22).symm.trans h
      refine g_lload a11_falls_111 rfl ?_
      refine g_aload_n a11_falls_113 rfl ?_
      refine g_getf (v := .inr (.inr (22, 0))) a11_falls_114 fs11_7 rfl ?_
      refine g_bipush (v := 6) a11_falls_117 rfl ?_
      refine g_iald (x := (σ.1 22 0 6)) a11_falls_119 (rI22 (by decide)) (inb_ok (by decide)) rfl ?_
      refine g_iload a11_falls_120 rfl ?_
      refine g_S2s (v1 := .inl (f11_has (σ.1 22 0 6) x10)) (σ1 := σ) a11_falls_122 cs11_93 (E11_has _ _ _) rfl (fun o16 => ?_)
      obtain ⟨w17, hw17, h⟩ := lt_inv h
      have J18 : Go m11_falls 152 [some (.inr (.inr (11, k0))), some (.inl x1), some (.inl x2), some (.inr (.inl x3)), none, some (.inr (.inl x5)), none, some (.inl x7), none, none, some (.inl x10)] [.inr (.inl w17), .inr (.inl x8)] σ V S := by
        refine g_lmul a11_falls_152 ?_
        refine g_lstore (L' := [some (.inr (.inr (11, k0))), some (.inl x1), some (.inl x2), some (.inr (.inl x3)), none, some (.inr (.inl x5)), none, some (.inl x7), some (.inr (.inl (x8 * w17))), none, some (.inl x10)]) a11_falls_153 (Nat.le_of_ble_eq_true rfl) rfl rfl ?_
        refine g_iinc (v := (x10 + 1)) (L' := [some (.inr (.inr (11, k0))), some (.inl x1), some (.inl x2), some (.inr (.inl x3)), none, some (.inr (.inl x5)), none, some (.inl x7), some (.inr (.inl (x8 * w17))), none, some (.inl (x10 + 1))]) a11_falls_155 rfl rfl (Nat.le_of_ble_eq_true rfl) rfl rfl ?_
        refine g_goto (tgt := 102) a11_falls_158 rfl ?_
        exact g_weak (lE11_falls_102 (V := V) (S := S)  k0 x1 x2 x3 x5 x7 σ n _ _ h K1) ⟨rfl, rfl, rfl, rfl, rfl, rfl, rfl, rfl, trivial⟩
      clear h
      refine g_if_ne (tgt := 132) a11_falls_125 rfl (fun c21 => ?_) (fun c21 => ?_)
      · have hw17 := (if_neg c21).symm.trans hw17
        refine g_iload a11_falls_132 rfl ?_
        refine g_iload a11_falls_134 rfl ?_
        refine g_S2s (v1 := .inl (f11_has x7 x10)) (σ1 := σ) a11_falls_136 cs11_93 (E11_has _ _ _) rfl (fun o19 => ?_)
        refine g_if_eq (tgt := 150) a11_falls_139 rfl (fun c20 => ?_) (fun c20 => ?_)
        · have hw17 := (if_pos c20).symm.trans hw17
          refine g_iload_n a11_falls_150 rfl ?_
          refine g_i2l a11_falls_151 ?_
          subst hw17
          exact g_weak J18 ⟨rfl, rfl, rfl, rfl, rfl, rfl, rfl, trivial⟩
        · have hw17 := (if_neg c20).symm.trans hw17
          refine g_bipush (v := 10) a11_falls_142 rfl ?_
          refine g_iload_n a11_falls_144 rfl ?_
          refine g_isub a11_falls_145 ?_
          refine g_i2l a11_falls_146 ?_
          refine g_goto (tgt := 152) a11_falls_147 rfl ?_
          subst hw17
          exact g_weak J18 ⟨rfl, rfl, rfl, rfl, rfl, rfl, rfl, trivial⟩
      · have hw17 := (if_pos c21).symm.trans hw17
        refine g_lconst (v := 1) a11_falls_128 rfl ?_
        refine g_goto (tgt := 152) a11_falls_129 rfl ?_
        subst hw17
        exact g_weak J18 ⟨rfl, rfl, rfl, rfl, rfl, rfl, rfl, trivial⟩
def l11_falls_66 (k0 : Nat) (x1 : Int32) (x2 : Int32) (x5 : Int64) (σ : Mem) : Nat → Int64 → Int32 → Option (Int64 × Int32)
  | 0, _, _ => none
  | n + 1, x3, x7 =>
  if (1 <<< ((f11_many k0 σ) &&& 31)) ≤ x7 then
  (some (x3, x7))
  else
  (lt (if (x7 &&& ((σ.1 22 0 6) ^^^ (-1))) = 0 then
  (1)
  else
  (0) : Int64) fun w12 =>
  bnd (l11_falls_102 k0 x1 x2 x3 x5 x7 σ 2000 w12 0) fun w23 =>
  bnd (f11_struckOf 0 x7 x1 σ) fun w24 =>
  lt (if w24 = 0 then
  (w23.1)
  else
  (0) : Int64) fun w26 =>
  l11_falls_66 k0 x1 x2 x5 σ n (x3 + w26) (x7 + 1))
theorem lE11_falls_66 {V : Option AV} {S : Mem} (k0 : Nat) (x1 : Int32) (x2 : Int32) (x5 : Int64) (σ : Mem) : ∀ (n : Nat) (x3 : Int64) (x7 : Int32) {w : Int64 × Int32}, l11_falls_66 k0 x1 x2 x5 σ n x3 x7 = some w → (Go m11_falls 189 [some (.inr (.inr (11, k0))), some (.inl x1), some (.inl x2), some (.inr (.inl w.1)), none, some (.inr (.inl x5)), none, some (.inl w.2), none, none, none] [] σ V S) → Go m11_falls 66 [some (.inr (.inr (11, k0))), some (.inl x1), some (.inl x2), some (.inr (.inl x3)), none, some (.inr (.inl x5)), none, some (.inl x7), none, none, none] [] σ V S
  | 0, x3, x7, w, h, K1 => by cases h
  | n + 1, x3, x7, w, h, K1 => by
    rw [l11_falls_66] at h
    refine g_iload a11_falls_66 rfl ?_
    refine g_iconst (v := 1) a11_falls_68 rfl ?_
    refine g_aload_n a11_falls_69 rfl ?_
    refine g_V0s (v1 := .inl (f11_many k0 σ)) (σ1 := σ) a11_falls_70 cv11_55 (E11_many _ _) rfl (fun o11 => ?_)
    refine g_ishl a11_falls_73 ?_
    refine g_icmp_ge (tgt := 189) a11_falls_74 rfl (fun c29 => ?_) (fun c29 => ?_)
    · have h := (if_pos c29).symm.trans h
      have h := Option.some.inj h
      subst h
      exact g_weak K1 ⟨rfl, rfl, rfl, rfl, rfl, rfl, trivial⟩
    · have h := (if_neg c29).symm.trans h
      refine g_iload a11_falls_77 rfl ?_
      refine g_aload_n a11_falls_79 rfl ?_
      refine g_getf (v := .inr (.inr (22, 0))) a11_falls_80 fs11_7 rfl ?_
      refine g_bipush (v := 6) a11_falls_83 rfl ?_
      refine g_iald (x := (σ.1 22 0 6)) a11_falls_85 (rI22 (by decide)) (inb_ok (by decide)) rfl ?_
      refine g_iconst (v := (-1)) a11_falls_86 rfl ?_
      refine g_ixor a11_falls_87 ?_
      refine g_iand a11_falls_88 ?_
      obtain ⟨w12, hw12, h⟩ := lt_inv h
      have J13 : Go m11_falls 97 [some (.inr (.inr (11, k0))), some (.inl x1), some (.inl x2), some (.inr (.inl x3)), none, some (.inr (.inl x5)), none, some (.inl x7), none, none, none] [.inr (.inl w12)] σ V S := by
        refine g_lstore (L' := [some (.inr (.inr (11, k0))), some (.inl x1), some (.inl x2), some (.inr (.inl x3)), none, some (.inr (.inl x5)), none, some (.inl x7), some (.inr (.inl w12)), none, none]) a11_falls_97 (Nat.le_of_ble_eq_true rfl) rfl rfl ?_
        refine g_iconst (v := 0) a11_falls_99 rfl ?_
        refine g_istore (L' := [some (.inr (.inr (11, k0))), some (.inl x1), some (.inl x2), some (.inr (.inl x3)), none, some (.inr (.inl x5)), none, some (.inl x7), some (.inr (.inl w12)), none, some (.inl 0)]) a11_falls_100 (Nat.le_of_ble_eq_true rfl) rfl rfl ?_
        obtain ⟨w23, hw23, h⟩ := bnd_inv h
        refine g_weak (lE11_falls_102 k0 x1 x2 x3 x5 x7 σ 2000 _ _ hw23 ?_) ⟨rfl, rfl, rfl, rfl, rfl, rfl, rfl, rfl, trivial⟩
        refine g_lload_n a11_falls_161 rfl ?_
        refine g_aload_n a11_falls_162 rfl ?_
        refine g_getf (v := .inr (.inr (22, 0))) a11_falls_163 fs11_7 rfl ?_
        refine g_iload a11_falls_166 rfl ?_
        refine g_iload_n a11_falls_168 rfl ?_
        obtain ⟨w24, hw24, h⟩ := bnd_inv h
        refine g_S3s (v1 := .inl w24) (σ1 := σ) a11_falls_169 cs11_112 (E11_struckOf hw24) rfl (fun o25 => ?_)
        obtain ⟨w26, hw26, h⟩ := lt_inv h
        have J27 : Go m11_falls 181 [some (.inr (.inr (11, k0))), some (.inl x1), some (.inl x2), none, none, some (.inr (.inl x5)), none, some (.inl x7), none, none, none] [.inr (.inl w26), .inr (.inl x3)] σ V S := by
          refine g_ladd a11_falls_181 ?_
          refine g_lstore_n (L' := [some (.inr (.inr (11, k0))), some (.inl x1), some (.inl x2), some (.inr (.inl (x3 + w26))), none, some (.inr (.inl x5)), none, some (.inl x7), none, none, none]) a11_falls_182 (Nat.le_of_ble_eq_true rfl) rfl rfl ?_
          refine g_iinc (v := (x7 + 1)) (L' := [some (.inr (.inr (11, k0))), some (.inl x1), some (.inl x2), some (.inr (.inl (x3 + w26))), none, some (.inr (.inl x5)), none, some (.inl (x7 + 1)), none, none, none]) a11_falls_183 rfl rfl (Nat.le_of_ble_eq_true rfl) rfl rfl ?_
          refine g_goto (tgt := 66) a11_falls_186 rfl ?_
          exact g_weak (lE11_falls_66 (V := V) (S := S)  k0 x1 x2 x5 σ n _ _ h K1) ⟨rfl, rfl, rfl, rfl, rfl, rfl, trivial⟩
        clear h
        refine g_if_ne (tgt := 180) a11_falls_172 rfl (fun c28 => ?_) (fun c28 => ?_)
        · have hw26 := (if_neg c28).symm.trans hw26
          refine g_lconst (v := 0) a11_falls_180 rfl ?_
          subst hw26
          exact g_weak J27 ⟨rfl, rfl, rfl, rfl, rfl, trivial⟩
        · have hw26 := (if_pos c28).symm.trans hw26
          refine g_lload a11_falls_175 rfl ?_
          refine g_goto (tgt := 181) a11_falls_177 rfl ?_
          subst hw26
          exact g_weak J27 ⟨rfl, rfl, rfl, rfl, rfl, trivial⟩
      clear h
      refine g_if_ne (tgt := 96) a11_falls_89 rfl (fun c14 => ?_) (fun c14 => ?_)
      · have hw12 := (if_neg c14).symm.trans hw12
        refine g_lconst (v := 0) a11_falls_96 rfl ?_
        subst hw12
        exact J13
      · have hw12 := (if_pos c14).symm.trans hw12
        refine g_lconst (v := 1) a11_falls_92 rfl ?_
        refine g_goto (tgt := 97) a11_falls_93 rfl ?_
        subst hw12
        exact J13
def f11_falls (k0 : Nat) (x1 : Int32) (x2 : Int32) (σ : Mem) : Option (Int32 × Mem) :=
  if (f11_isCell x1) = 0 then
  (lt (f11_bad k0 (-2) σ) fun w2 =>
  some (w2.1, w2.2))
  else
  (if (f11_in (x2.toInt64) 0 10) = 0 then
  (lt (f11_bad k0 (-2) σ) fun w5 =>
  some (w5.1, w5.2))
  else
  (bnd (l11_falls_34 k0 x1 x2 0 σ 2000 1 0) fun w10 =>
  bnd (l11_falls_66 k0 x1 x2 w10.1 σ 2000 0 0) fun w30 =>
  bnd (f11_fraction k0 w30.1 w10.1 σ) fun w31 =>
  some (1, w31)))
theorem E11_falls {k0 : Nat} {x1 : Int32} {x2 : Int32} {σ : Mem} {w : Int32 × Mem} (h : f11_falls k0 x1 x2 σ = some w) : Ev m11_falls [.inr (.inr (11, k0)), .inl x1, .inl x2] σ (some (.inl w.1) : Option AV) w.2 := by
  unfold f11_falls at h
  show Go m11_falls 0 [some (.inr (.inr (11, k0))), some (.inl x1), some (.inl x2), none, none, none, none, none, none, none, none] [] σ (some (.inl w.1) : Option AV) w.2
  refine g_iload_n a11_falls_0 rfl ?_
  refine g_S1s (v1 := .inl (f11_isCell x1)) (σ1 := σ) a11_falls_1 cs11_67 (E11_isCell _ _) rfl (fun o1 => ?_)
  refine g_if_eq (tgt := 19) a11_falls_4 rfl (fun c34 => ?_) (fun c34 => ?_)
  · have h := (if_pos c34).symm.trans h
    refine g_aload_n a11_falls_19 rfl ?_
    refine g_bipush (v := (-2)) a11_falls_20 rfl ?_
    obtain ⟨w2, hw2, h⟩ := lt_inv h
    refine g_V1s (v1 := .inl w2.1) (σ1 := w2.2) a11_falls_22 cv11_73 (by rw [← hw2]; exact E11_bad _ _ _) rfl (fun o3 => ?_)
    have h := Option.some.inj h
    subst h
    exact g_retE a11_falls_25 trivial rfl rfl
  · have h := (if_neg c34).symm.trans h
    refine g_iload_n a11_falls_7 rfl ?_
    refine g_i2l a11_falls_8 ?_
    refine g_lconst (v := 0) a11_falls_9 rfl ?_
    refine g_ldc2 (v := 10) a11_falls_10 wl11_195 ?_
    refine g_S3s (v1 := .inl (f11_in (x2.toInt64) 0 10)) (σ1 := σ) a11_falls_13 cs11_59 (E11_in _ _ _ _) rfl (fun o4 => ?_)
    refine g_if_ne (tgt := 26) a11_falls_16 rfl (fun c33 => ?_) (fun c33 => ?_)
    · have h := (if_neg c33).symm.trans h
      refine g_lconst (v := 0) a11_falls_26 rfl ?_
      refine g_lstore_n (L' := [some (.inr (.inr (11, k0))), some (.inl x1), some (.inl x2), some (.inr (.inl 0)), none, none, none, none, none, none, none]) a11_falls_27 (Nat.le_of_ble_eq_true rfl) rfl rfl ?_
      refine g_lconst (v := 1) a11_falls_28 rfl ?_
      refine g_lstore (L' := [some (.inr (.inr (11, k0))), some (.inl x1), some (.inl x2), some (.inr (.inl 0)), none, some (.inr (.inl 1)), none, none, none, none, none]) a11_falls_29 (Nat.le_of_ble_eq_true rfl) rfl rfl ?_
      refine g_iconst (v := 0) a11_falls_31 rfl ?_
      refine g_istore (L' := [some (.inr (.inr (11, k0))), some (.inl x1), some (.inl x2), some (.inr (.inl 0)), none, some (.inr (.inl 1)), none, some (.inl 0), none, none, none]) a11_falls_32 (Nat.le_of_ble_eq_true rfl) rfl rfl ?_
      obtain ⟨w10, hw10, h⟩ := bnd_inv h
      refine g_weak (lE11_falls_34 k0 x1 x2 0 σ 2000 _ _ hw10 ?_) ⟨rfl, rfl, rfl, rfl, rfl, rfl, trivial⟩
      refine g_iconst (v := 0) a11_falls_63 rfl ?_
      refine g_istore (L' := [some (.inr (.inr (11, k0))), some (.inl x1), some (.inl x2), some (.inr (.inl 0)), none, some (.inr (.inl w10.1)), none, some (.inl 0), none, none, none]) a11_falls_64 (Nat.le_of_ble_eq_true rfl) rfl rfl ?_
      obtain ⟨w30, hw30, h⟩ := bnd_inv h
      refine g_weak (lE11_falls_66 k0 x1 x2 w10.1 σ 2000 _ _ hw30 ?_) ⟨rfl, rfl, rfl, rfl, rfl, rfl, trivial⟩
      refine g_aload_n a11_falls_189 rfl ?_
      refine g_lload_n a11_falls_190 rfl ?_
      refine g_lload a11_falls_191 rfl ?_
      obtain ⟨w31, hw31, h⟩ := bnd_inv h
      refine g_V2n (σ1 := w31) a11_falls_193 cv11_197 (E11_fraction hw31) rfl (fun o32 => ?_)
      refine g_iconst (v := 1) a11_falls_196 rfl ?_
      have h := Option.some.inj h
      subst h
      exact g_retE a11_falls_197 trivial rfl rfl
    · have h := (if_pos c33).symm.trans h
      refine g_aload_n a11_falls_19 rfl ?_
      refine g_bipush (v := (-2)) a11_falls_20 rfl ?_
      obtain ⟨w5, hw5, h⟩ := lt_inv h
      refine g_V1s (v1 := .inl w5.1) (σ1 := w5.2) a11_falls_22 cv11_73 (by rw [← hw5]; exact E11_bad _ _ _) rfl (fun o6 => ?_)
      have h := Option.some.inj h
      subst h
      exact g_retE a11_falls_25 trivial rfl rfl
theorem a11_septembers_0 : At cX11_septembers 0 (.iload_n 1) 1 1 := ⟨by decide +kernel, rfl⟩
theorem a11_septembers_1 : At cX11_septembers 1 (.i2l) 1 2 := ⟨by decide +kernel, rfl⟩
theorem a11_septembers_2 : At cX11_septembers 2 (.lconst 0) 1 3 := ⟨by decide +kernel, rfl⟩
theorem a11_septembers_3 : At cX11_septembers 3 (.ldc2_w 201) 3 6 := ⟨by decide +kernel, rfl⟩
theorem a11_septembers_6 : At cX11_septembers 6 (.invokestatic 59) 3 9 := ⟨by decide +kernel, rfl⟩
theorem a11_septembers_9 : At cX11_septembers 9 (.ifCond .eq 15) 3 12 := ⟨by decide +kernel, rfl⟩
theorem a11_septembers_12 : At cX11_septembers 12 (.iload_n 2) 1 13 := ⟨by decide +kernel, rfl⟩
theorem a11_septembers_13 : At cX11_septembers 13 (.i2l) 1 14 := ⟨by decide +kernel, rfl⟩
theorem a11_septembers_14 : At cX11_septembers 14 (.lconst 0) 1 15 := ⟨by decide +kernel, rfl⟩
theorem a11_septembers_15 : At cX11_septembers 15 (.ldc2_w 125) 3 18 := ⟨by decide +kernel, rfl⟩
theorem a11_septembers_18 : At cX11_septembers 18 (.invokestatic 59) 3 21 := ⟨by decide +kernel, rfl⟩
theorem a11_septembers_21 : At cX11_septembers 21 (.ifCond .ne 10) 3 24 := ⟨by decide +kernel, rfl⟩
theorem a11_septembers_24 : At cX11_septembers 24 (.aload_n 0) 1 25 := ⟨by decide +kernel, rfl⟩
theorem a11_septembers_25 : At cX11_septembers 25 (.bipush (-2)) 2 27 := ⟨by decide +kernel, rfl⟩
theorem a11_septembers_27 : At cX11_septembers 27 (.invokevirtual 73) 3 30 := ⟨by decide +kernel, rfl⟩
theorem a11_septembers_30 : At cX11_septembers 30 (.ireturn) 1 31 := ⟨by decide +kernel, rfl⟩
theorem a11_septembers_31 : At cX11_septembers 31 (.iload_n 1) 1 32 := ⟨by decide +kernel, rfl⟩
theorem a11_septembers_32 : At cX11_septembers 32 (.i2l) 1 33 := ⟨by decide +kernel, rfl⟩
theorem a11_septembers_33 : At cX11_septembers 33 (.lstore_n 3) 1 34 := ⟨by decide +kernel, rfl⟩
theorem a11_septembers_34 : At cX11_septembers 34 (.aload_n 0) 1 35 := ⟨by decide +kernel, rfl⟩
theorem a11_septembers_35 : At cX11_septembers 35 (.invokevirtual 147) 3 38 := ⟨by decide +kernel, rfl⟩
theorem a11_septembers_38 : At cX11_septembers 38 (.iconst 0) 1 39 := ⟨by decide +kernel, rfl⟩
theorem a11_septembers_39 : At cX11_septembers 39 (.istore 5) 2 41 := ⟨by decide +kernel, rfl⟩
theorem a11_septembers_41 : At cX11_septembers 41 (.iload 5) 2 43 := ⟨by decide +kernel, rfl⟩
theorem a11_septembers_43 : At cX11_septembers 43 (.iload_n 2) 1 44 := ⟨by decide +kernel, rfl⟩
theorem a11_septembers_44 : At cX11_septembers 44 (.if_icmp .ge 50) 3 47 := ⟨by decide +kernel, rfl⟩
theorem a11_septembers_47 : At cX11_septembers 47 (.lload_n 3) 1 48 := ⟨by decide +kernel, rfl⟩
theorem a11_septembers_48 : At cX11_septembers 48 (.ldc2_w 203) 3 51 := ⟨by decide +kernel, rfl⟩
theorem a11_septembers_51 : At cX11_septembers 51 (.lmul) 1 52 := ⟨by decide +kernel, rfl⟩
theorem a11_septembers_52 : At cX11_septembers 52 (.ldc2_w 205) 3 55 := ⟨by decide +kernel, rfl⟩
theorem a11_septembers_55 : At cX11_septembers 55 (.ladd) 1 56 := ⟨by decide +kernel, rfl⟩
theorem a11_septembers_56 : At cX11_septembers 56 (.ldc2_w 207) 3 59 := ⟨by decide +kernel, rfl⟩
theorem a11_septembers_59 : At cX11_septembers 59 (.lrem) 1 60 := ⟨by decide +kernel, rfl⟩
theorem a11_septembers_60 : At cX11_septembers 60 (.lstore_n 3) 1 61 := ⟨by decide +kernel, rfl⟩
theorem a11_septembers_61 : At cX11_septembers 61 (.aload_n 0) 1 62 := ⟨by decide +kernel, rfl⟩
theorem a11_septembers_62 : At cX11_septembers 62 (.getfield 27) 3 65 := ⟨by decide +kernel, rfl⟩
theorem a11_septembers_65 : At cX11_septembers 65 (.lload_n 3) 1 66 := ⟨by decide +kernel, rfl⟩
theorem a11_septembers_66 : At cX11_septembers 66 (.ldc2_w 209) 3 69 := ⟨by decide +kernel, rfl⟩
theorem a11_septembers_69 : At cX11_septembers 69 (.ldiv) 1 70 := ⟨by decide +kernel, rfl⟩
theorem a11_septembers_70 : At cX11_septembers 70 (.ldc2_w 211) 3 73 := ⟨by decide +kernel, rfl⟩
theorem a11_septembers_73 : At cX11_septembers 73 (.lrem) 1 74 := ⟨by decide +kernel, rfl⟩
theorem a11_septembers_74 : At cX11_septembers 74 (.l2i) 1 75 := ⟨by decide +kernel, rfl⟩
theorem a11_septembers_75 : At cX11_septembers 75 (.lload_n 3) 1 76 := ⟨by decide +kernel, rfl⟩
theorem a11_septembers_76 : At cX11_septembers 76 (.ldc2_w 213) 3 79 := ⟨by decide +kernel, rfl⟩
theorem a11_septembers_79 : At cX11_septembers 79 (.ldiv) 1 80 := ⟨by decide +kernel, rfl⟩
theorem a11_septembers_80 : At cX11_septembers 80 (.ldc2_w 195) 3 83 := ⟨by decide +kernel, rfl⟩
theorem a11_septembers_83 : At cX11_septembers 83 (.lrem) 1 84 := ⟨by decide +kernel, rfl⟩
theorem a11_septembers_84 : At cX11_septembers 84 (.l2i) 1 85 := ⟨by decide +kernel, rfl⟩
theorem a11_septembers_85 : At cX11_septembers 85 (.invokestatic 118) 3 88 := ⟨by decide +kernel, rfl⟩
theorem a11_septembers_88 : At cX11_septembers 88 (.iinc 5 1) 3 91 := ⟨by decide +kernel, rfl⟩
theorem a11_septembers_91 : At cX11_septembers 91 (.goto (-50)) 3 94 := ⟨by decide +kernel, rfl⟩
theorem a11_septembers_94 : At cX11_septembers 94 (.aload_n 0) 1 95 := ⟨by decide +kernel, rfl⟩
theorem a11_septembers_95 : At cX11_septembers 95 (.getfield 27) 3 98 := ⟨by decide +kernel, rfl⟩
theorem a11_septembers_98 : At cX11_septembers 98 (.bipush 7) 2 100 := ⟨by decide +kernel, rfl⟩
theorem a11_septembers_100 : At cX11_septembers 100 (.iaload) 1 101 := ⟨by decide +kernel, rfl⟩
theorem a11_septembers_101 : At cX11_septembers 101 (.invokestatic 105) 3 104 := ⟨by decide +kernel, rfl⟩
theorem a11_septembers_104 : At cX11_septembers 104 (.ireturn) 1 105 := ⟨by decide +kernel, rfl⟩
def l11_septembers_41 (k0 : Nat) (x2 : Int32) : Nat → Int64 → Int32 → Mem → Option (Int64 × Int32 × Mem)
  | 0, _, _, _ => none
  | n + 1, x3, x5, σ =>
  if x2 ≤ x5 then
  (some (x3, x5, σ))
  else
  (lt ((((x3 * 1103515245) + 12345) - ((x3 * 1103515245) + 12345) / 2147483648 * 2147483648) : Int64) fun y9 =>
  bnd (f11_goSummer 4 ((((y9 / 65536) - (y9 / 65536) / 12 * 12) : Int64).toInt32) ((((y9 / 1048576) - (y9 / 1048576) / 10 * 10) : Int64).toInt32) σ) fun w10 =>
  l11_septembers_41 k0 x2 n y9 (x5 + 1) w10)
theorem lE11_septembers_41 {V : Option AV} {S : Mem} (k0 : Nat) (x2 : Int32) : ∀ (n : Nat) (x3 : Int64) (x5 : Int32) (σ : Mem) {w : Int64 × Int32 × Mem}, l11_septembers_41 k0 x2 n x3 x5 σ = some w → (Go m11_septembers 94 [some (.inr (.inr (11, k0))), none, some (.inl x2), some (.inr (.inl w.1)), none, some (.inl w.2.1)] [] w.2.2 V S) → Go m11_septembers 41 [some (.inr (.inr (11, k0))), none, some (.inl x2), some (.inr (.inl x3)), none, some (.inl x5)] [] σ V S
  | 0, x3, x5, σ, w, h, K1 => by cases h
  | n + 1, x3, x5, σ, w, h, K1 => by
    rw [l11_septembers_41] at h
    refine g_iload a11_septembers_41 rfl ?_
    refine g_iload_n a11_septembers_43 rfl ?_
    refine g_icmp_ge (tgt := 94) a11_septembers_44 rfl (fun c12 => ?_) (fun c12 => ?_)
    · have h := (if_pos c12).symm.trans h
      have h := Option.some.inj h
      subst h
      exact g_weak K1 ⟨rfl, rfl, rfl, rfl, trivial⟩
    · have h := (if_neg c12).symm.trans h
      refine g_lload_n a11_septembers_47 rfl ?_
      refine g_ldc2 (v := 1103515245) a11_septembers_48 wl11_203 ?_
      refine g_lmul a11_septembers_51 ?_
      refine g_ldc2 (v := 12345) a11_septembers_52 wl11_205 ?_
      refine g_ladd a11_septembers_55 ?_
      refine g_ldc2 (v := 2147483648) a11_septembers_56 wl11_207 ?_
      refine g_lrem a11_septembers_59 (by decide) ?_
      obtain ⟨y9, ey9, h⟩ := lt_inv h
      rw [ey9]
      refine g_lstore_n (L' := [some (.inr (.inr (11, k0))), none, some (.inl x2), some (.inr (.inl y9)), none, some (.inl x5)]) a11_septembers_60 (Nat.le_of_ble_eq_true rfl) rfl rfl ?_
      refine g_aload_n a11_septembers_61 rfl ?_
      refine g_getf (v := .inr (.inr (22, 4))) a11_septembers_62 fs11_27 rfl ?_
      refine g_lload_n a11_septembers_65 rfl ?_
      refine g_ldc2 (v := 65536) a11_septembers_66 wl11_209 ?_
      refine g_ldiv a11_septembers_69 (by decide) ?_
      refine g_ldc2 (v := 12) a11_septembers_70 wl11_211 ?_
      refine g_lrem a11_septembers_73 (by decide) ?_
      refine g_l2i a11_septembers_74 ?_
      refine g_lload_n a11_septembers_75 rfl ?_
      refine g_ldc2 (v := 1048576) a11_septembers_76 wl11_213 ?_
      refine g_ldiv a11_septembers_79 (by decide) ?_
      refine g_ldc2 (v := 10) a11_septembers_80 wl11_195 ?_
      refine g_lrem a11_septembers_83 (by decide) ?_
      refine g_l2i a11_septembers_84 ?_
      obtain ⟨w10, hw10, h⟩ := bnd_inv h
      refine g_S3n (σ1 := w10) a11_septembers_85 cs11_118 (E11_goSummer hw10) rfl (fun o11 => ?_)
      refine g_iinc (v := (x5 + 1)) (L' := [some (.inr (.inr (11, k0))), none, some (.inl x2), some (.inr (.inl y9)), none, some (.inl (x5 + 1))]) a11_septembers_88 rfl rfl (Nat.le_of_ble_eq_true rfl) rfl rfl ?_
      refine g_goto (tgt := 41) a11_septembers_91 rfl ?_
      exact g_weak (lE11_septembers_41 (V := V) (S := S)  k0 x2 n _ _ _ h K1) ⟨rfl, rfl, rfl, rfl, trivial⟩
def f11_septembers (k0 : Nat) (x1 : Int32) (x2 : Int32) (σ : Mem) : Option (Int32 × Mem) :=
  if (f11_in (x1.toInt64) 0 999999) = 0 then
  (lt (f11_bad k0 (-2) σ) fun w2 =>
  some (w2.1, w2.2))
  else
  (if (f11_in (x2.toInt64) 0 60) = 0 then
  (lt (f11_bad k0 (-2) σ) fun w5 =>
  some (w5.1, w5.2))
  else
  (bnd (f11_layHand k0 σ) fun w7 =>
  bnd (l11_septembers_41 k0 x2 2000 (x1.toInt64) 0 w7) fun w13 =>
  bnd (f11_bits (w13.2.2.1 22 4 7)) fun w14 =>
  some (w14, w13.2.2)))
theorem E11_septembers {k0 : Nat} {x1 : Int32} {x2 : Int32} {σ : Mem} {w : Int32 × Mem} (h : f11_septembers k0 x1 x2 σ = some w) : Ev m11_septembers [.inr (.inr (11, k0)), .inl x1, .inl x2] σ (some (.inl w.1) : Option AV) w.2 := by
  unfold f11_septembers at h
  show Go m11_septembers 0 [some (.inr (.inr (11, k0))), some (.inl x1), some (.inl x2), none, none, none] [] σ (some (.inl w.1) : Option AV) w.2
  refine g_iload_n a11_septembers_0 rfl ?_
  refine g_i2l a11_septembers_1 ?_
  refine g_lconst (v := 0) a11_septembers_2 rfl ?_
  refine g_ldc2 (v := 999999) a11_septembers_3 wl11_201 ?_
  refine g_S3s (v1 := .inl (f11_in (x1.toInt64) 0 999999)) (σ1 := σ) a11_septembers_6 cs11_59 (E11_in _ _ _ _) rfl (fun o1 => ?_)
  refine g_if_eq (tgt := 24) a11_septembers_9 rfl (fun c17 => ?_) (fun c17 => ?_)
  · have h := (if_pos c17).symm.trans h
    refine g_aload_n a11_septembers_24 rfl ?_
    refine g_bipush (v := (-2)) a11_septembers_25 rfl ?_
    obtain ⟨w2, hw2, h⟩ := lt_inv h
    refine g_V1s (v1 := .inl w2.1) (σ1 := w2.2) a11_septembers_27 cv11_73 (by rw [← hw2]; exact E11_bad _ _ _) rfl (fun o3 => ?_)
    have h := Option.some.inj h
    subst h
    exact g_retE a11_septembers_30 trivial rfl rfl
  · have h := (if_neg c17).symm.trans h
    refine g_iload_n a11_septembers_12 rfl ?_
    refine g_i2l a11_septembers_13 ?_
    refine g_lconst (v := 0) a11_septembers_14 rfl ?_
    refine g_ldc2 (v := 60) a11_septembers_15 wl11_125 ?_
    refine g_S3s (v1 := .inl (f11_in (x2.toInt64) 0 60)) (σ1 := σ) a11_septembers_18 cs11_59 (E11_in _ _ _ _) rfl (fun o4 => ?_)
    refine g_if_ne (tgt := 31) a11_septembers_21 rfl (fun c16 => ?_) (fun c16 => ?_)
    · have h := (if_neg c16).symm.trans h
      refine g_iload_n a11_septembers_31 rfl ?_
      refine g_i2l a11_septembers_32 ?_
      refine g_lstore_n (L' := [some (.inr (.inr (11, k0))), some (.inl x1), some (.inl x2), some (.inr (.inl (x1.toInt64))), none, none]) a11_septembers_33 (Nat.le_of_ble_eq_true rfl) rfl rfl ?_
      refine g_aload_n a11_septembers_34 rfl ?_
      obtain ⟨w7, hw7, h⟩ := bnd_inv h
      refine g_V0n (σ1 := w7) a11_septembers_35 cv11_147 (E11_layHand hw7) rfl (fun o8 => ?_)
      refine g_iconst (v := 0) a11_septembers_38 rfl ?_
      refine g_istore (L' := [some (.inr (.inr (11, k0))), some (.inl x1), some (.inl x2), some (.inr (.inl (x1.toInt64))), none, some (.inl 0)]) a11_septembers_39 (Nat.le_of_ble_eq_true rfl) rfl rfl ?_
      obtain ⟨w13, hw13, h⟩ := bnd_inv h
      refine g_weak (lE11_septembers_41 k0 x2 2000 _ _ _ hw13 ?_) ⟨rfl, rfl, rfl, rfl, trivial⟩
      refine g_aload_n a11_septembers_94 rfl ?_
      refine g_getf (v := .inr (.inr (22, 4))) a11_septembers_95 fs11_27 rfl ?_
      refine g_bipush (v := 7) a11_septembers_98 rfl ?_
      refine g_iald (x := (w13.2.2.1 22 4 7)) a11_septembers_100 (rI22 (by decide)) (inb_ok (by decide)) rfl ?_
      obtain ⟨w14, hw14, h⟩ := bnd_inv h
      refine g_S1s (v1 := .inl w14) (σ1 := w13.2.2) a11_septembers_101 cs11_105 (E11_bits hw14) rfl (fun o15 => ?_)
      have h := Option.some.inj h
      subst h
      exact g_retE a11_septembers_104 trivial rfl rfl
    · have h := (if_pos c16).symm.trans h
      refine g_aload_n a11_septembers_24 rfl ?_
      refine g_bipush (v := (-2)) a11_septembers_25 rfl ?_
      obtain ⟨w5, hw5, h⟩ := lt_inv h
      refine g_V1s (v1 := .inl w5.1) (σ1 := w5.2) a11_septembers_27 cv11_73 (by rw [← hw5]; exact E11_bad _ _ _) rfl (fun o6 => ?_)
      have h := Option.some.inj h
      subst h
      exact g_retE a11_septembers_30 trivial rfl rfl
theorem a11_type_0 : At cX11_type 0 (.iload_n 1) 1 1 := ⟨by decide +kernel, rfl⟩
theorem a11_type_1 : At cX11_type 1 (.i2l) 1 2 := ⟨by decide +kernel, rfl⟩
theorem a11_type_2 : At cX11_type 2 (.lconst 0) 1 3 := ⟨by decide +kernel, rfl⟩
theorem a11_type_3 : At cX11_type 3 (.ldc2_w 215) 3 6 := ⟨by decide +kernel, rfl⟩
theorem a11_type_6 : At cX11_type 6 (.invokestatic 59) 3 9 := ⟨by decide +kernel, rfl⟩
theorem a11_type_9 : At cX11_type 9 (.ifCond .ne 10) 3 12 := ⟨by decide +kernel, rfl⟩
theorem a11_type_12 : At cX11_type 12 (.aload_n 0) 1 13 := ⟨by decide +kernel, rfl⟩
theorem a11_type_13 : At cX11_type 13 (.bipush (-2)) 2 15 := ⟨by decide +kernel, rfl⟩
theorem a11_type_15 : At cX11_type 15 (.invokevirtual 73) 3 18 := ⟨by decide +kernel, rfl⟩
theorem a11_type_18 : At cX11_type 18 (.ireturn) 1 19 := ⟨by decide +kernel, rfl⟩
theorem a11_type_19 : At cX11_type 19 (.aload_n 0) 1 20 := ⟨by decide +kernel, rfl⟩
theorem a11_type_20 : At cX11_type 20 (.getfield 217) 3 23 := ⟨by decide +kernel, rfl⟩
theorem a11_type_23 : At cX11_type 23 (.sipush 150) 3 26 := ⟨by decide +kernel, rfl⟩
theorem a11_type_26 : At cX11_type 26 (.if_icmp .ne 8) 3 29 := ⟨by decide +kernel, rfl⟩
theorem a11_type_29 : At cX11_type 29 (.aload_n 0) 1 30 := ⟨by decide +kernel, rfl⟩
theorem a11_type_30 : At cX11_type 30 (.invokevirtual 82) 3 33 := ⟨by decide +kernel, rfl⟩
theorem a11_type_33 : At cX11_type 33 (.ireturn) 1 34 := ⟨by decide +kernel, rfl⟩
theorem a11_type_34 : At cX11_type 34 (.aload_n 0) 1 35 := ⟨by decide +kernel, rfl⟩
theorem a11_type_35 : At cX11_type 35 (.getfield 42) 3 38 := ⟨by decide +kernel, rfl⟩
theorem a11_type_38 : At cX11_type 38 (.aload_n 0) 1 39 := ⟨by decide +kernel, rfl⟩
theorem a11_type_39 : At cX11_type 39 (.getfield 217) 3 42 := ⟨by decide +kernel, rfl⟩
theorem a11_type_42 : At cX11_type 42 (.iload_n 1) 1 43 := ⟨by decide +kernel, rfl⟩
theorem a11_type_43 : At cX11_type 43 (.iastore) 1 44 := ⟨by decide +kernel, rfl⟩
theorem a11_type_44 : At cX11_type 44 (.aload_n 0) 1 45 := ⟨by decide +kernel, rfl⟩
theorem a11_type_45 : At cX11_type 45 (.dup) 1 46 := ⟨by decide +kernel, rfl⟩
theorem a11_type_46 : At cX11_type 46 (.getfield 217) 3 49 := ⟨by decide +kernel, rfl⟩
theorem a11_type_49 : At cX11_type 49 (.iconst 1) 1 50 := ⟨by decide +kernel, rfl⟩
theorem a11_type_50 : At cX11_type 50 (.iadd) 1 51 := ⟨by decide +kernel, rfl⟩
theorem a11_type_51 : At cX11_type 51 (.putfield 217) 3 54 := ⟨by decide +kernel, rfl⟩
theorem a11_type_54 : At cX11_type 54 (.aload_n 0) 1 55 := ⟨by decide +kernel, rfl⟩
theorem a11_type_55 : At cX11_type 55 (.getfield 217) 3 58 := ⟨by decide +kernel, rfl⟩
theorem a11_type_58 : At cX11_type 58 (.ireturn) 1 59 := ⟨by decide +kernel, rfl⟩
def f11_type (k0 : Nat) (x1 : Int32) (σ : Mem) : Option (Int32 × Mem) :=
  if (f11_in (x1.toInt64) 0 127) = 0 then
  (lt (f11_bad k0 (-2) σ) fun w2 =>
  some (w2.1, w2.2))
  else
  (if (σ.1 11 k0 12) = 150 then
  (lt (f11_full k0 σ) fun w4 =>
  some (w4.1, w4.2))
  else
  (ck (inb (σ.1 11 k0 12) 150) <|
  lt (sI σ 22 9 ((σ.1 11 k0 12) : Int32).toNatClampNeg x1) fun σ7 =>
  lt (sI σ7 11 k0 12 ((σ7.1 11 k0 12) + 1)) fun σ8 =>
  some ((σ8.1 11 k0 12), σ8)))
theorem E11_type {k0 : Nat} {x1 : Int32} {σ : Mem} {w : Int32 × Mem} (h : f11_type k0 x1 σ = some w) : Ev m11_type [.inr (.inr (11, k0)), .inl x1] σ (some (.inl w.1) : Option AV) w.2 := by
  unfold f11_type at h
  show Go m11_type 0 [some (.inr (.inr (11, k0))), some (.inl x1)] [] σ (some (.inl w.1) : Option AV) w.2
  refine g_iload_n a11_type_0 rfl ?_
  refine g_i2l a11_type_1 ?_
  refine g_lconst (v := 0) a11_type_2 rfl ?_
  refine g_ldc2 (v := 127) a11_type_3 wl11_215 ?_
  refine g_S3s (v1 := .inl (f11_in (x1.toInt64) 0 127)) (σ1 := σ) a11_type_6 cs11_59 (E11_in _ _ _ _) rfl (fun o1 => ?_)
  refine g_if_ne (tgt := 19) a11_type_9 rfl (fun c10 => ?_) (fun c10 => ?_)
  · have h := (if_neg c10).symm.trans h
    refine g_aload_n a11_type_19 rfl ?_
    refine g_getf (v := .inl (σ.1 11 k0 12)) a11_type_20 fs11_217 rfl ?_
    refine g_sipush (v := 150) a11_type_23 rfl ?_
    refine g_icmp_ne (tgt := 34) a11_type_26 rfl (fun c9 => ?_) (fun c9 => ?_)
    · have h := (if_neg c9).symm.trans h
      refine g_aload_n a11_type_34 rfl ?_
      refine g_getf (v := .inr (.inr (22, 9))) a11_type_35 fs11_42 rfl ?_
      refine g_aload_n a11_type_38 rfl ?_
      refine g_getf (v := .inl (σ.1 11 k0 12)) a11_type_39 fs11_217 rfl ?_
      refine g_iload_n a11_type_42 rfl ?_
      obtain ⟨q6, h⟩ := ck_inv h
      obtain ⟨σ7, eσ7, h⟩ := lt_inv h
      refine g_iast (j := ((σ.1 11 k0 12) : Int32).toNatClampNeg) a11_type_43 (rI22 (by decide)) (inb_ok q6) rfl ?_
      rw [eσ7]
      refine g_aload_n a11_type_44 rfl ?_
      refine g_dup a11_type_45 (fun _ => rfl) ?_
      refine g_getf (v := .inl (σ7.1 11 k0 12)) a11_type_46 fs11_217 rfl ?_
      refine g_iconst (v := 1) a11_type_49 rfl ?_
      refine g_iadd a11_type_50 ?_
      obtain ⟨σ8, eσ8, h⟩ := lt_inv h
      refine g_puti a11_type_51 fs11_217 ps11_12 (fun _ _ _ => rfl) ?_
      rw [eσ8]
      refine g_aload_n a11_type_54 rfl ?_
      refine g_getf (v := .inl (σ8.1 11 k0 12)) a11_type_55 fs11_217 rfl ?_
      have h := Option.some.inj h
      subst h
      exact g_retE a11_type_58 trivial rfl rfl
    · have h := (if_pos c9).symm.trans h
      refine g_aload_n a11_type_29 rfl ?_
      obtain ⟨w4, hw4, h⟩ := lt_inv h
      refine g_V0s (v1 := .inl w4.1) (σ1 := w4.2) a11_type_30 cv11_82 (by rw [← hw4]; exact E11_full _ _) rfl (fun o5 => ?_)
      have h := Option.some.inj h
      subst h
      exact g_retE a11_type_33 trivial rfl rfl
  · have h := (if_pos c10).symm.trans h
    refine g_aload_n a11_type_12 rfl ?_
    refine g_bipush (v := (-2)) a11_type_13 rfl ?_
    obtain ⟨w2, hw2, h⟩ := lt_inv h
    refine g_V1s (v1 := .inl w2.1) (σ1 := w2.2) a11_type_15 cv11_73 (by rw [← hw2]; exact E11_bad _ _ _) rfl (fun o3 => ?_)
    have h := Option.some.inj h
    subst h
    exact g_retE a11_type_18 trivial rfl rfl
theorem a11_clear_0 : At cX11_clear 0 (.aload_n 0) 1 1 := ⟨by decide +kernel, rfl⟩
theorem a11_clear_1 : At cX11_clear 1 (.getfield 217) 3 4 := ⟨by decide +kernel, rfl⟩
theorem a11_clear_4 : At cX11_clear 4 (.istore_n 1) 1 5 := ⟨by decide +kernel, rfl⟩
theorem a11_clear_5 : At cX11_clear 5 (.aload_n 0) 1 6 := ⟨by decide +kernel, rfl⟩
theorem a11_clear_6 : At cX11_clear 6 (.iconst 0) 1 7 := ⟨by decide +kernel, rfl⟩
theorem a11_clear_7 : At cX11_clear 7 (.putfield 217) 3 10 := ⟨by decide +kernel, rfl⟩
theorem a11_clear_10 : At cX11_clear 10 (.iload_n 1) 1 11 := ⟨by decide +kernel, rfl⟩
theorem a11_clear_11 : At cX11_clear 11 (.ireturn) 1 12 := ⟨by decide +kernel, rfl⟩
def f11_clear (k0 : Nat) (σ : Mem) : Int32 × Mem :=
  lt (sI σ 11 k0 12 0) fun σ1 =>
  ((σ.1 11 k0 12), σ1)
theorem E11_clear (k0 : Nat) (σ : Mem) : Ev m11_clear [.inr (.inr (11, k0))] σ (some (.inl ((f11_clear k0 σ).1)) : Option AV) (f11_clear k0 σ).2 := by
  obtain ⟨w, h⟩ : ∃ w, f11_clear k0 σ = w := ⟨_, rfl⟩
  rw [h]
  unfold f11_clear at h
  show Go m11_clear 0 [some (.inr (.inr (11, k0))), none] [] σ (some (.inl w.1) : Option AV) w.2
  refine g_aload_n a11_clear_0 rfl ?_
  refine g_getf (v := .inl (σ.1 11 k0 12)) a11_clear_1 fs11_217 rfl ?_
  refine g_istore_n (L' := [some (.inr (.inr (11, k0))), some (.inl (σ.1 11 k0 12))]) a11_clear_4 (Nat.le_of_ble_eq_true rfl) rfl rfl ?_
  refine g_aload_n a11_clear_5 rfl ?_
  refine g_iconst (v := 0) a11_clear_6 rfl ?_
  obtain ⟨σ1, eσ1, h⟩ := lt_inv h
  refine g_puti a11_clear_7 fs11_217 ps11_12 (fun _ _ _ => rfl) ?_
  rw [eσ1]
  refine g_iload_n a11_clear_10 rfl ?_
  subst h
  exact g_retE a11_clear_11 trivial rfl rfl
theorem a11_isSmall_0 : At cX11_isSmall 0 (.iload_n 0) 1 1 := ⟨by decide +kernel, rfl⟩
theorem a11_isSmall_1 : At cX11_isSmall 1 (.i2l) 1 2 := ⟨by decide +kernel, rfl⟩
theorem a11_isSmall_2 : At cX11_isSmall 2 (.ldc2_w 221) 3 5 := ⟨by decide +kernel, rfl⟩
theorem a11_isSmall_5 : At cX11_isSmall 5 (.ldc2_w 223) 3 8 := ⟨by decide +kernel, rfl⟩
theorem a11_isSmall_8 : At cX11_isSmall 8 (.invokestatic 59) 3 11 := ⟨by decide +kernel, rfl⟩
theorem a11_isSmall_11 : At cX11_isSmall 11 (.ireturn) 1 12 := ⟨by decide +kernel, rfl⟩
def f11_isSmall (x0 : Int32) : Int32 :=
  (f11_in (x0.toInt64) 97 122)
theorem E11_isSmall (x0 : Int32) (σ : Mem) : Ev m11_isSmall [.inl x0] σ (some (.inl (f11_isSmall x0)) : Option AV) σ := by
  obtain ⟨w, h⟩ : ∃ w, f11_isSmall x0 = w := ⟨_, rfl⟩
  rw [h]
  unfold f11_isSmall at h
  show Go m11_isSmall 0 [some (.inl x0)] [] σ (some (.inl w) : Option AV) σ
  refine g_iload_n a11_isSmall_0 rfl ?_
  refine g_i2l a11_isSmall_1 ?_
  refine g_ldc2 (v := 97) a11_isSmall_2 wl11_221 ?_
  refine g_ldc2 (v := 122) a11_isSmall_5 wl11_223 ?_
  refine g_S3s (v1 := .inl (f11_in (x0.toInt64) 97 122)) (σ1 := σ) a11_isSmall_8 cs11_59 (E11_in _ _ _ _) rfl (fun o1 => ?_)
  subst h
  exact g_retE a11_isSmall_11 o1 rfl rfl
theorem a11_isFigure_0 : At cX11_isFigure 0 (.iload_n 0) 1 1 := ⟨by decide +kernel, rfl⟩
theorem a11_isFigure_1 : At cX11_isFigure 1 (.i2l) 1 2 := ⟨by decide +kernel, rfl⟩
theorem a11_isFigure_2 : At cX11_isFigure 2 (.ldc2_w 225) 3 5 := ⟨by decide +kernel, rfl⟩
theorem a11_isFigure_5 : At cX11_isFigure 5 (.ldc2_w 227) 3 8 := ⟨by decide +kernel, rfl⟩
theorem a11_isFigure_8 : At cX11_isFigure 8 (.invokestatic 59) 3 11 := ⟨by decide +kernel, rfl⟩
theorem a11_isFigure_11 : At cX11_isFigure 11 (.ireturn) 1 12 := ⟨by decide +kernel, rfl⟩
def f11_isFigure (x0 : Int32) : Int32 :=
  (f11_in (x0.toInt64) 48 57)
theorem E11_isFigure (x0 : Int32) (σ : Mem) : Ev m11_isFigure [.inl x0] σ (some (.inl (f11_isFigure x0)) : Option AV) σ := by
  obtain ⟨w, h⟩ : ∃ w, f11_isFigure x0 = w := ⟨_, rfl⟩
  rw [h]
  unfold f11_isFigure at h
  show Go m11_isFigure 0 [some (.inl x0)] [] σ (some (.inl w) : Option AV) σ
  refine g_iload_n a11_isFigure_0 rfl ?_
  refine g_i2l a11_isFigure_1 ?_
  refine g_ldc2 (v := 48) a11_isFigure_2 wl11_225 ?_
  refine g_ldc2 (v := 57) a11_isFigure_5 wl11_227 ?_
  refine g_S3s (v1 := .inl (f11_in (x0.toInt64) 48 57)) (σ1 := σ) a11_isFigure_8 cs11_59 (E11_in _ _ _ _) rfl (fun o1 => ?_)
  subst h
  exact g_retE a11_isFigure_11 o1 rfl rfl
