theorem a5_spend_0 : At cX5_spend 0 (.aload_n 0) 1 1 := ⟨by decide +kernel, rfl⟩
theorem a5_spend_1 : At cX5_spend 1 (.getfield 16) 3 4 := ⟨by decide +kernel, rfl⟩
theorem a5_spend_4 : At cX5_spend 4 (.iconst (-1)) 1 5 := ⟨by decide +kernel, rfl⟩
theorem a5_spend_5 : At cX5_spend 5 (.invokevirtual 76) 3 8 := ⟨by decide +kernel, rfl⟩
theorem a5_spend_8 : At cX5_spend 8 (.aload_n 0) 1 9 := ⟨by decide +kernel, rfl⟩
theorem a5_spend_9 : At cX5_spend 9 (.getfield 16) 3 12 := ⟨by decide +kernel, rfl⟩
theorem a5_spend_12 : At cX5_spend 12 (.aload_n 1) 1 13 := ⟨by decide +kernel, rfl⟩
theorem a5_spend_13 : At cX5_spend 13 (.getfield 37) 3 16 := ⟨by decide +kernel, rfl⟩
theorem a5_spend_16 : At cX5_spend 16 (.getfield 43) 3 19 := ⟨by decide +kernel, rfl⟩
theorem a5_spend_19 : At cX5_spend 19 (.iload_n 2) 1 20 := ⟨by decide +kernel, rfl⟩
theorem a5_spend_20 : At cX5_spend 20 (.invokevirtual 79) 3 23 := ⟨by decide +kernel, rfl⟩
theorem a5_spend_23 : At cX5_spend 23 (.iconst 0) 1 24 := ⟨by decide +kernel, rfl⟩
theorem a5_spend_24 : At cX5_spend 24 (.istore_n 3) 1 25 := ⟨by decide +kernel, rfl⟩
theorem a5_spend_25 : At cX5_spend 25 (.iload_n 3) 1 26 := ⟨by decide +kernel, rfl⟩
theorem a5_spend_26 : At cX5_spend 26 (.bipush 64) 2 28 := ⟨by decide +kernel, rfl⟩
theorem a5_spend_28 : At cX5_spend 28 (.if_icmp .ge 98) 3 31 := ⟨by decide +kernel, rfl⟩
theorem a5_spend_31 : At cX5_spend 31 (.iconst 0) 1 32 := ⟨by decide +kernel, rfl⟩
theorem a5_spend_32 : At cX5_spend 32 (.istore 4) 2 34 := ⟨by decide +kernel, rfl⟩
theorem a5_spend_34 : At cX5_spend 34 (.iload 4) 2 36 := ⟨by decide +kernel, rfl⟩
theorem a5_spend_36 : At cX5_spend 36 (.aload_n 1) 1 37 := ⟨by decide +kernel, rfl⟩
theorem a5_spend_37 : At cX5_spend 37 (.getfield 48) 3 40 := ⟨by decide +kernel, rfl⟩
theorem a5_spend_40 : At cX5_spend 40 (.invokevirtual 52) 3 43 := ⟨by decide +kernel, rfl⟩
theorem a5_spend_43 : At cX5_spend 43 (.if_icmp .ge 77) 3 46 := ⟨by decide +kernel, rfl⟩
theorem a5_spend_46 : At cX5_spend 46 (.aload_n 0) 1 47 := ⟨by decide +kernel, rfl⟩
theorem a5_spend_47 : At cX5_spend 47 (.getfield 16) 3 50 := ⟨by decide +kernel, rfl⟩
theorem a5_spend_50 : At cX5_spend 50 (.iload_n 3) 1 51 := ⟨by decide +kernel, rfl⟩
theorem a5_spend_51 : At cX5_spend 51 (.invokevirtual 33) 3 54 := ⟨by decide +kernel, rfl⟩
theorem a5_spend_54 : At cX5_spend 54 (.ifCond .lt 66) 3 57 := ⟨by decide +kernel, rfl⟩
theorem a5_spend_57 : At cX5_spend 57 (.iload_n 3) 1 58 := ⟨by decide +kernel, rfl⟩
theorem a5_spend_58 : At cX5_spend 58 (.iconst 1) 1 59 := ⟨by decide +kernel, rfl⟩
theorem a5_spend_59 : At cX5_spend 59 (.iload 4) 2 61 := ⟨by decide +kernel, rfl⟩
theorem a5_spend_61 : At cX5_spend 61 (.ishl) 1 62 := ⟨by decide +kernel, rfl⟩
theorem a5_spend_62 : At cX5_spend 62 (.ior) 1 63 := ⟨by decide +kernel, rfl⟩
theorem a5_spend_63 : At cX5_spend 63 (.istore 5) 2 65 := ⟨by decide +kernel, rfl⟩
theorem a5_spend_65 : At cX5_spend 65 (.aload_n 0) 1 66 := ⟨by decide +kernel, rfl⟩
theorem a5_spend_66 : At cX5_spend 66 (.getfield 16) 3 69 := ⟨by decide +kernel, rfl⟩
theorem a5_spend_69 : At cX5_spend 69 (.iload_n 3) 1 70 := ⟨by decide +kernel, rfl⟩
theorem a5_spend_70 : At cX5_spend 70 (.invokevirtual 33) 3 73 := ⟨by decide +kernel, rfl⟩
theorem a5_spend_73 : At cX5_spend 73 (.aload_n 1) 1 74 := ⟨by decide +kernel, rfl⟩
theorem a5_spend_74 : At cX5_spend 74 (.iload_n 3) 1 75 := ⟨by decide +kernel, rfl⟩
theorem a5_spend_75 : At cX5_spend 75 (.iload 4) 2 77 := ⟨by decide +kernel, rfl⟩
theorem a5_spend_77 : At cX5_spend 77 (.invokestatic 83) 3 80 := ⟨by decide +kernel, rfl⟩
theorem a5_spend_80 : At cX5_spend 80 (.isub) 1 81 := ⟨by decide +kernel, rfl⟩
theorem a5_spend_81 : At cX5_spend 81 (.istore 6) 2 83 := ⟨by decide +kernel, rfl⟩
theorem a5_spend_83 : At cX5_spend 83 (.iload 5) 2 85 := ⟨by decide +kernel, rfl⟩
theorem a5_spend_85 : At cX5_spend 85 (.iload_n 3) 1 86 := ⟨by decide +kernel, rfl⟩
theorem a5_spend_86 : At cX5_spend 86 (.if_icmp .eq 28) 3 89 := ⟨by decide +kernel, rfl⟩
theorem a5_spend_89 : At cX5_spend 89 (.iload 6) 2 91 := ⟨by decide +kernel, rfl⟩
theorem a5_spend_91 : At cX5_spend 91 (.aload_n 0) 1 92 := ⟨by decide +kernel, rfl⟩
theorem a5_spend_92 : At cX5_spend 92 (.getfield 16) 3 95 := ⟨by decide +kernel, rfl⟩
theorem a5_spend_95 : At cX5_spend 95 (.iload 5) 2 97 := ⟨by decide +kernel, rfl⟩
theorem a5_spend_97 : At cX5_spend 97 (.invokevirtual 33) 3 100 := ⟨by decide +kernel, rfl⟩
theorem a5_spend_100 : At cX5_spend 100 (.if_icmp .le 14) 3 103 := ⟨by decide +kernel, rfl⟩
theorem a5_spend_103 : At cX5_spend 103 (.aload_n 0) 1 104 := ⟨by decide +kernel, rfl⟩
theorem a5_spend_104 : At cX5_spend 104 (.getfield 16) 3 107 := ⟨by decide +kernel, rfl⟩
theorem a5_spend_107 : At cX5_spend 107 (.iload 5) 2 109 := ⟨by decide +kernel, rfl⟩
theorem a5_spend_109 : At cX5_spend 109 (.iload 6) 2 111 := ⟨by decide +kernel, rfl⟩
theorem a5_spend_111 : At cX5_spend 111 (.invokevirtual 79) 3 114 := ⟨by decide +kernel, rfl⟩
theorem a5_spend_114 : At cX5_spend 114 (.iinc 4 1) 3 117 := ⟨by decide +kernel, rfl⟩
theorem a5_spend_117 : At cX5_spend 117 (.goto (-83)) 3 120 := ⟨by decide +kernel, rfl⟩
theorem a5_spend_120 : At cX5_spend 120 (.iinc 3 1) 3 123 := ⟨by decide +kernel, rfl⟩
theorem a5_spend_123 : At cX5_spend 123 (.goto (-98)) 3 126 := ⟨by decide +kernel, rfl⟩
theorem a5_spend_126 : At cX5_spend 126 (.return_) 1 127 := ⟨by decide +kernel, rfl⟩
def l5_spend_34 (k0 : Nat) (k1 : Nat) (x3 : Int32) : Nat → Int32 → Mem → Option (Int32 × Mem)
  | 0, _, _ => none
  | n + 1, x4, σ =>
  if (f7_size (7 * k1 + 2) σ) ≤ x4 then
  (some (x4, σ))
  else
  (bnd (f6_at 3 x3 σ) fun w6 =>
  if w6 < 0 then
  (some (x4, σ))
  else
  (bnd (f6_at 3 x3 σ) fun w8 =>
  bnd (f5_needBehind k1 x3 x4 σ) fun w10 =>
  bnd (if (x3 ||| (1 <<< (x4 &&& 31))) = x3 then
  (some σ)
  else
  (bnd (f6_at 3 (x3 ||| (1 <<< (x4 &&& 31))) σ) fun w14 =>
  if (w8 - w10) ≤ w14 then
  (some σ)
  else
  (bnd (f6_put 3 (x3 ||| (1 <<< (x4 &&& 31))) (w8 - w10) σ) fun w16 =>
  some w16)) : Option (Mem)) fun w12 =>
  l5_spend_34 k0 k1 x3 n (x4 + 1) w12))
theorem lE5_spend_34 {V : Option AV} {S : Mem} (k0 : Nat) (k1 : Nat) (x3 : Int32) : ∀ (n : Nat) (x4 : Int32) (σ : Mem) {w : Int32 × Mem}, l5_spend_34 k0 k1 x3 n x4 σ = some w → (Go m5_spend 120 [some (.inr (.inr (5, k0))), some (.inr (.inr (9, k1))), none, some (.inl x3), some (.inl w.1), none, none] [] w.2 V S) → Go m5_spend 34 [some (.inr (.inr (5, k0))), some (.inr (.inr (9, k1))), none, some (.inl x3), some (.inl x4), none, none] [] σ V S
  | 0, x4, σ, w, h, K1 => by cases h
  | n + 1, x4, σ, w, h, K1 => by
    rw [l5_spend_34] at h
    refine g_iload a5_spend_34 rfl ?_
    refine g_aload_n a5_spend_36 rfl ?_
    refine g_getf (v := .inr (.inr (7, (7 * k1 + 2)))) a5_spend_37 fs5_48 rfl ?_
    refine g_V0s (v1 := .inl (f7_size (7 * k1 + 2) σ)) (σ1 := σ) a5_spend_40 cv5_52 (E7_size _ _) rfl (fun o5 => ?_)
    refine g_icmp_ge (tgt := 120) a5_spend_43 rfl (fun c21 => ?_) (fun c21 => ?_)
    · have h := (if_pos c21).symm.trans h
      have h := Option.some.inj h
      subst h
      exact g_weak K1 ⟨rfl, rfl, rfl, rfl, trivial⟩
    · have h := (if_neg c21).symm.trans h
      refine g_aload_n a5_spend_46 rfl ?_
      refine g_getf (v := .inr (.inr (6, 3))) a5_spend_47 fs5_16 rfl ?_
      refine g_iload_n a5_spend_50 rfl ?_
      obtain ⟨w6, hw6, h⟩ := bnd_inv h
      refine g_V1s (v1 := .inl w6) (σ1 := σ) a5_spend_51 cv5_33 (E6_at hw6) rfl (fun o7 => ?_)
      refine g_if_lt (tgt := 120) a5_spend_54 rfl (fun c20 => ?_) (fun c20 => ?_)
      · have h := (if_pos c20).symm.trans h
        have h := Option.some.inj h
        subst h
        exact g_weak K1 ⟨rfl, rfl, rfl, rfl, trivial⟩
      · have h := (if_neg c20).symm.trans h
        refine g_iload_n a5_spend_57 rfl ?_
        refine g_iconst (v := 1) a5_spend_58 rfl ?_
        refine g_iload a5_spend_59 rfl ?_
        refine g_ishl a5_spend_61 ?_
        refine g_ior a5_spend_62 ?_
        refine g_istore (L' := [some (.inr (.inr (5, k0))), some (.inr (.inr (9, k1))), none, some (.inl x3), some (.inl x4), some (.inl (x3 ||| (1 <<< (x4 &&& 31)))), none]) a5_spend_63 (Nat.le_of_ble_eq_true rfl) rfl rfl ?_
        refine g_aload_n a5_spend_65 rfl ?_
        refine g_getf (v := .inr (.inr (6, 3))) a5_spend_66 fs5_16 rfl ?_
        refine g_iload_n a5_spend_69 rfl ?_
        obtain ⟨w8, hw8, h⟩ := bnd_inv h
        refine g_V1s (v1 := .inl w8) (σ1 := σ) a5_spend_70 cv5_33 (E6_at hw8) rfl (fun o9 => ?_)
        refine g_aload_n a5_spend_73 rfl ?_
        refine g_iload_n a5_spend_74 rfl ?_
        refine g_iload a5_spend_75 rfl ?_
        obtain ⟨w10, hw10, h⟩ := bnd_inv h
        refine g_S3s (v1 := .inl w10) (σ1 := σ) a5_spend_77 cs5_83 (E5_needBehind hw10) rfl (fun o11 => ?_)
        refine g_isub a5_spend_80 ?_
        refine g_istore (L' := [some (.inr (.inr (5, k0))), some (.inr (.inr (9, k1))), none, some (.inl x3), some (.inl x4), some (.inl (x3 ||| (1 <<< (x4 &&& 31)))), some (.inl (w8 - w10))]) a5_spend_81 (Nat.le_of_ble_eq_true rfl) rfl rfl ?_
        refine g_iload a5_spend_83 rfl ?_
        refine g_iload_n a5_spend_85 rfl ?_
        obtain ⟨w12, hw12, h⟩ := bnd_inv h
        have J13 : Go m5_spend 114 [some (.inr (.inr (5, k0))), some (.inr (.inr (9, k1))), none, some (.inl x3), some (.inl x4), none, none] [] w12 V S := by
          refine g_iinc (v := (x4 + 1)) (L' := [some (.inr (.inr (5, k0))), some (.inr (.inr (9, k1))), none, some (.inl x3), some (.inl (x4 + 1)), none, none]) a5_spend_114 rfl rfl (Nat.le_of_ble_eq_true rfl) rfl rfl ?_
          refine g_goto (tgt := 34) a5_spend_117 rfl ?_
          exact g_weak (lE5_spend_34 (V := V) (S := S)  k0 k1 x3 n _ _ h K1) ⟨rfl, rfl, rfl, rfl, trivial⟩
        clear h
        refine g_icmp_eq (tgt := 114) a5_spend_86 rfl (fun c19 => ?_) (fun c19 => ?_)
        · have hw12 := (if_pos c19).symm.trans hw12
          have hw12 := Option.some.inj hw12
          subst hw12
          exact g_weak J13 ⟨rfl, rfl, rfl, rfl, trivial⟩
        · have hw12 := (if_neg c19).symm.trans hw12
          refine g_iload a5_spend_89 rfl ?_
          refine g_aload_n a5_spend_91 rfl ?_
          refine g_getf (v := .inr (.inr (6, 3))) a5_spend_92 fs5_16 rfl ?_
          refine g_iload a5_spend_95 rfl ?_
          obtain ⟨w14, hw14, hw12⟩ := bnd_inv hw12
          refine g_V1s (v1 := .inl w14) (σ1 := σ) a5_spend_97 cv5_33 (E6_at hw14) rfl (fun o15 => ?_)
          refine g_icmp_le (tgt := 114) a5_spend_100 rfl (fun c18 => ?_) (fun c18 => ?_)
          · have hw12 := (if_pos c18).symm.trans hw12
            have hw12 := Option.some.inj hw12
            subst hw12
            exact g_weak J13 ⟨rfl, rfl, rfl, rfl, trivial⟩
          · have hw12 := (if_neg c18).symm.trans hw12
            refine g_aload_n a5_spend_103 rfl ?_
            refine g_getf (v := .inr (.inr (6, 3))) a5_spend_104 fs5_16 rfl ?_
            refine g_iload a5_spend_107 rfl ?_
            refine g_iload a5_spend_109 rfl ?_
            obtain ⟨w16, hw16, hw12⟩ := bnd_inv hw12
            refine g_V2n (σ1 := w16) a5_spend_111 cv5_79 (E6_put hw16) rfl (fun o17 => ?_)
            have hw12 := Option.some.inj hw12
            subst hw12
            exact g_weak J13 ⟨rfl, rfl, rfl, rfl, trivial⟩
def l5_spend_25 (k0 : Nat) (k1 : Nat) : Nat → Int32 → Mem → Option (Int32 × Mem)
  | 0, _, _ => none
  | n + 1, x3, σ =>
  if 64 ≤ x3 then
  (some (x3, σ))
  else
  (bnd (l5_spend_34 k0 k1 x3 2000 0 σ) fun w22 =>
  l5_spend_25 k0 k1 n (x3 + 1) w22.2)
theorem lE5_spend_25 {V : Option AV} {S : Mem} (k0 : Nat) (k1 : Nat) : ∀ (n : Nat) (x3 : Int32) (σ : Mem) {w : Int32 × Mem}, l5_spend_25 k0 k1 n x3 σ = some w → (Go m5_spend 126 [some (.inr (.inr (5, k0))), some (.inr (.inr (9, k1))), none, some (.inl w.1), none, none, none] [] w.2 V S) → Go m5_spend 25 [some (.inr (.inr (5, k0))), some (.inr (.inr (9, k1))), none, some (.inl x3), none, none, none] [] σ V S
  | 0, x3, σ, w, h, K1 => by cases h
  | n + 1, x3, σ, w, h, K1 => by
    rw [l5_spend_25] at h
    refine g_iload_n a5_spend_25 rfl ?_
    refine g_bipush (v := 64) a5_spend_26 rfl ?_
    refine g_icmp_ge (tgt := 126) a5_spend_28 rfl (fun c23 => ?_) (fun c23 => ?_)
    · have h := (if_pos c23).symm.trans h
      have h := Option.some.inj h
      subst h
      exact g_weak K1 ⟨rfl, rfl, rfl, trivial⟩
    · have h := (if_neg c23).symm.trans h
      refine g_iconst (v := 0) a5_spend_31 rfl ?_
      refine g_istore (L' := [some (.inr (.inr (5, k0))), some (.inr (.inr (9, k1))), none, some (.inl x3), some (.inl 0), none, none]) a5_spend_32 (Nat.le_of_ble_eq_true rfl) rfl rfl ?_
      obtain ⟨w22, hw22, h⟩ := bnd_inv h
      refine g_weak (lE5_spend_34 k0 k1 x3 2000 _ _ hw22 ?_) ⟨rfl, rfl, rfl, rfl, trivial⟩
      refine g_iinc (v := (x3 + 1)) (L' := [some (.inr (.inr (5, k0))), some (.inr (.inr (9, k1))), none, some (.inl (x3 + 1)), some (.inl w22.1), none, none]) a5_spend_120 rfl rfl (Nat.le_of_ble_eq_true rfl) rfl rfl ?_
      refine g_goto (tgt := 25) a5_spend_123 rfl ?_
      exact g_weak (lE5_spend_25 (V := V) (S := S)  k0 k1 n _ _ h K1) ⟨rfl, rfl, rfl, trivial⟩
def f5_spend (k0 : Nat) (k1 : Nat) (x2 : Int32) (σ : Mem) : Option (Mem) :=
  bnd (f6_fill 3 (-1) σ) fun w1 =>
  bnd (f6_put 3 (w1.1 4 k1 1) x2 w1) fun w3 =>
  bnd (l5_spend_25 k0 k1 2000 0 w3) fun w24 =>
  some w24.2
theorem E5_spend {k0 : Nat} {k1 : Nat} {x2 : Int32} {σ : Mem} {w : Mem} (h : f5_spend k0 k1 x2 σ = some w) : Ev m5_spend [.inr (.inr (5, k0)), .inr (.inr (9, k1)), .inl x2] σ none w := by
  unfold f5_spend at h
  show Go m5_spend 0 [some (.inr (.inr (5, k0))), some (.inr (.inr (9, k1))), some (.inl x2), none, none, none, none] [] σ none w
  refine g_aload_n a5_spend_0 rfl ?_
  refine g_getf (v := .inr (.inr (6, 3))) a5_spend_1 fs5_16 rfl ?_
  refine g_iconst (v := (-1)) a5_spend_4 rfl ?_
  obtain ⟨w1, hw1, h⟩ := bnd_inv h
  refine g_V1n (σ1 := w1) a5_spend_5 cv5_76 (E6_fill hw1) rfl (fun o2 => ?_)
  refine g_aload_n a5_spend_8 rfl ?_
  refine g_getf (v := .inr (.inr (6, 3))) a5_spend_9 fs5_16 rfl ?_
  refine g_aload_n a5_spend_12 rfl ?_
  refine g_getf (v := .inr (.inr (4, k1))) a5_spend_13 fs5_37 rfl ?_
  refine g_getf (v := .inl (w1.1 4 k1 1)) a5_spend_16 fs5_43 rfl ?_
  refine g_iload_n a5_spend_19 rfl ?_
  obtain ⟨w3, hw3, h⟩ := bnd_inv h
  refine g_V2n (σ1 := w3) a5_spend_20 cv5_79 (E6_put hw3) rfl (fun o4 => ?_)
  refine g_iconst (v := 0) a5_spend_23 rfl ?_
  refine g_istore_n (L' := [some (.inr (.inr (5, k0))), some (.inr (.inr (9, k1))), some (.inl x2), some (.inl 0), none, none, none]) a5_spend_24 (Nat.le_of_ble_eq_true rfl) rfl rfl ?_
  obtain ⟨w24, hw24, h⟩ := bnd_inv h
  refine g_weak (lE5_spend_25 k0 k1 2000 _ _ hw24 ?_) ⟨rfl, rfl, rfl, trivial⟩
  have h := Option.some.inj h
  subst h
  exact g_retE a5_spend_126 trivial rfl rfl
theorem a5_mostReached_0 : At cX5_mostReached 0 (.iconst 0) 1 1 := ⟨by decide +kernel, rfl⟩
theorem a5_mostReached_1 : At cX5_mostReached 1 (.istore_n 2) 1 2 := ⟨by decide +kernel, rfl⟩
theorem a5_mostReached_2 : At cX5_mostReached 2 (.iconst 0) 1 3 := ⟨by decide +kernel, rfl⟩
theorem a5_mostReached_3 : At cX5_mostReached 3 (.istore_n 3) 1 4 := ⟨by decide +kernel, rfl⟩
theorem a5_mostReached_4 : At cX5_mostReached 4 (.iload_n 3) 1 5 := ⟨by decide +kernel, rfl⟩
theorem a5_mostReached_5 : At cX5_mostReached 5 (.bipush 64) 2 7 := ⟨by decide +kernel, rfl⟩
theorem a5_mostReached_7 : At cX5_mostReached 7 (.if_icmp .ge 29) 3 10 := ⟨by decide +kernel, rfl⟩
theorem a5_mostReached_10 : At cX5_mostReached 10 (.aload_n 0) 1 11 := ⟨by decide +kernel, rfl⟩
theorem a5_mostReached_11 : At cX5_mostReached 11 (.getfield 16) 3 14 := ⟨by decide +kernel, rfl⟩
theorem a5_mostReached_14 : At cX5_mostReached 14 (.iload_n 3) 1 15 := ⟨by decide +kernel, rfl⟩
theorem a5_mostReached_15 : At cX5_mostReached 15 (.invokevirtual 33) 3 18 := ⟨by decide +kernel, rfl⟩
theorem a5_mostReached_18 : At cX5_mostReached 18 (.ifCond .lt 12) 3 21 := ⟨by decide +kernel, rfl⟩
theorem a5_mostReached_21 : At cX5_mostReached 21 (.iload_n 2) 1 22 := ⟨by decide +kernel, rfl⟩
theorem a5_mostReached_22 : At cX5_mostReached 22 (.iload_n 3) 1 23 := ⟨by decide +kernel, rfl⟩
theorem a5_mostReached_23 : At cX5_mostReached 23 (.invokestatic 58) 3 26 := ⟨by decide +kernel, rfl⟩
theorem a5_mostReached_26 : At cX5_mostReached 26 (.invokestatic 87) 3 29 := ⟨by decide +kernel, rfl⟩
theorem a5_mostReached_29 : At cX5_mostReached 29 (.istore_n 2) 1 30 := ⟨by decide +kernel, rfl⟩
theorem a5_mostReached_30 : At cX5_mostReached 30 (.iinc 3 1) 3 33 := ⟨by decide +kernel, rfl⟩
theorem a5_mostReached_33 : At cX5_mostReached 33 (.goto (-29)) 3 36 := ⟨by decide +kernel, rfl⟩
theorem a5_mostReached_36 : At cX5_mostReached 36 (.iload_n 2) 1 37 := ⟨by decide +kernel, rfl⟩
theorem a5_mostReached_37 : At cX5_mostReached 37 (.iload_n 1) 1 38 := ⟨by decide +kernel, rfl⟩
theorem a5_mostReached_38 : At cX5_mostReached 38 (.invokestatic 58) 3 41 := ⟨by decide +kernel, rfl⟩
theorem a5_mostReached_41 : At cX5_mostReached 41 (.isub) 1 42 := ⟨by decide +kernel, rfl⟩
theorem a5_mostReached_42 : At cX5_mostReached 42 (.iconst 0) 1 43 := ⟨by decide +kernel, rfl⟩
theorem a5_mostReached_43 : At cX5_mostReached 43 (.invokestatic 87) 3 46 := ⟨by decide +kernel, rfl⟩
theorem a5_mostReached_46 : At cX5_mostReached 46 (.ireturn) 1 47 := ⟨by decide +kernel, rfl⟩
def l5_mostReached_4 (k0 : Nat) (x1 : Int32) (σ : Mem) : Nat → Int32 → Int32 → Option (Int32 × Int32)
  | 0, _, _ => none
  | n + 1, x2, x3 =>
  if 64 ≤ x3 then
  (some (x2, x3))
  else
  (bnd (f6_at 3 x3 σ) fun w1 =>
  lt (if w1 < 0 then
  (x2)
  else
  ((mxI x2 (fJ6_bitCount x3))) : Int32) fun w3 =>
  l5_mostReached_4 k0 x1 σ n w3 (x3 + 1))
theorem lE5_mostReached_4 {V : Option AV} {S : Mem} (k0 : Nat) (x1 : Int32) (σ : Mem) : ∀ (n : Nat) (x2 : Int32) (x3 : Int32) {w : Int32 × Int32}, l5_mostReached_4 k0 x1 σ n x2 x3 = some w → (Go m5_mostReached 36 [some (.inr (.inr (5, k0))), some (.inl x1), some (.inl w.1), some (.inl w.2)] [] σ V S) → Go m5_mostReached 4 [some (.inr (.inr (5, k0))), some (.inl x1), some (.inl x2), some (.inl x3)] [] σ V S
  | 0, x2, x3, w, h, K1 => by cases h
  | n + 1, x2, x3, w, h, K1 => by
    rw [l5_mostReached_4] at h
    refine g_iload_n a5_mostReached_4 rfl ?_
    refine g_bipush (v := 64) a5_mostReached_5 rfl ?_
    refine g_icmp_ge (tgt := 36) a5_mostReached_7 rfl (fun c7 => ?_) (fun c7 => ?_)
    · have h := (if_pos c7).symm.trans h
      have h := Option.some.inj h
      subst h
      exact g_weak K1 ⟨rfl, rfl, rfl, rfl, trivial⟩
    · have h := (if_neg c7).symm.trans h
      refine g_aload_n a5_mostReached_10 rfl ?_
      refine g_getf (v := .inr (.inr (6, 3))) a5_mostReached_11 fs5_16 rfl ?_
      refine g_iload_n a5_mostReached_14 rfl ?_
      obtain ⟨w1, hw1, h⟩ := bnd_inv h
      refine g_V1s (v1 := .inl w1) (σ1 := σ) a5_mostReached_15 cv5_33 (E6_at hw1) rfl (fun o2 => ?_)
      obtain ⟨w3, hw3, h⟩ := lt_inv h
      have J4 : Go m5_mostReached 30 [some (.inr (.inr (5, k0))), some (.inl x1), some (.inl w3), some (.inl x3)] [] σ V S := by
        refine g_iinc (v := (x3 + 1)) (L' := [some (.inr (.inr (5, k0))), some (.inl x1), some (.inl w3), some (.inl (x3 + 1))]) a5_mostReached_30 rfl rfl (Nat.le_of_ble_eq_true rfl) rfl rfl ?_
        refine g_goto (tgt := 4) a5_mostReached_33 rfl ?_
        exact g_weak (lE5_mostReached_4 (V := V) (S := S)  k0 x1 σ n _ _ h K1) ⟨rfl, rfl, rfl, rfl, trivial⟩
      clear h
      refine g_if_lt (tgt := 30) a5_mostReached_18 rfl (fun c6 => ?_) (fun c6 => ?_)
      · have hw3 := (if_pos c6).symm.trans hw3
        subst hw3
        exact g_weak J4 ⟨rfl, rfl, rfl, rfl, trivial⟩
      · have hw3 := (if_neg c6).symm.trans hw3
        refine g_iload_n a5_mostReached_21 rfl ?_
        refine g_iload_n a5_mostReached_22 rfl ?_
        refine g_S1s (v1 := .inl (fJ6_bitCount x3)) (σ1 := σ) a5_mostReached_23 cs5_58 (EJ6_bitCount _ _) rfl (fun o5 => ?_)
        refine g_max a5_mostReached_26 cm5_87 rfl ?_
        refine g_istore_n (L' := [some (.inr (.inr (5, k0))), some (.inl x1), some (.inl (mxI x2 (fJ6_bitCount x3))), some (.inl x3)]) a5_mostReached_29 (Nat.le_of_ble_eq_true rfl) rfl rfl ?_
        subst hw3
        exact g_weak J4 ⟨rfl, rfl, rfl, rfl, trivial⟩
def f5_mostReached (k0 : Nat) (x1 : Int32) (σ : Mem) : Option (Int32) :=
  bnd (l5_mostReached_4 k0 x1 σ 2000 0 0) fun w8 =>
  some (mxI (w8.1 - (fJ6_bitCount x1)) 0)
theorem E5_mostReached {k0 : Nat} {x1 : Int32} {σ : Mem} {w : Int32} (h : f5_mostReached k0 x1 σ = some w) : Ev m5_mostReached [.inr (.inr (5, k0)), .inl x1] σ (some (.inl w) : Option AV) σ := by
  unfold f5_mostReached at h
  show Go m5_mostReached 0 [some (.inr (.inr (5, k0))), some (.inl x1), none, none] [] σ (some (.inl w) : Option AV) σ
  refine g_iconst (v := 0) a5_mostReached_0 rfl ?_
  refine g_istore_n (L' := [some (.inr (.inr (5, k0))), some (.inl x1), some (.inl 0), none]) a5_mostReached_1 (Nat.le_of_ble_eq_true rfl) rfl rfl ?_
  refine g_iconst (v := 0) a5_mostReached_2 rfl ?_
  refine g_istore_n (L' := [some (.inr (.inr (5, k0))), some (.inl x1), some (.inl 0), some (.inl 0)]) a5_mostReached_3 (Nat.le_of_ble_eq_true rfl) rfl rfl ?_
  obtain ⟨w8, hw8, h⟩ := bnd_inv h
  refine g_weak (lE5_mostReached_4 k0 x1 σ 2000 _ _ hw8 ?_) ⟨rfl, rfl, rfl, rfl, trivial⟩
  refine g_iload_n a5_mostReached_36 rfl ?_
  refine g_iload_n a5_mostReached_37 rfl ?_
  refine g_S1s (v1 := .inl (fJ6_bitCount x1)) (σ1 := σ) a5_mostReached_38 cs5_58 (EJ6_bitCount _ _) rfl (fun o9 => ?_)
  refine g_isub a5_mostReached_41 ?_
  refine g_iconst (v := 0) a5_mostReached_42 rfl ?_
  refine g_max a5_mostReached_43 cm5_87 rfl ?_
  have h := Option.some.inj h
  subst h
  exact g_retE a5_mostReached_46 trivial rfl rfl
theorem a5_reach_0 : At cX5_reach 0 (.bipush 63) 2 2 := ⟨by decide +kernel, rfl⟩
theorem a5_reach_2 : At cX5_reach 2 (.istore_n 3) 1 3 := ⟨by decide +kernel, rfl⟩
theorem a5_reach_3 : At cX5_reach 3 (.iload_n 3) 1 4 := ⟨by decide +kernel, rfl⟩
theorem a5_reach_4 : At cX5_reach 4 (.ifCond .lt 99) 3 7 := ⟨by decide +kernel, rfl⟩
theorem a5_reach_7 : At cX5_reach 7 (.iload_n 3) 1 8 := ⟨by decide +kernel, rfl⟩
theorem a5_reach_8 : At cX5_reach 8 (.invokestatic 58) 3 11 := ⟨by decide +kernel, rfl⟩
theorem a5_reach_11 : At cX5_reach 11 (.iload_n 2) 1 12 := ⟨by decide +kernel, rfl⟩
theorem a5_reach_12 : At cX5_reach 12 (.if_icmp .ne 7) 3 15 := ⟨by decide +kernel, rfl⟩
theorem a5_reach_15 : At cX5_reach 15 (.iconst 0) 1 16 := ⟨by decide +kernel, rfl⟩
theorem a5_reach_16 : At cX5_reach 16 (.goto 5) 3 19 := ⟨by decide +kernel, rfl⟩
theorem a5_reach_19 : At cX5_reach 19 (.ldc 93) 2 21 := ⟨by decide +kernel, rfl⟩
theorem a5_reach_21 : At cX5_reach 21 (.istore 4) 2 23 := ⟨by decide +kernel, rfl⟩
theorem a5_reach_23 : At cX5_reach 23 (.iconst 0) 1 24 := ⟨by decide +kernel, rfl⟩
theorem a5_reach_24 : At cX5_reach 24 (.istore 5) 2 26 := ⟨by decide +kernel, rfl⟩
theorem a5_reach_26 : At cX5_reach 26 (.iload 5) 2 28 := ⟨by decide +kernel, rfl⟩
theorem a5_reach_28 : At cX5_reach 28 (.aload_n 1) 1 29 := ⟨by decide +kernel, rfl⟩
theorem a5_reach_29 : At cX5_reach 29 (.getfield 48) 3 32 := ⟨by decide +kernel, rfl⟩
theorem a5_reach_32 : At cX5_reach 32 (.invokevirtual 52) 3 35 := ⟨by decide +kernel, rfl⟩
theorem a5_reach_35 : At cX5_reach 35 (.if_icmp .ge 52) 3 38 := ⟨by decide +kernel, rfl⟩
theorem a5_reach_38 : At cX5_reach 38 (.iload 4) 2 40 := ⟨by decide +kernel, rfl⟩
theorem a5_reach_40 : At cX5_reach 40 (.ifCond .le 47) 3 43 := ⟨by decide +kernel, rfl⟩
theorem a5_reach_43 : At cX5_reach 43 (.iload_n 3) 1 44 := ⟨by decide +kernel, rfl⟩
theorem a5_reach_44 : At cX5_reach 44 (.iconst 1) 1 45 := ⟨by decide +kernel, rfl⟩
theorem a5_reach_45 : At cX5_reach 45 (.iload 5) 2 47 := ⟨by decide +kernel, rfl⟩
theorem a5_reach_47 : At cX5_reach 47 (.ishl) 1 48 := ⟨by decide +kernel, rfl⟩
theorem a5_reach_48 : At cX5_reach 48 (.ior) 1 49 := ⟨by decide +kernel, rfl⟩
theorem a5_reach_49 : At cX5_reach 49 (.istore 6) 2 51 := ⟨by decide +kernel, rfl⟩
theorem a5_reach_51 : At cX5_reach 51 (.iload 6) 2 53 := ⟨by decide +kernel, rfl⟩
theorem a5_reach_53 : At cX5_reach 53 (.iload_n 3) 1 54 := ⟨by decide +kernel, rfl⟩
theorem a5_reach_54 : At cX5_reach 54 (.if_icmp .eq 27) 3 57 := ⟨by decide +kernel, rfl⟩
theorem a5_reach_57 : At cX5_reach 57 (.iload 4) 2 59 := ⟨by decide +kernel, rfl⟩
theorem a5_reach_59 : At cX5_reach 59 (.aload_n 1) 1 60 := ⟨by decide +kernel, rfl⟩
theorem a5_reach_60 : At cX5_reach 60 (.iload_n 3) 1 61 := ⟨by decide +kernel, rfl⟩
theorem a5_reach_61 : At cX5_reach 61 (.iload 5) 2 63 := ⟨by decide +kernel, rfl⟩
theorem a5_reach_63 : At cX5_reach 63 (.invokestatic 83) 3 66 := ⟨by decide +kernel, rfl⟩
theorem a5_reach_66 : At cX5_reach 66 (.aload_n 0) 1 67 := ⟨by decide +kernel, rfl⟩
theorem a5_reach_67 : At cX5_reach 67 (.getfield 20) 3 70 := ⟨by decide +kernel, rfl⟩
theorem a5_reach_70 : At cX5_reach 70 (.iload 6) 2 72 := ⟨by decide +kernel, rfl⟩
theorem a5_reach_72 : At cX5_reach 72 (.invokevirtual 33) 3 75 := ⟨by decide +kernel, rfl⟩
theorem a5_reach_75 : At cX5_reach 75 (.iadd) 1 76 := ⟨by decide +kernel, rfl⟩
theorem a5_reach_76 : At cX5_reach 76 (.invokestatic 94) 3 79 := ⟨by decide +kernel, rfl⟩
theorem a5_reach_79 : At cX5_reach 79 (.istore 4) 2 81 := ⟨by decide +kernel, rfl⟩
theorem a5_reach_81 : At cX5_reach 81 (.iinc 5 1) 3 84 := ⟨by decide +kernel, rfl⟩
theorem a5_reach_84 : At cX5_reach 84 (.goto (-58)) 3 87 := ⟨by decide +kernel, rfl⟩
theorem a5_reach_87 : At cX5_reach 87 (.aload_n 0) 1 88 := ⟨by decide +kernel, rfl⟩
theorem a5_reach_88 : At cX5_reach 88 (.getfield 20) 3 91 := ⟨by decide +kernel, rfl⟩
theorem a5_reach_91 : At cX5_reach 91 (.iload_n 3) 1 92 := ⟨by decide +kernel, rfl⟩
theorem a5_reach_92 : At cX5_reach 92 (.iload 4) 2 94 := ⟨by decide +kernel, rfl⟩
theorem a5_reach_94 : At cX5_reach 94 (.invokevirtual 79) 3 97 := ⟨by decide +kernel, rfl⟩
theorem a5_reach_97 : At cX5_reach 97 (.iinc 3 (-1)) 3 100 := ⟨by decide +kernel, rfl⟩
theorem a5_reach_100 : At cX5_reach 100 (.goto (-97)) 3 103 := ⟨by decide +kernel, rfl⟩
theorem a5_reach_103 : At cX5_reach 103 (.return_) 1 104 := ⟨by decide +kernel, rfl⟩
def l5_reach_26 (k0 : Nat) (k1 : Nat) (x2 : Int32) (x3 : Int32) (σ : Mem) : Nat → Int32 → Int32 → Option (Int32 × Int32)
  | 0, _, _ => none
  | n + 1, x4, x5 =>
  if (f7_size (7 * k1 + 2) σ) ≤ x5 then
  (some (x4, x5))
  else
  (if x4 ≤ 0 then
  (some (x4, x5))
  else
  (bnd (if (x3 ||| (1 <<< (x5 &&& 31))) = x3 then
  (some x4)
  else
  (bnd (f5_needBehind k1 x3 x5 σ) fun w8 =>
  bnd (f6_at 4 (x3 ||| (1 <<< (x5 &&& 31))) σ) fun w10 =>
  some (mnI x4 (w8 + w10))) : Option (Int32)) fun w6 =>
  l5_reach_26 k0 k1 x2 x3 σ n w6 (x5 + 1)))
theorem lE5_reach_26 {V : Option AV} {S : Mem} (k0 : Nat) (k1 : Nat) (x2 : Int32) (x3 : Int32) (σ : Mem) : ∀ (n : Nat) (x4 : Int32) (x5 : Int32) {w : Int32 × Int32}, l5_reach_26 k0 k1 x2 x3 σ n x4 x5 = some w → (Go m5_reach 87 [some (.inr (.inr (5, k0))), some (.inr (.inr (9, k1))), some (.inl x2), some (.inl x3), some (.inl w.1), some (.inl w.2), none] [] σ V S) → Go m5_reach 26 [some (.inr (.inr (5, k0))), some (.inr (.inr (9, k1))), some (.inl x2), some (.inl x3), some (.inl x4), some (.inl x5), none] [] σ V S
  | 0, x4, x5, w, h, K1 => by cases h
  | n + 1, x4, x5, w, h, K1 => by
    rw [l5_reach_26] at h
    refine g_iload a5_reach_26 rfl ?_
    refine g_aload_n a5_reach_28 rfl ?_
    refine g_getf (v := .inr (.inr (7, (7 * k1 + 2)))) a5_reach_29 fs5_48 rfl ?_
    refine g_V0s (v1 := .inl (f7_size (7 * k1 + 2) σ)) (σ1 := σ) a5_reach_32 cv5_52 (E7_size _ _) rfl (fun o5 => ?_)
    refine g_icmp_ge (tgt := 87) a5_reach_35 rfl (fun c14 => ?_) (fun c14 => ?_)
    · have h := (if_pos c14).symm.trans h
      have h := Option.some.inj h
      subst h
      exact g_weak K1 ⟨rfl, rfl, rfl, rfl, rfl, rfl, trivial⟩
    · have h := (if_neg c14).symm.trans h
      refine g_iload a5_reach_38 rfl ?_
      refine g_if_le (tgt := 87) a5_reach_40 rfl (fun c13 => ?_) (fun c13 => ?_)
      · have h := (if_pos c13).symm.trans h
        have h := Option.some.inj h
        subst h
        exact g_weak K1 ⟨rfl, rfl, rfl, rfl, rfl, rfl, trivial⟩
      · have h := (if_neg c13).symm.trans h
        refine g_iload_n a5_reach_43 rfl ?_
        refine g_iconst (v := 1) a5_reach_44 rfl ?_
        refine g_iload a5_reach_45 rfl ?_
        refine g_ishl a5_reach_47 ?_
        refine g_ior a5_reach_48 ?_
        refine g_istore (L' := [some (.inr (.inr (5, k0))), some (.inr (.inr (9, k1))), some (.inl x2), some (.inl x3), some (.inl x4), some (.inl x5), some (.inl (x3 ||| (1 <<< (x5 &&& 31))))]) a5_reach_49 (Nat.le_of_ble_eq_true rfl) rfl rfl ?_
        refine g_iload a5_reach_51 rfl ?_
        refine g_iload_n a5_reach_53 rfl ?_
        obtain ⟨w6, hw6, h⟩ := bnd_inv h
        have J7 : Go m5_reach 81 [some (.inr (.inr (5, k0))), some (.inr (.inr (9, k1))), some (.inl x2), some (.inl x3), some (.inl w6), some (.inl x5), none] [] σ V S := by
          refine g_iinc (v := (x5 + 1)) (L' := [some (.inr (.inr (5, k0))), some (.inr (.inr (9, k1))), some (.inl x2), some (.inl x3), some (.inl w6), some (.inl (x5 + 1)), none]) a5_reach_81 rfl rfl (Nat.le_of_ble_eq_true rfl) rfl rfl ?_
          refine g_goto (tgt := 26) a5_reach_84 rfl ?_
          exact g_weak (lE5_reach_26 (V := V) (S := S)  k0 k1 x2 x3 σ n _ _ h K1) ⟨rfl, rfl, rfl, rfl, rfl, rfl, trivial⟩
        clear h
        refine g_icmp_eq (tgt := 81) a5_reach_54 rfl (fun c12 => ?_) (fun c12 => ?_)
        · have hw6 := (if_pos c12).symm.trans hw6
          have hw6 := Option.some.inj hw6
          subst hw6
          exact g_weak J7 ⟨rfl, rfl, rfl, rfl, rfl, rfl, trivial⟩
        · have hw6 := (if_neg c12).symm.trans hw6
          refine g_iload a5_reach_57 rfl ?_
          refine g_aload_n a5_reach_59 rfl ?_
          refine g_iload_n a5_reach_60 rfl ?_
          refine g_iload a5_reach_61 rfl ?_
          obtain ⟨w8, hw8, hw6⟩ := bnd_inv hw6
          refine g_S3s (v1 := .inl w8) (σ1 := σ) a5_reach_63 cs5_83 (E5_needBehind hw8) rfl (fun o9 => ?_)
          refine g_aload_n a5_reach_66 rfl ?_
          refine g_getf (v := .inr (.inr (6, 4))) a5_reach_67 fs5_20 rfl ?_
          refine g_iload a5_reach_70 rfl ?_
          obtain ⟨w10, hw10, hw6⟩ := bnd_inv hw6
          refine g_V1s (v1 := .inl w10) (σ1 := σ) a5_reach_72 cv5_33 (E6_at hw10) rfl (fun o11 => ?_)
          refine g_iadd a5_reach_75 ?_
          refine g_min a5_reach_76 cm5_94 rfl ?_
          refine g_istore (L' := [some (.inr (.inr (5, k0))), some (.inr (.inr (9, k1))), some (.inl x2), some (.inl x3), some (.inl (mnI x4 (w8 + w10))), some (.inl x5), some (.inl (x3 ||| (1 <<< (x5 &&& 31))))]) a5_reach_79 (Nat.le_of_ble_eq_true rfl) rfl rfl ?_
          have hw6 := Option.some.inj hw6
          subst hw6
          exact g_weak J7 ⟨rfl, rfl, rfl, rfl, rfl, rfl, trivial⟩
def l5_reach_3 (k0 : Nat) (k1 : Nat) (x2 : Int32) : Nat → Int32 → Mem → Option (Int32 × Mem)
  | 0, _, _ => none
  | n + 1, x3, σ =>
  if x3 < 0 then
  (some (x3, σ))
  else
  (lt (if (fJ6_bitCount x3) = x2 then
  (0)
  else
  (1000000) : Int32) fun w2 =>
  bnd (l5_reach_26 k0 k1 x2 x3 σ 2000 w2 0) fun w15 =>
  bnd (f6_put 4 x3 w15.1 σ) fun w16 =>
  l5_reach_3 k0 k1 x2 n (x3 + (-1)) w16)
theorem lE5_reach_3 {V : Option AV} {S : Mem} (k0 : Nat) (k1 : Nat) (x2 : Int32) : ∀ (n : Nat) (x3 : Int32) (σ : Mem) {w : Int32 × Mem}, l5_reach_3 k0 k1 x2 n x3 σ = some w → (Go m5_reach 103 [some (.inr (.inr (5, k0))), some (.inr (.inr (9, k1))), some (.inl x2), some (.inl w.1), none, none, none] [] w.2 V S) → Go m5_reach 3 [some (.inr (.inr (5, k0))), some (.inr (.inr (9, k1))), some (.inl x2), some (.inl x3), none, none, none] [] σ V S
  | 0, x3, σ, w, h, K1 => by cases h
  | n + 1, x3, σ, w, h, K1 => by
    rw [l5_reach_3] at h
    refine g_iload_n a5_reach_3 rfl ?_
    refine g_if_lt (tgt := 103) a5_reach_4 rfl (fun c18 => ?_) (fun c18 => ?_)
    · have h := (if_pos c18).symm.trans h
      have h := Option.some.inj h
      subst h
      exact g_weak K1 ⟨rfl, rfl, rfl, rfl, trivial⟩
    · have h := (if_neg c18).symm.trans h
      refine g_iload_n a5_reach_7 rfl ?_
      refine g_S1s (v1 := .inl (fJ6_bitCount x3)) (σ1 := σ) a5_reach_8 cs5_58 (EJ6_bitCount _ _) rfl (fun o1 => ?_)
      refine g_iload_n a5_reach_11 rfl ?_
      obtain ⟨w2, hw2, h⟩ := lt_inv h
      have J3 : Go m5_reach 21 [some (.inr (.inr (5, k0))), some (.inr (.inr (9, k1))), some (.inl x2), some (.inl x3), none, none, none] [.inl w2] σ V S := by
        refine g_istore (L' := [some (.inr (.inr (5, k0))), some (.inr (.inr (9, k1))), some (.inl x2), some (.inl x3), some (.inl w2), none, none]) a5_reach_21 (Nat.le_of_ble_eq_true rfl) rfl rfl ?_
        refine g_iconst (v := 0) a5_reach_23 rfl ?_
        refine g_istore (L' := [some (.inr (.inr (5, k0))), some (.inr (.inr (9, k1))), some (.inl x2), some (.inl x3), some (.inl w2), some (.inl 0), none]) a5_reach_24 (Nat.le_of_ble_eq_true rfl) rfl rfl ?_
        obtain ⟨w15, hw15, h⟩ := bnd_inv h
        refine g_weak (lE5_reach_26 k0 k1 x2 x3 σ 2000 _ _ hw15 ?_) ⟨rfl, rfl, rfl, rfl, rfl, rfl, trivial⟩
        refine g_aload_n a5_reach_87 rfl ?_
        refine g_getf (v := .inr (.inr (6, 4))) a5_reach_88 fs5_20 rfl ?_
        refine g_iload_n a5_reach_91 rfl ?_
        refine g_iload a5_reach_92 rfl ?_
        obtain ⟨w16, hw16, h⟩ := bnd_inv h
        refine g_V2n (σ1 := w16) a5_reach_94 cv5_79 (E6_put hw16) rfl (fun o17 => ?_)
        refine g_iinc (v := (x3 + (-1))) (L' := [some (.inr (.inr (5, k0))), some (.inr (.inr (9, k1))), some (.inl x2), some (.inl (x3 + (-1))), some (.inl w15.1), some (.inl w15.2), none]) a5_reach_97 rfl rfl (Nat.le_of_ble_eq_true rfl) rfl rfl ?_
        refine g_goto (tgt := 3) a5_reach_100 rfl ?_
        exact g_weak (lE5_reach_3 (V := V) (S := S)  k0 k1 x2 n _ _ h K1) ⟨rfl, rfl, rfl, rfl, trivial⟩
      clear h
      refine g_icmp_ne (tgt := 19) a5_reach_12 rfl (fun c4 => ?_) (fun c4 => ?_)
      · have hw2 := (if_neg c4).symm.trans hw2
        refine g_ldc (v := 1000000) a5_reach_19 wc5_93 ?_
        subst hw2
        exact J3
      · have hw2 := (if_pos c4).symm.trans hw2
        refine g_iconst (v := 0) a5_reach_15 rfl ?_
        refine g_goto (tgt := 21) a5_reach_16 rfl ?_
        subst hw2
        exact J3
def f5_reach (k0 : Nat) (k1 : Nat) (x2 : Int32) (σ : Mem) : Option (Mem) :=
  bnd (l5_reach_3 k0 k1 x2 2000 63 σ) fun w19 =>
  some w19.2
theorem E5_reach {k0 : Nat} {k1 : Nat} {x2 : Int32} {σ : Mem} {w : Mem} (h : f5_reach k0 k1 x2 σ = some w) : Ev m5_reach [.inr (.inr (5, k0)), .inr (.inr (9, k1)), .inl x2] σ none w := by
  unfold f5_reach at h
  show Go m5_reach 0 [some (.inr (.inr (5, k0))), some (.inr (.inr (9, k1))), some (.inl x2), none, none, none, none] [] σ none w
  refine g_bipush (v := 63) a5_reach_0 rfl ?_
  refine g_istore_n (L' := [some (.inr (.inr (5, k0))), some (.inr (.inr (9, k1))), some (.inl x2), some (.inl 63), none, none, none]) a5_reach_2 (Nat.le_of_ble_eq_true rfl) rfl rfl ?_
  obtain ⟨w19, hw19, h⟩ := bnd_inv h
  refine g_weak (lE5_reach_3 k0 k1 x2 2000 _ _ hw19 ?_) ⟨rfl, rfl, rfl, rfl, trivial⟩
  have h := Option.some.inj h
  subst h
  exact g_retE a5_reach_103 trivial rfl rfl
theorem a5_firstFitting_0 : At cX5_firstFitting 0 (.iconst 0) 1 1 := ⟨by decide +kernel, rfl⟩
theorem a5_firstFitting_1 : At cX5_firstFitting 1 (.istore 5) 2 3 := ⟨by decide +kernel, rfl⟩
theorem a5_firstFitting_3 : At cX5_firstFitting 3 (.iload 5) 2 5 := ⟨by decide +kernel, rfl⟩
theorem a5_firstFitting_5 : At cX5_firstFitting 5 (.aload_n 1) 1 6 := ⟨by decide +kernel, rfl⟩
theorem a5_firstFitting_6 : At cX5_firstFitting 6 (.getfield 48) 3 9 := ⟨by decide +kernel, rfl⟩
theorem a5_firstFitting_9 : At cX5_firstFitting 9 (.invokevirtual 52) 3 12 := ⟨by decide +kernel, rfl⟩
theorem a5_firstFitting_12 : At cX5_firstFitting 12 (.if_icmp .ge 64) 3 15 := ⟨by decide +kernel, rfl⟩
theorem a5_firstFitting_15 : At cX5_firstFitting 15 (.iload_n 2) 1 16 := ⟨by decide +kernel, rfl⟩
theorem a5_firstFitting_16 : At cX5_firstFitting 16 (.iconst 1) 1 17 := ⟨by decide +kernel, rfl⟩
theorem a5_firstFitting_17 : At cX5_firstFitting 17 (.iload 5) 2 19 := ⟨by decide +kernel, rfl⟩
theorem a5_firstFitting_19 : At cX5_firstFitting 19 (.ishl) 1 20 := ⟨by decide +kernel, rfl⟩
theorem a5_firstFitting_20 : At cX5_firstFitting 20 (.ior) 1 21 := ⟨by decide +kernel, rfl⟩
theorem a5_firstFitting_21 : At cX5_firstFitting 21 (.istore 6) 2 23 := ⟨by decide +kernel, rfl⟩
theorem a5_firstFitting_23 : At cX5_firstFitting 23 (.iload 4) 2 25 := ⟨by decide +kernel, rfl⟩
theorem a5_firstFitting_25 : At cX5_firstFitting 25 (.ifCond .eq 24) 3 28 := ⟨by decide +kernel, rfl⟩
theorem a5_firstFitting_28 : At cX5_firstFitting 28 (.aload_n 1) 1 29 := ⟨by decide +kernel, rfl⟩
theorem a5_firstFitting_29 : At cX5_firstFitting 29 (.iload_n 2) 1 30 := ⟨by decide +kernel, rfl⟩
theorem a5_firstFitting_30 : At cX5_firstFitting 30 (.iload 5) 2 32 := ⟨by decide +kernel, rfl⟩
theorem a5_firstFitting_32 : At cX5_firstFitting 32 (.invokestatic 83) 3 35 := ⟨by decide +kernel, rfl⟩
theorem a5_firstFitting_35 : At cX5_firstFitting 35 (.aload_n 0) 1 36 := ⟨by decide +kernel, rfl⟩
theorem a5_firstFitting_36 : At cX5_firstFitting 36 (.getfield 20) 3 39 := ⟨by decide +kernel, rfl⟩
theorem a5_firstFitting_39 : At cX5_firstFitting 39 (.iload 6) 2 41 := ⟨by decide +kernel, rfl⟩
theorem a5_firstFitting_41 : At cX5_firstFitting 41 (.invokevirtual 33) 3 44 := ⟨by decide +kernel, rfl⟩
theorem a5_firstFitting_44 : At cX5_firstFitting 44 (.iadd) 1 45 := ⟨by decide +kernel, rfl⟩
theorem a5_firstFitting_45 : At cX5_firstFitting 45 (.iload_n 3) 1 46 := ⟨by decide +kernel, rfl⟩
theorem a5_firstFitting_46 : At cX5_firstFitting 46 (.if_icmp .gt 7) 3 49 := ⟨by decide +kernel, rfl⟩
theorem a5_firstFitting_49 : At cX5_firstFitting 49 (.iconst 1) 1 50 := ⟨by decide +kernel, rfl⟩
theorem a5_firstFitting_50 : At cX5_firstFitting 50 (.goto 4) 3 53 := ⟨by decide +kernel, rfl⟩
theorem a5_firstFitting_53 : At cX5_firstFitting 53 (.iconst 0) 1 54 := ⟨by decide +kernel, rfl⟩
theorem a5_firstFitting_54 : At cX5_firstFitting 54 (.istore 7) 2 56 := ⟨by decide +kernel, rfl⟩
theorem a5_firstFitting_56 : At cX5_firstFitting 56 (.iload 6) 2 58 := ⟨by decide +kernel, rfl⟩
theorem a5_firstFitting_58 : At cX5_firstFitting 58 (.iload_n 2) 1 59 := ⟨by decide +kernel, rfl⟩
theorem a5_firstFitting_59 : At cX5_firstFitting 59 (.if_icmp .eq 11) 3 62 := ⟨by decide +kernel, rfl⟩
theorem a5_firstFitting_62 : At cX5_firstFitting 62 (.iload 7) 2 64 := ⟨by decide +kernel, rfl⟩
theorem a5_firstFitting_64 : At cX5_firstFitting 64 (.ifCond .eq 6) 3 67 := ⟨by decide +kernel, rfl⟩
theorem a5_firstFitting_67 : At cX5_firstFitting 67 (.iload 5) 2 69 := ⟨by decide +kernel, rfl⟩
theorem a5_firstFitting_69 : At cX5_firstFitting 69 (.ireturn) 1 70 := ⟨by decide +kernel, rfl⟩
theorem a5_firstFitting_70 : At cX5_firstFitting 70 (.iinc 5 1) 3 73 := ⟨by decide +kernel, rfl⟩
theorem a5_firstFitting_73 : At cX5_firstFitting 73 (.goto (-70)) 3 76 := ⟨by decide +kernel, rfl⟩
theorem a5_firstFitting_76 : At cX5_firstFitting 76 (.iconst 0) 1 77 := ⟨by decide +kernel, rfl⟩
theorem a5_firstFitting_77 : At cX5_firstFitting 77 (.ireturn) 1 78 := ⟨by decide +kernel, rfl⟩
def l5_firstFitting_3 (k0 : Nat) (k1 : Nat) (x2 : Int32) (x3 : Int32) (x4 : Int32) (σ : Mem) : Nat → Int32 → Option ((Int32) ⊕ (Int32))
  | 0, _ => none
  | n + 1, x5 =>
  if (f7_size (7 * k1 + 2) σ) ≤ x5 then
  (some (.inl x5))
  else
  (bnd (if x4 = 0 then
  (some 1)
  else
  (bnd (f5_needBehind k1 x2 x5 σ) fun w4 =>
  bnd (f6_at 4 (x2 ||| (1 <<< (x5 &&& 31))) σ) fun w6 =>
  if x3 < (w4 + w6) then
  (some 0)
  else
  (some 1)) : Option (Int32)) fun w2 =>
  if (x2 ||| (1 <<< (x5 &&& 31))) = x2 then
  (l5_firstFitting_3 k0 k1 x2 x3 x4 σ n (x5 + 1))
  else
  (if w2 = 0 then
  (l5_firstFitting_3 k0 k1 x2 x3 x4 σ n (x5 + 1))
  else
  (some (.inr x5))))
theorem lE5_firstFitting_3 {V : Option AV} {S : Mem} (k0 : Nat) (k1 : Nat) (x2 : Int32) (x3 : Int32) (x4 : Int32) (σ : Mem) : ∀ (n : Nat) (x5 : Int32) {w : (Int32) ⊕ (Int32)}, l5_firstFitting_3 k0 k1 x2 x3 x4 σ n x5 = some w → (∀ u, w = .inl u → Go m5_firstFitting 76 [some (.inr (.inr (5, k0))), some (.inr (.inr (9, k1))), some (.inl x2), some (.inl x3), some (.inl x4), some (.inl u), none, none] [] σ V S) → (∀ u, w = .inr u → (some (.inl u) : Option AV) = V ∧ σ = S) → Go m5_firstFitting 3 [some (.inr (.inr (5, k0))), some (.inr (.inr (9, k1))), some (.inl x2), some (.inl x3), some (.inl x4), some (.inl x5), none, none] [] σ V S
  | 0, x5, w, h, K1, K2 => by cases h
  | n + 1, x5, w, h, K1, K2 => by
    rw [l5_firstFitting_3] at h
    refine g_iload a5_firstFitting_3 rfl ?_
    refine g_aload_n a5_firstFitting_5 rfl ?_
    refine g_getf (v := .inr (.inr (7, (7 * k1 + 2)))) a5_firstFitting_6 fs5_48 rfl ?_
    refine g_V0s (v1 := .inl (f7_size (7 * k1 + 2) σ)) (σ1 := σ) a5_firstFitting_9 cv5_52 (E7_size _ _) rfl (fun o1 => ?_)
    refine g_icmp_ge (tgt := 76) a5_firstFitting_12 rfl (fun c12 => ?_) (fun c12 => ?_)
    · have h := (if_pos c12).symm.trans h
      have h := Option.some.inj h
      subst h
      exact g_weak (K1 _ rfl) ⟨rfl, rfl, rfl, rfl, rfl, rfl, trivial⟩
    · have h := (if_neg c12).symm.trans h
      refine g_iload_n a5_firstFitting_15 rfl ?_
      refine g_iconst (v := 1) a5_firstFitting_16 rfl ?_
      refine g_iload a5_firstFitting_17 rfl ?_
      refine g_ishl a5_firstFitting_19 ?_
      refine g_ior a5_firstFitting_20 ?_
      refine g_istore (L' := [some (.inr (.inr (5, k0))), some (.inr (.inr (9, k1))), some (.inl x2), some (.inl x3), some (.inl x4), some (.inl x5), some (.inl (x2 ||| (1 <<< (x5 &&& 31)))), none]) a5_firstFitting_21 (Nat.le_of_ble_eq_true rfl) rfl rfl ?_
      refine g_iload a5_firstFitting_23 rfl ?_
      obtain ⟨w2, hw2, h⟩ := bnd_inv h
      have J3 : Go m5_firstFitting 54 [some (.inr (.inr (5, k0))), some (.inr (.inr (9, k1))), some (.inl x2), some (.inl x3), some (.inl x4), some (.inl x5), some (.inl (x2 ||| (1 <<< (x5 &&& 31)))), none] [.inl w2] σ V S := by
        refine g_istore (L' := [some (.inr (.inr (5, k0))), some (.inr (.inr (9, k1))), some (.inl x2), some (.inl x3), some (.inl x4), some (.inl x5), some (.inl (x2 ||| (1 <<< (x5 &&& 31)))), some (.inl w2)]) a5_firstFitting_54 (Nat.le_of_ble_eq_true rfl) rfl rfl ?_
        refine g_iload a5_firstFitting_56 rfl ?_
        refine g_iload_n a5_firstFitting_58 rfl ?_
        refine g_icmp_eq (tgt := 70) a5_firstFitting_59 rfl (fun c11 => ?_) (fun c11 => ?_)
        · have h := (if_pos c11).symm.trans h
          refine g_iinc (v := (x5 + 1)) (L' := [some (.inr (.inr (5, k0))), some (.inr (.inr (9, k1))), some (.inl x2), some (.inl x3), some (.inl x4), some (.inl (x5 + 1)), some (.inl (x2 ||| (1 <<< (x5 &&& 31)))), some (.inl w2)]) a5_firstFitting_70 rfl rfl (Nat.le_of_ble_eq_true rfl) rfl rfl ?_
          refine g_goto (tgt := 3) a5_firstFitting_73 rfl ?_
          exact g_weak (lE5_firstFitting_3 (V := V) (S := S)  k0 k1 x2 x3 x4 σ n _ h K1 K2) ⟨rfl, rfl, rfl, rfl, rfl, rfl, trivial⟩
        · have h := (if_neg c11).symm.trans h
          refine g_iload a5_firstFitting_62 rfl ?_
          refine g_if_eq (tgt := 70) a5_firstFitting_64 rfl (fun c10 => ?_) (fun c10 => ?_)
          · have h := (if_pos c10).symm.trans h
            refine g_iinc (v := (x5 + 1)) (L' := [some (.inr (.inr (5, k0))), some (.inr (.inr (9, k1))), some (.inl x2), some (.inl x3), some (.inl x4), some (.inl (x5 + 1)), some (.inl (x2 ||| (1 <<< (x5 &&& 31)))), some (.inl w2)]) a5_firstFitting_70 rfl rfl (Nat.le_of_ble_eq_true rfl) rfl rfl ?_
            refine g_goto (tgt := 3) a5_firstFitting_73 rfl ?_
            exact g_weak (lE5_firstFitting_3 (V := V) (S := S)  k0 k1 x2 x3 x4 σ n _ h K1 K2) ⟨rfl, rfl, rfl, rfl, rfl, rfl, trivial⟩
          · have h := (if_neg c10).symm.trans h
            refine g_iload a5_firstFitting_67 rfl ?_
            have h := Option.some.inj h
            subst h
            obtain ⟨hV, hS⟩ := K2 _ rfl
            subst hV; subst hS
            exact g_retE a5_firstFitting_69 trivial rfl rfl
      clear h
      refine g_if_eq (tgt := 49) a5_firstFitting_25 rfl (fun c9 => ?_) (fun c9 => ?_)
      · have hw2 := (if_pos c9).symm.trans hw2
        refine g_iconst (v := 1) a5_firstFitting_49 rfl ?_
        refine g_goto (tgt := 54) a5_firstFitting_50 rfl ?_
        have hw2 := Option.some.inj hw2
        subst hw2
        exact J3
      · have hw2 := (if_neg c9).symm.trans hw2
        refine g_aload_n a5_firstFitting_28 rfl ?_
        refine g_iload_n a5_firstFitting_29 rfl ?_
        refine g_iload a5_firstFitting_30 rfl ?_
        obtain ⟨w4, hw4, hw2⟩ := bnd_inv hw2
        refine g_S3s (v1 := .inl w4) (σ1 := σ) a5_firstFitting_32 cs5_83 (E5_needBehind hw4) rfl (fun o5 => ?_)
        refine g_aload_n a5_firstFitting_35 rfl ?_
        refine g_getf (v := .inr (.inr (6, 4))) a5_firstFitting_36 fs5_20 rfl ?_
        refine g_iload a5_firstFitting_39 rfl ?_
        obtain ⟨w6, hw6, hw2⟩ := bnd_inv hw2
        refine g_V1s (v1 := .inl w6) (σ1 := σ) a5_firstFitting_41 cv5_33 (E6_at hw6) rfl (fun o7 => ?_)
        refine g_iadd a5_firstFitting_44 ?_
        refine g_iload_n a5_firstFitting_45 rfl ?_
        refine g_icmp_gt (tgt := 53) a5_firstFitting_46 rfl (fun c8 => ?_) (fun c8 => ?_)
        · have hw2 := (if_pos c8).symm.trans hw2
          refine g_iconst (v := 0) a5_firstFitting_53 rfl ?_
          have hw2 := Option.some.inj hw2
          subst hw2
          exact J3
        · have hw2 := (if_neg c8).symm.trans hw2
          refine g_iconst (v := 1) a5_firstFitting_49 rfl ?_
          refine g_goto (tgt := 54) a5_firstFitting_50 rfl ?_
          have hw2 := Option.some.inj hw2
          subst hw2
          exact J3
def f5_firstFitting (k0 : Nat) (k1 : Nat) (x2 : Int32) (x3 : Int32) (x4 : Int32) (σ : Mem) : Option (Int32) :=
  bnd (l5_firstFitting_3 k0 k1 x2 x3 x4 σ 2000 0) fun w13 =>
  sm w13 (fun u14 =>
  some 0) (fun u14 => some u14)
theorem E5_firstFitting {k0 : Nat} {k1 : Nat} {x2 : Int32} {x3 : Int32} {x4 : Int32} {σ : Mem} {w : Int32} (h : f5_firstFitting k0 k1 x2 x3 x4 σ = some w) : Ev m5_firstFitting [.inr (.inr (5, k0)), .inr (.inr (9, k1)), .inl x2, .inl x3, .inl x4] σ (some (.inl w) : Option AV) σ := by
  unfold f5_firstFitting at h
  show Go m5_firstFitting 0 [some (.inr (.inr (5, k0))), some (.inr (.inr (9, k1))), some (.inl x2), some (.inl x3), some (.inl x4), none, none, none] [] σ (some (.inl w) : Option AV) σ
  refine g_iconst (v := 0) a5_firstFitting_0 rfl ?_
  refine g_istore (L' := [some (.inr (.inr (5, k0))), some (.inr (.inr (9, k1))), some (.inl x2), some (.inl x3), some (.inl x4), some (.inl 0), none, none]) a5_firstFitting_1 (Nat.le_of_ble_eq_true rfl) rfl rfl ?_
  obtain ⟨w13, hw13, h⟩ := bnd_inv h
  rcases w13 with u14 | u14
  · have h := sm_l h
    refine g_weak (lE5_firstFitting_3 k0 k1 x2 x3 x4 σ 2000 _ hw13 (fun _ e => ?_) (fun _ e => by cases e)) ⟨rfl, rfl, rfl, rfl, rfl, rfl, trivial⟩
    cases e
    refine g_iconst (v := 0) a5_firstFitting_76 rfl ?_
    have h := Option.some.inj h
    subst h
    exact g_retE a5_firstFitting_77 trivial rfl rfl
  · have h := sm_r h
    have h := Option.some.inj h
    subst h
    exact g_weak (lE5_firstFitting_3 k0 k1 x2 x3 x4 σ 2000 _ hw13 (fun _ e => by cases e) (fun _ e => by cases e; exact ⟨rfl, rfl⟩)) ⟨rfl, rfl, rfl, rfl, rfl, rfl, trivial⟩
theorem a5_choose_0 : At cX5_choose 0 (.aload_n 1) 1 1 := ⟨by decide +kernel, rfl⟩
theorem a5_choose_1 : At cX5_choose 1 (.getfield 37) 3 4 := ⟨by decide +kernel, rfl⟩
theorem a5_choose_4 : At cX5_choose 4 (.getfield 43) 3 7 := ⟨by decide +kernel, rfl⟩
theorem a5_choose_7 : At cX5_choose 7 (.istore_n 3) 1 8 := ⟨by decide +kernel, rfl⟩
theorem a5_choose_8 : At cX5_choose 8 (.iload_n 2) 1 9 := ⟨by decide +kernel, rfl⟩
theorem a5_choose_9 : At cX5_choose 9 (.istore 4) 2 11 := ⟨by decide +kernel, rfl⟩
theorem a5_choose_11 : At cX5_choose 11 (.iconst 0) 1 12 := ⟨by decide +kernel, rfl⟩
theorem a5_choose_12 : At cX5_choose 12 (.istore 5) 2 14 := ⟨by decide +kernel, rfl⟩
theorem a5_choose_14 : At cX5_choose 14 (.iload 5) 2 16 := ⟨by decide +kernel, rfl⟩
theorem a5_choose_16 : At cX5_choose 16 (.aload_n 0) 1 17 := ⟨by decide +kernel, rfl⟩
theorem a5_choose_17 : At cX5_choose 17 (.getfield 26) 3 20 := ⟨by decide +kernel, rfl⟩
theorem a5_choose_20 : At cX5_choose 20 (.if_icmp .ge 63) 3 23 := ⟨by decide +kernel, rfl⟩
theorem a5_choose_23 : At cX5_choose 23 (.aload_n 0) 1 24 := ⟨by decide +kernel, rfl⟩
theorem a5_choose_24 : At cX5_choose 24 (.aload_n 1) 1 25 := ⟨by decide +kernel, rfl⟩
theorem a5_choose_25 : At cX5_choose 25 (.iload_n 3) 1 26 := ⟨by decide +kernel, rfl⟩
theorem a5_choose_26 : At cX5_choose 26 (.iload 4) 2 28 := ⟨by decide +kernel, rfl⟩
theorem a5_choose_28 : At cX5_choose 28 (.iload 5) 2 30 := ⟨by decide +kernel, rfl⟩
theorem a5_choose_30 : At cX5_choose 30 (.aload_n 0) 1 31 := ⟨by decide +kernel, rfl⟩
theorem a5_choose_31 : At cX5_choose 31 (.getfield 30) 3 34 := ⟨by decide +kernel, rfl⟩
theorem a5_choose_34 : At cX5_choose 34 (.if_icmp .ge 7) 3 37 := ⟨by decide +kernel, rfl⟩
theorem a5_choose_37 : At cX5_choose 37 (.iconst 1) 1 38 := ⟨by decide +kernel, rfl⟩
theorem a5_choose_38 : At cX5_choose 38 (.goto 4) 3 41 := ⟨by decide +kernel, rfl⟩
theorem a5_choose_41 : At cX5_choose 41 (.iconst 0) 1 42 := ⟨by decide +kernel, rfl⟩
theorem a5_choose_42 : At cX5_choose 42 (.invokevirtual 97) 3 45 := ⟨by decide +kernel, rfl⟩
theorem a5_choose_45 : At cX5_choose 45 (.istore 6) 2 47 := ⟨by decide +kernel, rfl⟩
theorem a5_choose_47 : At cX5_choose 47 (.iload 4) 2 49 := ⟨by decide +kernel, rfl⟩
theorem a5_choose_49 : At cX5_choose 49 (.aload_n 1) 1 50 := ⟨by decide +kernel, rfl⟩
theorem a5_choose_50 : At cX5_choose 50 (.iload_n 3) 1 51 := ⟨by decide +kernel, rfl⟩
theorem a5_choose_51 : At cX5_choose 51 (.iload 6) 2 53 := ⟨by decide +kernel, rfl⟩
theorem a5_choose_53 : At cX5_choose 53 (.invokestatic 83) 3 56 := ⟨by decide +kernel, rfl⟩
theorem a5_choose_56 : At cX5_choose 56 (.isub) 1 57 := ⟨by decide +kernel, rfl⟩
theorem a5_choose_57 : At cX5_choose 57 (.istore 4) 2 59 := ⟨by decide +kernel, rfl⟩
theorem a5_choose_59 : At cX5_choose 59 (.aload_n 0) 1 60 := ⟨by decide +kernel, rfl⟩
theorem a5_choose_60 : At cX5_choose 60 (.getfield 23) 3 63 := ⟨by decide +kernel, rfl⟩
theorem a5_choose_63 : At cX5_choose 63 (.iload 5) 2 65 := ⟨by decide +kernel, rfl⟩
theorem a5_choose_65 : At cX5_choose 65 (.iload 6) 2 67 := ⟨by decide +kernel, rfl⟩
theorem a5_choose_67 : At cX5_choose 67 (.invokevirtual 79) 3 70 := ⟨by decide +kernel, rfl⟩
theorem a5_choose_70 : At cX5_choose 70 (.iload_n 3) 1 71 := ⟨by decide +kernel, rfl⟩
theorem a5_choose_71 : At cX5_choose 71 (.iconst 1) 1 72 := ⟨by decide +kernel, rfl⟩
theorem a5_choose_72 : At cX5_choose 72 (.iload 6) 2 74 := ⟨by decide +kernel, rfl⟩
theorem a5_choose_74 : At cX5_choose 74 (.ishl) 1 75 := ⟨by decide +kernel, rfl⟩
theorem a5_choose_75 : At cX5_choose 75 (.ior) 1 76 := ⟨by decide +kernel, rfl⟩
theorem a5_choose_76 : At cX5_choose 76 (.istore_n 3) 1 77 := ⟨by decide +kernel, rfl⟩
theorem a5_choose_77 : At cX5_choose 77 (.iinc 5 1) 3 80 := ⟨by decide +kernel, rfl⟩
theorem a5_choose_80 : At cX5_choose 80 (.goto (-66)) 3 83 := ⟨by decide +kernel, rfl⟩
theorem a5_choose_83 : At cX5_choose 83 (.return_) 1 84 := ⟨by decide +kernel, rfl⟩
def l5_choose_14 (k0 : Nat) (k1 : Nat) : Nat → Int32 → Int32 → Int32 → Mem → Option (Int32 × Int32 × Int32 × Mem)
  | 0, _, _, _, _ => none
  | n + 1, x3, x4, x5, σ =>
  if (σ.1 5 k0 3) ≤ x5 then
  (some (x3, x4, x5, σ))
  else
  (lt (if (σ.1 5 k0 4) ≤ x5 then
  (0)
  else
  (1) : Int32) fun w1 =>
  bnd (f5_firstFitting k0 k1 x3 x4 w1 σ) fun w5 =>
  bnd (f5_needBehind k1 x3 w5 σ) fun w7 =>
  bnd (f6_put 5 x5 w5 σ) fun w9 =>
  l5_choose_14 k0 k1 n (x3 ||| (1 <<< (w5 &&& 31))) (x4 - w7) (x5 + 1) w9)
theorem lE5_choose_14 {V : Option AV} {S : Mem} (k0 : Nat) (k1 : Nat) : ∀ (n : Nat) (x3 : Int32) (x4 : Int32) (x5 : Int32) (σ : Mem) {w : Int32 × Int32 × Int32 × Mem}, l5_choose_14 k0 k1 n x3 x4 x5 σ = some w → (Go m5_choose 83 [some (.inr (.inr (5, k0))), some (.inr (.inr (9, k1))), none, some (.inl w.1), some (.inl w.2.1), some (.inl w.2.2.1), none] [] w.2.2.2 V S) → Go m5_choose 14 [some (.inr (.inr (5, k0))), some (.inr (.inr (9, k1))), none, some (.inl x3), some (.inl x4), some (.inl x5), none] [] σ V S
  | 0, x3, x4, x5, σ, w, h, K1 => by cases h
  | n + 1, x3, x4, x5, σ, w, h, K1 => by
    rw [l5_choose_14] at h
    refine g_iload a5_choose_14 rfl ?_
    refine g_aload_n a5_choose_16 rfl ?_
    refine g_getf (v := .inl (σ.1 5 k0 3)) a5_choose_17 fs5_26 rfl ?_
    refine g_icmp_ge (tgt := 83) a5_choose_20 rfl (fun c11 => ?_) (fun c11 => ?_)
    · have h := (if_pos c11).symm.trans h
      have h := Option.some.inj h
      subst h
      exact g_weak K1 ⟨rfl, rfl, rfl, rfl, rfl, trivial⟩
    · have h := (if_neg c11).symm.trans h
      refine g_aload_n a5_choose_23 rfl ?_
      refine g_aload_n a5_choose_24 rfl ?_
      refine g_iload_n a5_choose_25 rfl ?_
      refine g_iload a5_choose_26 rfl ?_
      refine g_iload a5_choose_28 rfl ?_
      refine g_aload_n a5_choose_30 rfl ?_
      refine g_getf (v := .inl (σ.1 5 k0 4)) a5_choose_31 fs5_30 rfl ?_
      obtain ⟨w1, hw1, h⟩ := lt_inv h
      have b4 : w1 = 0 ∨ w1 = 1 := by rw [← hw1]; repeat (first | exact Or.inl rfl | exact Or.inr rfl | split)
      have J2 : Go m5_choose 42 [some (.inr (.inr (5, k0))), some (.inr (.inr (9, k1))), none, some (.inl x3), some (.inl x4), some (.inl x5), none] [.inl w1, .inl x4, .inl x3, .inr (.inr (9, k1)), .inr (.inr (5, k0))] σ V S := by
        obtain ⟨w5, hw5, h⟩ := bnd_inv h
        refine g_V4s (v1 := .inl w5) (σ1 := σ) a5_choose_42 cv5_97 (E5_firstFitting hw5) rfl (fun o6 => ?_)
        refine g_istore (L' := [some (.inr (.inr (5, k0))), some (.inr (.inr (9, k1))), none, some (.inl x3), some (.inl x4), some (.inl x5), some (.inl w5)]) a5_choose_45 (Nat.le_of_ble_eq_true rfl) rfl rfl ?_
        refine g_iload a5_choose_47 rfl ?_
        refine g_aload_n a5_choose_49 rfl ?_
        refine g_iload_n a5_choose_50 rfl ?_
        refine g_iload a5_choose_51 rfl ?_
        obtain ⟨w7, hw7, h⟩ := bnd_inv h
        refine g_S3s (v1 := .inl w7) (σ1 := σ) a5_choose_53 cs5_83 (E5_needBehind hw7) rfl (fun o8 => ?_)
        refine g_isub a5_choose_56 ?_
        refine g_istore (L' := [some (.inr (.inr (5, k0))), some (.inr (.inr (9, k1))), none, some (.inl x3), some (.inl (x4 - w7)), some (.inl x5), some (.inl w5)]) a5_choose_57 (Nat.le_of_ble_eq_true rfl) rfl rfl ?_
        refine g_aload_n a5_choose_59 rfl ?_
        refine g_getf (v := .inr (.inr (6, 5))) a5_choose_60 fs5_23 rfl ?_
        refine g_iload a5_choose_63 rfl ?_
        refine g_iload a5_choose_65 rfl ?_
        obtain ⟨w9, hw9, h⟩ := bnd_inv h
        refine g_V2n (σ1 := w9) a5_choose_67 cv5_79 (E6_put hw9) rfl (fun o10 => ?_)
        refine g_iload_n a5_choose_70 rfl ?_
        refine g_iconst (v := 1) a5_choose_71 rfl ?_
        refine g_iload a5_choose_72 rfl ?_
        refine g_ishl a5_choose_74 ?_
        refine g_ior a5_choose_75 ?_
        refine g_istore_n (L' := [some (.inr (.inr (5, k0))), some (.inr (.inr (9, k1))), none, some (.inl (x3 ||| (1 <<< (w5 &&& 31)))), some (.inl (x4 - w7)), some (.inl x5), some (.inl w5)]) a5_choose_76 (Nat.le_of_ble_eq_true rfl) rfl rfl ?_
        refine g_iinc (v := (x5 + 1)) (L' := [some (.inr (.inr (5, k0))), some (.inr (.inr (9, k1))), none, some (.inl (x3 ||| (1 <<< (w5 &&& 31)))), some (.inl (x4 - w7)), some (.inl (x5 + 1)), some (.inl w5)]) a5_choose_77 rfl rfl (Nat.le_of_ble_eq_true rfl) rfl rfl ?_
        refine g_goto (tgt := 14) a5_choose_80 rfl ?_
        exact g_weak (lE5_choose_14 (V := V) (S := S)  k0 k1 n _ _ _ _ h K1) ⟨rfl, rfl, rfl, rfl, rfl, trivial⟩
      clear h
      refine g_icmp_ge (tgt := 41) a5_choose_34 rfl (fun c3 => ?_) (fun c3 => ?_)
      · have hw1 := (if_pos c3).symm.trans hw1
        refine g_iconst (v := 0) a5_choose_41 rfl ?_
        subst hw1
        exact J2
      · have hw1 := (if_neg c3).symm.trans hw1
        refine g_iconst (v := 1) a5_choose_37 rfl ?_
        refine g_goto (tgt := 42) a5_choose_38 rfl ?_
        subst hw1
        exact J2
def f5_choose (k0 : Nat) (k1 : Nat) (x2 : Int32) (σ : Mem) : Option (Mem) :=
  bnd (l5_choose_14 k0 k1 2000 (σ.1 4 k1 1) x2 0 σ) fun w12 =>
  some w12.2.2.2
theorem E5_choose {k0 : Nat} {k1 : Nat} {x2 : Int32} {σ : Mem} {w : Mem} (h : f5_choose k0 k1 x2 σ = some w) : Ev m5_choose [.inr (.inr (5, k0)), .inr (.inr (9, k1)), .inl x2] σ none w := by
  unfold f5_choose at h
  show Go m5_choose 0 [some (.inr (.inr (5, k0))), some (.inr (.inr (9, k1))), some (.inl x2), none, none, none, none] [] σ none w
  refine g_aload_n a5_choose_0 rfl ?_
  refine g_getf (v := .inr (.inr (4, k1))) a5_choose_1 fs5_37 rfl ?_
  refine g_getf (v := .inl (σ.1 4 k1 1)) a5_choose_4 fs5_43 rfl ?_
  refine g_istore_n (L' := [some (.inr (.inr (5, k0))), some (.inr (.inr (9, k1))), some (.inl x2), some (.inl (σ.1 4 k1 1)), none, none, none]) a5_choose_7 (Nat.le_of_ble_eq_true rfl) rfl rfl ?_
  refine g_iload_n a5_choose_8 rfl ?_
  refine g_istore (L' := [some (.inr (.inr (5, k0))), some (.inr (.inr (9, k1))), some (.inl x2), some (.inl (σ.1 4 k1 1)), some (.inl x2), none, none]) a5_choose_9 (Nat.le_of_ble_eq_true rfl) rfl rfl ?_
  refine g_iconst (v := 0) a5_choose_11 rfl ?_
  refine g_istore (L' := [some (.inr (.inr (5, k0))), some (.inr (.inr (9, k1))), some (.inl x2), some (.inl (σ.1 4 k1 1)), some (.inl x2), some (.inl 0), none]) a5_choose_12 (Nat.le_of_ble_eq_true rfl) rfl rfl ?_
  obtain ⟨w12, hw12, h⟩ := bnd_inv h
  refine g_weak (lE5_choose_14 k0 k1 2000 _ _ _ _ hw12 ?_) ⟨rfl, rfl, rfl, rfl, rfl, trivial⟩
  have h := Option.some.inj h
  subst h
  exact g_retE a5_choose_83 trivial rfl rfl
theorem a5_search_0 : At cX5_search 0 (.aload_n 1) 1 1 := ⟨by decide +kernel, rfl⟩
theorem a5_search_1 : At cX5_search 1 (.getfield 37) 3 4 := ⟨by decide +kernel, rfl⟩
theorem a5_search_4 : At cX5_search 4 (.getfield 43) 3 7 := ⟨by decide +kernel, rfl⟩
theorem a5_search_7 : At cX5_search 7 (.istore_n 3) 1 8 := ⟨by decide +kernel, rfl⟩
theorem a5_search_8 : At cX5_search 8 (.aload_n 0) 1 9 := ⟨by decide +kernel, rfl⟩
theorem a5_search_9 : At cX5_search 9 (.aload_n 1) 1 10 := ⟨by decide +kernel, rfl⟩
theorem a5_search_10 : At cX5_search 10 (.getfield 48) 3 13 := ⟨by decide +kernel, rfl⟩
theorem a5_search_13 : At cX5_search 13 (.invokevirtual 52) 3 16 := ⟨by decide +kernel, rfl⟩
theorem a5_search_16 : At cX5_search 16 (.iload_n 3) 1 17 := ⟨by decide +kernel, rfl⟩
theorem a5_search_17 : At cX5_search 17 (.invokestatic 58) 3 20 := ⟨by decide +kernel, rfl⟩
theorem a5_search_20 : At cX5_search 20 (.isub) 1 21 := ⟨by decide +kernel, rfl⟩
theorem a5_search_21 : At cX5_search 21 (.putfield 26) 3 24 := ⟨by decide +kernel, rfl⟩
theorem a5_search_24 : At cX5_search 24 (.aload_n 0) 1 25 := ⟨by decide +kernel, rfl⟩
theorem a5_search_25 : At cX5_search 25 (.aload_n 1) 1 26 := ⟨by decide +kernel, rfl⟩
theorem a5_search_26 : At cX5_search 26 (.iload_n 2) 1 27 := ⟨by decide +kernel, rfl⟩
theorem a5_search_27 : At cX5_search 27 (.invokevirtual 63) 3 30 := ⟨by decide +kernel, rfl⟩
theorem a5_search_30 : At cX5_search 30 (.aload_n 0) 1 31 := ⟨by decide +kernel, rfl⟩
theorem a5_search_31 : At cX5_search 31 (.aload_n 0) 1 32 := ⟨by decide +kernel, rfl⟩
theorem a5_search_32 : At cX5_search 32 (.iload_n 3) 1 33 := ⟨by decide +kernel, rfl⟩
theorem a5_search_33 : At cX5_search 33 (.invokevirtual 67) 3 36 := ⟨by decide +kernel, rfl⟩
theorem a5_search_36 : At cX5_search 36 (.putfield 30) 3 39 := ⟨by decide +kernel, rfl⟩
theorem a5_search_39 : At cX5_search 39 (.aload_n 0) 1 40 := ⟨by decide +kernel, rfl⟩
theorem a5_search_40 : At cX5_search 40 (.aload_n 1) 1 41 := ⟨by decide +kernel, rfl⟩
theorem a5_search_41 : At cX5_search 41 (.iload_n 3) 1 42 := ⟨by decide +kernel, rfl⟩
theorem a5_search_42 : At cX5_search 42 (.invokestatic 58) 3 45 := ⟨by decide +kernel, rfl⟩
theorem a5_search_45 : At cX5_search 45 (.aload_n 0) 1 46 := ⟨by decide +kernel, rfl⟩
theorem a5_search_46 : At cX5_search 46 (.getfield 30) 3 49 := ⟨by decide +kernel, rfl⟩
theorem a5_search_49 : At cX5_search 49 (.iadd) 1 50 := ⟨by decide +kernel, rfl⟩
theorem a5_search_50 : At cX5_search 50 (.invokevirtual 70) 3 53 := ⟨by decide +kernel, rfl⟩
theorem a5_search_53 : At cX5_search 53 (.aload_n 0) 1 54 := ⟨by decide +kernel, rfl⟩
theorem a5_search_54 : At cX5_search 54 (.aload_n 1) 1 55 := ⟨by decide +kernel, rfl⟩
theorem a5_search_55 : At cX5_search 55 (.iload_n 2) 1 56 := ⟨by decide +kernel, rfl⟩
theorem a5_search_56 : At cX5_search 56 (.invokevirtual 73) 3 59 := ⟨by decide +kernel, rfl⟩
theorem a5_search_59 : At cX5_search 59 (.return_) 1 60 := ⟨by decide +kernel, rfl⟩
def f5_search (k0 : Nat) (k1 : Nat) (x2 : Int32) (σ : Mem) : Option (Mem) :=
  lt (sI σ 5 k0 3 ((f7_size (7 * k1 + 2) σ) - (fJ6_bitCount (σ.1 4 k1 1)))) fun σ3 =>
  bnd (f5_spend k0 k1 x2 σ3) fun w4 =>
  bnd (f5_mostReached k0 (σ.1 4 k1 1) w4) fun w6 =>
  lt (sI w4 5 k0 4 w6) fun σ8 =>
  bnd (f5_reach k0 k1 ((fJ6_bitCount (σ.1 4 k1 1)) + (σ8.1 5 k0 4)) σ8) fun w10 =>
  bnd (f5_choose k0 k1 x2 w10) fun w12 =>
  some w12
theorem E5_search {k0 : Nat} {k1 : Nat} {x2 : Int32} {σ : Mem} {w : Mem} (h : f5_search k0 k1 x2 σ = some w) : Ev m5_search [.inr (.inr (5, k0)), .inr (.inr (9, k1)), .inl x2] σ none w := by
  unfold f5_search at h
  show Go m5_search 0 [some (.inr (.inr (5, k0))), some (.inr (.inr (9, k1))), some (.inl x2), none] [] σ none w
  refine g_aload_n a5_search_0 rfl ?_
  refine g_getf (v := .inr (.inr (4, k1))) a5_search_1 fs5_37 rfl ?_
  refine g_getf (v := .inl (σ.1 4 k1 1)) a5_search_4 fs5_43 rfl ?_
  refine g_istore_n (L' := [some (.inr (.inr (5, k0))), some (.inr (.inr (9, k1))), some (.inl x2), some (.inl (σ.1 4 k1 1))]) a5_search_7 (Nat.le_of_ble_eq_true rfl) rfl rfl ?_
  refine g_aload_n a5_search_8 rfl ?_
  refine g_aload_n a5_search_9 rfl ?_
  refine g_getf (v := .inr (.inr (7, (7 * k1 + 2)))) a5_search_10 fs5_48 rfl ?_
  refine g_V0s (v1 := .inl (f7_size (7 * k1 + 2) σ)) (σ1 := σ) a5_search_13 cv5_52 (E7_size _ _) rfl (fun o1 => ?_)
  refine g_iload_n a5_search_16 rfl ?_
  refine g_S1s (v1 := .inl (fJ6_bitCount (σ.1 4 k1 1))) (σ1 := σ) a5_search_17 cs5_58 (EJ6_bitCount _ _) rfl (fun o2 => ?_)
  refine g_isub a5_search_20 ?_
  obtain ⟨σ3, eσ3, h⟩ := lt_inv h
  refine g_puti a5_search_21 fs5_26 ps5_3 (fun _ _ _ => rfl) ?_
  rw [eσ3]
  refine g_aload_n a5_search_24 rfl ?_
  refine g_aload_n a5_search_25 rfl ?_
  refine g_iload_n a5_search_26 rfl ?_
  obtain ⟨w4, hw4, h⟩ := bnd_inv h
  refine g_V2n (σ1 := w4) a5_search_27 cv5_63 (E5_spend hw4) rfl (fun o5 => ?_)
  refine g_aload_n a5_search_30 rfl ?_
  refine g_aload_n a5_search_31 rfl ?_
  refine g_iload_n a5_search_32 rfl ?_
  obtain ⟨w6, hw6, h⟩ := bnd_inv h
  refine g_V1s (v1 := .inl w6) (σ1 := w4) a5_search_33 cv5_67 (E5_mostReached hw6) rfl (fun o7 => ?_)
  obtain ⟨σ8, eσ8, h⟩ := lt_inv h
  refine g_puti a5_search_36 fs5_30 ps5_4 (fun _ _ _ => rfl) ?_
  rw [eσ8]
  refine g_aload_n a5_search_39 rfl ?_
  refine g_aload_n a5_search_40 rfl ?_
  refine g_iload_n a5_search_41 rfl ?_
  refine g_S1s (v1 := .inl (fJ6_bitCount (σ.1 4 k1 1))) (σ1 := σ8) a5_search_42 cs5_58 (EJ6_bitCount _ _) rfl (fun o9 => ?_)
  refine g_aload_n a5_search_45 rfl ?_
  refine g_getf (v := .inl (σ8.1 5 k0 4)) a5_search_46 fs5_30 rfl ?_
  refine g_iadd a5_search_49 ?_
  obtain ⟨w10, hw10, h⟩ := bnd_inv h
  refine g_V2n (σ1 := w10) a5_search_50 cv5_70 (E5_reach hw10) rfl (fun o11 => ?_)
  refine g_aload_n a5_search_53 rfl ?_
  refine g_aload_n a5_search_54 rfl ?_
  refine g_iload_n a5_search_55 rfl ?_
  obtain ⟨w12, hw12, h⟩ := bnd_inv h
  refine g_V2n (σ1 := w12) a5_search_56 cv5_73 (E5_choose hw12) rfl (fun o13 => ?_)
  have h := Option.some.inj h
  subst h
  exact g_retE a5_search_59 trivial rfl rfl
theorem a5_most_0 : At cX5_most 0 (.aload_n 0) 1 1 := ⟨by decide +kernel, rfl⟩
theorem a5_most_1 : At cX5_most 1 (.getfield 30) 3 4 := ⟨by decide +kernel, rfl⟩
theorem a5_most_4 : At cX5_most 4 (.ireturn) 1 5 := ⟨by decide +kernel, rfl⟩
def f5_most (k0 : Nat) (σ : Mem) : Int32 :=
  (σ.1 5 k0 4)
theorem E5_most (k0 : Nat) (σ : Mem) : Ev m5_most [.inr (.inr (5, k0))] σ (some (.inl (f5_most k0 σ)) : Option AV) σ := by
  obtain ⟨w, h⟩ : ∃ w, f5_most k0 σ = w := ⟨_, rfl⟩
  rw [h]
  unfold f5_most at h
  show Go m5_most 0 [some (.inr (.inr (5, k0)))] [] σ (some (.inl w) : Option AV) σ
  refine g_aload_n a5_most_0 rfl ?_
  refine g_getf (v := .inl (σ.1 5 k0 4)) a5_most_1 fs5_30 rfl ?_
  subst h
  exact g_retE a5_most_4 trivial rfl rfl
theorem a5_length_0 : At cX5_length 0 (.aload_n 0) 1 1 := ⟨by decide +kernel, rfl⟩
theorem a5_length_1 : At cX5_length 1 (.getfield 26) 3 4 := ⟨by decide +kernel, rfl⟩
theorem a5_length_4 : At cX5_length 4 (.ireturn) 1 5 := ⟨by decide +kernel, rfl⟩
def f5_length (k0 : Nat) (σ : Mem) : Int32 :=
  (σ.1 5 k0 3)
theorem E5_length (k0 : Nat) (σ : Mem) : Ev m5_length [.inr (.inr (5, k0))] σ (some (.inl (f5_length k0 σ)) : Option AV) σ := by
  obtain ⟨w, h⟩ : ∃ w, f5_length k0 σ = w := ⟨_, rfl⟩
  rw [h]
  unfold f5_length at h
  show Go m5_length 0 [some (.inr (.inr (5, k0)))] [] σ (some (.inl w) : Option AV) σ
  refine g_aload_n a5_length_0 rfl ?_
  refine g_getf (v := .inl (σ.1 5 k0 3)) a5_length_1 fs5_26 rfl ?_
  subst h
  exact g_retE a5_length_4 trivial rfl rfl
theorem a5_at_0 : At cX5_at 0 (.aload_n 0) 1 1 := ⟨by decide +kernel, rfl⟩
theorem a5_at_1 : At cX5_at 1 (.getfield 23) 3 4 := ⟨by decide +kernel, rfl⟩
theorem a5_at_4 : At cX5_at 4 (.iload_n 1) 1 5 := ⟨by decide +kernel, rfl⟩
theorem a5_at_5 : At cX5_at 5 (.invokevirtual 33) 3 8 := ⟨by decide +kernel, rfl⟩
theorem a5_at_8 : At cX5_at 8 (.ireturn) 1 9 := ⟨by decide +kernel, rfl⟩
def f5_at (k0 : Nat) (x1 : Int32) (σ : Mem) : Option (Int32) :=
  bnd (f6_at 5 x1 σ) fun w1 =>
  some w1
theorem E5_at {k0 : Nat} {x1 : Int32} {σ : Mem} {w : Int32} (h : f5_at k0 x1 σ = some w) : Ev m5_at [.inr (.inr (5, k0)), .inl x1] σ (some (.inl w) : Option AV) σ := by
  unfold f5_at at h
  show Go m5_at 0 [some (.inr (.inr (5, k0))), some (.inl x1)] [] σ (some (.inl w) : Option AV) σ
  refine g_aload_n a5_at_0 rfl ?_
  refine g_getf (v := .inr (.inr (6, 5))) a5_at_1 fs5_23 rfl ?_
  refine g_iload_n a5_at_4 rfl ?_
  obtain ⟨w1, hw1, h⟩ := bnd_inv h
  refine g_V1s (v1 := .inl w1) (σ1 := σ) a5_at_5 cv5_33 (E6_at hw1) rfl (fun o2 => ?_)
  have h := Option.some.inj h
  subst h
  exact g_retE a5_at_8 trivial rfl rfl
theorem a10_order_0 : At cX10_order 0 (.iload_n 1) 1 1 := ⟨by decide +kernel, rfl⟩
theorem a10_order_1 : At cX10_order 1 (.iconst 0) 1 2 := ⟨by decide +kernel, rfl⟩
theorem a10_order_2 : At cX10_order 2 (.bipush 99) 2 4 := ⟨by decide +kernel, rfl⟩
theorem a10_order_4 : At cX10_order 4 (.invokestatic 96) 3 7 := ⟨by decide +kernel, rfl⟩
theorem a10_order_7 : At cX10_order 7 (.ifCond .eq 8) 3 10 := ⟨by decide +kernel, rfl⟩
theorem a10_order_10 : At cX10_order 10 (.iload_n 2) 1 11 := ⟨by decide +kernel, rfl⟩
theorem a10_order_11 : At cX10_order 11 (.iconst (-1)) 1 12 := ⟨by decide +kernel, rfl⟩
theorem a10_order_12 : At cX10_order 12 (.if_icmp .ge 8) 3 15 := ⟨by decide +kernel, rfl⟩
theorem a10_order_15 : At cX10_order 15 (.aload_n 0) 1 16 := ⟨by decide +kernel, rfl⟩
theorem a10_order_16 : At cX10_order 16 (.invokevirtual 237) 3 19 := ⟨by decide +kernel, rfl⟩
theorem a10_order_19 : At cX10_order 19 (.ireturn) 1 20 := ⟨by decide +kernel, rfl⟩
theorem a10_order_20 : At cX10_order 20 (.aload_n 0) 1 21 := ⟨by decide +kernel, rfl⟩
theorem a10_order_21 : At cX10_order 21 (.getfield 58) 3 24 := ⟨by decide +kernel, rfl⟩
theorem a10_order_24 : At cX10_order 24 (.aload_n 0) 1 25 := ⟨by decide +kernel, rfl⟩
theorem a10_order_25 : At cX10_order 25 (.getfield 10) 3 28 := ⟨by decide +kernel, rfl⟩
theorem a10_order_28 : At cX10_order 28 (.iload_n 1) 1 29 := ⟨by decide +kernel, rfl⟩
theorem a10_order_29 : At cX10_order 29 (.invokevirtual 240) 3 32 := ⟨by decide +kernel, rfl⟩
theorem a10_order_32 : At cX10_order 32 (.iload_n 2) 1 33 := ⟨by decide +kernel, rfl⟩
theorem a10_order_33 : At cX10_order 33 (.iconst (-1)) 1 34 := ⟨by decide +kernel, rfl⟩
theorem a10_order_34 : At cX10_order 34 (.if_icmp .ne 11) 3 37 := ⟨by decide +kernel, rfl⟩
theorem a10_order_37 : At cX10_order 37 (.aload_n 0) 1 38 := ⟨by decide +kernel, rfl⟩
theorem a10_order_38 : At cX10_order 38 (.getfield 58) 3 41 := ⟨by decide +kernel, rfl⟩
theorem a10_order_41 : At cX10_order 41 (.invokevirtual 244) 3 44 := ⟨by decide +kernel, rfl⟩
theorem a10_order_44 : At cX10_order 44 (.ireturn) 1 45 := ⟨by decide +kernel, rfl⟩
theorem a10_order_45 : At cX10_order 45 (.iload_n 2) 1 46 := ⟨by decide +kernel, rfl⟩
theorem a10_order_46 : At cX10_order 46 (.aload_n 0) 1 47 := ⟨by decide +kernel, rfl⟩
theorem a10_order_47 : At cX10_order 47 (.getfield 58) 3 50 := ⟨by decide +kernel, rfl⟩
theorem a10_order_50 : At cX10_order 50 (.invokevirtual 247) 3 53 := ⟨by decide +kernel, rfl⟩
theorem a10_order_53 : At cX10_order 53 (.if_icmp .ge 14) 3 56 := ⟨by decide +kernel, rfl⟩
theorem a10_order_56 : At cX10_order 56 (.aload_n 0) 1 57 := ⟨by decide +kernel, rfl⟩
theorem a10_order_57 : At cX10_order 57 (.getfield 58) 3 60 := ⟨by decide +kernel, rfl⟩
theorem a10_order_60 : At cX10_order 60 (.iload_n 2) 1 61 := ⟨by decide +kernel, rfl⟩
theorem a10_order_61 : At cX10_order 61 (.invokevirtual 248) 3 64 := ⟨by decide +kernel, rfl⟩
theorem a10_order_64 : At cX10_order 64 (.goto 5) 3 67 := ⟨by decide +kernel, rfl⟩
theorem a10_order_67 : At cX10_order 67 (.bipush (-5)) 2 69 := ⟨by decide +kernel, rfl⟩
theorem a10_order_69 : At cX10_order 69 (.ireturn) 1 70 := ⟨by decide +kernel, rfl⟩
def f10_order (k0 : Nat) (x1 : Int32) (x2 : Int32) (σ : Mem) : Option (Int32 × Mem) :=
  if (f10_within x1 0 99) = 0 then
  (lt (f10_refuseBadTen k0 σ) fun w2 =>
  some (w2.1, w2.2))
  else
  (if (-1) ≤ x2 then
  (bnd (f5_search 0 0 x1 σ) fun w4 =>
  if x2 = (-1) then
  (some ((f5_most 0 w4), w4))
  else
  (if (f5_length 0 w4) ≤ x2 then
  (some ((-5), w4))
  else
  (bnd (f5_at 0 x2 w4) fun w8 =>
  some (w8, w4))))
  else
  (lt (f10_refuseBadTen k0 σ) fun w12 =>
  some (w12.1, w12.2)))
theorem E10_order {k0 : Nat} {x1 : Int32} {x2 : Int32} {σ : Mem} {w : Int32 × Mem} (h : f10_order k0 x1 x2 σ = some w) : Ev m10_order [.inr (.inr (10, k0)), .inl x1, .inl x2] σ (some (.inl w.1) : Option AV) w.2 := by
  unfold f10_order at h
  show Go m10_order 0 [some (.inr (.inr (10, k0))), some (.inl x1), some (.inl x2)] [] σ (some (.inl w.1) : Option AV) w.2
  refine g_iload_n a10_order_0 rfl ?_
  refine g_iconst (v := 0) a10_order_1 rfl ?_
  refine g_bipush (v := 99) a10_order_2 rfl ?_
  refine g_S3s (v1 := .inl (f10_within x1 0 99)) (σ1 := σ) a10_order_4 cs10_96 (E10_within _ _ _ _) rfl (fun o1 => ?_)
  refine g_if_eq (tgt := 15) a10_order_7 rfl (fun c15 => ?_) (fun c15 => ?_)
  · have h := (if_pos c15).symm.trans h
    refine g_aload_n a10_order_15 rfl ?_
    obtain ⟨w2, hw2, h⟩ := lt_inv h
    refine g_V0s (v1 := .inl w2.1) (σ1 := w2.2) a10_order_16 cv10_237 (by rw [← hw2]; exact E10_refuseBadTen _ _) rfl (fun o3 => ?_)
    have h := Option.some.inj h
    subst h
    exact g_retE a10_order_19 trivial rfl rfl
  · have h := (if_neg c15).symm.trans h
    refine g_iload_n a10_order_10 rfl ?_
    refine g_iconst (v := (-1)) a10_order_11 rfl ?_
    refine g_icmp_ge (tgt := 20) a10_order_12 rfl (fun c14 => ?_) (fun c14 => ?_)
    · have h := (if_pos c14).symm.trans h
      refine g_aload_n a10_order_20 rfl ?_
      refine g_getf (v := .inr (.inr (5, 0))) a10_order_21 fs10_58 rfl ?_
      refine g_aload_n a10_order_24 rfl ?_
      refine g_getf (v := .inr (.inr (9, 0))) a10_order_25 fs10_10 rfl ?_
      refine g_iload_n a10_order_28 rfl ?_
      obtain ⟨w4, hw4, h⟩ := bnd_inv h
      refine g_V2n (σ1 := w4) a10_order_29 cv10_240 (E5_search hw4) rfl (fun o5 => ?_)
      refine g_iload_n a10_order_32 rfl ?_
      refine g_iconst (v := (-1)) a10_order_33 rfl ?_
      refine g_icmp_ne (tgt := 45) a10_order_34 rfl (fun c11 => ?_) (fun c11 => ?_)
      · have h := (if_neg c11).symm.trans h
        refine g_iload_n a10_order_45 rfl ?_
        refine g_aload_n a10_order_46 rfl ?_
        refine g_getf (v := .inr (.inr (5, 0))) a10_order_47 fs10_58 rfl ?_
        refine g_V0s (v1 := .inl (f5_length 0 w4)) (σ1 := w4) a10_order_50 cv10_247 (E5_length _ _) rfl (fun o7 => ?_)
        refine g_icmp_ge (tgt := 67) a10_order_53 rfl (fun c10 => ?_) (fun c10 => ?_)
        · have h := (if_pos c10).symm.trans h
          refine g_bipush (v := (-5)) a10_order_67 rfl ?_
          have h := Option.some.inj h
          subst h
          exact g_retE a10_order_69 trivial rfl rfl
        · have h := (if_neg c10).symm.trans h
          refine g_aload_n a10_order_56 rfl ?_
          refine g_getf (v := .inr (.inr (5, 0))) a10_order_57 fs10_58 rfl ?_
          refine g_iload_n a10_order_60 rfl ?_
          obtain ⟨w8, hw8, h⟩ := bnd_inv h
          refine g_V1s (v1 := .inl w8) (σ1 := w4) a10_order_61 cv10_248 (E5_at hw8) rfl (fun o9 => ?_)
          refine g_goto (tgt := 69) a10_order_64 rfl ?_
          have h := Option.some.inj h
          subst h
          exact g_retE a10_order_69 trivial rfl rfl
      · have h := (if_pos c11).symm.trans h
        refine g_aload_n a10_order_37 rfl ?_
        refine g_getf (v := .inr (.inr (5, 0))) a10_order_38 fs10_58 rfl ?_
        refine g_V0s (v1 := .inl (f5_most 0 w4)) (σ1 := w4) a10_order_41 cv10_244 (E5_most _ _) rfl (fun o6 => ?_)
        have h := Option.some.inj h
        subst h
        exact g_retE a10_order_44 trivial rfl rfl
    · have h := (if_neg c14).symm.trans h
      refine g_aload_n a10_order_15 rfl ?_
      obtain ⟨w12, hw12, h⟩ := lt_inv h
      refine g_V0s (v1 := .inl w12.1) (σ1 := w12.2) a10_order_16 cv10_237 (by rw [← hw12]; exact E10_refuseBadTen _ _) rfl (fun o13 => ?_)
      have h := Option.some.inj h
      subst h
      exact g_retE a10_order_19 trivial rfl rfl
theorem a10_seen_0 : At cX10_seen 0 (.iload_n 1) 1 1 := ⟨by decide +kernel, rfl⟩
theorem a10_seen_1 : At cX10_seen 1 (.invokestatic 93) 3 4 := ⟨by decide +kernel, rfl⟩
theorem a10_seen_4 : At cX10_seen 4 (.ifCond .eq 16) 3 7 := ⟨by decide +kernel, rfl⟩
theorem a10_seen_7 : At cX10_seen 7 (.iload_n 2) 1 8 := ⟨by decide +kernel, rfl⟩
theorem a10_seen_8 : At cX10_seen 8 (.iconst (-1)) 1 9 := ⟨by decide +kernel, rfl⟩
theorem a10_seen_9 : At cX10_seen 9 (.if_icmp .eq 16) 3 12 := ⟨by decide +kernel, rfl⟩
theorem a10_seen_12 : At cX10_seen 12 (.aload_n 0) 1 13 := ⟨by decide +kernel, rfl⟩
theorem a10_seen_13 : At cX10_seen 13 (.iload_n 2) 1 14 := ⟨by decide +kernel, rfl⟩
theorem a10_seen_14 : At cX10_seen 14 (.invokevirtual 169) 3 17 := ⟨by decide +kernel, rfl⟩
theorem a10_seen_17 : At cX10_seen 17 (.ifCond .ne 8) 3 20 := ⟨by decide +kernel, rfl⟩
theorem a10_seen_20 : At cX10_seen 20 (.aload_n 0) 1 21 := ⟨by decide +kernel, rfl⟩
theorem a10_seen_21 : At cX10_seen 21 (.invokevirtual 100) 3 24 := ⟨by decide +kernel, rfl⟩
theorem a10_seen_24 : At cX10_seen 24 (.ireturn) 1 25 := ⟨by decide +kernel, rfl⟩
theorem a10_seen_25 : At cX10_seen 25 (.aload_n 0) 1 26 := ⟨by decide +kernel, rfl⟩
theorem a10_seen_26 : At cX10_seen 26 (.getfield 10) 3 29 := ⟨by decide +kernel, rfl⟩
theorem a10_seen_29 : At cX10_seen 29 (.getfield 250) 3 32 := ⟨by decide +kernel, rfl⟩
theorem a10_seen_32 : At cX10_seen 32 (.invokevirtual 120) 3 35 := ⟨by decide +kernel, rfl⟩
theorem a10_seen_35 : At cX10_seen 35 (.ifCond .eq 8) 3 38 := ⟨by decide +kernel, rfl⟩
theorem a10_seen_38 : At cX10_seen 38 (.aload_n 0) 1 39 := ⟨by decide +kernel, rfl⟩
theorem a10_seen_39 : At cX10_seen 39 (.invokevirtual 124) 3 42 := ⟨by decide +kernel, rfl⟩
theorem a10_seen_42 : At cX10_seen 42 (.ireturn) 1 43 := ⟨by decide +kernel, rfl⟩
theorem a10_seen_43 : At cX10_seen 43 (.aload_n 0) 1 44 := ⟨by decide +kernel, rfl⟩
theorem a10_seen_44 : At cX10_seen 44 (.getfield 10) 3 47 := ⟨by decide +kernel, rfl⟩
theorem a10_seen_47 : At cX10_seen 47 (.getfield 250) 3 50 := ⟨by decide +kernel, rfl⟩
theorem a10_seen_50 : At cX10_seen 50 (.iload_n 1) 1 51 := ⟨by decide +kernel, rfl⟩
theorem a10_seen_51 : At cX10_seen 51 (.iload_n 2) 1 52 := ⟨by decide +kernel, rfl⟩
theorem a10_seen_52 : At cX10_seen 52 (.iconst 0) 1 53 := ⟨by decide +kernel, rfl⟩
theorem a10_seen_53 : At cX10_seen 53 (.iconst 0) 1 54 := ⟨by decide +kernel, rfl⟩
theorem a10_seen_54 : At cX10_seen 54 (.iconst 0) 1 55 := ⟨by decide +kernel, rfl⟩
theorem a10_seen_55 : At cX10_seen 55 (.invokevirtual 253) 3 58 := ⟨by decide +kernel, rfl⟩
theorem a10_seen_58 : At cX10_seen 58 (.aload_n 0) 1 59 := ⟨by decide +kernel, rfl⟩
theorem a10_seen_59 : At cX10_seen 59 (.getfield 10) 3 62 := ⟨by decide +kernel, rfl⟩
theorem a10_seen_62 : At cX10_seen 62 (.getfield 250) 3 65 := ⟨by decide +kernel, rfl⟩
theorem a10_seen_65 : At cX10_seen 65 (.invokevirtual 80) 3 68 := ⟨by decide +kernel, rfl⟩
theorem a10_seen_68 : At cX10_seen 68 (.ireturn) 1 69 := ⟨by decide +kernel, rfl⟩
def f10_seen (k0 : Nat) (x1 : Int32) (x2 : Int32) (σ : Mem) : Option (Int32 × Mem) :=
  if (f10_isCell x1) = 0 then
  (lt (f10_refuseBad k0 σ) fun w2 =>
  some (w2.1, w2.2))
  else
  (if x2 = (-1) then
  (if (f7_isFull 3 σ) = 0 then
  (bnd (f7_add 3 x1 x2 0 0 0 σ) fun w5 =>
  some ((f7_size 3 w5), w5))
  else
  (lt (f10_refuseFull k0 σ) fun w8 =>
  some (w8.1, w8.2)))
  else
  (if (f10_isThing k0 x2 σ) = 0 then
  (lt (f10_refuseBad k0 σ) fun w12 =>
  some (w12.1, w12.2))
  else
  (if (f7_isFull 3 σ) = 0 then
  (bnd (f7_add 3 x1 x2 0 0 0 σ) fun w15 =>
  some ((f7_size 3 w15), w15))
  else
  (lt (f10_refuseFull k0 σ) fun w18 =>
  some (w18.1, w18.2)))))
theorem E10_seen {k0 : Nat} {x1 : Int32} {x2 : Int32} {σ : Mem} {w : Int32 × Mem} (h : f10_seen k0 x1 x2 σ = some w) : Ev m10_seen [.inr (.inr (10, k0)), .inl x1, .inl x2] σ (some (.inl w.1) : Option AV) w.2 := by
  unfold f10_seen at h
  show Go m10_seen 0 [some (.inr (.inr (10, k0))), some (.inl x1), some (.inl x2)] [] σ (some (.inl w.1) : Option AV) w.2
  refine g_iload_n a10_seen_0 rfl ?_
  refine g_S1s (v1 := .inl (f10_isCell x1)) (σ1 := σ) a10_seen_1 cs10_93 (E10_isCell _ _) rfl (fun o1 => ?_)
  refine g_if_eq (tgt := 20) a10_seen_4 rfl (fun c23 => ?_) (fun c23 => ?_)
  · have h := (if_pos c23).symm.trans h
    refine g_aload_n a10_seen_20 rfl ?_
    obtain ⟨w2, hw2, h⟩ := lt_inv h
    refine g_V0s (v1 := .inl w2.1) (σ1 := w2.2) a10_seen_21 cv10_100 (by rw [← hw2]; exact E10_refuseBad _ _) rfl (fun o3 => ?_)
    have h := Option.some.inj h
    subst h
    exact g_retE a10_seen_24 trivial rfl rfl
  · have h := (if_neg c23).symm.trans h
    refine g_iload_n a10_seen_7 rfl ?_
    refine g_iconst (v := (-1)) a10_seen_8 rfl ?_
    refine g_icmp_eq (tgt := 25) a10_seen_9 rfl (fun c22 => ?_) (fun c22 => ?_)
    · have h := (if_pos c22).symm.trans h
      refine g_aload_n a10_seen_25 rfl ?_
      refine g_getf (v := .inr (.inr (9, 0))) a10_seen_26 fs10_10 rfl ?_
      refine g_getf (v := .inr (.inr (7, 3))) a10_seen_29 fs10_250 rfl ?_
      refine g_V0s (v1 := .inl (f7_isFull 3 σ)) (σ1 := σ) a10_seen_32 cv10_120 (E7_isFull _ _) rfl (fun o4 => ?_)
      refine g_if_eq (tgt := 43) a10_seen_35 rfl (fun c10 => ?_) (fun c10 => ?_)
      · have h := (if_pos c10).symm.trans h
        refine g_aload_n a10_seen_43 rfl ?_
        refine g_getf (v := .inr (.inr (9, 0))) a10_seen_44 fs10_10 rfl ?_
        refine g_getf (v := .inr (.inr (7, 3))) a10_seen_47 fs10_250 rfl ?_
        refine g_iload_n a10_seen_50 rfl ?_
        refine g_iload_n a10_seen_51 rfl ?_
        refine g_iconst (v := 0) a10_seen_52 rfl ?_
        refine g_iconst (v := 0) a10_seen_53 rfl ?_
        refine g_iconst (v := 0) a10_seen_54 rfl ?_
        obtain ⟨w5, hw5, h⟩ := bnd_inv h
        refine g_V5n (σ1 := w5) a10_seen_55 cv10_253 (E7_add hw5) rfl (fun o6 => ?_)
        refine g_aload_n a10_seen_58 rfl ?_
        refine g_getf (v := .inr (.inr (9, 0))) a10_seen_59 fs10_10 rfl ?_
        refine g_getf (v := .inr (.inr (7, 3))) a10_seen_62 fs10_250 rfl ?_
        refine g_V0s (v1 := .inl (f7_size 3 w5)) (σ1 := w5) a10_seen_65 cv10_80 (E7_size _ _) rfl (fun o7 => ?_)
        have h := Option.some.inj h
        subst h
        exact g_retE a10_seen_68 trivial rfl rfl
      · have h := (if_neg c10).symm.trans h
        refine g_aload_n a10_seen_38 rfl ?_
        obtain ⟨w8, hw8, h⟩ := lt_inv h
        refine g_V0s (v1 := .inl w8.1) (σ1 := w8.2) a10_seen_39 cv10_124 (by rw [← hw8]; exact E10_refuseFull _ _) rfl (fun o9 => ?_)
        have h := Option.some.inj h
        subst h
        exact g_retE a10_seen_42 trivial rfl rfl
    · have h := (if_neg c22).symm.trans h
      refine g_aload_n a10_seen_12 rfl ?_
      refine g_iload_n a10_seen_13 rfl ?_
      refine g_V1s (v1 := .inl (f10_isThing k0 x2 σ)) (σ1 := σ) a10_seen_14 cv10_169 (E10_isThing _ _ _) rfl (fun o11 => ?_)
      refine g_if_ne (tgt := 25) a10_seen_17 rfl (fun c21 => ?_) (fun c21 => ?_)
      · have h := (if_neg c21).symm.trans h
        refine g_aload_n a10_seen_25 rfl ?_
        refine g_getf (v := .inr (.inr (9, 0))) a10_seen_26 fs10_10 rfl ?_
        refine g_getf (v := .inr (.inr (7, 3))) a10_seen_29 fs10_250 rfl ?_
        refine g_V0s (v1 := .inl (f7_isFull 3 σ)) (σ1 := σ) a10_seen_32 cv10_120 (E7_isFull _ _) rfl (fun o14 => ?_)
        refine g_if_eq (tgt := 43) a10_seen_35 rfl (fun c20 => ?_) (fun c20 => ?_)
        · have h := (if_pos c20).symm.trans h
          refine g_aload_n a10_seen_43 rfl ?_
          refine g_getf (v := .inr (.inr (9, 0))) a10_seen_44 fs10_10 rfl ?_
          refine g_getf (v := .inr (.inr (7, 3))) a10_seen_47 fs10_250 rfl ?_
          refine g_iload_n a10_seen_50 rfl ?_
          refine g_iload_n a10_seen_51 rfl ?_
          refine g_iconst (v := 0) a10_seen_52 rfl ?_
          refine g_iconst (v := 0) a10_seen_53 rfl ?_
          refine g_iconst (v := 0) a10_seen_54 rfl ?_
          obtain ⟨w15, hw15, h⟩ := bnd_inv h
          refine g_V5n (σ1 := w15) a10_seen_55 cv10_253 (E7_add hw15) rfl (fun o16 => ?_)
          refine g_aload_n a10_seen_58 rfl ?_
          refine g_getf (v := .inr (.inr (9, 0))) a10_seen_59 fs10_10 rfl ?_
          refine g_getf (v := .inr (.inr (7, 3))) a10_seen_62 fs10_250 rfl ?_
          refine g_V0s (v1 := .inl (f7_size 3 w15)) (σ1 := w15) a10_seen_65 cv10_80 (E7_size _ _) rfl (fun o17 => ?_)
          have h := Option.some.inj h
          subst h
          exact g_retE a10_seen_68 trivial rfl rfl
        · have h := (if_neg c20).symm.trans h
          refine g_aload_n a10_seen_38 rfl ?_
          obtain ⟨w18, hw18, h⟩ := lt_inv h
          refine g_V0s (v1 := .inl w18.1) (σ1 := w18.2) a10_seen_39 cv10_124 (by rw [← hw18]; exact E10_refuseFull _ _) rfl (fun o19 => ?_)
          have h := Option.some.inj h
          subst h
          exact g_retE a10_seen_42 trivial rfl rfl
      · have h := (if_pos c21).symm.trans h
        refine g_aload_n a10_seen_20 rfl ?_
        obtain ⟨w12, hw12, h⟩ := lt_inv h
        refine g_V0s (v1 := .inl w12.1) (σ1 := w12.2) a10_seen_21 cv10_100 (by rw [← hw12]; exact E10_refuseBad _ _) rfl (fun o13 => ?_)
        have h := Option.some.inj h
        subst h
        exact g_retE a10_seen_24 trivial rfl rfl
theorem a9_fitsSeen_0 : At cX9_fitsSeen 0 (.iconst 0) 1 1 := ⟨by decide +kernel, rfl⟩
theorem a9_fitsSeen_1 : At cX9_fitsSeen 1 (.istore_n 3) 1 2 := ⟨by decide +kernel, rfl⟩
theorem a9_fitsSeen_2 : At cX9_fitsSeen 2 (.iload_n 3) 1 3 := ⟨by decide +kernel, rfl⟩
theorem a9_fitsSeen_3 : At cX9_fitsSeen 3 (.aload_n 0) 1 4 := ⟨by decide +kernel, rfl⟩
theorem a9_fitsSeen_4 : At cX9_fitsSeen 4 (.getfield 26) 3 7 := ⟨by decide +kernel, rfl⟩
theorem a9_fitsSeen_7 : At cX9_fitsSeen 7 (.invokevirtual 70) 3 10 := ⟨by decide +kernel, rfl⟩
theorem a9_fitsSeen_10 : At cX9_fitsSeen 10 (.if_icmp .ge 42) 3 13 := ⟨by decide +kernel, rfl⟩
theorem a9_fitsSeen_13 : At cX9_fitsSeen 13 (.aload_n 0) 1 14 := ⟨by decide +kernel, rfl⟩
theorem a9_fitsSeen_14 : At cX9_fitsSeen 14 (.aload_n 0) 1 15 := ⟨by decide +kernel, rfl⟩
theorem a9_fitsSeen_15 : At cX9_fitsSeen 15 (.getfield 26) 3 18 := ⟨by decide +kernel, rfl⟩
theorem a9_fitsSeen_18 : At cX9_fitsSeen 18 (.iload_n 3) 1 19 := ⟨by decide +kernel, rfl⟩
theorem a9_fitsSeen_19 : At cX9_fitsSeen 19 (.iconst 0) 1 20 := ⟨by decide +kernel, rfl⟩
theorem a9_fitsSeen_20 : At cX9_fitsSeen 20 (.invokevirtual 94) 3 23 := ⟨by decide +kernel, rfl⟩
theorem a9_fitsSeen_23 : At cX9_fitsSeen 23 (.aload_n 0) 1 24 := ⟨by decide +kernel, rfl⟩
theorem a9_fitsSeen_24 : At cX9_fitsSeen 24 (.getfield 41) 3 27 := ⟨by decide +kernel, rfl⟩
theorem a9_fitsSeen_27 : At cX9_fitsSeen 27 (.iload_n 1) 1 28 := ⟨by decide +kernel, rfl⟩
theorem a9_fitsSeen_28 : At cX9_fitsSeen 28 (.iload_n 2) 1 29 := ⟨by decide +kernel, rfl⟩
theorem a9_fitsSeen_29 : At cX9_fitsSeen 29 (.invokevirtual 105) 3 32 := ⟨by decide +kernel, rfl⟩
theorem a9_fitsSeen_32 : At cX9_fitsSeen 32 (.aload_n 0) 1 33 := ⟨by decide +kernel, rfl⟩
theorem a9_fitsSeen_33 : At cX9_fitsSeen 33 (.getfield 26) 3 36 := ⟨by decide +kernel, rfl⟩
theorem a9_fitsSeen_36 : At cX9_fitsSeen 36 (.iload_n 3) 1 37 := ⟨by decide +kernel, rfl⟩
theorem a9_fitsSeen_37 : At cX9_fitsSeen 37 (.iconst 1) 1 38 := ⟨by decide +kernel, rfl⟩
theorem a9_fitsSeen_38 : At cX9_fitsSeen 38 (.invokevirtual 94) 3 41 := ⟨by decide +kernel, rfl⟩
theorem a9_fitsSeen_41 : At cX9_fitsSeen 41 (.if_icmp .eq 5) 3 44 := ⟨by decide +kernel, rfl⟩
theorem a9_fitsSeen_44 : At cX9_fitsSeen 44 (.iconst 0) 1 45 := ⟨by decide +kernel, rfl⟩
theorem a9_fitsSeen_45 : At cX9_fitsSeen 45 (.ireturn) 1 46 := ⟨by decide +kernel, rfl⟩
theorem a9_fitsSeen_46 : At cX9_fitsSeen 46 (.iinc 3 1) 3 49 := ⟨by decide +kernel, rfl⟩
theorem a9_fitsSeen_49 : At cX9_fitsSeen 49 (.goto (-47)) 3 52 := ⟨by decide +kernel, rfl⟩
theorem a9_fitsSeen_52 : At cX9_fitsSeen 52 (.iconst 1) 1 53 := ⟨by decide +kernel, rfl⟩
theorem a9_fitsSeen_53 : At cX9_fitsSeen 53 (.ireturn) 1 54 := ⟨by decide +kernel, rfl⟩
def l9_fitsSeen_2 (k0 : Nat) (x1 : Int32) (x2 : Int32) (σ : Mem) : Nat → Int32 → Option ((Int32) ⊕ (Int32))
  | 0, _ => none
  | n + 1, x3 =>
  if (f7_size (7 * k0 + 3) σ) ≤ x3 then
  (some (.inl x3))
  else
  (bnd (f7_at (7 * k0 + 3) x3 0 σ) fun w2 =>
  bnd (f9_struckIf k0 w2 k0 x1 x2 σ) fun w4 =>
  bnd (f7_at (7 * k0 + 3) x3 1 σ) fun w6 =>
  if w4 = w6 then
  (l9_fitsSeen_2 k0 x1 x2 σ n (x3 + 1))
  else
  (some (.inr 0)))
theorem lE9_fitsSeen_2 {V : Option AV} {S : Mem} (k0 : Nat) (x1 : Int32) (x2 : Int32) (σ : Mem) : ∀ (n : Nat) (x3 : Int32) {w : (Int32) ⊕ (Int32)}, l9_fitsSeen_2 k0 x1 x2 σ n x3 = some w → (∀ u, w = .inl u → Go m9_fitsSeen 52 [some (.inr (.inr (9, k0))), some (.inl x1), some (.inl x2), some (.inl u)] [] σ V S) → (∀ u, w = .inr u → (some (.inl u) : Option AV) = V ∧ σ = S) → Go m9_fitsSeen 2 [some (.inr (.inr (9, k0))), some (.inl x1), some (.inl x2), some (.inl x3)] [] σ V S
  | 0, x3, w, h, K1, K2 => by cases h
  | n + 1, x3, w, h, K1, K2 => by
    rw [l9_fitsSeen_2] at h
    refine g_iload_n a9_fitsSeen_2 rfl ?_
    refine g_aload_n a9_fitsSeen_3 rfl ?_
    refine g_getf (v := .inr (.inr (7, (7 * k0 + 3)))) a9_fitsSeen_4 fs9_26 rfl ?_
    refine g_V0s (v1 := .inl (f7_size (7 * k0 + 3) σ)) (σ1 := σ) a9_fitsSeen_7 cv9_70 (E7_size _ _) rfl (fun o1 => ?_)
    refine g_icmp_ge (tgt := 52) a9_fitsSeen_10 rfl (fun c9 => ?_) (fun c9 => ?_)
    · have h := (if_pos c9).symm.trans h
      have h := Option.some.inj h
      subst h
      exact g_weak (K1 _ rfl) ⟨rfl, rfl, rfl, rfl, trivial⟩
    · have h := (if_neg c9).symm.trans h
      refine g_aload_n a9_fitsSeen_13 rfl ?_
      refine g_aload_n a9_fitsSeen_14 rfl ?_
      refine g_getf (v := .inr (.inr (7, (7 * k0 + 3)))) a9_fitsSeen_15 fs9_26 rfl ?_
      refine g_iload_n a9_fitsSeen_18 rfl ?_
      refine g_iconst (v := 0) a9_fitsSeen_19 rfl ?_
      obtain ⟨w2, hw2, h⟩ := bnd_inv h
      refine g_V2s (v1 := .inl w2) (σ1 := σ) a9_fitsSeen_20 cv9_94 (E7_at hw2) rfl (fun o3 => ?_)
      refine g_aload_n a9_fitsSeen_23 rfl ?_
      refine g_getf (v := .inr (.inr (4, k0))) a9_fitsSeen_24 fs9_41 rfl ?_
      refine g_iload_n a9_fitsSeen_27 rfl ?_
      refine g_iload_n a9_fitsSeen_28 rfl ?_
      obtain ⟨w4, hw4, h⟩ := bnd_inv h
      refine g_V4s (v1 := .inl w4) (σ1 := σ) a9_fitsSeen_29 cv9_105 (E9_struckIf hw4) rfl (fun o5 => ?_)
      refine g_aload_n a9_fitsSeen_32 rfl ?_
      refine g_getf (v := .inr (.inr (7, (7 * k0 + 3)))) a9_fitsSeen_33 fs9_26 rfl ?_
      refine g_iload_n a9_fitsSeen_36 rfl ?_
      refine g_iconst (v := 1) a9_fitsSeen_37 rfl ?_
      obtain ⟨w6, hw6, h⟩ := bnd_inv h
      refine g_V2s (v1 := .inl w6) (σ1 := σ) a9_fitsSeen_38 cv9_94 (E7_at hw6) rfl (fun o7 => ?_)
      refine g_icmp_eq (tgt := 46) a9_fitsSeen_41 rfl (fun c8 => ?_) (fun c8 => ?_)
      · have h := (if_pos c8).symm.trans h
        refine g_iinc (v := (x3 + 1)) (L' := [some (.inr (.inr (9, k0))), some (.inl x1), some (.inl x2), some (.inl (x3 + 1))]) a9_fitsSeen_46 rfl rfl (Nat.le_of_ble_eq_true rfl) rfl rfl ?_
        refine g_goto (tgt := 2) a9_fitsSeen_49 rfl ?_
        exact g_weak (lE9_fitsSeen_2 (V := V) (S := S)  k0 x1 x2 σ n _ h K1 K2) ⟨rfl, rfl, rfl, rfl, trivial⟩
      · have h := (if_neg c8).symm.trans h
        refine g_iconst (v := 0) a9_fitsSeen_44 rfl ?_
        have h := Option.some.inj h
        subst h
        obtain ⟨hV, hS⟩ := K2 _ rfl
        subst hV; subst hS
        exact g_retE a9_fitsSeen_45 (Or.inl rfl) rfl rfl
def f9_fitsSeen (k0 : Nat) (x1 : Int32) (x2 : Int32) (σ : Mem) : Option (Int32) :=
  bnd (l9_fitsSeen_2 k0 x1 x2 σ 2000 0) fun w10 =>
  sm w10 (fun u11 =>
  some 1) (fun u11 => some u11)
theorem E9_fitsSeen {k0 : Nat} {x1 : Int32} {x2 : Int32} {σ : Mem} {w : Int32} (h : f9_fitsSeen k0 x1 x2 σ = some w) : Ev m9_fitsSeen [.inr (.inr (9, k0)), .inl x1, .inl x2] σ (some (.inl w) : Option AV) σ := by
  unfold f9_fitsSeen at h
  show Go m9_fitsSeen 0 [some (.inr (.inr (9, k0))), some (.inl x1), some (.inl x2), none] [] σ (some (.inl w) : Option AV) σ
  refine g_iconst (v := 0) a9_fitsSeen_0 rfl ?_
  refine g_istore_n (L' := [some (.inr (.inr (9, k0))), some (.inl x1), some (.inl x2), some (.inl 0)]) a9_fitsSeen_1 (Nat.le_of_ble_eq_true rfl) rfl rfl ?_
  obtain ⟨w10, hw10, h⟩ := bnd_inv h
  rcases w10 with u11 | u11
  · have h := sm_l h
    refine g_weak (lE9_fitsSeen_2 k0 x1 x2 σ 2000 _ hw10 (fun _ e => ?_) (fun _ e => by cases e)) ⟨rfl, rfl, rfl, rfl, trivial⟩
    cases e
    refine g_iconst (v := 1) a9_fitsSeen_52 rfl ?_
    have h := Option.some.inj h
    subst h
    exact g_retE a9_fitsSeen_53 (Or.inr rfl) rfl rfl
  · have h := sm_r h
    have h := Option.some.inj h
    subst h
    exact g_weak (lE9_fitsSeen_2 k0 x1 x2 σ 2000 _ hw10 (fun _ e => by cases e) (fun _ e => by cases e; exact ⟨rfl, rfl⟩)) ⟨rfl, rfl, rfl, rfl, trivial⟩
theorem a10_tall_0 : At cX10_tall 0 (.aload_n 0) 1 1 := ⟨by decide +kernel, rfl⟩
theorem a10_tall_1 : At cX10_tall 1 (.iload_n 1) 1 2 := ⟨by decide +kernel, rfl⟩
theorem a10_tall_2 : At cX10_tall 2 (.invokevirtual 169) 3 5 := ⟨by decide +kernel, rfl⟩
theorem a10_tall_5 : At cX10_tall 5 (.ifCond .eq 12) 3 8 := ⟨by decide +kernel, rfl⟩
theorem a10_tall_8 : At cX10_tall 8 (.iload_n 2) 1 9 := ⟨by decide +kernel, rfl⟩
theorem a10_tall_9 : At cX10_tall 9 (.iconst 0) 1 10 := ⟨by decide +kernel, rfl⟩
theorem a10_tall_10 : At cX10_tall 10 (.iconst 2) 1 11 := ⟨by decide +kernel, rfl⟩
theorem a10_tall_11 : At cX10_tall 11 (.invokestatic 96) 3 14 := ⟨by decide +kernel, rfl⟩
theorem a10_tall_14 : At cX10_tall 14 (.ifCond .ne 8) 3 17 := ⟨by decide +kernel, rfl⟩
theorem a10_tall_17 : At cX10_tall 17 (.aload_n 0) 1 18 := ⟨by decide +kernel, rfl⟩
theorem a10_tall_18 : At cX10_tall 18 (.invokevirtual 100) 3 21 := ⟨by decide +kernel, rfl⟩
theorem a10_tall_21 : At cX10_tall 21 (.ireturn) 1 22 := ⟨by decide +kernel, rfl⟩
theorem a10_tall_22 : At cX10_tall 22 (.iconst 0) 1 23 := ⟨by decide +kernel, rfl⟩
theorem a10_tall_23 : At cX10_tall 23 (.istore_n 3) 1 24 := ⟨by decide +kernel, rfl⟩
theorem a10_tall_24 : At cX10_tall 24 (.iconst (-1)) 1 25 := ⟨by decide +kernel, rfl⟩
theorem a10_tall_25 : At cX10_tall 25 (.istore 4) 2 27 := ⟨by decide +kernel, rfl⟩
theorem a10_tall_27 : At cX10_tall 27 (.iconst (-1)) 1 28 := ⟨by decide +kernel, rfl⟩
theorem a10_tall_28 : At cX10_tall 28 (.istore 5) 2 30 := ⟨by decide +kernel, rfl⟩
theorem a10_tall_30 : At cX10_tall 30 (.iconst 1) 1 31 := ⟨by decide +kernel, rfl⟩
theorem a10_tall_31 : At cX10_tall 31 (.istore 6) 2 33 := ⟨by decide +kernel, rfl⟩
theorem a10_tall_33 : At cX10_tall 33 (.iload 6) 2 35 := ⟨by decide +kernel, rfl⟩
theorem a10_tall_35 : At cX10_tall 35 (.bipush 30) 2 37 := ⟨by decide +kernel, rfl⟩
theorem a10_tall_37 : At cX10_tall 37 (.if_icmp .gt 44) 3 40 := ⟨by decide +kernel, rfl⟩
theorem a10_tall_40 : At cX10_tall 40 (.aload_n 0) 1 41 := ⟨by decide +kernel, rfl⟩
theorem a10_tall_41 : At cX10_tall 41 (.getfield 10) 3 44 := ⟨by decide +kernel, rfl⟩
theorem a10_tall_44 : At cX10_tall 44 (.iload_n 1) 1 45 := ⟨by decide +kernel, rfl⟩
theorem a10_tall_45 : At cX10_tall 45 (.iload 6) 2 47 := ⟨by decide +kernel, rfl⟩
theorem a10_tall_47 : At cX10_tall 47 (.invokevirtual 256) 3 50 := ⟨by decide +kernel, rfl⟩
theorem a10_tall_50 : At cX10_tall 50 (.ifCond .eq 25) 3 53 := ⟨by decide +kernel, rfl⟩
theorem a10_tall_53 : At cX10_tall 53 (.iinc 3 1) 3 56 := ⟨by decide +kernel, rfl⟩
theorem a10_tall_56 : At cX10_tall 56 (.iload 4) 2 58 := ⟨by decide +kernel, rfl⟩
theorem a10_tall_58 : At cX10_tall 58 (.iconst (-1)) 1 59 := ⟨by decide +kernel, rfl⟩
theorem a10_tall_59 : At cX10_tall 59 (.if_icmp .ne 8) 3 62 := ⟨by decide +kernel, rfl⟩
theorem a10_tall_62 : At cX10_tall 62 (.iload 6) 2 64 := ⟨by decide +kernel, rfl⟩
theorem a10_tall_64 : At cX10_tall 64 (.goto 5) 3 67 := ⟨by decide +kernel, rfl⟩
theorem a10_tall_67 : At cX10_tall 67 (.iload 4) 2 69 := ⟨by decide +kernel, rfl⟩
theorem a10_tall_69 : At cX10_tall 69 (.istore 4) 2 71 := ⟨by decide +kernel, rfl⟩
theorem a10_tall_71 : At cX10_tall 71 (.iload 6) 2 73 := ⟨by decide +kernel, rfl⟩
theorem a10_tall_73 : At cX10_tall 73 (.istore 5) 2 75 := ⟨by decide +kernel, rfl⟩
theorem a10_tall_75 : At cX10_tall 75 (.iinc 6 1) 3 78 := ⟨by decide +kernel, rfl⟩
theorem a10_tall_78 : At cX10_tall 78 (.goto (-45)) 3 81 := ⟨by decide +kernel, rfl⟩
theorem a10_tall_81 : At cX10_tall 81 (.iload_n 2) 1 82 := ⟨by decide +kernel, rfl⟩
theorem a10_tall_82 : At cX10_tall 82 (.ifCond .ne 5) 3 85 := ⟨by decide +kernel, rfl⟩
theorem a10_tall_85 : At cX10_tall 85 (.iload_n 3) 1 86 := ⟨by decide +kernel, rfl⟩
theorem a10_tall_86 : At cX10_tall 86 (.ireturn) 1 87 := ⟨by decide +kernel, rfl⟩
theorem a10_tall_87 : At cX10_tall 87 (.iload_n 2) 1 88 := ⟨by decide +kernel, rfl⟩
theorem a10_tall_88 : At cX10_tall 88 (.iconst 1) 1 89 := ⟨by decide +kernel, rfl⟩
theorem a10_tall_89 : At cX10_tall 89 (.if_icmp .ne 8) 3 92 := ⟨by decide +kernel, rfl⟩
theorem a10_tall_92 : At cX10_tall 92 (.iload 4) 2 94 := ⟨by decide +kernel, rfl⟩
theorem a10_tall_94 : At cX10_tall 94 (.goto 5) 3 97 := ⟨by decide +kernel, rfl⟩
theorem a10_tall_97 : At cX10_tall 97 (.iload 5) 2 99 := ⟨by decide +kernel, rfl⟩
theorem a10_tall_99 : At cX10_tall 99 (.ireturn) 1 100 := ⟨by decide +kernel, rfl⟩
def l10_tall_33 (k0 : Nat) (x1 : Int32) (x2 : Int32) (σ : Mem) : Nat → Int32 → Int32 → Int32 → Int32 → Option (Int32 × Int32 × Int32 × Int32)
  | 0, _, _, _, _ => none
  | n + 1, x3, x4, x5, x6 =>
  if 30 < x6 then
  (some (x3, x4, x5, x6))
  else
  (bnd (f9_fitsSeen 0 x1 x6 σ) fun w7 =>
  lt (if w7 = 0 then
  ((x3, x4, x5))
  else
  (lt (if x4 = (-1) then
  (x6)
  else
  (x4) : Int32) fun w11 =>
  ((x3 + 1), w11, x6)) : Int32 × Int32 × Int32) fun w9 =>
  l10_tall_33 k0 x1 x2 σ n w9.1 w9.2.1 w9.2.2 (x6 + 1))
theorem lE10_tall_33 {V : Option AV} {S : Mem} (k0 : Nat) (x1 : Int32) (x2 : Int32) (σ : Mem) : ∀ (n : Nat) (x3 : Int32) (x4 : Int32) (x5 : Int32) (x6 : Int32) {w : Int32 × Int32 × Int32 × Int32}, l10_tall_33 k0 x1 x2 σ n x3 x4 x5 x6 = some w → (Go m10_tall 81 [some (.inr (.inr (10, k0))), some (.inl x1), some (.inl x2), some (.inl w.1), some (.inl w.2.1), some (.inl w.2.2.1), some (.inl w.2.2.2)] [] σ V S) → Go m10_tall 33 [some (.inr (.inr (10, k0))), some (.inl x1), some (.inl x2), some (.inl x3), some (.inl x4), some (.inl x5), some (.inl x6)] [] σ V S
  | 0, x3, x4, x5, x6, w, h, K1 => by cases h
  | n + 1, x3, x4, x5, x6, w, h, K1 => by
    rw [l10_tall_33] at h
    refine g_iload a10_tall_33 rfl ?_
    refine g_bipush (v := 30) a10_tall_35 rfl ?_
    refine g_icmp_gt (tgt := 81) a10_tall_37 rfl (fun c15 => ?_) (fun c15 => ?_)
    · have h := (if_pos c15).symm.trans h
      have h := Option.some.inj h
      subst h
      exact g_weak K1 ⟨rfl, rfl, rfl, rfl, rfl, rfl, rfl, trivial⟩
    · have h := (if_neg c15).symm.trans h
      refine g_aload_n a10_tall_40 rfl ?_
      refine g_getf (v := .inr (.inr (9, 0))) a10_tall_41 fs10_10 rfl ?_
      refine g_iload_n a10_tall_44 rfl ?_
      refine g_iload a10_tall_45 rfl ?_
      obtain ⟨w7, hw7, h⟩ := bnd_inv h
      refine g_V2s (v1 := .inl w7) (σ1 := σ) a10_tall_47 cv10_256 (E9_fitsSeen hw7) rfl (fun o8 => ?_)
      obtain ⟨w9, hw9, h⟩ := lt_inv h
      have J10 : Go m10_tall 75 [some (.inr (.inr (10, k0))), some (.inl x1), some (.inl x2), some (.inl w9.1), some (.inl w9.2.1), some (.inl w9.2.2), some (.inl x6)] [] σ V S := by
        refine g_iinc (v := (x6 + 1)) (L' := [some (.inr (.inr (10, k0))), some (.inl x1), some (.inl x2), some (.inl w9.1), some (.inl w9.2.1), some (.inl w9.2.2), some (.inl (x6 + 1))]) a10_tall_75 rfl rfl (Nat.le_of_ble_eq_true rfl) rfl rfl ?_
        refine g_goto (tgt := 33) a10_tall_78 rfl ?_
        exact g_weak (lE10_tall_33 (V := V) (S := S)  k0 x1 x2 σ n _ _ _ _ h K1) ⟨rfl, rfl, rfl, rfl, rfl, rfl, rfl, trivial⟩
      clear h
      refine g_if_eq (tgt := 75) a10_tall_50 rfl (fun c14 => ?_) (fun c14 => ?_)
      · have hw9 := (if_pos c14).symm.trans hw9
        subst hw9
        exact g_weak J10 ⟨rfl, rfl, rfl, rfl, rfl, rfl, rfl, trivial⟩
      · have hw9 := (if_neg c14).symm.trans hw9
        refine g_iinc (v := (x3 + 1)) (L' := [some (.inr (.inr (10, k0))), some (.inl x1), some (.inl x2), some (.inl (x3 + 1)), some (.inl x4), some (.inl x5), some (.inl x6)]) a10_tall_53 rfl rfl (Nat.le_of_ble_eq_true rfl) rfl rfl ?_
        refine g_iload a10_tall_56 rfl ?_
        refine g_iconst (v := (-1)) a10_tall_58 rfl ?_
        obtain ⟨w11, hw11, hw9⟩ := lt_inv hw9
        have J12 : Go m10_tall 69 [some (.inr (.inr (10, k0))), some (.inl x1), some (.inl x2), some (.inl (x3 + 1)), none, none, some (.inl x6)] [.inl w11] σ V S := by
          refine g_istore (L' := [some (.inr (.inr (10, k0))), some (.inl x1), some (.inl x2), some (.inl (x3 + 1)), some (.inl w11), none, some (.inl x6)]) a10_tall_69 (Nat.le_of_ble_eq_true rfl) rfl rfl ?_
          refine g_iload a10_tall_71 rfl ?_
          refine g_istore (L' := [some (.inr (.inr (10, k0))), some (.inl x1), some (.inl x2), some (.inl (x3 + 1)), some (.inl w11), some (.inl x6), some (.inl x6)]) a10_tall_73 (Nat.le_of_ble_eq_true rfl) rfl rfl ?_
          subst hw9
          exact g_weak J10 ⟨rfl, rfl, rfl, rfl, rfl, rfl, rfl, trivial⟩
        clear hw9
        refine g_icmp_ne (tgt := 67) a10_tall_59 rfl (fun c13 => ?_) (fun c13 => ?_)
        · have hw11 := (if_neg c13).symm.trans hw11
          refine g_iload a10_tall_67 rfl ?_
          subst hw11
          exact g_weak J12 ⟨rfl, rfl, rfl, rfl, rfl, trivial⟩
        · have hw11 := (if_pos c13).symm.trans hw11
          refine g_iload a10_tall_62 rfl ?_
          refine g_goto (tgt := 69) a10_tall_64 rfl ?_
          subst hw11
          exact g_weak J12 ⟨rfl, rfl, rfl, rfl, rfl, trivial⟩
def f10_tall (k0 : Nat) (x1 : Int32) (x2 : Int32) (σ : Mem) : Option (Int32 × Mem) :=
  if (f10_isThing k0 x1 σ) = 0 then
  (lt (f10_refuseBad k0 σ) fun w2 =>
  some (w2.1, w2.2))
  else
  (if (f10_within x2 0 2) = 0 then
  (lt (f10_refuseBad k0 σ) fun w5 =>
  some (w5.1, w5.2))
  else
  (bnd (l10_tall_33 k0 x1 x2 σ 2000 0 (-1) (-1) 1) fun w16 =>
  if x2 = 0 then
  (some (w16.1, σ))
  else
  (if x2 = 1 then
  (some (w16.2.1, σ))
  else
  (some (w16.2.2.1, σ)))))
theorem E10_tall {k0 : Nat} {x1 : Int32} {x2 : Int32} {σ : Mem} {w : Int32 × Mem} (h : f10_tall k0 x1 x2 σ = some w) : Ev m10_tall [.inr (.inr (10, k0)), .inl x1, .inl x2] σ (some (.inl w.1) : Option AV) w.2 := by
  unfold f10_tall at h
  show Go m10_tall 0 [some (.inr (.inr (10, k0))), some (.inl x1), some (.inl x2), none, none, none, none] [] σ (some (.inl w.1) : Option AV) w.2
  refine g_aload_n a10_tall_0 rfl ?_
  refine g_iload_n a10_tall_1 rfl ?_
  refine g_V1s (v1 := .inl (f10_isThing k0 x1 σ)) (σ1 := σ) a10_tall_2 cv10_169 (E10_isThing _ _ _) rfl (fun o1 => ?_)
  refine g_if_eq (tgt := 17) a10_tall_5 rfl (fun c20 => ?_) (fun c20 => ?_)
  · have h := (if_pos c20).symm.trans h
    refine g_aload_n a10_tall_17 rfl ?_
    obtain ⟨w2, hw2, h⟩ := lt_inv h
    refine g_V0s (v1 := .inl w2.1) (σ1 := w2.2) a10_tall_18 cv10_100 (by rw [← hw2]; exact E10_refuseBad _ _) rfl (fun o3 => ?_)
    have h := Option.some.inj h
    subst h
    exact g_retE a10_tall_21 trivial rfl rfl
  · have h := (if_neg c20).symm.trans h
    refine g_iload_n a10_tall_8 rfl ?_
    refine g_iconst (v := 0) a10_tall_9 rfl ?_
    refine g_iconst (v := 2) a10_tall_10 rfl ?_
    refine g_S3s (v1 := .inl (f10_within x2 0 2)) (σ1 := σ) a10_tall_11 cs10_96 (E10_within _ _ _ _) rfl (fun o4 => ?_)
    refine g_if_ne (tgt := 22) a10_tall_14 rfl (fun c19 => ?_) (fun c19 => ?_)
    · have h := (if_neg c19).symm.trans h
      refine g_iconst (v := 0) a10_tall_22 rfl ?_
      refine g_istore_n (L' := [some (.inr (.inr (10, k0))), some (.inl x1), some (.inl x2), some (.inl 0), none, none, none]) a10_tall_23 (Nat.le_of_ble_eq_true rfl) rfl rfl ?_
      refine g_iconst (v := (-1)) a10_tall_24 rfl ?_
      refine g_istore (L' := [some (.inr (.inr (10, k0))), some (.inl x1), some (.inl x2), some (.inl 0), some (.inl (-1)), none, none]) a10_tall_25 (Nat.le_of_ble_eq_true rfl) rfl rfl ?_
      refine g_iconst (v := (-1)) a10_tall_27 rfl ?_
      refine g_istore (L' := [some (.inr (.inr (10, k0))), some (.inl x1), some (.inl x2), some (.inl 0), some (.inl (-1)), some (.inl (-1)), none]) a10_tall_28 (Nat.le_of_ble_eq_true rfl) rfl rfl ?_
      refine g_iconst (v := 1) a10_tall_30 rfl ?_
      refine g_istore (L' := [some (.inr (.inr (10, k0))), some (.inl x1), some (.inl x2), some (.inl 0), some (.inl (-1)), some (.inl (-1)), some (.inl 1)]) a10_tall_31 (Nat.le_of_ble_eq_true rfl) rfl rfl ?_
      obtain ⟨w16, hw16, h⟩ := bnd_inv h
      refine g_weak (lE10_tall_33 k0 x1 x2 σ 2000 _ _ _ _ hw16 ?_) ⟨rfl, rfl, rfl, rfl, rfl, rfl, rfl, trivial⟩
      refine g_iload_n a10_tall_81 rfl ?_
      refine g_if_ne (tgt := 87) a10_tall_82 rfl (fun c18 => ?_) (fun c18 => ?_)
      · have h := (if_neg c18).symm.trans h
        refine g_iload_n a10_tall_87 rfl ?_
        refine g_iconst (v := 1) a10_tall_88 rfl ?_
        refine g_icmp_ne (tgt := 97) a10_tall_89 rfl (fun c17 => ?_) (fun c17 => ?_)
        · have h := (if_neg c17).symm.trans h
          refine g_iload a10_tall_97 rfl ?_
          have h := Option.some.inj h
          subst h
          exact g_retE a10_tall_99 trivial rfl rfl
        · have h := (if_pos c17).symm.trans h
          refine g_iload a10_tall_92 rfl ?_
          refine g_goto (tgt := 99) a10_tall_94 rfl ?_
          have h := Option.some.inj h
          subst h
          exact g_retE a10_tall_99 trivial rfl rfl
      · have h := (if_pos c18).symm.trans h
        refine g_iload_n a10_tall_85 rfl ?_
        have h := Option.some.inj h
        subst h
        exact g_retE a10_tall_86 trivial rfl rfl
    · have h := (if_pos c19).symm.trans h
      refine g_aload_n a10_tall_17 rfl ?_
      obtain ⟨w5, hw5, h⟩ := lt_inv h
      refine g_V0s (v1 := .inl w5.1) (σ1 := w5.2) a10_tall_18 cv10_100 (by rw [← hw5]; exact E10_refuseBad _ _) rfl (fun o6 => ?_)
      have h := Option.some.inj h
      subst h
      exact g_retE a10_tall_21 trivial rfl rfl
theorem a10_note_0 : At cX10_note 0 (.aload_n 0) 1 1 := ⟨by decide +kernel, rfl⟩
theorem a10_note_1 : At cX10_note 1 (.iload_n 1) 1 2 := ⟨by decide +kernel, rfl⟩
theorem a10_note_2 : At cX10_note 2 (.invokevirtual 169) 3 5 := ⟨by decide +kernel, rfl⟩
theorem a10_note_5 : At cX10_note 5 (.ifCond .eq 24) 3 8 := ⟨by decide +kernel, rfl⟩
theorem a10_note_8 : At cX10_note 8 (.iload_n 2) 1 9 := ⟨by decide +kernel, rfl⟩
theorem a10_note_9 : At cX10_note 9 (.invokestatic 117) 3 12 := ⟨by decide +kernel, rfl⟩
theorem a10_note_12 : At cX10_note 12 (.ifCond .eq 17) 3 15 := ⟨by decide +kernel, rfl⟩
theorem a10_note_15 : At cX10_note 15 (.iload_n 3) 1 16 := ⟨by decide +kernel, rfl⟩
theorem a10_note_16 : At cX10_note 16 (.iconst 0) 1 17 := ⟨by decide +kernel, rfl⟩
theorem a10_note_17 : At cX10_note 17 (.bipush 11) 2 19 := ⟨by decide +kernel, rfl⟩
theorem a10_note_19 : At cX10_note 19 (.invokestatic 96) 3 22 := ⟨by decide +kernel, rfl⟩
theorem a10_note_22 : At cX10_note 22 (.ifCond .eq 7) 3 25 := ⟨by decide +kernel, rfl⟩
theorem a10_note_25 : At cX10_note 25 (.iconst 1) 1 26 := ⟨by decide +kernel, rfl⟩
theorem a10_note_26 : At cX10_note 26 (.goto 4) 3 29 := ⟨by decide +kernel, rfl⟩
theorem a10_note_29 : At cX10_note 29 (.iconst 0) 1 30 := ⟨by decide +kernel, rfl⟩
theorem a10_note_30 : At cX10_note 30 (.istore 6) 2 32 := ⟨by decide +kernel, rfl⟩
theorem a10_note_32 : At cX10_note 32 (.iload 6) 2 34 := ⟨by decide +kernel, rfl⟩
theorem a10_note_34 : At cX10_note 34 (.ifCond .eq 25) 3 37 := ⟨by decide +kernel, rfl⟩
theorem a10_note_37 : At cX10_note 37 (.iload 4) 2 39 := ⟨by decide +kernel, rfl⟩
theorem a10_note_39 : At cX10_note 39 (.iconst 0) 1 40 := ⟨by decide +kernel, rfl⟩
theorem a10_note_40 : At cX10_note 40 (.bipush 99) 2 42 := ⟨by decide +kernel, rfl⟩
theorem a10_note_42 : At cX10_note 42 (.invokestatic 96) 3 45 := ⟨by decide +kernel, rfl⟩
theorem a10_note_45 : At cX10_note 45 (.ifCond .eq 14) 3 48 := ⟨by decide +kernel, rfl⟩
theorem a10_note_48 : At cX10_note 48 (.iload 5) 2 50 := ⟨by decide +kernel, rfl⟩
theorem a10_note_50 : At cX10_note 50 (.iconst 0) 1 51 := ⟨by decide +kernel, rfl⟩
theorem a10_note_51 : At cX10_note 51 (.bipush 99) 2 53 := ⟨by decide +kernel, rfl⟩
theorem a10_note_53 : At cX10_note 53 (.invokestatic 96) 3 56 := ⟨by decide +kernel, rfl⟩
theorem a10_note_56 : At cX10_note 56 (.ifCond .ne 8) 3 59 := ⟨by decide +kernel, rfl⟩
theorem a10_note_59 : At cX10_note 59 (.aload_n 0) 1 60 := ⟨by decide +kernel, rfl⟩
theorem a10_note_60 : At cX10_note 60 (.invokevirtual 100) 3 63 := ⟨by decide +kernel, rfl⟩
theorem a10_note_63 : At cX10_note 63 (.ireturn) 1 64 := ⟨by decide +kernel, rfl⟩
theorem a10_note_64 : At cX10_note 64 (.aload_n 0) 1 65 := ⟨by decide +kernel, rfl⟩
theorem a10_note_65 : At cX10_note 65 (.getfield 10) 3 68 := ⟨by decide +kernel, rfl⟩
theorem a10_note_68 : At cX10_note 68 (.getfield 260) 3 71 := ⟨by decide +kernel, rfl⟩
theorem a10_note_71 : At cX10_note 71 (.invokevirtual 120) 3 74 := ⟨by decide +kernel, rfl⟩
theorem a10_note_74 : At cX10_note 74 (.ifCond .eq 8) 3 77 := ⟨by decide +kernel, rfl⟩
theorem a10_note_77 : At cX10_note 77 (.aload_n 0) 1 78 := ⟨by decide +kernel, rfl⟩
theorem a10_note_78 : At cX10_note 78 (.invokevirtual 124) 3 81 := ⟨by decide +kernel, rfl⟩
theorem a10_note_81 : At cX10_note 81 (.ireturn) 1 82 := ⟨by decide +kernel, rfl⟩
theorem a10_note_82 : At cX10_note 82 (.aload_n 0) 1 83 := ⟨by decide +kernel, rfl⟩
theorem a10_note_83 : At cX10_note 83 (.getfield 10) 3 86 := ⟨by decide +kernel, rfl⟩
theorem a10_note_86 : At cX10_note 86 (.getfield 260) 3 89 := ⟨by decide +kernel, rfl⟩
theorem a10_note_89 : At cX10_note 89 (.iload_n 1) 1 90 := ⟨by decide +kernel, rfl⟩
theorem a10_note_90 : At cX10_note 90 (.iload_n 2) 1 91 := ⟨by decide +kernel, rfl⟩
theorem a10_note_91 : At cX10_note 91 (.iload_n 3) 1 92 := ⟨by decide +kernel, rfl⟩
theorem a10_note_92 : At cX10_note 92 (.iload 4) 2 94 := ⟨by decide +kernel, rfl⟩
theorem a10_note_94 : At cX10_note 94 (.iload 5) 2 96 := ⟨by decide +kernel, rfl⟩
theorem a10_note_96 : At cX10_note 96 (.invokevirtual 253) 3 99 := ⟨by decide +kernel, rfl⟩
theorem a10_note_99 : At cX10_note 99 (.aload_n 0) 1 100 := ⟨by decide +kernel, rfl⟩
theorem a10_note_100 : At cX10_note 100 (.getfield 10) 3 103 := ⟨by decide +kernel, rfl⟩
theorem a10_note_103 : At cX10_note 103 (.getfield 260) 3 106 := ⟨by decide +kernel, rfl⟩
theorem a10_note_106 : At cX10_note 106 (.invokevirtual 80) 3 109 := ⟨by decide +kernel, rfl⟩
theorem a10_note_109 : At cX10_note 109 (.ireturn) 1 110 := ⟨by decide +kernel, rfl⟩
def f10_note (k0 : Nat) (x1 : Int32) (x2 : Int32) (x3 : Int32) (x4 : Int32) (x5 : Int32) (σ : Mem) : Option (Int32 × Mem) :=
  lt (if (f10_isThing k0 x1 σ) = 0 then
  (0)
  else
  (if (f10_isHeight x2) = 0 then
  (0)
  else
  (if (f10_within x3 0 11) = 0 then
  (0)
  else
  (1))) : Int32) fun w2 =>
  if w2 = 0 then
  (lt (f10_refuseBad k0 σ) fun w10 =>
  some (w10.1, w10.2))
  else
  (if (f10_within x4 0 99) = 0 then
  (lt (f10_refuseBad k0 σ) fun w13 =>
  some (w13.1, w13.2))
  else
  (if (f10_within x5 0 99) = 0 then
  (lt (f10_refuseBad k0 σ) fun w16 =>
  some (w16.1, w16.2))
  else
  (if (f7_isFull 4 σ) = 0 then
  (bnd (f7_add 4 x1 x2 x3 x4 x5 σ) fun w19 =>
  some ((f7_size 4 w19), w19))
  else
  (lt (f10_refuseFull k0 σ) fun w22 =>
  some (w22.1, w22.2)))))
theorem E10_note {k0 : Nat} {x1 : Int32} {x2 : Int32} {x3 : Int32} {x4 : Int32} {x5 : Int32} {σ : Mem} {w : Int32 × Mem} (h : f10_note k0 x1 x2 x3 x4 x5 σ = some w) : Ev m10_note [.inr (.inr (10, k0)), .inl x1, .inl x2, .inl x3, .inl x4, .inl x5] σ (some (.inl w.1) : Option AV) w.2 := by
  unfold f10_note at h
  show Go m10_note 0 [some (.inr (.inr (10, k0))), some (.inl x1), some (.inl x2), some (.inl x3), some (.inl x4), some (.inl x5), none] [] σ (some (.inl w.1) : Option AV) w.2
  refine g_aload_n a10_note_0 rfl ?_
  refine g_iload_n a10_note_1 rfl ?_
  refine g_V1s (v1 := .inl (f10_isThing k0 x1 σ)) (σ1 := σ) a10_note_2 cv10_169 (E10_isThing _ _ _) rfl (fun o1 => ?_)
  obtain ⟨w2, hw2, h⟩ := lt_inv h
  have b9 : w2 = 0 ∨ w2 = 1 := by rw [← hw2]; repeat (first | exact Or.inl rfl | exact Or.inr rfl | split)
  have J3 : Go m10_note 30 [some (.inr (.inr (10, k0))), some (.inl x1), some (.inl x2), some (.inl x3), some (.inl x4), some (.inl x5), none] [.inl w2] σ (some (.inl w.1) : Option AV) w.2 := by
    refine g_istore (L' := [some (.inr (.inr (10, k0))), some (.inl x1), some (.inl x2), some (.inl x3), some (.inl x4), some (.inl x5), some (.inl w2)]) a10_note_30 (Nat.le_of_ble_eq_true rfl) rfl rfl ?_
    refine g_iload a10_note_32 rfl ?_
    refine g_if_eq (tgt := 59) a10_note_34 rfl (fun c27 => ?_) (fun c27 => ?_)
    · have h := (if_pos c27).symm.trans h
      refine g_aload_n a10_note_59 rfl ?_
      obtain ⟨w10, hw10, h⟩ := lt_inv h
      refine g_V0s (v1 := .inl w10.1) (σ1 := w10.2) a10_note_60 cv10_100 (by rw [← hw10]; exact E10_refuseBad _ _) rfl (fun o11 => ?_)
      have h := Option.some.inj h
      subst h
      exact g_retE a10_note_63 trivial rfl rfl
    · have h := (if_neg c27).symm.trans h
      refine g_iload a10_note_37 rfl ?_
      refine g_iconst (v := 0) a10_note_39 rfl ?_
      refine g_bipush (v := 99) a10_note_40 rfl ?_
      refine g_S3s (v1 := .inl (f10_within x4 0 99)) (σ1 := σ) a10_note_42 cs10_96 (E10_within _ _ _ _) rfl (fun o12 => ?_)
      refine g_if_eq (tgt := 59) a10_note_45 rfl (fun c26 => ?_) (fun c26 => ?_)
      · have h := (if_pos c26).symm.trans h
        refine g_aload_n a10_note_59 rfl ?_
        obtain ⟨w13, hw13, h⟩ := lt_inv h
        refine g_V0s (v1 := .inl w13.1) (σ1 := w13.2) a10_note_60 cv10_100 (by rw [← hw13]; exact E10_refuseBad _ _) rfl (fun o14 => ?_)
        have h := Option.some.inj h
        subst h
        exact g_retE a10_note_63 trivial rfl rfl
      · have h := (if_neg c26).symm.trans h
        refine g_iload a10_note_48 rfl ?_
        refine g_iconst (v := 0) a10_note_50 rfl ?_
        refine g_bipush (v := 99) a10_note_51 rfl ?_
        refine g_S3s (v1 := .inl (f10_within x5 0 99)) (σ1 := σ) a10_note_53 cs10_96 (E10_within _ _ _ _) rfl (fun o15 => ?_)
        refine g_if_ne (tgt := 64) a10_note_56 rfl (fun c25 => ?_) (fun c25 => ?_)
        · have h := (if_neg c25).symm.trans h
          refine g_aload_n a10_note_64 rfl ?_
          refine g_getf (v := .inr (.inr (9, 0))) a10_note_65 fs10_10 rfl ?_
          refine g_getf (v := .inr (.inr (7, 4))) a10_note_68 fs10_260 rfl ?_
          refine g_V0s (v1 := .inl (f7_isFull 4 σ)) (σ1 := σ) a10_note_71 cv10_120 (E7_isFull _ _) rfl (fun o18 => ?_)
          refine g_if_eq (tgt := 82) a10_note_74 rfl (fun c24 => ?_) (fun c24 => ?_)
          · have h := (if_pos c24).symm.trans h
            refine g_aload_n a10_note_82 rfl ?_
            refine g_getf (v := .inr (.inr (9, 0))) a10_note_83 fs10_10 rfl ?_
            refine g_getf (v := .inr (.inr (7, 4))) a10_note_86 fs10_260 rfl ?_
            refine g_iload_n a10_note_89 rfl ?_
            refine g_iload_n a10_note_90 rfl ?_
            refine g_iload_n a10_note_91 rfl ?_
            refine g_iload a10_note_92 rfl ?_
            refine g_iload a10_note_94 rfl ?_
            obtain ⟨w19, hw19, h⟩ := bnd_inv h
            refine g_V5n (σ1 := w19) a10_note_96 cv10_253 (E7_add hw19) rfl (fun o20 => ?_)
            refine g_aload_n a10_note_99 rfl ?_
            refine g_getf (v := .inr (.inr (9, 0))) a10_note_100 fs10_10 rfl ?_
            refine g_getf (v := .inr (.inr (7, 4))) a10_note_103 fs10_260 rfl ?_
            refine g_V0s (v1 := .inl (f7_size 4 w19)) (σ1 := w19) a10_note_106 cv10_80 (E7_size _ _) rfl (fun o21 => ?_)
            have h := Option.some.inj h
            subst h
            exact g_retE a10_note_109 trivial rfl rfl
          · have h := (if_neg c24).symm.trans h
            refine g_aload_n a10_note_77 rfl ?_
            obtain ⟨w22, hw22, h⟩ := lt_inv h
            refine g_V0s (v1 := .inl w22.1) (σ1 := w22.2) a10_note_78 cv10_124 (by rw [← hw22]; exact E10_refuseFull _ _) rfl (fun o23 => ?_)
            have h := Option.some.inj h
            subst h
            exact g_retE a10_note_81 trivial rfl rfl
        · have h := (if_pos c25).symm.trans h
          refine g_aload_n a10_note_59 rfl ?_
          obtain ⟨w16, hw16, h⟩ := lt_inv h
          refine g_V0s (v1 := .inl w16.1) (σ1 := w16.2) a10_note_60 cv10_100 (by rw [← hw16]; exact E10_refuseBad _ _) rfl (fun o17 => ?_)
          have h := Option.some.inj h
          subst h
          exact g_retE a10_note_63 trivial rfl rfl
  clear h
  refine g_if_eq (tgt := 29) a10_note_5 rfl (fun c8 => ?_) (fun c8 => ?_)
  · have hw2 := (if_pos c8).symm.trans hw2
    refine g_iconst (v := 0) a10_note_29 rfl ?_
    subst hw2
    exact J3
  · have hw2 := (if_neg c8).symm.trans hw2
    refine g_iload_n a10_note_8 rfl ?_
    refine g_S1s (v1 := .inl (f10_isHeight x2)) (σ1 := σ) a10_note_9 cs10_117 (E10_isHeight _ _) rfl (fun o4 => ?_)
    refine g_if_eq (tgt := 29) a10_note_12 rfl (fun c7 => ?_) (fun c7 => ?_)
    · have hw2 := (if_pos c7).symm.trans hw2
      refine g_iconst (v := 0) a10_note_29 rfl ?_
      subst hw2
      exact J3
    · have hw2 := (if_neg c7).symm.trans hw2
      refine g_iload_n a10_note_15 rfl ?_
      refine g_iconst (v := 0) a10_note_16 rfl ?_
      refine g_bipush (v := 11) a10_note_17 rfl ?_
      refine g_S3s (v1 := .inl (f10_within x3 0 11)) (σ1 := σ) a10_note_19 cs10_96 (E10_within _ _ _ _) rfl (fun o5 => ?_)
      refine g_if_eq (tgt := 29) a10_note_22 rfl (fun c6 => ?_) (fun c6 => ?_)
      · have hw2 := (if_pos c6).symm.trans hw2
        refine g_iconst (v := 0) a10_note_29 rfl ?_
        subst hw2
        exact J3
      · have hw2 := (if_neg c6).symm.trans hw2
        refine g_iconst (v := 1) a10_note_25 rfl ?_
        refine g_goto (tgt := 30) a10_note_26 rfl ?_
        subst hw2
        exact J3
theorem a10_mark_0 : At cX10_mark 0 (.aload_n 0) 1 1 := ⟨by decide +kernel, rfl⟩
theorem a10_mark_1 : At cX10_mark 1 (.iload_n 1) 1 2 := ⟨by decide +kernel, rfl⟩
theorem a10_mark_2 : At cX10_mark 2 (.invokevirtual 191) 3 5 := ⟨by decide +kernel, rfl⟩
theorem a10_mark_5 : At cX10_mark 5 (.ifCond .eq 16) 3 8 := ⟨by decide +kernel, rfl⟩
theorem a10_mark_8 : At cX10_mark 8 (.iload_n 2) 1 9 := ⟨by decide +kernel, rfl⟩
theorem a10_mark_9 : At cX10_mark 9 (.iconst 0) 1 10 := ⟨by decide +kernel, rfl⟩
theorem a10_mark_10 : At cX10_mark 10 (.iconst 5) 1 11 := ⟨by decide +kernel, rfl⟩
theorem a10_mark_11 : At cX10_mark 11 (.invokestatic 96) 3 14 := ⟨by decide +kernel, rfl⟩
theorem a10_mark_14 : At cX10_mark 14 (.ifCond .eq 7) 3 17 := ⟨by decide +kernel, rfl⟩
theorem a10_mark_17 : At cX10_mark 17 (.iconst 1) 1 18 := ⟨by decide +kernel, rfl⟩
theorem a10_mark_18 : At cX10_mark 18 (.goto 4) 3 21 := ⟨by decide +kernel, rfl⟩
theorem a10_mark_21 : At cX10_mark 21 (.iconst 0) 1 22 := ⟨by decide +kernel, rfl⟩
theorem a10_mark_22 : At cX10_mark 22 (.istore 5) 2 24 := ⟨by decide +kernel, rfl⟩
theorem a10_mark_24 : At cX10_mark 24 (.iload 5) 2 26 := ⟨by decide +kernel, rfl⟩
theorem a10_mark_26 : At cX10_mark 26 (.ifCond .eq 24) 3 29 := ⟨by decide +kernel, rfl⟩
theorem a10_mark_29 : At cX10_mark 29 (.iload_n 3) 1 30 := ⟨by decide +kernel, rfl⟩
theorem a10_mark_30 : At cX10_mark 30 (.iconst 0) 1 31 := ⟨by decide +kernel, rfl⟩
theorem a10_mark_31 : At cX10_mark 31 (.bipush 99) 2 33 := ⟨by decide +kernel, rfl⟩
theorem a10_mark_33 : At cX10_mark 33 (.invokestatic 96) 3 36 := ⟨by decide +kernel, rfl⟩
theorem a10_mark_36 : At cX10_mark 36 (.ifCond .eq 14) 3 39 := ⟨by decide +kernel, rfl⟩
theorem a10_mark_39 : At cX10_mark 39 (.iload 4) 2 41 := ⟨by decide +kernel, rfl⟩
theorem a10_mark_41 : At cX10_mark 41 (.iconst 0) 1 42 := ⟨by decide +kernel, rfl⟩
theorem a10_mark_42 : At cX10_mark 42 (.bipush 99) 2 44 := ⟨by decide +kernel, rfl⟩
theorem a10_mark_44 : At cX10_mark 44 (.invokestatic 96) 3 47 := ⟨by decide +kernel, rfl⟩
theorem a10_mark_47 : At cX10_mark 47 (.ifCond .ne 8) 3 50 := ⟨by decide +kernel, rfl⟩
theorem a10_mark_50 : At cX10_mark 50 (.aload_n 0) 1 51 := ⟨by decide +kernel, rfl⟩
theorem a10_mark_51 : At cX10_mark 51 (.invokevirtual 100) 3 54 := ⟨by decide +kernel, rfl⟩
theorem a10_mark_54 : At cX10_mark 54 (.ireturn) 1 55 := ⟨by decide +kernel, rfl⟩
theorem a10_mark_55 : At cX10_mark 55 (.aload_n 0) 1 56 := ⟨by decide +kernel, rfl⟩
theorem a10_mark_56 : At cX10_mark 56 (.getfield 10) 3 59 := ⟨by decide +kernel, rfl⟩
theorem a10_mark_59 : At cX10_mark 59 (.getfield 263) 3 62 := ⟨by decide +kernel, rfl⟩
theorem a10_mark_62 : At cX10_mark 62 (.invokevirtual 120) 3 65 := ⟨by decide +kernel, rfl⟩
theorem a10_mark_65 : At cX10_mark 65 (.ifCond .eq 8) 3 68 := ⟨by decide +kernel, rfl⟩
theorem a10_mark_68 : At cX10_mark 68 (.aload_n 0) 1 69 := ⟨by decide +kernel, rfl⟩
theorem a10_mark_69 : At cX10_mark 69 (.invokevirtual 124) 3 72 := ⟨by decide +kernel, rfl⟩
theorem a10_mark_72 : At cX10_mark 72 (.ireturn) 1 73 := ⟨by decide +kernel, rfl⟩
theorem a10_mark_73 : At cX10_mark 73 (.aload_n 0) 1 74 := ⟨by decide +kernel, rfl⟩
theorem a10_mark_74 : At cX10_mark 74 (.getfield 10) 3 77 := ⟨by decide +kernel, rfl⟩
theorem a10_mark_77 : At cX10_mark 77 (.getfield 263) 3 80 := ⟨by decide +kernel, rfl⟩
theorem a10_mark_80 : At cX10_mark 80 (.iload_n 1) 1 81 := ⟨by decide +kernel, rfl⟩
theorem a10_mark_81 : At cX10_mark 81 (.iload_n 2) 1 82 := ⟨by decide +kernel, rfl⟩
theorem a10_mark_82 : At cX10_mark 82 (.iload_n 3) 1 83 := ⟨by decide +kernel, rfl⟩
theorem a10_mark_83 : At cX10_mark 83 (.iload 4) 2 85 := ⟨by decide +kernel, rfl⟩
theorem a10_mark_85 : At cX10_mark 85 (.iconst 0) 1 86 := ⟨by decide +kernel, rfl⟩
theorem a10_mark_86 : At cX10_mark 86 (.invokevirtual 253) 3 89 := ⟨by decide +kernel, rfl⟩
theorem a10_mark_89 : At cX10_mark 89 (.aload_n 0) 1 90 := ⟨by decide +kernel, rfl⟩
theorem a10_mark_90 : At cX10_mark 90 (.getfield 10) 3 93 := ⟨by decide +kernel, rfl⟩
theorem a10_mark_93 : At cX10_mark 93 (.getfield 263) 3 96 := ⟨by decide +kernel, rfl⟩
theorem a10_mark_96 : At cX10_mark 96 (.invokevirtual 80) 3 99 := ⟨by decide +kernel, rfl⟩
theorem a10_mark_99 : At cX10_mark 99 (.ireturn) 1 100 := ⟨by decide +kernel, rfl⟩
def f10_mark (k0 : Nat) (x1 : Int32) (x2 : Int32) (x3 : Int32) (x4 : Int32) (σ : Mem) : Option (Int32 × Mem) :=
  lt (if (f10_isPart k0 x1 σ) = 0 then
  (0)
  else
  (if (f10_within x2 0 5) = 0 then
  (0)
  else
  (1)) : Int32) fun w2 =>
  if w2 = 0 then
  (lt (f10_refuseBad k0 σ) fun w8 =>
  some (w8.1, w8.2))
  else
  (if (f10_within x3 0 99) = 0 then
  (lt (f10_refuseBad k0 σ) fun w11 =>
  some (w11.1, w11.2))
  else
  (if (f10_within x4 0 99) = 0 then
  (lt (f10_refuseBad k0 σ) fun w14 =>
  some (w14.1, w14.2))
  else
  (if (f7_isFull 5 σ) = 0 then
  (bnd (f7_add 5 x1 x2 x3 x4 0 σ) fun w17 =>
  some ((f7_size 5 w17), w17))
  else
  (lt (f10_refuseFull k0 σ) fun w20 =>
  some (w20.1, w20.2)))))
theorem E10_mark {k0 : Nat} {x1 : Int32} {x2 : Int32} {x3 : Int32} {x4 : Int32} {σ : Mem} {w : Int32 × Mem} (h : f10_mark k0 x1 x2 x3 x4 σ = some w) : Ev m10_mark [.inr (.inr (10, k0)), .inl x1, .inl x2, .inl x3, .inl x4] σ (some (.inl w.1) : Option AV) w.2 := by
  unfold f10_mark at h
  show Go m10_mark 0 [some (.inr (.inr (10, k0))), some (.inl x1), some (.inl x2), some (.inl x3), some (.inl x4), none] [] σ (some (.inl w.1) : Option AV) w.2
  refine g_aload_n a10_mark_0 rfl ?_
  refine g_iload_n a10_mark_1 rfl ?_
  refine g_V1s (v1 := .inl (f10_isPart k0 x1 σ)) (σ1 := σ) a10_mark_2 cv10_191 (E10_isPart _ _ _) rfl (fun o1 => ?_)
  obtain ⟨w2, hw2, h⟩ := lt_inv h
  have b7 : w2 = 0 ∨ w2 = 1 := by rw [← hw2]; repeat (first | exact Or.inl rfl | exact Or.inr rfl | split)
  have J3 : Go m10_mark 22 [some (.inr (.inr (10, k0))), some (.inl x1), some (.inl x2), some (.inl x3), some (.inl x4), none] [.inl w2] σ (some (.inl w.1) : Option AV) w.2 := by
    refine g_istore (L' := [some (.inr (.inr (10, k0))), some (.inl x1), some (.inl x2), some (.inl x3), some (.inl x4), some (.inl w2)]) a10_mark_22 (Nat.le_of_ble_eq_true rfl) rfl rfl ?_
    refine g_iload a10_mark_24 rfl ?_
    refine g_if_eq (tgt := 50) a10_mark_26 rfl (fun c25 => ?_) (fun c25 => ?_)
    · have h := (if_pos c25).symm.trans h
      refine g_aload_n a10_mark_50 rfl ?_
      obtain ⟨w8, hw8, h⟩ := lt_inv h
      refine g_V0s (v1 := .inl w8.1) (σ1 := w8.2) a10_mark_51 cv10_100 (by rw [← hw8]; exact E10_refuseBad _ _) rfl (fun o9 => ?_)
      have h := Option.some.inj h
      subst h
      exact g_retE a10_mark_54 trivial rfl rfl
    · have h := (if_neg c25).symm.trans h
      refine g_iload_n a10_mark_29 rfl ?_
      refine g_iconst (v := 0) a10_mark_30 rfl ?_
      refine g_bipush (v := 99) a10_mark_31 rfl ?_
      refine g_S3s (v1 := .inl (f10_within x3 0 99)) (σ1 := σ) a10_mark_33 cs10_96 (E10_within _ _ _ _) rfl (fun o10 => ?_)
      refine g_if_eq (tgt := 50) a10_mark_36 rfl (fun c24 => ?_) (fun c24 => ?_)
      · have h := (if_pos c24).symm.trans h
        refine g_aload_n a10_mark_50 rfl ?_
        obtain ⟨w11, hw11, h⟩ := lt_inv h
        refine g_V0s (v1 := .inl w11.1) (σ1 := w11.2) a10_mark_51 cv10_100 (by rw [← hw11]; exact E10_refuseBad _ _) rfl (fun o12 => ?_)
        have h := Option.some.inj h
        subst h
        exact g_retE a10_mark_54 trivial rfl rfl
      · have h := (if_neg c24).symm.trans h
        refine g_iload a10_mark_39 rfl ?_
        refine g_iconst (v := 0) a10_mark_41 rfl ?_
        refine g_bipush (v := 99) a10_mark_42 rfl ?_
        refine g_S3s (v1 := .inl (f10_within x4 0 99)) (σ1 := σ) a10_mark_44 cs10_96 (E10_within _ _ _ _) rfl (fun o13 => ?_)
        refine g_if_ne (tgt := 55) a10_mark_47 rfl (fun c23 => ?_) (fun c23 => ?_)
        · have h := (if_neg c23).symm.trans h
          refine g_aload_n a10_mark_55 rfl ?_
          refine g_getf (v := .inr (.inr (9, 0))) a10_mark_56 fs10_10 rfl ?_
          refine g_getf (v := .inr (.inr (7, 5))) a10_mark_59 fs10_263 rfl ?_
          refine g_V0s (v1 := .inl (f7_isFull 5 σ)) (σ1 := σ) a10_mark_62 cv10_120 (E7_isFull _ _) rfl (fun o16 => ?_)
          refine g_if_eq (tgt := 73) a10_mark_65 rfl (fun c22 => ?_) (fun c22 => ?_)
          · have h := (if_pos c22).symm.trans h
            refine g_aload_n a10_mark_73 rfl ?_
            refine g_getf (v := .inr (.inr (9, 0))) a10_mark_74 fs10_10 rfl ?_
            refine g_getf (v := .inr (.inr (7, 5))) a10_mark_77 fs10_263 rfl ?_
            refine g_iload_n a10_mark_80 rfl ?_
            refine g_iload_n a10_mark_81 rfl ?_
            refine g_iload_n a10_mark_82 rfl ?_
            refine g_iload a10_mark_83 rfl ?_
            refine g_iconst (v := 0) a10_mark_85 rfl ?_
            obtain ⟨w17, hw17, h⟩ := bnd_inv h
            refine g_V5n (σ1 := w17) a10_mark_86 cv10_253 (E7_add hw17) rfl (fun o18 => ?_)
            refine g_aload_n a10_mark_89 rfl ?_
            refine g_getf (v := .inr (.inr (9, 0))) a10_mark_90 fs10_10 rfl ?_
            refine g_getf (v := .inr (.inr (7, 5))) a10_mark_93 fs10_263 rfl ?_
            refine g_V0s (v1 := .inl (f7_size 5 w17)) (σ1 := w17) a10_mark_96 cv10_80 (E7_size _ _) rfl (fun o19 => ?_)
            have h := Option.some.inj h
            subst h
            exact g_retE a10_mark_99 trivial rfl rfl
          · have h := (if_neg c22).symm.trans h
            refine g_aload_n a10_mark_68 rfl ?_
            obtain ⟨w20, hw20, h⟩ := lt_inv h
            refine g_V0s (v1 := .inl w20.1) (σ1 := w20.2) a10_mark_69 cv10_124 (by rw [← hw20]; exact E10_refuseFull _ _) rfl (fun o21 => ?_)
            have h := Option.some.inj h
            subst h
            exact g_retE a10_mark_72 trivial rfl rfl
        · have h := (if_pos c23).symm.trans h
          refine g_aload_n a10_mark_50 rfl ?_
          obtain ⟨w14, hw14, h⟩ := lt_inv h
          refine g_V0s (v1 := .inl w14.1) (σ1 := w14.2) a10_mark_51 cv10_100 (by rw [← hw14]; exact E10_refuseBad _ _) rfl (fun o15 => ?_)
          have h := Option.some.inj h
          subst h
          exact g_retE a10_mark_54 trivial rfl rfl
  clear h
  refine g_if_eq (tgt := 21) a10_mark_5 rfl (fun c6 => ?_) (fun c6 => ?_)
  · have hw2 := (if_pos c6).symm.trans hw2
    refine g_iconst (v := 0) a10_mark_21 rfl ?_
    subst hw2
    exact J3
  · have hw2 := (if_neg c6).symm.trans hw2
    refine g_iload_n a10_mark_8 rfl ?_
    refine g_iconst (v := 0) a10_mark_9 rfl ?_
    refine g_iconst (v := 5) a10_mark_10 rfl ?_
    refine g_S3s (v1 := .inl (f10_within x2 0 5)) (σ1 := σ) a10_mark_11 cs10_96 (E10_within _ _ _ _) rfl (fun o4 => ?_)
    refine g_if_eq (tgt := 21) a10_mark_14 rfl (fun c5 => ?_) (fun c5 => ?_)
    · have hw2 := (if_pos c5).symm.trans hw2
      refine g_iconst (v := 0) a10_mark_21 rfl ?_
      subst hw2
      exact J3
    · have hw2 := (if_neg c5).symm.trans hw2
      refine g_iconst (v := 1) a10_mark_17 rfl ?_
      refine g_goto (tgt := 22) a10_mark_18 rfl ?_
      subst hw2
      exact J3
theorem a10_forgetAll_0 : At cX10_forgetAll 0 (.aload_n 0) 1 1 := ⟨by decide +kernel, rfl⟩
theorem a10_forgetAll_1 : At cX10_forgetAll 1 (.invokevirtual 80) 3 4 := ⟨by decide +kernel, rfl⟩
theorem a10_forgetAll_4 : At cX10_forgetAll 4 (.istore_n 1) 1 5 := ⟨by decide +kernel, rfl⟩
theorem a10_forgetAll_5 : At cX10_forgetAll 5 (.aload_n 0) 1 6 := ⟨by decide +kernel, rfl⟩
theorem a10_forgetAll_6 : At cX10_forgetAll 6 (.invokevirtual 357) 3 9 := ⟨by decide +kernel, rfl⟩
theorem a10_forgetAll_9 : At cX10_forgetAll 9 (.iload_n 1) 1 10 := ⟨by decide +kernel, rfl⟩
theorem a10_forgetAll_10 : At cX10_forgetAll 10 (.ireturn) 1 11 := ⟨by decide +kernel, rfl⟩
def f10_forgetAll (k0 : Nat) (σ : Mem) : Int32 × Mem :=
  lt (f7_empty k0 σ) fun w2 =>
  ((f7_size k0 σ), w2)
theorem E10_forgetAll (k0 : Nat) (σ : Mem) : Ev m10_forgetAll [.inr (.inr (7, k0))] σ (some (.inl ((f10_forgetAll k0 σ).1)) : Option AV) (f10_forgetAll k0 σ).2 := by
  obtain ⟨w, h⟩ : ∃ w, f10_forgetAll k0 σ = w := ⟨_, rfl⟩
  rw [h]
  unfold f10_forgetAll at h
  show Go m10_forgetAll 0 [some (.inr (.inr (7, k0))), none] [] σ (some (.inl w.1) : Option AV) w.2
  refine g_aload_n a10_forgetAll_0 rfl ?_
  refine g_V0s (v1 := .inl (f7_size k0 σ)) (σ1 := σ) a10_forgetAll_1 cv10_80 (E7_size _ _) rfl (fun o1 => ?_)
  refine g_istore_n (L' := [some (.inr (.inr (7, k0))), some (.inl (f7_size k0 σ))]) a10_forgetAll_4 (Nat.le_of_ble_eq_true rfl) rfl rfl ?_
  refine g_aload_n a10_forgetAll_5 rfl ?_
  obtain ⟨w2, hw2, h⟩ := lt_inv h
  refine g_V0n (σ1 := w2) a10_forgetAll_6 cv10_357 (by rw [← hw2]; exact E7_empty _ _) rfl (fun o3 => ?_)
  refine g_iload_n a10_forgetAll_9 rfl ?_
  subst h
  exact g_retE a10_forgetAll_10 trivial rfl rfl
theorem a10_forget_0 : At cX10_forget 0 (.iload_n 1) 1 1 := ⟨by decide +kernel, rfl⟩
theorem a10_forget_1 : At cX10_forget 1 (.tableswitch 60 0 2 #[27, 38, 49]) 27 28 := ⟨by decide +kernel, rfl⟩
theorem a10_forget_28 : At cX10_forget 28 (.aload_n 0) 1 29 := ⟨by decide +kernel, rfl⟩
theorem a10_forget_29 : At cX10_forget 29 (.getfield 10) 3 32 := ⟨by decide +kernel, rfl⟩
theorem a10_forget_32 : At cX10_forget 32 (.getfield 250) 3 35 := ⟨by decide +kernel, rfl⟩
theorem a10_forget_35 : At cX10_forget 35 (.invokestatic 266) 3 38 := ⟨by decide +kernel, rfl⟩
theorem a10_forget_38 : At cX10_forget 38 (.ireturn) 1 39 := ⟨by decide +kernel, rfl⟩
theorem a10_forget_39 : At cX10_forget 39 (.aload_n 0) 1 40 := ⟨by decide +kernel, rfl⟩
theorem a10_forget_40 : At cX10_forget 40 (.getfield 10) 3 43 := ⟨by decide +kernel, rfl⟩
theorem a10_forget_43 : At cX10_forget 43 (.getfield 260) 3 46 := ⟨by decide +kernel, rfl⟩
theorem a10_forget_46 : At cX10_forget 46 (.invokestatic 266) 3 49 := ⟨by decide +kernel, rfl⟩
theorem a10_forget_49 : At cX10_forget 49 (.ireturn) 1 50 := ⟨by decide +kernel, rfl⟩
theorem a10_forget_50 : At cX10_forget 50 (.aload_n 0) 1 51 := ⟨by decide +kernel, rfl⟩
theorem a10_forget_51 : At cX10_forget 51 (.getfield 10) 3 54 := ⟨by decide +kernel, rfl⟩
theorem a10_forget_54 : At cX10_forget 54 (.getfield 263) 3 57 := ⟨by decide +kernel, rfl⟩
theorem a10_forget_57 : At cX10_forget 57 (.invokestatic 266) 3 60 := ⟨by decide +kernel, rfl⟩
theorem a10_forget_60 : At cX10_forget 60 (.ireturn) 1 61 := ⟨by decide +kernel, rfl⟩
theorem a10_forget_61 : At cX10_forget 61 (.aload_n 0) 1 62 := ⟨by decide +kernel, rfl⟩
theorem a10_forget_62 : At cX10_forget 62 (.invokevirtual 100) 3 65 := ⟨by decide +kernel, rfl⟩
theorem a10_forget_65 : At cX10_forget 65 (.ireturn) 1 66 := ⟨by decide +kernel, rfl⟩
def f10_forget (k0 : Nat) (x1 : Int32) (σ : Mem) : Int32 × Mem :=
  if x1 = 0 then
  (lt (f10_forgetAll 3 σ) fun w1 =>
  (w1.1, w1.2))
  else if x1 = 1 then
  (lt (f10_forgetAll 4 σ) fun w3 =>
  (w3.1, w3.2))
  else if x1 = 2 then
  (lt (f10_forgetAll 5 σ) fun w5 =>
  (w5.1, w5.2))
  else 
  (lt (f10_refuseBad k0 σ) fun w7 =>
  (w7.1, w7.2))
theorem E10_forget (k0 : Nat) (x1 : Int32) (σ : Mem) : Ev m10_forget [.inr (.inr (10, k0)), .inl x1] σ (some (.inl ((f10_forget k0 x1 σ).1)) : Option AV) (f10_forget k0 x1 σ).2 := by
  obtain ⟨w, h⟩ : ∃ w, f10_forget k0 x1 σ = w := ⟨_, rfl⟩
  rw [h]
  unfold f10_forget at h
  show Go m10_forget 0 [some (.inr (.inr (10, k0))), some (.inl x1)] [] σ (some (.inl w.1) : Option AV) w.2
  refine g_iload_n a10_forget_0 rfl ?_
  rcases Decidable.em (x1 = 0) with c9 | c9
  · have h := (if_pos c9).symm.trans h
    refine g_tsIn (tgt := 28) (off := 27) a10_forget_1 (by rw [c9]; decide) (by rw [c9]; decide) (by rw [c9]; rfl) rfl ?_
    refine g_aload_n a10_forget_28 rfl ?_
    refine g_getf (v := .inr (.inr (9, 0))) a10_forget_29 fs10_10 rfl ?_
    refine g_getf (v := .inr (.inr (7, 3))) a10_forget_32 fs10_250 rfl ?_
    obtain ⟨w1, hw1, h⟩ := lt_inv h
    refine g_S1s (v1 := .inl w1.1) (σ1 := w1.2) a10_forget_35 cs10_266 (by rw [← hw1]; exact E10_forgetAll _ _) rfl (fun o2 => ?_)
    subst h
    exact g_retE a10_forget_38 trivial rfl rfl
  have h := (if_neg c9).symm.trans h
  rcases Decidable.em (x1 = 1) with c10 | c10
  · have h := (if_pos c10).symm.trans h
    refine g_tsIn (tgt := 39) (off := 38) a10_forget_1 (by rw [c10]; decide) (by rw [c10]; decide) (by rw [c10]; rfl) rfl ?_
    refine g_aload_n a10_forget_39 rfl ?_
    refine g_getf (v := .inr (.inr (9, 0))) a10_forget_40 fs10_10 rfl ?_
    refine g_getf (v := .inr (.inr (7, 4))) a10_forget_43 fs10_260 rfl ?_
    obtain ⟨w3, hw3, h⟩ := lt_inv h
    refine g_S1s (v1 := .inl w3.1) (σ1 := w3.2) a10_forget_46 cs10_266 (by rw [← hw3]; exact E10_forgetAll _ _) rfl (fun o4 => ?_)
    subst h
    exact g_retE a10_forget_49 trivial rfl rfl
  have h := (if_neg c10).symm.trans h
  rcases Decidable.em (x1 = 2) with c11 | c11
  · have h := (if_pos c11).symm.trans h
    refine g_tsIn (tgt := 50) (off := 49) a10_forget_1 (by rw [c11]; decide) (by rw [c11]; decide) (by rw [c11]; rfl) rfl ?_
    refine g_aload_n a10_forget_50 rfl ?_
    refine g_getf (v := .inr (.inr (9, 0))) a10_forget_51 fs10_10 rfl ?_
    refine g_getf (v := .inr (.inr (7, 5))) a10_forget_54 fs10_263 rfl ?_
    obtain ⟨w5, hw5, h⟩ := lt_inv h
    refine g_S1s (v1 := .inl w5.1) (σ1 := w5.2) a10_forget_57 cs10_266 (by rw [← hw5]; exact E10_forgetAll _ _) rfl (fun o6 => ?_)
    subst h
    exact g_retE a10_forget_60 trivial rfl rfl
  have h := (if_neg c11).symm.trans h
  have tc9 := lv_neT c9 (a := 0) rfl
  have tc10 := lv_neT c10 (a := 1) rfl
  have tc11 := lv_neT c11 (a := 2) rfl
  refine g_tsOut (tgt := 61) a10_forget_1 (by omega) rfl ?_
  refine g_aload_n a10_forget_61 rfl ?_
  obtain ⟨w7, hw7, h⟩ := lt_inv h
  refine g_V0s (v1 := .inl w7.1) (σ1 := w7.2) a10_forget_62 cv10_100 (by rw [← hw7]; exact E10_refuseBad _ _) rfl (fun o8 => ?_)
  subst h
  exact g_retE a10_forget_65 trivial rfl rfl
theorem a2_drawAll_0 : At cX2_drawAll 0 (.iconst 0) 1 1 := ⟨by decide +kernel, rfl⟩
theorem a2_drawAll_1 : At cX2_drawAll 1 (.istore 4) 2 3 := ⟨by decide +kernel, rfl⟩
theorem a2_drawAll_3 : At cX2_drawAll 3 (.iload 4) 2 5 := ⟨by decide +kernel, rfl⟩
theorem a2_drawAll_5 : At cX2_drawAll 5 (.bipush 6) 2 7 := ⟨by decide +kernel, rfl⟩
theorem a2_drawAll_7 : At cX2_drawAll 7 (.if_icmp .ge 26) 3 10 := ⟨by decide +kernel, rfl⟩
theorem a2_drawAll_10 : At cX2_drawAll 10 (.aload_n 0) 1 11 := ⟨by decide +kernel, rfl⟩
theorem a2_drawAll_11 : At cX2_drawAll 11 (.getfield 14) 3 14 := ⟨by decide +kernel, rfl⟩
theorem a2_drawAll_14 : At cX2_drawAll 14 (.iload 4) 2 16 := ⟨by decide +kernel, rfl⟩
theorem a2_drawAll_16 : At cX2_drawAll 16 (.iload 4) 2 18 := ⟨by decide +kernel, rfl⟩
theorem a2_drawAll_18 : At cX2_drawAll 18 (.iload_n 1) 1 19 := ⟨by decide +kernel, rfl⟩
theorem a2_drawAll_19 : At cX2_drawAll 19 (.iload_n 2) 1 20 := ⟨by decide +kernel, rfl⟩
theorem a2_drawAll_20 : At cX2_drawAll 20 (.iload_n 3) 1 21 := ⟨by decide +kernel, rfl⟩
theorem a2_drawAll_21 : At cX2_drawAll 21 (.invokestatic 45) 3 24 := ⟨by decide +kernel, rfl⟩
theorem a2_drawAll_24 : At cX2_drawAll 24 (.invokevirtual 51) 3 27 := ⟨by decide +kernel, rfl⟩
theorem a2_drawAll_27 : At cX2_drawAll 27 (.iinc 4 1) 3 30 := ⟨by decide +kernel, rfl⟩
theorem a2_drawAll_30 : At cX2_drawAll 30 (.goto (-27)) 3 33 := ⟨by decide +kernel, rfl⟩
theorem a2_drawAll_33 : At cX2_drawAll 33 (.return_) 1 34 := ⟨by decide +kernel, rfl⟩
def l2_drawAll_3 (k0 : Nat) (x1 : Int32) (x2 : Int32) (x3 : Int32) : Nat → Int32 → Mem → Option (Int32 × Mem)
  | 0, _, _ => none
  | n + 1, x4, σ =>
  if 6 ≤ x4 then
  (some (x4, σ))
  else
  (bnd (f6_put 6 x4 (f3_draw x4 x1 x2 x3) σ) fun w2 =>
  l2_drawAll_3 k0 x1 x2 x3 n (x4 + 1) w2)
theorem lE2_drawAll_3 {V : Option AV} {S : Mem} (k0 : Nat) (x1 : Int32) (x2 : Int32) (x3 : Int32) : ∀ (n : Nat) (x4 : Int32) (σ : Mem) {w : Int32 × Mem}, l2_drawAll_3 k0 x1 x2 x3 n x4 σ = some w → (Go m2_drawAll 33 [some (.inr (.inr (2, k0))), some (.inl x1), some (.inl x2), some (.inl x3), some (.inl w.1)] [] w.2 V S) → Go m2_drawAll 3 [some (.inr (.inr (2, k0))), some (.inl x1), some (.inl x2), some (.inl x3), some (.inl x4)] [] σ V S
  | 0, x4, σ, w, h, K1 => by cases h
  | n + 1, x4, σ, w, h, K1 => by
    rw [l2_drawAll_3] at h
    refine g_iload a2_drawAll_3 rfl ?_
    refine g_bipush (v := 6) a2_drawAll_5 rfl ?_
    refine g_icmp_ge (tgt := 33) a2_drawAll_7 rfl (fun c4 => ?_) (fun c4 => ?_)
    · have h := (if_pos c4).symm.trans h
      have h := Option.some.inj h
      subst h
      exact g_weak K1 ⟨rfl, rfl, rfl, rfl, rfl, trivial⟩
    · have h := (if_neg c4).symm.trans h
      refine g_aload_n a2_drawAll_10 rfl ?_
      refine g_getf (v := .inr (.inr (6, 6))) a2_drawAll_11 fs2_14 rfl ?_
      refine g_iload a2_drawAll_14 rfl ?_
      refine g_iload a2_drawAll_16 rfl ?_
      refine g_iload_n a2_drawAll_18 rfl ?_
      refine g_iload_n a2_drawAll_19 rfl ?_
      refine g_iload_n a2_drawAll_20 rfl ?_
      refine g_S4s (v1 := .inl (f3_draw x4 x1 x2 x3)) (σ1 := σ) a2_drawAll_21 cs2_45 (E3_draw _ _ _ _ _) rfl (fun o1 => ?_)
      obtain ⟨w2, hw2, h⟩ := bnd_inv h
      refine g_V2n (σ1 := w2) a2_drawAll_24 cv2_51 (E6_put hw2) rfl (fun o3 => ?_)
      refine g_iinc (v := (x4 + 1)) (L' := [some (.inr (.inr (2, k0))), some (.inl x1), some (.inl x2), some (.inl x3), some (.inl (x4 + 1))]) a2_drawAll_27 rfl rfl (Nat.le_of_ble_eq_true rfl) rfl rfl ?_
      refine g_goto (tgt := 3) a2_drawAll_30 rfl ?_
      exact g_weak (lE2_drawAll_3 (V := V) (S := S)  k0 x1 x2 x3 n _ _ h K1) ⟨rfl, rfl, rfl, rfl, rfl, trivial⟩
def f2_drawAll (k0 : Nat) (x1 : Int32) (x2 : Int32) (x3 : Int32) (σ : Mem) : Option (Mem) :=
  bnd (l2_drawAll_3 k0 x1 x2 x3 2000 0 σ) fun w5 =>
  some w5.2
theorem E2_drawAll {k0 : Nat} {x1 : Int32} {x2 : Int32} {x3 : Int32} {σ : Mem} {w : Mem} (h : f2_drawAll k0 x1 x2 x3 σ = some w) : Ev m2_drawAll [.inr (.inr (2, k0)), .inl x1, .inl x2, .inl x3] σ none w := by
  unfold f2_drawAll at h
  show Go m2_drawAll 0 [some (.inr (.inr (2, k0))), some (.inl x1), some (.inl x2), some (.inl x3), none] [] σ none w
  refine g_iconst (v := 0) a2_drawAll_0 rfl ?_
  refine g_istore (L' := [some (.inr (.inr (2, k0))), some (.inl x1), some (.inl x2), some (.inl x3), some (.inl 0)]) a2_drawAll_1 (Nat.le_of_ble_eq_true rfl) rfl rfl ?_
  obtain ⟨w5, hw5, h⟩ := bnd_inv h
  refine g_weak (lE2_drawAll_3 k0 x1 x2 x3 2000 _ _ hw5 ?_) ⟨rfl, rfl, rfl, rfl, rfl, trivial⟩
  have h := Option.some.inj h
  subst h
  exact g_retE a2_drawAll_33 trivial rfl rfl
theorem a2_answering_0 : At cX2_answering 0 (.iconst 0) 1 1 := ⟨by decide +kernel, rfl⟩
theorem a2_answering_1 : At cX2_answering 1 (.istore_n 2) 1 2 := ⟨by decide +kernel, rfl⟩
theorem a2_answering_2 : At cX2_answering 2 (.iconst 0) 1 3 := ⟨by decide +kernel, rfl⟩
theorem a2_answering_3 : At cX2_answering 3 (.istore_n 3) 1 4 := ⟨by decide +kernel, rfl⟩
theorem a2_answering_4 : At cX2_answering 4 (.iload_n 3) 1 5 := ⟨by decide +kernel, rfl⟩
theorem a2_answering_5 : At cX2_answering 5 (.bipush 6) 2 7 := ⟨by decide +kernel, rfl⟩
theorem a2_answering_7 : At cX2_answering 7 (.if_icmp .ge 27) 3 10 := ⟨by decide +kernel, rfl⟩
theorem a2_answering_10 : At cX2_answering 10 (.aload_n 0) 1 11 := ⟨by decide +kernel, rfl⟩
theorem a2_answering_11 : At cX2_answering 11 (.getfield 14) 3 14 := ⟨by decide +kernel, rfl⟩
theorem a2_answering_14 : At cX2_answering 14 (.iload_n 3) 1 15 := ⟨by decide +kernel, rfl⟩
theorem a2_answering_15 : At cX2_answering 15 (.invokevirtual 58) 3 18 := ⟨by decide +kernel, rfl⟩
theorem a2_answering_18 : At cX2_answering 18 (.iload_n 1) 1 19 := ⟨by decide +kernel, rfl⟩
theorem a2_answering_19 : At cX2_answering 19 (.if_icmp .ne 9) 3 22 := ⟨by decide +kernel, rfl⟩
theorem a2_answering_22 : At cX2_answering 22 (.iload_n 2) 1 23 := ⟨by decide +kernel, rfl⟩
theorem a2_answering_23 : At cX2_answering 23 (.iconst 1) 1 24 := ⟨by decide +kernel, rfl⟩
theorem a2_answering_24 : At cX2_answering 24 (.iload_n 3) 1 25 := ⟨by decide +kernel, rfl⟩
theorem a2_answering_25 : At cX2_answering 25 (.ishl) 1 26 := ⟨by decide +kernel, rfl⟩
theorem a2_answering_26 : At cX2_answering 26 (.ior) 1 27 := ⟨by decide +kernel, rfl⟩
theorem a2_answering_27 : At cX2_answering 27 (.istore_n 2) 1 28 := ⟨by decide +kernel, rfl⟩
theorem a2_answering_28 : At cX2_answering 28 (.iinc 3 1) 3 31 := ⟨by decide +kernel, rfl⟩
theorem a2_answering_31 : At cX2_answering 31 (.goto (-27)) 3 34 := ⟨by decide +kernel, rfl⟩
theorem a2_answering_34 : At cX2_answering 34 (.iload_n 2) 1 35 := ⟨by decide +kernel, rfl⟩
theorem a2_answering_35 : At cX2_answering 35 (.ireturn) 1 36 := ⟨by decide +kernel, rfl⟩
def l2_answering_4 (k0 : Nat) (x1 : Int32) (σ : Mem) : Nat → Int32 → Int32 → Option (Int32 × Int32)
  | 0, _, _ => none
  | n + 1, x2, x3 =>
  if 6 ≤ x3 then
  (some (x2, x3))
  else
  (bnd (f6_at 6 x3 σ) fun w1 =>
  lt (if w1 = x1 then
  ((x2 ||| (1 <<< (x3 &&& 31))))
  else
  (x2) : Int32) fun w3 =>
  l2_answering_4 k0 x1 σ n w3 (x3 + 1))
theorem lE2_answering_4 {V : Option AV} {S : Mem} (k0 : Nat) (x1 : Int32) (σ : Mem) : ∀ (n : Nat) (x2 : Int32) (x3 : Int32) {w : Int32 × Int32}, l2_answering_4 k0 x1 σ n x2 x3 = some w → (Go m2_answering 34 [some (.inr (.inr (2, k0))), some (.inl x1), some (.inl w.1), some (.inl w.2)] [] σ V S) → Go m2_answering 4 [some (.inr (.inr (2, k0))), some (.inl x1), some (.inl x2), some (.inl x3)] [] σ V S
  | 0, x2, x3, w, h, K1 => by cases h
  | n + 1, x2, x3, w, h, K1 => by
    rw [l2_answering_4] at h
    refine g_iload_n a2_answering_4 rfl ?_
    refine g_bipush (v := 6) a2_answering_5 rfl ?_
    refine g_icmp_ge (tgt := 34) a2_answering_7 rfl (fun c6 => ?_) (fun c6 => ?_)
    · have h := (if_pos c6).symm.trans h
      have h := Option.some.inj h
      subst h
      exact g_weak K1 ⟨rfl, rfl, rfl, rfl, trivial⟩
    · have h := (if_neg c6).symm.trans h
      refine g_aload_n a2_answering_10 rfl ?_
      refine g_getf (v := .inr (.inr (6, 6))) a2_answering_11 fs2_14 rfl ?_
      refine g_iload_n a2_answering_14 rfl ?_
      obtain ⟨w1, hw1, h⟩ := bnd_inv h
      refine g_V1s (v1 := .inl w1) (σ1 := σ) a2_answering_15 cv2_58 (E6_at hw1) rfl (fun o2 => ?_)
      refine g_iload_n a2_answering_18 rfl ?_
      obtain ⟨w3, hw3, h⟩ := lt_inv h
      have J4 : Go m2_answering 28 [some (.inr (.inr (2, k0))), some (.inl x1), some (.inl w3), some (.inl x3)] [] σ V S := by
        refine g_iinc (v := (x3 + 1)) (L' := [some (.inr (.inr (2, k0))), some (.inl x1), some (.inl w3), some (.inl (x3 + 1))]) a2_answering_28 rfl rfl (Nat.le_of_ble_eq_true rfl) rfl rfl ?_
        refine g_goto (tgt := 4) a2_answering_31 rfl ?_
        exact g_weak (lE2_answering_4 (V := V) (S := S)  k0 x1 σ n _ _ h K1) ⟨rfl, rfl, rfl, rfl, trivial⟩
      clear h
      refine g_icmp_ne (tgt := 28) a2_answering_19 rfl (fun c5 => ?_) (fun c5 => ?_)
      · have hw3 := (if_neg c5).symm.trans hw3
        subst hw3
        exact g_weak J4 ⟨rfl, rfl, rfl, rfl, trivial⟩
      · have hw3 := (if_pos c5).symm.trans hw3
        refine g_iload_n a2_answering_22 rfl ?_
        refine g_iconst (v := 1) a2_answering_23 rfl ?_
        refine g_iload_n a2_answering_24 rfl ?_
        refine g_ishl a2_answering_25 ?_
        refine g_ior a2_answering_26 ?_
        refine g_istore_n (L' := [some (.inr (.inr (2, k0))), some (.inl x1), some (.inl (x2 ||| (1 <<< (x3 &&& 31)))), some (.inl x3)]) a2_answering_27 (Nat.le_of_ble_eq_true rfl) rfl rfl ?_
        subst hw3
        exact g_weak J4 ⟨rfl, rfl, rfl, rfl, trivial⟩
def f2_answering (k0 : Nat) (x1 : Int32) (σ : Mem) : Option (Int32) :=
  bnd (l2_answering_4 k0 x1 σ 2000 0 0) fun w7 =>
  some w7.1
theorem E2_answering {k0 : Nat} {x1 : Int32} {σ : Mem} {w : Int32} (h : f2_answering k0 x1 σ = some w) : Ev m2_answering [.inr (.inr (2, k0)), .inl x1] σ (some (.inl w) : Option AV) σ := by
  unfold f2_answering at h
  show Go m2_answering 0 [some (.inr (.inr (2, k0))), some (.inl x1), none, none] [] σ (some (.inl w) : Option AV) σ
  refine g_iconst (v := 0) a2_answering_0 rfl ?_
  refine g_istore_n (L' := [some (.inr (.inr (2, k0))), some (.inl x1), some (.inl 0), none]) a2_answering_1 (Nat.le_of_ble_eq_true rfl) rfl rfl ?_
  refine g_iconst (v := 0) a2_answering_2 rfl ?_
  refine g_istore_n (L' := [some (.inr (.inr (2, k0))), some (.inl x1), some (.inl 0), some (.inl 0)]) a2_answering_3 (Nat.le_of_ble_eq_true rfl) rfl rfl ?_
  obtain ⟨w7, hw7, h⟩ := bnd_inv h
  refine g_weak (lE2_answering_4 k0 x1 σ 2000 _ _ hw7 ?_) ⟨rfl, rfl, rfl, rfl, trivial⟩
  refine g_iload_n a2_answering_34 rfl ?_
  have h := Option.some.inj h
  subst h
  exact g_retE a2_answering_35 trivial rfl rfl
