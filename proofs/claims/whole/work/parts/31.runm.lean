theorem a11_image_0 : At cX11_image 0 (.iload_n 1) 1 1 := ⟨by decide +kernel, rfl⟩
theorem a11_image_1 : At cX11_image 1 (.i2l) 1 2 := ⟨by decide +kernel, rfl⟩
theorem a11_image_2 : At cX11_image 2 (.lconst 0) 1 3 := ⟨by decide +kernel, rfl⟩
theorem a11_image_3 : At cX11_image 3 (.lconst 1) 1 4 := ⟨by decide +kernel, rfl⟩
theorem a11_image_4 : At cX11_image 4 (.invokestatic 59) 3 7 := ⟨by decide +kernel, rfl⟩
theorem a11_image_7 : At cX11_image 7 (.ifCond .ne 10) 3 10 := ⟨by decide +kernel, rfl⟩
theorem a11_image_10 : At cX11_image 10 (.aload_n 0) 1 11 := ⟨by decide +kernel, rfl⟩
theorem a11_image_11 : At cX11_image 11 (.bipush (-2)) 2 13 := ⟨by decide +kernel, rfl⟩
theorem a11_image_13 : At cX11_image 13 (.invokevirtual 73) 3 16 := ⟨by decide +kernel, rfl⟩
theorem a11_image_16 : At cX11_image 16 (.ireturn) 1 17 := ⟨by decide +kernel, rfl⟩
theorem a11_image_17 : At cX11_image 17 (.iconst 0) 1 18 := ⟨by decide +kernel, rfl⟩
theorem a11_image_18 : At cX11_image 18 (.istore_n 2) 1 19 := ⟨by decide +kernel, rfl⟩
theorem a11_image_19 : At cX11_image 19 (.iload_n 2) 1 20 := ⟨by decide +kernel, rfl⟩
theorem a11_image_20 : At cX11_image 20 (.sipush 142) 3 23 := ⟨by decide +kernel, rfl⟩
theorem a11_image_23 : At cX11_image 23 (.if_icmp .ge 27) 3 26 := ⟨by decide +kernel, rfl⟩
theorem a11_image_26 : At cX11_image 26 (.aload_n 0) 1 27 := ⟨by decide +kernel, rfl⟩
theorem a11_image_27 : At cX11_image 27 (.getfield 13) 3 30 := ⟨by decide +kernel, rfl⟩
theorem a11_image_30 : At cX11_image 30 (.sipush 142) 3 33 := ⟨by decide +kernel, rfl⟩
theorem a11_image_33 : At cX11_image 33 (.iload_n 1) 1 34 := ⟨by decide +kernel, rfl⟩
theorem a11_image_34 : At cX11_image 34 (.imul) 1 35 := ⟨by decide +kernel, rfl⟩
theorem a11_image_35 : At cX11_image 35 (.iload_n 2) 1 36 := ⟨by decide +kernel, rfl⟩
theorem a11_image_36 : At cX11_image 36 (.iadd) 1 37 := ⟨by decide +kernel, rfl⟩
theorem a11_image_37 : At cX11_image 37 (.aload_n 0) 1 38 := ⟨by decide +kernel, rfl⟩
theorem a11_image_38 : At cX11_image 38 (.getfield 7) 3 41 := ⟨by decide +kernel, rfl⟩
theorem a11_image_41 : At cX11_image 41 (.iload_n 2) 1 42 := ⟨by decide +kernel, rfl⟩
theorem a11_image_42 : At cX11_image 42 (.iaload) 1 43 := ⟨by decide +kernel, rfl⟩
theorem a11_image_43 : At cX11_image 43 (.iastore) 1 44 := ⟨by decide +kernel, rfl⟩
theorem a11_image_44 : At cX11_image 44 (.iinc 2 1) 3 47 := ⟨by decide +kernel, rfl⟩
theorem a11_image_47 : At cX11_image 47 (.goto (-28)) 3 50 := ⟨by decide +kernel, rfl⟩
theorem a11_image_50 : At cX11_image 50 (.aload_n 0) 1 51 := ⟨by decide +kernel, rfl⟩
theorem a11_image_51 : At cX11_image 51 (.getfield 16) 3 54 := ⟨by decide +kernel, rfl⟩
theorem a11_image_54 : At cX11_image 54 (.iload_n 1) 1 55 := ⟨by decide +kernel, rfl⟩
theorem a11_image_55 : At cX11_image 55 (.iconst 1) 1 56 := ⟨by decide +kernel, rfl⟩
theorem a11_image_56 : At cX11_image 56 (.bastore) 1 57 := ⟨by decide +kernel, rfl⟩
theorem a11_image_57 : At cX11_image 57 (.iconst 1) 1 58 := ⟨by decide +kernel, rfl⟩
theorem a11_image_58 : At cX11_image 58 (.ireturn) 1 59 := ⟨by decide +kernel, rfl⟩
def l11_image_19 (k0 : Nat) (x1 : Int32) : Nat → Int32 → Mem → Option (Int32 × Mem)
  | 0, _, _ => none
  | n + 1, x2, σ =>
  if 142 ≤ x2 then
  (some (x2, σ))
  else
  (ck (inb x2 142) <|
  ck (inb ((142 * x1) + x2) 284) <|
  lt (sI σ 22 1 (((142 * x1) + x2) : Int32).toNatClampNeg (σ.1 22 0 (x2 : Int32).toNatClampNeg)) fun σ6 =>
  l11_image_19 k0 x1 n (x2 + 1) σ6)
theorem lE11_image_19 {V : Option AV} {S : Mem} (k0 : Nat) (x1 : Int32) : ∀ (n : Nat) (x2 : Int32) (σ : Mem) {w : Int32 × Mem}, l11_image_19 k0 x1 n x2 σ = some w → (Go m11_image 50 [some (.inr (.inr (11, k0))), some (.inl x1), some (.inl w.1)] [] w.2 V S) → Go m11_image 19 [some (.inr (.inr (11, k0))), some (.inl x1), some (.inl x2)] [] σ V S
  | 0, x2, σ, w, h, K1 => by cases h
  | n + 1, x2, σ, w, h, K1 => by
    rw [l11_image_19] at h
    refine g_iload_n a11_image_19 rfl ?_
    refine g_sipush (v := 142) a11_image_20 rfl ?_
    refine g_icmp_ge (tgt := 50) a11_image_23 rfl (fun c7 => ?_) (fun c7 => ?_)
    · have h := (if_pos c7).symm.trans h
      have h := Option.some.inj h
      subst h
      exact g_weak K1 ⟨rfl, rfl, rfl, trivial⟩
    · have h := (if_neg c7).symm.trans h
      refine g_aload_n a11_image_26 rfl ?_
      refine g_getf (v := .inr (.inr (22, 1))) a11_image_27 fs11_13 rfl ?_
      refine g_sipush (v := 142) a11_image_30 rfl ?_
      refine g_iload_n a11_image_33 rfl ?_
      refine g_imul a11_image_34 ?_
      refine g_iload_n a11_image_35 rfl ?_
      refine g_iadd a11_image_36 ?_
      refine g_aload_n a11_image_37 rfl ?_
      refine g_getf (v := .inr (.inr (22, 0))) a11_image_38 fs11_7 rfl ?_
      refine g_iload_n a11_image_41 rfl ?_
      obtain ⟨q4, h⟩ := ck_inv h
      refine g_iald (x := (σ.1 22 0 (x2 : Int32).toNatClampNeg)) a11_image_42 (rI22 (by decide)) (inb_ok q4) rfl ?_
      obtain ⟨q5, h⟩ := ck_inv h
      obtain ⟨σ6, eσ6, h⟩ := lt_inv h
      refine g_iast (j := (((142 * x1) + x2) : Int32).toNatClampNeg) a11_image_43 (rI22 (by decide)) (inb_ok q5) rfl ?_
      rw [eσ6]
      refine g_iinc (v := (x2 + 1)) (L' := [some (.inr (.inr (11, k0))), some (.inl x1), some (.inl (x2 + 1))]) a11_image_44 rfl rfl (Nat.le_of_ble_eq_true rfl) rfl rfl ?_
      refine g_goto (tgt := 19) a11_image_47 rfl ?_
      exact g_weak (lE11_image_19 (V := V) (S := S)  k0 x1 n _ _ h K1) ⟨rfl, rfl, rfl, trivial⟩
def f11_image (k0 : Nat) (x1 : Int32) (σ : Mem) : Option (Int32 × Mem) :=
  if (f11_in (x1.toInt64) 0 1) = 0 then
  (lt (f11_bad k0 (-2) σ) fun w2 =>
  some (w2.1, w2.2))
  else
  (bnd (l11_image_19 k0 x1 2000 0 σ) fun w8 =>
  ck (inb x1 2) <|
  lt (sI w8.2 22 2 (x1 : Int32).toNatClampNeg 1) fun σ10 =>
  some (1, σ10))
theorem E11_image {k0 : Nat} {x1 : Int32} {σ : Mem} {w : Int32 × Mem} (h : f11_image k0 x1 σ = some w) : Ev m11_image [.inr (.inr (11, k0)), .inl x1] σ (some (.inl w.1) : Option AV) w.2 := by
  unfold f11_image at h
  show Go m11_image 0 [some (.inr (.inr (11, k0))), some (.inl x1), none] [] σ (some (.inl w.1) : Option AV) w.2
  refine g_iload_n a11_image_0 rfl ?_
  refine g_i2l a11_image_1 ?_
  refine g_lconst (v := 0) a11_image_2 rfl ?_
  refine g_lconst (v := 1) a11_image_3 rfl ?_
  refine g_S3s (v1 := .inl (f11_in (x1.toInt64) 0 1)) (σ1 := σ) a11_image_4 cs11_59 (E11_in _ _ _ _) rfl (fun o1 => ?_)
  refine g_if_ne (tgt := 17) a11_image_7 rfl (fun c11 => ?_) (fun c11 => ?_)
  · have h := (if_neg c11).symm.trans h
    refine g_iconst (v := 0) a11_image_17 rfl ?_
    refine g_istore_n (L' := [some (.inr (.inr (11, k0))), some (.inl x1), some (.inl 0)]) a11_image_18 (Nat.le_of_ble_eq_true rfl) rfl rfl ?_
    obtain ⟨w8, hw8, h⟩ := bnd_inv h
    refine g_weak (lE11_image_19 k0 x1 2000 _ _ hw8 ?_) ⟨rfl, rfl, rfl, trivial⟩
    refine g_aload_n a11_image_50 rfl ?_
    refine g_getf (v := .inr (.inr (22, 2))) a11_image_51 fs11_16 rfl ?_
    refine g_iload_n a11_image_54 rfl ?_
    refine g_iconst (v := 1) a11_image_55 rfl ?_
    obtain ⟨q9, h⟩ := ck_inv h
    obtain ⟨σ10, eσ10, h⟩ := lt_inv h
    refine g_zast (j := (x1 : Int32).toNatClampNeg) a11_image_56 (inb_ok q9) (Or.inr rfl) rfl ?_
    rw [eσ10]
    refine g_iconst (v := 1) a11_image_57 rfl ?_
    have h := Option.some.inj h
    subst h
    exact g_retE a11_image_58 trivial rfl rfl
  · have h := (if_pos c11).symm.trans h
    refine g_aload_n a11_image_10 rfl ?_
    refine g_bipush (v := (-2)) a11_image_11 rfl ?_
    obtain ⟨w2, hw2, h⟩ := lt_inv h
    refine g_V1s (v1 := .inl w2.1) (σ1 := w2.2) a11_image_13 cv11_73 (by rw [← hw2]; exact E11_bad _ _ _) rfl (fun o3 => ?_)
    have h := Option.some.inj h
    subst h
    exact g_retE a11_image_16 trivial rfl rfl
theorem a11_from_0 : At cX11_from 0 (.iload_n 1) 1 1 := ⟨by decide +kernel, rfl⟩
theorem a11_from_1 : At cX11_from 1 (.i2l) 1 2 := ⟨by decide +kernel, rfl⟩
theorem a11_from_2 : At cX11_from 2 (.lconst 0) 1 3 := ⟨by decide +kernel, rfl⟩
theorem a11_from_3 : At cX11_from 3 (.lconst 1) 1 4 := ⟨by decide +kernel, rfl⟩
theorem a11_from_4 : At cX11_from 4 (.invokestatic 59) 3 7 := ⟨by decide +kernel, rfl⟩
theorem a11_from_7 : At cX11_from 7 (.ifCond .ne 10) 3 10 := ⟨by decide +kernel, rfl⟩
theorem a11_from_10 : At cX11_from 10 (.aload_n 0) 1 11 := ⟨by decide +kernel, rfl⟩
theorem a11_from_11 : At cX11_from 11 (.bipush (-2)) 2 13 := ⟨by decide +kernel, rfl⟩
theorem a11_from_13 : At cX11_from 13 (.invokevirtual 73) 3 16 := ⟨by decide +kernel, rfl⟩
theorem a11_from_16 : At cX11_from 16 (.ireturn) 1 17 := ⟨by decide +kernel, rfl⟩
theorem a11_from_17 : At cX11_from 17 (.aload_n 0) 1 18 := ⟨by decide +kernel, rfl⟩
theorem a11_from_18 : At cX11_from 18 (.getfield 16) 3 21 := ⟨by decide +kernel, rfl⟩
theorem a11_from_21 : At cX11_from 21 (.iload_n 1) 1 22 := ⟨by decide +kernel, rfl⟩
theorem a11_from_22 : At cX11_from 22 (.baload) 1 23 := ⟨by decide +kernel, rfl⟩
theorem a11_from_23 : At cX11_from 23 (.ifCond .ne 8) 3 26 := ⟨by decide +kernel, rfl⟩
theorem a11_from_26 : At cX11_from 26 (.aload_n 0) 1 27 := ⟨by decide +kernel, rfl⟩
theorem a11_from_27 : At cX11_from 27 (.invokevirtual 137) 3 30 := ⟨by decide +kernel, rfl⟩
theorem a11_from_30 : At cX11_from 30 (.ireturn) 1 31 := ⟨by decide +kernel, rfl⟩
theorem a11_from_31 : At cX11_from 31 (.iconst 0) 1 32 := ⟨by decide +kernel, rfl⟩
theorem a11_from_32 : At cX11_from 32 (.istore_n 2) 1 33 := ⟨by decide +kernel, rfl⟩
theorem a11_from_33 : At cX11_from 33 (.iload_n 2) 1 34 := ⟨by decide +kernel, rfl⟩
theorem a11_from_34 : At cX11_from 34 (.sipush 142) 3 37 := ⟨by decide +kernel, rfl⟩
theorem a11_from_37 : At cX11_from 37 (.if_icmp .ge 27) 3 40 := ⟨by decide +kernel, rfl⟩
theorem a11_from_40 : At cX11_from 40 (.aload_n 0) 1 41 := ⟨by decide +kernel, rfl⟩
theorem a11_from_41 : At cX11_from 41 (.getfield 7) 3 44 := ⟨by decide +kernel, rfl⟩
theorem a11_from_44 : At cX11_from 44 (.iload_n 2) 1 45 := ⟨by decide +kernel, rfl⟩
theorem a11_from_45 : At cX11_from 45 (.aload_n 0) 1 46 := ⟨by decide +kernel, rfl⟩
theorem a11_from_46 : At cX11_from 46 (.getfield 13) 3 49 := ⟨by decide +kernel, rfl⟩
theorem a11_from_49 : At cX11_from 49 (.sipush 142) 3 52 := ⟨by decide +kernel, rfl⟩
theorem a11_from_52 : At cX11_from 52 (.iload_n 1) 1 53 := ⟨by decide +kernel, rfl⟩
theorem a11_from_53 : At cX11_from 53 (.imul) 1 54 := ⟨by decide +kernel, rfl⟩
theorem a11_from_54 : At cX11_from 54 (.iload_n 2) 1 55 := ⟨by decide +kernel, rfl⟩
theorem a11_from_55 : At cX11_from 55 (.iadd) 1 56 := ⟨by decide +kernel, rfl⟩
theorem a11_from_56 : At cX11_from 56 (.iaload) 1 57 := ⟨by decide +kernel, rfl⟩
theorem a11_from_57 : At cX11_from 57 (.iastore) 1 58 := ⟨by decide +kernel, rfl⟩
theorem a11_from_58 : At cX11_from 58 (.iinc 2 1) 3 61 := ⟨by decide +kernel, rfl⟩
theorem a11_from_61 : At cX11_from 61 (.goto (-28)) 3 64 := ⟨by decide +kernel, rfl⟩
theorem a11_from_64 : At cX11_from 64 (.iconst 1) 1 65 := ⟨by decide +kernel, rfl⟩
theorem a11_from_65 : At cX11_from 65 (.ireturn) 1 66 := ⟨by decide +kernel, rfl⟩
def l11_from_33 (k0 : Nat) (x1 : Int32) : Nat → Int32 → Mem → Option (Int32 × Mem)
  | 0, _, _ => none
  | n + 1, x2, σ =>
  if 142 ≤ x2 then
  (some (x2, σ))
  else
  (ck (inb ((142 * x1) + x2) 284) <|
  ck (inb x2 142) <|
  lt (sI σ 22 0 (x2 : Int32).toNatClampNeg (σ.1 22 1 (((142 * x1) + x2) : Int32).toNatClampNeg)) fun σ9 =>
  l11_from_33 k0 x1 n (x2 + 1) σ9)
theorem lE11_from_33 {V : Option AV} {S : Mem} (k0 : Nat) (x1 : Int32) : ∀ (n : Nat) (x2 : Int32) (σ : Mem) {w : Int32 × Mem}, l11_from_33 k0 x1 n x2 σ = some w → (Go m11_from 64 [some (.inr (.inr (11, k0))), some (.inl x1), some (.inl w.1)] [] w.2 V S) → Go m11_from 33 [some (.inr (.inr (11, k0))), some (.inl x1), some (.inl x2)] [] σ V S
  | 0, x2, σ, w, h, K1 => by cases h
  | n + 1, x2, σ, w, h, K1 => by
    rw [l11_from_33] at h
    refine g_iload_n a11_from_33 rfl ?_
    refine g_sipush (v := 142) a11_from_34 rfl ?_
    refine g_icmp_ge (tgt := 64) a11_from_37 rfl (fun c10 => ?_) (fun c10 => ?_)
    · have h := (if_pos c10).symm.trans h
      have h := Option.some.inj h
      subst h
      exact g_weak K1 ⟨rfl, rfl, rfl, trivial⟩
    · have h := (if_neg c10).symm.trans h
      refine g_aload_n a11_from_40 rfl ?_
      refine g_getf (v := .inr (.inr (22, 0))) a11_from_41 fs11_7 rfl ?_
      refine g_iload_n a11_from_44 rfl ?_
      refine g_aload_n a11_from_45 rfl ?_
      refine g_getf (v := .inr (.inr (22, 1))) a11_from_46 fs11_13 rfl ?_
      refine g_sipush (v := 142) a11_from_49 rfl ?_
      refine g_iload_n a11_from_52 rfl ?_
      refine g_imul a11_from_53 ?_
      refine g_iload_n a11_from_54 rfl ?_
      refine g_iadd a11_from_55 ?_
      obtain ⟨q7, h⟩ := ck_inv h
      refine g_iald (x := (σ.1 22 1 (((142 * x1) + x2) : Int32).toNatClampNeg)) a11_from_56 (rI22 (by decide)) (inb_ok q7) rfl ?_
      obtain ⟨q8, h⟩ := ck_inv h
      obtain ⟨σ9, eσ9, h⟩ := lt_inv h
      refine g_iast (j := (x2 : Int32).toNatClampNeg) a11_from_57 (rI22 (by decide)) (inb_ok q8) rfl ?_
      rw [eσ9]
      refine g_iinc (v := (x2 + 1)) (L' := [some (.inr (.inr (11, k0))), some (.inl x1), some (.inl (x2 + 1))]) a11_from_58 rfl rfl (Nat.le_of_ble_eq_true rfl) rfl rfl ?_
      refine g_goto (tgt := 33) a11_from_61 rfl ?_
      exact g_weak (lE11_from_33 (V := V) (S := S)  k0 x1 n _ _ h K1) ⟨rfl, rfl, rfl, trivial⟩
def f11_from (k0 : Nat) (x1 : Int32) (σ : Mem) : Option (Int32 × Mem) :=
  if (f11_in (x1.toInt64) 0 1) = 0 then
  (lt (f11_bad k0 (-2) σ) fun w2 =>
  some (w2.1, w2.2))
  else
  (ck (inb x1 2) <|
  if (σ.1 22 2 (x1 : Int32).toNatClampNeg) = 0 then
  (lt (f11_no k0 σ) fun w5 =>
  some (w5.1, w5.2))
  else
  (bnd (l11_from_33 k0 x1 2000 0 σ) fun w11 =>
  some (1, w11.2)))
theorem E11_from {k0 : Nat} {x1 : Int32} {σ : Mem} {w : Int32 × Mem} (h : f11_from k0 x1 σ = some w) : Ev m11_from [.inr (.inr (11, k0)), .inl x1] σ (some (.inl w.1) : Option AV) w.2 := by
  unfold f11_from at h
  show Go m11_from 0 [some (.inr (.inr (11, k0))), some (.inl x1), none] [] σ (some (.inl w.1) : Option AV) w.2
  refine g_iload_n a11_from_0 rfl ?_
  refine g_i2l a11_from_1 ?_
  refine g_lconst (v := 0) a11_from_2 rfl ?_
  refine g_lconst (v := 1) a11_from_3 rfl ?_
  refine g_S3s (v1 := .inl (f11_in (x1.toInt64) 0 1)) (σ1 := σ) a11_from_4 cs11_59 (E11_in _ _ _ _) rfl (fun o1 => ?_)
  refine g_if_ne (tgt := 17) a11_from_7 rfl (fun c13 => ?_) (fun c13 => ?_)
  · have h := (if_neg c13).symm.trans h
    refine g_aload_n a11_from_17 rfl ?_
    refine g_getf (v := .inr (.inr (22, 2))) a11_from_18 fs11_16 rfl ?_
    refine g_iload_n a11_from_21 rfl ?_
    obtain ⟨q4, h⟩ := ck_inv h
    refine g_zald (x := (σ.1 22 2 (x1 : Int32).toNatClampNeg)) a11_from_22 (inb_ok q4) rfl ?_
    refine g_if_ne (tgt := 31) a11_from_23 rfl (fun c12 => ?_) (fun c12 => ?_)
    · have h := (if_neg c12).symm.trans h
      refine g_iconst (v := 0) a11_from_31 rfl ?_
      refine g_istore_n (L' := [some (.inr (.inr (11, k0))), some (.inl x1), some (.inl 0)]) a11_from_32 (Nat.le_of_ble_eq_true rfl) rfl rfl ?_
      obtain ⟨w11, hw11, h⟩ := bnd_inv h
      refine g_weak (lE11_from_33 k0 x1 2000 _ _ hw11 ?_) ⟨rfl, rfl, rfl, trivial⟩
      refine g_iconst (v := 1) a11_from_64 rfl ?_
      have h := Option.some.inj h
      subst h
      exact g_retE a11_from_65 trivial rfl rfl
    · have h := (if_pos c12).symm.trans h
      refine g_aload_n a11_from_26 rfl ?_
      obtain ⟨w5, hw5, h⟩ := lt_inv h
      refine g_V0s (v1 := .inl w5.1) (σ1 := w5.2) a11_from_27 cv11_137 (by rw [← hw5]; exact E11_no _ _) rfl (fun o6 => ?_)
      have h := Option.some.inj h
      subst h
      exact g_retE a11_from_30 trivial rfl rfl
  · have h := (if_pos c13).symm.trans h
    refine g_aload_n a11_from_10 rfl ?_
    refine g_bipush (v := (-2)) a11_from_11 rfl ?_
    obtain ⟨w2, hw2, h⟩ := lt_inv h
    refine g_V1s (v1 := .inl w2.1) (σ1 := w2.2) a11_from_13 cv11_73 (by rw [← hw2]; exact E11_bad _ _ _) rfl (fun o3 => ?_)
    have h := Option.some.inj h
    subst h
    exact g_retE a11_from_16 trivial rfl rfl
theorem a11_status_0 : At cX11_status 0 (.iload_n 1) 1 1 := ⟨by decide +kernel, rfl⟩
theorem a11_status_1 : At cX11_status 1 (.i2l) 1 2 := ⟨by decide +kernel, rfl⟩
theorem a11_status_2 : At cX11_status 2 (.lconst 0) 1 3 := ⟨by decide +kernel, rfl⟩
theorem a11_status_3 : At cX11_status 3 (.ldc2_w 145) 3 6 := ⟨by decide +kernel, rfl⟩
theorem a11_status_6 : At cX11_status 6 (.invokestatic 59) 3 9 := ⟨by decide +kernel, rfl⟩
theorem a11_status_9 : At cX11_status 9 (.ifCond .eq 12) 3 12 := ⟨by decide +kernel, rfl⟩
theorem a11_status_12 : At cX11_status 12 (.aload_n 0) 1 13 := ⟨by decide +kernel, rfl⟩
theorem a11_status_13 : At cX11_status 13 (.getfield 20) 3 16 := ⟨by decide +kernel, rfl⟩
theorem a11_status_16 : At cX11_status 16 (.iload_n 1) 1 17 := ⟨by decide +kernel, rfl⟩
theorem a11_status_17 : At cX11_status 17 (.iaload) 1 18 := ⟨by decide +kernel, rfl⟩
theorem a11_status_18 : At cX11_status 18 (.goto 8) 3 21 := ⟨by decide +kernel, rfl⟩
theorem a11_status_21 : At cX11_status 21 (.aload_n 0) 1 22 := ⟨by decide +kernel, rfl⟩
theorem a11_status_22 : At cX11_status 22 (.iconst (-1)) 1 23 := ⟨by decide +kernel, rfl⟩
theorem a11_status_23 : At cX11_status 23 (.invokevirtual 73) 3 26 := ⟨by decide +kernel, rfl⟩
theorem a11_status_26 : At cX11_status 26 (.ireturn) 1 27 := ⟨by decide +kernel, rfl⟩
def f11_status (k0 : Nat) (x1 : Int32) (σ : Mem) : Option (Int32 × Mem) :=
  if (f11_in (x1.toInt64) 0 2) = 0 then
  (lt (f11_bad k0 (-1) σ) fun w2 =>
  some (w2.1, w2.2))
  else
  (ck (inb x1 3) <|
  some ((σ.1 22 3 (x1 : Int32).toNatClampNeg), σ))
theorem E11_status {k0 : Nat} {x1 : Int32} {σ : Mem} {w : Int32 × Mem} (h : f11_status k0 x1 σ = some w) : Ev m11_status [.inr (.inr (11, k0)), .inl x1] σ (some (.inl w.1) : Option AV) w.2 := by
  unfold f11_status at h
  show Go m11_status 0 [some (.inr (.inr (11, k0))), some (.inl x1)] [] σ (some (.inl w.1) : Option AV) w.2
  refine g_iload_n a11_status_0 rfl ?_
  refine g_i2l a11_status_1 ?_
  refine g_lconst (v := 0) a11_status_2 rfl ?_
  refine g_ldc2 (v := 2) a11_status_3 wl11_145 ?_
  refine g_S3s (v1 := .inl (f11_in (x1.toInt64) 0 2)) (σ1 := σ) a11_status_6 cs11_59 (E11_in _ _ _ _) rfl (fun o1 => ?_)
  refine g_if_eq (tgt := 21) a11_status_9 rfl (fun c5 => ?_) (fun c5 => ?_)
  · have h := (if_pos c5).symm.trans h
    refine g_aload_n a11_status_21 rfl ?_
    refine g_iconst (v := (-1)) a11_status_22 rfl ?_
    obtain ⟨w2, hw2, h⟩ := lt_inv h
    refine g_V1s (v1 := .inl w2.1) (σ1 := w2.2) a11_status_23 cv11_73 (by rw [← hw2]; exact E11_bad _ _ _) rfl (fun o3 => ?_)
    have h := Option.some.inj h
    subst h
    exact g_retE a11_status_26 trivial rfl rfl
  · have h := (if_neg c5).symm.trans h
    refine g_aload_n a11_status_12 rfl ?_
    refine g_getf (v := .inr (.inr (22, 3))) a11_status_13 fs11_20 rfl ?_
    refine g_iload_n a11_status_16 rfl ?_
    obtain ⟨q4, h⟩ := ck_inv h
    refine g_iald (x := (σ.1 22 3 (x1 : Int32).toNatClampNeg)) a11_status_17 (rI22 (by decide)) (inb_ok q4) rfl ?_
    refine g_goto (tgt := 26) a11_status_18 rfl ?_
    have h := Option.some.inj h
    subst h
    exact g_retE a11_status_26 trivial rfl rfl
theorem a11_counted_0 : At cX11_counted 0 (.iload_n 1) 1 1 := ⟨by decide +kernel, rfl⟩
theorem a11_counted_1 : At cX11_counted 1 (.tableswitch 114 0 10 #[59, 64, 75, 82, 93, 101, 114, 114, 114, 114, 109]) 59 60 := ⟨by decide +kernel, rfl⟩
theorem a11_counted_60 : At cX11_counted 60 (.aload_n 0) 1 61 := ⟨by decide +kernel, rfl⟩
theorem a11_counted_61 : At cX11_counted 61 (.invokevirtual 55) 3 64 := ⟨by decide +kernel, rfl⟩
theorem a11_counted_64 : At cX11_counted 64 (.ireturn) 1 65 := ⟨by decide +kernel, rfl⟩
theorem a11_counted_65 : At cX11_counted 65 (.aload_n 0) 1 66 := ⟨by decide +kernel, rfl⟩
theorem a11_counted_66 : At cX11_counted 66 (.getfield 7) 3 69 := ⟨by decide +kernel, rfl⟩
theorem a11_counted_69 : At cX11_counted 69 (.bipush 6) 2 71 := ⟨by decide +kernel, rfl⟩
theorem a11_counted_71 : At cX11_counted 71 (.iaload) 1 72 := ⟨by decide +kernel, rfl⟩
theorem a11_counted_72 : At cX11_counted 72 (.invokestatic 105) 3 75 := ⟨by decide +kernel, rfl⟩
theorem a11_counted_75 : At cX11_counted 75 (.ireturn) 1 76 := ⟨by decide +kernel, rfl⟩
theorem a11_counted_76 : At cX11_counted 76 (.aload_n 0) 1 77 := ⟨by decide +kernel, rfl⟩
theorem a11_counted_77 : At cX11_counted 77 (.getfield 7) 3 80 := ⟨by decide +kernel, rfl⟩
theorem a11_counted_80 : At cX11_counted 80 (.iconst 1) 1 81 := ⟨by decide +kernel, rfl⟩
theorem a11_counted_81 : At cX11_counted 81 (.iaload) 1 82 := ⟨by decide +kernel, rfl⟩
theorem a11_counted_82 : At cX11_counted 82 (.ireturn) 1 83 := ⟨by decide +kernel, rfl⟩
theorem a11_counted_83 : At cX11_counted 83 (.aload_n 0) 1 84 := ⟨by decide +kernel, rfl⟩
theorem a11_counted_84 : At cX11_counted 84 (.getfield 7) 3 87 := ⟨by decide +kernel, rfl⟩
theorem a11_counted_87 : At cX11_counted 87 (.bipush 7) 2 89 := ⟨by decide +kernel, rfl⟩
theorem a11_counted_89 : At cX11_counted 89 (.iaload) 1 90 := ⟨by decide +kernel, rfl⟩
theorem a11_counted_90 : At cX11_counted 90 (.invokestatic 105) 3 93 := ⟨by decide +kernel, rfl⟩
theorem a11_counted_93 : At cX11_counted 93 (.ireturn) 1 94 := ⟨by decide +kernel, rfl⟩
theorem a11_counted_94 : At cX11_counted 94 (.aload_n 0) 1 95 := ⟨by decide +kernel, rfl⟩
theorem a11_counted_95 : At cX11_counted 95 (.getfield 7) 3 98 := ⟨by decide +kernel, rfl⟩
theorem a11_counted_98 : At cX11_counted 98 (.bipush 9) 2 100 := ⟨by decide +kernel, rfl⟩
theorem a11_counted_100 : At cX11_counted 100 (.iaload) 1 101 := ⟨by decide +kernel, rfl⟩
theorem a11_counted_101 : At cX11_counted 101 (.ireturn) 1 102 := ⟨by decide +kernel, rfl⟩
theorem a11_counted_102 : At cX11_counted 102 (.aload_n 0) 1 103 := ⟨by decide +kernel, rfl⟩
theorem a11_counted_103 : At cX11_counted 103 (.getfield 7) 3 106 := ⟨by decide +kernel, rfl⟩
theorem a11_counted_106 : At cX11_counted 106 (.bipush 8) 2 108 := ⟨by decide +kernel, rfl⟩
theorem a11_counted_108 : At cX11_counted 108 (.iaload) 1 109 := ⟨by decide +kernel, rfl⟩
theorem a11_counted_109 : At cX11_counted 109 (.ireturn) 1 110 := ⟨by decide +kernel, rfl⟩
theorem a11_counted_110 : At cX11_counted 110 (.aload_n 0) 1 111 := ⟨by decide +kernel, rfl⟩
theorem a11_counted_111 : At cX11_counted 111 (.getfield 217) 3 114 := ⟨by decide +kernel, rfl⟩
theorem a11_counted_114 : At cX11_counted 114 (.ireturn) 1 115 := ⟨by decide +kernel, rfl⟩
theorem a11_counted_115 : At cX11_counted 115 (.aload_n 0) 1 116 := ⟨by decide +kernel, rfl⟩
theorem a11_counted_116 : At cX11_counted 116 (.getfield 7) 3 119 := ⟨by decide +kernel, rfl⟩
theorem a11_counted_119 : At cX11_counted 119 (.iconst 2) 1 120 := ⟨by decide +kernel, rfl⟩
theorem a11_counted_120 : At cX11_counted 120 (.iload_n 1) 1 121 := ⟨by decide +kernel, rfl⟩
theorem a11_counted_121 : At cX11_counted 121 (.iadd) 1 122 := ⟨by decide +kernel, rfl⟩
theorem a11_counted_122 : At cX11_counted 122 (.bipush 6) 2 124 := ⟨by decide +kernel, rfl⟩
theorem a11_counted_124 : At cX11_counted 124 (.isub) 1 125 := ⟨by decide +kernel, rfl⟩
theorem a11_counted_125 : At cX11_counted 125 (.iaload) 1 126 := ⟨by decide +kernel, rfl⟩
theorem a11_counted_126 : At cX11_counted 126 (.ireturn) 1 127 := ⟨by decide +kernel, rfl⟩
def f11_counted (k0 : Nat) (x1 : Int32) (σ : Mem) : Option (Int32) :=
  if x1 = 0 then
  (some (f11_many k0 σ))
  else if x1 = 1 then
  (bnd (f11_bits (σ.1 22 0 6)) fun w2 =>
  some w2)
  else if x1 = 2 then
  (some (σ.1 22 0 1))
  else if x1 = 3 then
  (bnd (f11_bits (σ.1 22 0 7)) fun w4 =>
  some w4)
  else if x1 = 4 then
  (some (σ.1 22 0 9))
  else if x1 = 5 then
  (some (σ.1 22 0 8))
  else if x1 = 6 then
  (ck (inb ((2 + x1) - 6) 142) <|
  some (σ.1 22 0 (((2 + x1) - 6) : Int32).toNatClampNeg))
  else if x1 = 7 then
  (ck (inb ((2 + x1) - 6) 142) <|
  some (σ.1 22 0 (((2 + x1) - 6) : Int32).toNatClampNeg))
  else if x1 = 8 then
  (ck (inb ((2 + x1) - 6) 142) <|
  some (σ.1 22 0 (((2 + x1) - 6) : Int32).toNatClampNeg))
  else if x1 = 9 then
  (ck (inb ((2 + x1) - 6) 142) <|
  some (σ.1 22 0 (((2 + x1) - 6) : Int32).toNatClampNeg))
  else if x1 = 10 then
  (some (σ.1 11 k0 12))
  else 
  (ck (inb ((2 + x1) - 6) 142) <|
  some (σ.1 22 0 (((2 + x1) - 6) : Int32).toNatClampNeg))
theorem E11_counted {k0 : Nat} {x1 : Int32} {σ : Mem} {w : Int32} (h : f11_counted k0 x1 σ = some w) : Ev m11_counted [.inr (.inr (11, k0)), .inl x1] σ (some (.inl w) : Option AV) σ := by
  unfold f11_counted at h
  show Go m11_counted 0 [some (.inr (.inr (11, k0))), some (.inl x1)] [] σ (some (.inl w) : Option AV) σ
  refine g_iload_n a11_counted_0 rfl ?_
  rcases Decidable.em (x1 = 0) with c11 | c11
  · have h := (if_pos c11).symm.trans h
    refine g_tsIn (tgt := 60) (off := 59) a11_counted_1 (by rw [c11]; decide) (by rw [c11]; decide) (by rw [c11]; rfl) rfl ?_
    refine g_aload_n a11_counted_60 rfl ?_
    refine g_V0s (v1 := .inl (f11_many k0 σ)) (σ1 := σ) a11_counted_61 cv11_55 (E11_many _ _) rfl (fun o1 => ?_)
    have h := Option.some.inj h
    subst h
    exact g_retE a11_counted_64 trivial rfl rfl
  have h := (if_neg c11).symm.trans h
  rcases Decidable.em (x1 = 1) with c12 | c12
  · have h := (if_pos c12).symm.trans h
    refine g_tsIn (tgt := 65) (off := 64) a11_counted_1 (by rw [c12]; decide) (by rw [c12]; decide) (by rw [c12]; rfl) rfl ?_
    refine g_aload_n a11_counted_65 rfl ?_
    refine g_getf (v := .inr (.inr (22, 0))) a11_counted_66 fs11_7 rfl ?_
    refine g_bipush (v := 6) a11_counted_69 rfl ?_
    refine g_iald (x := (σ.1 22 0 6)) a11_counted_71 (rI22 (by decide)) (inb_ok (by decide)) rfl ?_
    obtain ⟨w2, hw2, h⟩ := bnd_inv h
    refine g_S1s (v1 := .inl w2) (σ1 := σ) a11_counted_72 cs11_105 (E11_bits hw2) rfl (fun o3 => ?_)
    have h := Option.some.inj h
    subst h
    exact g_retE a11_counted_75 trivial rfl rfl
  have h := (if_neg c12).symm.trans h
  rcases Decidable.em (x1 = 2) with c13 | c13
  · have h := (if_pos c13).symm.trans h
    refine g_tsIn (tgt := 76) (off := 75) a11_counted_1 (by rw [c13]; decide) (by rw [c13]; decide) (by rw [c13]; rfl) rfl ?_
    refine g_aload_n a11_counted_76 rfl ?_
    refine g_getf (v := .inr (.inr (22, 0))) a11_counted_77 fs11_7 rfl ?_
    refine g_iconst (v := 1) a11_counted_80 rfl ?_
    refine g_iald (x := (σ.1 22 0 1)) a11_counted_81 (rI22 (by decide)) (inb_ok (by decide)) rfl ?_
    have h := Option.some.inj h
    subst h
    exact g_retE a11_counted_82 trivial rfl rfl
  have h := (if_neg c13).symm.trans h
  rcases Decidable.em (x1 = 3) with c14 | c14
  · have h := (if_pos c14).symm.trans h
    refine g_tsIn (tgt := 83) (off := 82) a11_counted_1 (by rw [c14]; decide) (by rw [c14]; decide) (by rw [c14]; rfl) rfl ?_
    refine g_aload_n a11_counted_83 rfl ?_
    refine g_getf (v := .inr (.inr (22, 0))) a11_counted_84 fs11_7 rfl ?_
    refine g_bipush (v := 7) a11_counted_87 rfl ?_
    refine g_iald (x := (σ.1 22 0 7)) a11_counted_89 (rI22 (by decide)) (inb_ok (by decide)) rfl ?_
    obtain ⟨w4, hw4, h⟩ := bnd_inv h
    refine g_S1s (v1 := .inl w4) (σ1 := σ) a11_counted_90 cs11_105 (E11_bits hw4) rfl (fun o5 => ?_)
    have h := Option.some.inj h
    subst h
    exact g_retE a11_counted_93 trivial rfl rfl
  have h := (if_neg c14).symm.trans h
  rcases Decidable.em (x1 = 4) with c15 | c15
  · have h := (if_pos c15).symm.trans h
    refine g_tsIn (tgt := 94) (off := 93) a11_counted_1 (by rw [c15]; decide) (by rw [c15]; decide) (by rw [c15]; rfl) rfl ?_
    refine g_aload_n a11_counted_94 rfl ?_
    refine g_getf (v := .inr (.inr (22, 0))) a11_counted_95 fs11_7 rfl ?_
    refine g_bipush (v := 9) a11_counted_98 rfl ?_
    refine g_iald (x := (σ.1 22 0 9)) a11_counted_100 (rI22 (by decide)) (inb_ok (by decide)) rfl ?_
    have h := Option.some.inj h
    subst h
    exact g_retE a11_counted_101 trivial rfl rfl
  have h := (if_neg c15).symm.trans h
  rcases Decidable.em (x1 = 5) with c16 | c16
  · have h := (if_pos c16).symm.trans h
    refine g_tsIn (tgt := 102) (off := 101) a11_counted_1 (by rw [c16]; decide) (by rw [c16]; decide) (by rw [c16]; rfl) rfl ?_
    refine g_aload_n a11_counted_102 rfl ?_
    refine g_getf (v := .inr (.inr (22, 0))) a11_counted_103 fs11_7 rfl ?_
    refine g_bipush (v := 8) a11_counted_106 rfl ?_
    refine g_iald (x := (σ.1 22 0 8)) a11_counted_108 (rI22 (by decide)) (inb_ok (by decide)) rfl ?_
    have h := Option.some.inj h
    subst h
    exact g_retE a11_counted_109 trivial rfl rfl
  have h := (if_neg c16).symm.trans h
  rcases Decidable.em (x1 = 6) with c17 | c17
  · have h := (if_pos c17).symm.trans h
    refine g_tsIn (tgt := 115) (off := 114) a11_counted_1 (by rw [c17]; decide) (by rw [c17]; decide) (by rw [c17]; rfl) rfl ?_
    refine g_aload_n a11_counted_115 rfl ?_
    refine g_getf (v := .inr (.inr (22, 0))) a11_counted_116 fs11_7 rfl ?_
    refine g_iconst (v := 2) a11_counted_119 rfl ?_
    refine g_iload_n a11_counted_120 rfl ?_
    refine g_iadd a11_counted_121 ?_
    refine g_bipush (v := 6) a11_counted_122 rfl ?_
    refine g_isub a11_counted_124 ?_
    obtain ⟨q6, h⟩ := ck_inv h
    refine g_iald (x := (σ.1 22 0 (((2 + x1) - 6) : Int32).toNatClampNeg)) a11_counted_125 (rI22 (by decide)) (inb_ok q6) rfl ?_
    have h := Option.some.inj h
    subst h
    exact g_retE a11_counted_126 trivial rfl rfl
  have h := (if_neg c17).symm.trans h
  rcases Decidable.em (x1 = 7) with c18 | c18
  · have h := (if_pos c18).symm.trans h
    refine g_tsIn (tgt := 115) (off := 114) a11_counted_1 (by rw [c18]; decide) (by rw [c18]; decide) (by rw [c18]; rfl) rfl ?_
    refine g_aload_n a11_counted_115 rfl ?_
    refine g_getf (v := .inr (.inr (22, 0))) a11_counted_116 fs11_7 rfl ?_
    refine g_iconst (v := 2) a11_counted_119 rfl ?_
    refine g_iload_n a11_counted_120 rfl ?_
    refine g_iadd a11_counted_121 ?_
    refine g_bipush (v := 6) a11_counted_122 rfl ?_
    refine g_isub a11_counted_124 ?_
    obtain ⟨q7, h⟩ := ck_inv h
    refine g_iald (x := (σ.1 22 0 (((2 + x1) - 6) : Int32).toNatClampNeg)) a11_counted_125 (rI22 (by decide)) (inb_ok q7) rfl ?_
    have h := Option.some.inj h
    subst h
    exact g_retE a11_counted_126 trivial rfl rfl
  have h := (if_neg c18).symm.trans h
  rcases Decidable.em (x1 = 8) with c19 | c19
  · have h := (if_pos c19).symm.trans h
    refine g_tsIn (tgt := 115) (off := 114) a11_counted_1 (by rw [c19]; decide) (by rw [c19]; decide) (by rw [c19]; rfl) rfl ?_
    refine g_aload_n a11_counted_115 rfl ?_
    refine g_getf (v := .inr (.inr (22, 0))) a11_counted_116 fs11_7 rfl ?_
    refine g_iconst (v := 2) a11_counted_119 rfl ?_
    refine g_iload_n a11_counted_120 rfl ?_
    refine g_iadd a11_counted_121 ?_
    refine g_bipush (v := 6) a11_counted_122 rfl ?_
    refine g_isub a11_counted_124 ?_
    obtain ⟨q8, h⟩ := ck_inv h
    refine g_iald (x := (σ.1 22 0 (((2 + x1) - 6) : Int32).toNatClampNeg)) a11_counted_125 (rI22 (by decide)) (inb_ok q8) rfl ?_
    have h := Option.some.inj h
    subst h
    exact g_retE a11_counted_126 trivial rfl rfl
  have h := (if_neg c19).symm.trans h
  rcases Decidable.em (x1 = 9) with c20 | c20
  · have h := (if_pos c20).symm.trans h
    refine g_tsIn (tgt := 115) (off := 114) a11_counted_1 (by rw [c20]; decide) (by rw [c20]; decide) (by rw [c20]; rfl) rfl ?_
    refine g_aload_n a11_counted_115 rfl ?_
    refine g_getf (v := .inr (.inr (22, 0))) a11_counted_116 fs11_7 rfl ?_
    refine g_iconst (v := 2) a11_counted_119 rfl ?_
    refine g_iload_n a11_counted_120 rfl ?_
    refine g_iadd a11_counted_121 ?_
    refine g_bipush (v := 6) a11_counted_122 rfl ?_
    refine g_isub a11_counted_124 ?_
    obtain ⟨q9, h⟩ := ck_inv h
    refine g_iald (x := (σ.1 22 0 (((2 + x1) - 6) : Int32).toNatClampNeg)) a11_counted_125 (rI22 (by decide)) (inb_ok q9) rfl ?_
    have h := Option.some.inj h
    subst h
    exact g_retE a11_counted_126 trivial rfl rfl
  have h := (if_neg c20).symm.trans h
  rcases Decidable.em (x1 = 10) with c21 | c21
  · have h := (if_pos c21).symm.trans h
    refine g_tsIn (tgt := 110) (off := 109) a11_counted_1 (by rw [c21]; decide) (by rw [c21]; decide) (by rw [c21]; rfl) rfl ?_
    refine g_aload_n a11_counted_110 rfl ?_
    refine g_getf (v := .inl (σ.1 11 k0 12)) a11_counted_111 fs11_217 rfl ?_
    have h := Option.some.inj h
    subst h
    exact g_retE a11_counted_114 trivial rfl rfl
  have h := (if_neg c21).symm.trans h
  have tc11 := lv_neT c11 (a := 0) rfl
  have tc12 := lv_neT c12 (a := 1) rfl
  have tc13 := lv_neT c13 (a := 2) rfl
  have tc14 := lv_neT c14 (a := 3) rfl
  have tc15 := lv_neT c15 (a := 4) rfl
  have tc16 := lv_neT c16 (a := 5) rfl
  have tc17 := lv_neT c17 (a := 6) rfl
  have tc18 := lv_neT c18 (a := 7) rfl
  have tc19 := lv_neT c19 (a := 8) rfl
  have tc20 := lv_neT c20 (a := 9) rfl
  have tc21 := lv_neT c21 (a := 10) rfl
  refine g_tsOut (tgt := 115) a11_counted_1 (by omega) rfl ?_
  refine g_aload_n a11_counted_115 rfl ?_
  refine g_getf (v := .inr (.inr (22, 0))) a11_counted_116 fs11_7 rfl ?_
  refine g_iconst (v := 2) a11_counted_119 rfl ?_
  refine g_iload_n a11_counted_120 rfl ?_
  refine g_iadd a11_counted_121 ?_
  refine g_bipush (v := 6) a11_counted_122 rfl ?_
  refine g_isub a11_counted_124 ?_
  obtain ⟨q10, h⟩ := ck_inv h
  refine g_iald (x := (σ.1 22 0 (((2 + x1) - 6) : Int32).toNatClampNeg)) a11_counted_125 (rI22 (by decide)) (inb_ok q10) rfl ?_
  have h := Option.some.inj h
  subst h
  exact g_retE a11_counted_126 trivial rfl rfl
theorem a11_count_0 : At cX11_count 0 (.iload_n 1) 1 1 := ⟨by decide +kernel, rfl⟩
theorem a11_count_1 : At cX11_count 1 (.i2l) 1 2 := ⟨by decide +kernel, rfl⟩
theorem a11_count_2 : At cX11_count 2 (.lconst 0) 1 3 := ⟨by decide +kernel, rfl⟩
theorem a11_count_3 : At cX11_count 3 (.ldc2_w 195) 3 6 := ⟨by decide +kernel, rfl⟩
theorem a11_count_6 : At cX11_count 6 (.invokestatic 59) 3 9 := ⟨by decide +kernel, rfl⟩
theorem a11_count_9 : At cX11_count 9 (.ifCond .eq 11) 3 12 := ⟨by decide +kernel, rfl⟩
theorem a11_count_12 : At cX11_count 12 (.aload_n 0) 1 13 := ⟨by decide +kernel, rfl⟩
theorem a11_count_13 : At cX11_count 13 (.iload_n 1) 1 14 := ⟨by decide +kernel, rfl⟩
theorem a11_count_14 : At cX11_count 14 (.invokevirtual 283) 3 17 := ⟨by decide +kernel, rfl⟩
theorem a11_count_17 : At cX11_count 17 (.goto 9) 3 20 := ⟨by decide +kernel, rfl⟩
theorem a11_count_20 : At cX11_count 20 (.aload_n 0) 1 21 := ⟨by decide +kernel, rfl⟩
theorem a11_count_21 : At cX11_count 21 (.bipush (-2)) 2 23 := ⟨by decide +kernel, rfl⟩
theorem a11_count_23 : At cX11_count 23 (.invokevirtual 73) 3 26 := ⟨by decide +kernel, rfl⟩
theorem a11_count_26 : At cX11_count 26 (.ireturn) 1 27 := ⟨by decide +kernel, rfl⟩
def f11_count (k0 : Nat) (x1 : Int32) (σ : Mem) : Option (Int32 × Mem) :=
  if (f11_in (x1.toInt64) 0 10) = 0 then
  (lt (f11_bad k0 (-2) σ) fun w2 =>
  some (w2.1, w2.2))
  else
  (bnd (f11_counted k0 x1 σ) fun w4 =>
  some (w4, σ))
theorem E11_count {k0 : Nat} {x1 : Int32} {σ : Mem} {w : Int32 × Mem} (h : f11_count k0 x1 σ = some w) : Ev m11_count [.inr (.inr (11, k0)), .inl x1] σ (some (.inl w.1) : Option AV) w.2 := by
  unfold f11_count at h
  show Go m11_count 0 [some (.inr (.inr (11, k0))), some (.inl x1)] [] σ (some (.inl w.1) : Option AV) w.2
  refine g_iload_n a11_count_0 rfl ?_
  refine g_i2l a11_count_1 ?_
  refine g_lconst (v := 0) a11_count_2 rfl ?_
  refine g_ldc2 (v := 10) a11_count_3 wl11_195 ?_
  refine g_S3s (v1 := .inl (f11_in (x1.toInt64) 0 10)) (σ1 := σ) a11_count_6 cs11_59 (E11_in _ _ _ _) rfl (fun o1 => ?_)
  refine g_if_eq (tgt := 20) a11_count_9 rfl (fun c6 => ?_) (fun c6 => ?_)
  · have h := (if_pos c6).symm.trans h
    refine g_aload_n a11_count_20 rfl ?_
    refine g_bipush (v := (-2)) a11_count_21 rfl ?_
    obtain ⟨w2, hw2, h⟩ := lt_inv h
    refine g_V1s (v1 := .inl w2.1) (σ1 := w2.2) a11_count_23 cv11_73 (by rw [← hw2]; exact E11_bad _ _ _) rfl (fun o3 => ?_)
    have h := Option.some.inj h
    subst h
    exact g_retE a11_count_26 trivial rfl rfl
  · have h := (if_neg c6).symm.trans h
    refine g_aload_n a11_count_12 rfl ?_
    refine g_iload_n a11_count_13 rfl ?_
    obtain ⟨w4, hw4, h⟩ := bnd_inv h
    refine g_V1s (v1 := .inl w4) (σ1 := σ) a11_count_14 cv11_283 (E11_counted hw4) rfl (fun o5 => ?_)
    refine g_goto (tgt := 26) a11_count_17 rfl ?_
    have h := Option.some.inj h
    subst h
    exact g_retE a11_count_26 trivial rfl rfl
theorem a11_sums_0 : At cX11_sums 0 (.lload_n 1) 1 1 := ⟨by decide +kernel, rfl⟩
theorem a11_sums_1 : At cX11_sums 1 (.lstore 5) 2 3 := ⟨by decide +kernel, rfl⟩
theorem a11_sums_3 : At cX11_sums 3 (.iconst 0) 1 4 := ⟨by decide +kernel, rfl⟩
theorem a11_sums_4 : At cX11_sums 4 (.istore 7) 2 6 := ⟨by decide +kernel, rfl⟩
theorem a11_sums_6 : At cX11_sums 6 (.iload 7) 2 8 := ⟨by decide +kernel, rfl⟩
theorem a11_sums_8 : At cX11_sums 8 (.iload 4) 2 10 := ⟨by decide +kernel, rfl⟩
theorem a11_sums_10 : At cX11_sums 10 (.if_icmp .ge 28) 3 13 := ⟨by decide +kernel, rfl⟩
theorem a11_sums_13 : At cX11_sums 13 (.ldc2_w 286) 3 16 := ⟨by decide +kernel, rfl⟩
theorem a11_sums_16 : At cX11_sums 16 (.lload 5) 2 18 := ⟨by decide +kernel, rfl⟩
theorem a11_sums_18 : At cX11_sums 18 (.lmul) 1 19 := ⟨by decide +kernel, rfl⟩
theorem a11_sums_19 : At cX11_sums 19 (.aload_n 0) 1 20 := ⟨by decide +kernel, rfl⟩
theorem a11_sums_20 : At cX11_sums 20 (.getfield 7) 3 23 := ⟨by decide +kernel, rfl⟩
theorem a11_sums_23 : At cX11_sums 23 (.iload_n 3) 1 24 := ⟨by decide +kernel, rfl⟩
theorem a11_sums_24 : At cX11_sums 24 (.iload 7) 2 26 := ⟨by decide +kernel, rfl⟩
theorem a11_sums_26 : At cX11_sums 26 (.iadd) 1 27 := ⟨by decide +kernel, rfl⟩
theorem a11_sums_27 : At cX11_sums 27 (.iaload) 1 28 := ⟨by decide +kernel, rfl⟩
theorem a11_sums_28 : At cX11_sums 28 (.i2l) 1 29 := ⟨by decide +kernel, rfl⟩
theorem a11_sums_29 : At cX11_sums 29 (.ladd) 1 30 := ⟨by decide +kernel, rfl⟩
theorem a11_sums_30 : At cX11_sums 30 (.lstore 5) 2 32 := ⟨by decide +kernel, rfl⟩
theorem a11_sums_32 : At cX11_sums 32 (.iinc 7 1) 3 35 := ⟨by decide +kernel, rfl⟩
theorem a11_sums_35 : At cX11_sums 35 (.goto (-29)) 3 38 := ⟨by decide +kernel, rfl⟩
theorem a11_sums_38 : At cX11_sums 38 (.lload 5) 2 40 := ⟨by decide +kernel, rfl⟩
theorem a11_sums_40 : At cX11_sums 40 (.lreturn) 1 41 := ⟨by decide +kernel, rfl⟩
def l11_sums_6 (k0 : Nat) (x3 : Int32) (x4 : Int32) (σ : Mem) : Nat → Int64 → Int32 → Option (Int64 × Int32)
  | 0, _, _ => none
  | n + 1, x5, x7 =>
  if x4 ≤ x7 then
  (some (x5, x7))
  else
  (ck (inb (x3 + x7) 142) <|
  lt (((31 * x5) + (((σ.1 22 0 ((x3 + x7) : Int32).toNatClampNeg) : Int32).toInt64)) : Int64) fun y2 =>
  l11_sums_6 k0 x3 x4 σ n y2 (x7 + 1))
theorem lE11_sums_6 {V : Option AV} {S : Mem} (k0 : Nat) (x3 : Int32) (x4 : Int32) (σ : Mem) : ∀ (n : Nat) (x5 : Int64) (x7 : Int32) {w : Int64 × Int32}, l11_sums_6 k0 x3 x4 σ n x5 x7 = some w → (Go m11_sums 38 [some (.inr (.inr (11, k0))), none, none, some (.inl x3), some (.inl x4), some (.inr (.inl w.1)), none, some (.inl w.2)] [] σ V S) → Go m11_sums 6 [some (.inr (.inr (11, k0))), none, none, some (.inl x3), some (.inl x4), some (.inr (.inl x5)), none, some (.inl x7)] [] σ V S
  | 0, x5, x7, w, h, K1 => by cases h
  | n + 1, x5, x7, w, h, K1 => by
    rw [l11_sums_6] at h
    refine g_iload a11_sums_6 rfl ?_
    refine g_iload a11_sums_8 rfl ?_
    refine g_icmp_ge (tgt := 38) a11_sums_10 rfl (fun c3 => ?_) (fun c3 => ?_)
    · have h := (if_pos c3).symm.trans h
      have h := Option.some.inj h
      subst h
      exact g_weak K1 ⟨rfl, rfl, rfl, rfl, rfl, trivial⟩
    · have h := (if_neg c3).symm.trans h
      refine g_ldc2 (v := 31) a11_sums_13 wl11_286 ?_
      refine g_lload a11_sums_16 rfl ?_
      refine g_lmul a11_sums_18 ?_
      refine g_aload_n a11_sums_19 rfl ?_
      refine g_getf (v := .inr (.inr (22, 0))) a11_sums_20 fs11_7 rfl ?_
      refine g_iload_n a11_sums_23 rfl ?_
      refine g_iload a11_sums_24 rfl ?_
      refine g_iadd a11_sums_26 ?_
      obtain ⟨q1, h⟩ := ck_inv h
      refine g_iald (x := (σ.1 22 0 ((x3 + x7) : Int32).toNatClampNeg)) a11_sums_27 (rI22 (by decide)) (inb_ok q1) rfl ?_
      refine g_i2l a11_sums_28 ?_
      refine g_ladd a11_sums_29 ?_
      obtain ⟨y2, ey2, h⟩ := lt_inv h
      rw [ey2]
      refine g_lstore (L' := [some (.inr (.inr (11, k0))), none, none, some (.inl x3), some (.inl x4), some (.inr (.inl y2)), none, some (.inl x7)]) a11_sums_30 (Nat.le_of_ble_eq_true rfl) rfl rfl ?_
      refine g_iinc (v := (x7 + 1)) (L' := [some (.inr (.inr (11, k0))), none, none, some (.inl x3), some (.inl x4), some (.inr (.inl y2)), none, some (.inl (x7 + 1))]) a11_sums_32 rfl rfl (Nat.le_of_ble_eq_true rfl) rfl rfl ?_
      refine g_goto (tgt := 6) a11_sums_35 rfl ?_
      exact g_weak (lE11_sums_6 (V := V) (S := S)  k0 x3 x4 σ n _ _ h K1) ⟨rfl, rfl, rfl, rfl, rfl, trivial⟩
def f11_sums (k0 : Nat) (x1 : Int64) (x3 : Int32) (x4 : Int32) (σ : Mem) : Option (Int64) :=
  bnd (l11_sums_6 k0 x3 x4 σ 2000 x1 0) fun w4 =>
  some w4.1
theorem E11_sums {k0 : Nat} {x1 : Int64} {x3 : Int32} {x4 : Int32} {σ : Mem} {w : Int64} (h : f11_sums k0 x1 x3 x4 σ = some w) : Ev m11_sums [.inr (.inr (11, k0)), .inr (.inl x1), .inl x3, .inl x4] σ (some (.inr (.inl w)) : Option AV) σ := by
  unfold f11_sums at h
  show Go m11_sums 0 [some (.inr (.inr (11, k0))), some (.inr (.inl x1)), none, some (.inl x3), some (.inl x4), none, none, none] [] σ (some (.inr (.inl w)) : Option AV) σ
  refine g_lload_n a11_sums_0 rfl ?_
  refine g_lstore (L' := [some (.inr (.inr (11, k0))), some (.inr (.inl x1)), none, some (.inl x3), some (.inl x4), some (.inr (.inl x1)), none, none]) a11_sums_1 (Nat.le_of_ble_eq_true rfl) rfl rfl ?_
  refine g_iconst (v := 0) a11_sums_3 rfl ?_
  refine g_istore (L' := [some (.inr (.inr (11, k0))), some (.inr (.inl x1)), none, some (.inl x3), some (.inl x4), some (.inr (.inl x1)), none, some (.inl 0)]) a11_sums_4 (Nat.le_of_ble_eq_true rfl) rfl rfl ?_
  obtain ⟨w4, hw4, h⟩ := bnd_inv h
  refine g_weak (lE11_sums_6 k0 x3 x4 σ 2000 _ _ hw4 ?_) ⟨rfl, rfl, rfl, rfl, rfl, trivial⟩
  refine g_lload a11_sums_38 rfl ?_
  have h := Option.some.inj h
  subst h
  exact g_retE a11_sums_40 trivial rfl rfl
theorem a11_digest_0 : At cX11_digest 0 (.ldc2_w 288) 3 3 := ⟨by decide +kernel, rfl⟩
theorem a11_digest_3 : At cX11_digest 3 (.lstore_n 1) 1 4 := ⟨by decide +kernel, rfl⟩
theorem a11_digest_4 : At cX11_digest 4 (.iconst 0) 1 5 := ⟨by decide +kernel, rfl⟩
theorem a11_digest_5 : At cX11_digest 5 (.istore_n 3) 1 6 := ⟨by decide +kernel, rfl⟩
theorem a11_digest_6 : At cX11_digest 6 (.iload_n 3) 1 7 := ⟨by decide +kernel, rfl⟩
theorem a11_digest_7 : At cX11_digest 7 (.bipush 11) 2 9 := ⟨by decide +kernel, rfl⟩
theorem a11_digest_9 : At cX11_digest 9 (.if_icmp .ge 22) 3 12 := ⟨by decide +kernel, rfl⟩
theorem a11_digest_12 : At cX11_digest 12 (.ldc2_w 286) 3 15 := ⟨by decide +kernel, rfl⟩
theorem a11_digest_15 : At cX11_digest 15 (.lload_n 1) 1 16 := ⟨by decide +kernel, rfl⟩
theorem a11_digest_16 : At cX11_digest 16 (.lmul) 1 17 := ⟨by decide +kernel, rfl⟩
theorem a11_digest_17 : At cX11_digest 17 (.aload_n 0) 1 18 := ⟨by decide +kernel, rfl⟩
theorem a11_digest_18 : At cX11_digest 18 (.iload_n 3) 1 19 := ⟨by decide +kernel, rfl⟩
theorem a11_digest_19 : At cX11_digest 19 (.invokevirtual 283) 3 22 := ⟨by decide +kernel, rfl⟩
theorem a11_digest_22 : At cX11_digest 22 (.i2l) 1 23 := ⟨by decide +kernel, rfl⟩
theorem a11_digest_23 : At cX11_digest 23 (.ladd) 1 24 := ⟨by decide +kernel, rfl⟩
theorem a11_digest_24 : At cX11_digest 24 (.lstore_n 1) 1 25 := ⟨by decide +kernel, rfl⟩
theorem a11_digest_25 : At cX11_digest 25 (.iinc 3 1) 3 28 := ⟨by decide +kernel, rfl⟩
theorem a11_digest_28 : At cX11_digest 28 (.goto (-22)) 3 31 := ⟨by decide +kernel, rfl⟩
theorem a11_digest_31 : At cX11_digest 31 (.iconst 0) 1 32 := ⟨by decide +kernel, rfl⟩
theorem a11_digest_32 : At cX11_digest 32 (.istore_n 3) 1 33 := ⟨by decide +kernel, rfl⟩
theorem a11_digest_33 : At cX11_digest 33 (.iload_n 3) 1 34 := ⟨by decide +kernel, rfl⟩
theorem a11_digest_34 : At cX11_digest 34 (.bipush 6) 2 36 := ⟨by decide +kernel, rfl⟩
theorem a11_digest_36 : At cX11_digest 36 (.if_icmp .ge 41) 3 39 := ⟨by decide +kernel, rfl⟩
theorem a11_digest_39 : At cX11_digest 39 (.ldc2_w 286) 3 42 := ⟨by decide +kernel, rfl⟩
theorem a11_digest_42 : At cX11_digest 42 (.ldc2_w 286) 3 45 := ⟨by decide +kernel, rfl⟩
theorem a11_digest_45 : At cX11_digest 45 (.lload_n 1) 1 46 := ⟨by decide +kernel, rfl⟩
theorem a11_digest_46 : At cX11_digest 46 (.lmul) 1 47 := ⟨by decide +kernel, rfl⟩
theorem a11_digest_47 : At cX11_digest 47 (.aload_n 0) 1 48 := ⟨by decide +kernel, rfl⟩
theorem a11_digest_48 : At cX11_digest 48 (.getfield 7) 3 51 := ⟨by decide +kernel, rfl⟩
theorem a11_digest_51 : At cX11_digest 51 (.bipush 10) 2 53 := ⟨by decide +kernel, rfl⟩
theorem a11_digest_53 : At cX11_digest 53 (.iload_n 3) 1 54 := ⟨by decide +kernel, rfl⟩
theorem a11_digest_54 : At cX11_digest 54 (.iadd) 1 55 := ⟨by decide +kernel, rfl⟩
theorem a11_digest_55 : At cX11_digest 55 (.iaload) 1 56 := ⟨by decide +kernel, rfl⟩
theorem a11_digest_56 : At cX11_digest 56 (.i2l) 1 57 := ⟨by decide +kernel, rfl⟩
theorem a11_digest_57 : At cX11_digest 57 (.ladd) 1 58 := ⟨by decide +kernel, rfl⟩
theorem a11_digest_58 : At cX11_digest 58 (.lmul) 1 59 := ⟨by decide +kernel, rfl⟩
theorem a11_digest_59 : At cX11_digest 59 (.aload_n 0) 1 60 := ⟨by decide +kernel, rfl⟩
theorem a11_digest_60 : At cX11_digest 60 (.getfield 7) 3 63 := ⟨by decide +kernel, rfl⟩
theorem a11_digest_63 : At cX11_digest 63 (.bipush 16) 2 65 := ⟨by decide +kernel, rfl⟩
theorem a11_digest_65 : At cX11_digest 65 (.iload_n 3) 1 66 := ⟨by decide +kernel, rfl⟩
theorem a11_digest_66 : At cX11_digest 66 (.iadd) 1 67 := ⟨by decide +kernel, rfl⟩
theorem a11_digest_67 : At cX11_digest 67 (.iaload) 1 68 := ⟨by decide +kernel, rfl⟩
theorem a11_digest_68 : At cX11_digest 68 (.i2l) 1 69 := ⟨by decide +kernel, rfl⟩
theorem a11_digest_69 : At cX11_digest 69 (.ladd) 1 70 := ⟨by decide +kernel, rfl⟩
theorem a11_digest_70 : At cX11_digest 70 (.lstore_n 1) 1 71 := ⟨by decide +kernel, rfl⟩
theorem a11_digest_71 : At cX11_digest 71 (.iinc 3 1) 3 74 := ⟨by decide +kernel, rfl⟩
theorem a11_digest_74 : At cX11_digest 74 (.goto (-41)) 3 77 := ⟨by decide +kernel, rfl⟩
theorem a11_digest_77 : At cX11_digest 77 (.iconst 0) 1 78 := ⟨by decide +kernel, rfl⟩
theorem a11_digest_78 : At cX11_digest 78 (.istore_n 3) 1 79 := ⟨by decide +kernel, rfl⟩
theorem a11_digest_79 : At cX11_digest 79 (.iload_n 3) 1 80 := ⟨by decide +kernel, rfl⟩
theorem a11_digest_80 : At cX11_digest 80 (.aload_n 0) 1 81 := ⟨by decide +kernel, rfl⟩
theorem a11_digest_81 : At cX11_digest 81 (.invokevirtual 55) 3 84 := ⟨by decide +kernel, rfl⟩
theorem a11_digest_84 : At cX11_digest 84 (.if_icmp .ge 75) 3 87 := ⟨by decide +kernel, rfl⟩
theorem a11_digest_87 : At cX11_digest 87 (.ldc2_w 286) 3 90 := ⟨by decide +kernel, rfl⟩
theorem a11_digest_90 : At cX11_digest 90 (.ldc2_w 286) 3 93 := ⟨by decide +kernel, rfl⟩
theorem a11_digest_93 : At cX11_digest 93 (.lload_n 1) 1 94 := ⟨by decide +kernel, rfl⟩
theorem a11_digest_94 : At cX11_digest 94 (.lmul) 1 95 := ⟨by decide +kernel, rfl⟩
theorem a11_digest_95 : At cX11_digest 95 (.aload_n 0) 1 96 := ⟨by decide +kernel, rfl⟩
theorem a11_digest_96 : At cX11_digest 96 (.getfield 7) 3 99 := ⟨by decide +kernel, rfl⟩
theorem a11_digest_99 : At cX11_digest 99 (.bipush 22) 2 101 := ⟨by decide +kernel, rfl⟩
theorem a11_digest_101 : At cX11_digest 101 (.iload_n 3) 1 102 := ⟨by decide +kernel, rfl⟩
theorem a11_digest_102 : At cX11_digest 102 (.iadd) 1 103 := ⟨by decide +kernel, rfl⟩
theorem a11_digest_103 : At cX11_digest 103 (.iaload) 1 104 := ⟨by decide +kernel, rfl⟩
theorem a11_digest_104 : At cX11_digest 104 (.i2l) 1 105 := ⟨by decide +kernel, rfl⟩
theorem a11_digest_105 : At cX11_digest 105 (.ladd) 1 106 := ⟨by decide +kernel, rfl⟩
theorem a11_digest_106 : At cX11_digest 106 (.lmul) 1 107 := ⟨by decide +kernel, rfl⟩
theorem a11_digest_107 : At cX11_digest 107 (.aload_n 0) 1 108 := ⟨by decide +kernel, rfl⟩
theorem a11_digest_108 : At cX11_digest 108 (.getfield 7) 3 111 := ⟨by decide +kernel, rfl⟩
theorem a11_digest_111 : At cX11_digest 111 (.bipush 28) 2 113 := ⟨by decide +kernel, rfl⟩
theorem a11_digest_113 : At cX11_digest 113 (.iload_n 3) 1 114 := ⟨by decide +kernel, rfl⟩
theorem a11_digest_114 : At cX11_digest 114 (.iadd) 1 115 := ⟨by decide +kernel, rfl⟩
theorem a11_digest_115 : At cX11_digest 115 (.iaload) 1 116 := ⟨by decide +kernel, rfl⟩
theorem a11_digest_116 : At cX11_digest 116 (.i2l) 1 117 := ⟨by decide +kernel, rfl⟩
theorem a11_digest_117 : At cX11_digest 117 (.ladd) 1 118 := ⟨by decide +kernel, rfl⟩
theorem a11_digest_118 : At cX11_digest 118 (.lstore_n 1) 1 119 := ⟨by decide +kernel, rfl⟩
theorem a11_digest_119 : At cX11_digest 119 (.ldc2_w 286) 3 122 := ⟨by decide +kernel, rfl⟩
theorem a11_digest_122 : At cX11_digest 122 (.ldc2_w 286) 3 125 := ⟨by decide +kernel, rfl⟩
theorem a11_digest_125 : At cX11_digest 125 (.lload_n 1) 1 126 := ⟨by decide +kernel, rfl⟩
theorem a11_digest_126 : At cX11_digest 126 (.lmul) 1 127 := ⟨by decide +kernel, rfl⟩
theorem a11_digest_127 : At cX11_digest 127 (.aload_n 0) 1 128 := ⟨by decide +kernel, rfl⟩
theorem a11_digest_128 : At cX11_digest 128 (.getfield 7) 3 131 := ⟨by decide +kernel, rfl⟩
theorem a11_digest_131 : At cX11_digest 131 (.bipush 34) 2 133 := ⟨by decide +kernel, rfl⟩
theorem a11_digest_133 : At cX11_digest 133 (.iload_n 3) 1 134 := ⟨by decide +kernel, rfl⟩
theorem a11_digest_134 : At cX11_digest 134 (.iadd) 1 135 := ⟨by decide +kernel, rfl⟩
theorem a11_digest_135 : At cX11_digest 135 (.iaload) 1 136 := ⟨by decide +kernel, rfl⟩
theorem a11_digest_136 : At cX11_digest 136 (.i2l) 1 137 := ⟨by decide +kernel, rfl⟩
theorem a11_digest_137 : At cX11_digest 137 (.ladd) 1 138 := ⟨by decide +kernel, rfl⟩
theorem a11_digest_138 : At cX11_digest 138 (.lmul) 1 139 := ⟨by decide +kernel, rfl⟩
theorem a11_digest_139 : At cX11_digest 139 (.aload_n 0) 1 140 := ⟨by decide +kernel, rfl⟩
theorem a11_digest_140 : At cX11_digest 140 (.getfield 7) 3 143 := ⟨by decide +kernel, rfl⟩
theorem a11_digest_143 : At cX11_digest 143 (.bipush 6) 2 145 := ⟨by decide +kernel, rfl⟩
theorem a11_digest_145 : At cX11_digest 145 (.iaload) 1 146 := ⟨by decide +kernel, rfl⟩
theorem a11_digest_146 : At cX11_digest 146 (.iload_n 3) 1 147 := ⟨by decide +kernel, rfl⟩
theorem a11_digest_147 : At cX11_digest 147 (.ishr) 1 148 := ⟨by decide +kernel, rfl⟩
theorem a11_digest_148 : At cX11_digest 148 (.iconst 1) 1 149 := ⟨by decide +kernel, rfl⟩
theorem a11_digest_149 : At cX11_digest 149 (.iand) 1 150 := ⟨by decide +kernel, rfl⟩
theorem a11_digest_150 : At cX11_digest 150 (.i2l) 1 151 := ⟨by decide +kernel, rfl⟩
theorem a11_digest_151 : At cX11_digest 151 (.ladd) 1 152 := ⟨by decide +kernel, rfl⟩
theorem a11_digest_152 : At cX11_digest 152 (.lstore_n 1) 1 153 := ⟨by decide +kernel, rfl⟩
theorem a11_digest_153 : At cX11_digest 153 (.iinc 3 1) 3 156 := ⟨by decide +kernel, rfl⟩
theorem a11_digest_156 : At cX11_digest 156 (.goto (-77)) 3 159 := ⟨by decide +kernel, rfl⟩
theorem a11_digest_159 : At cX11_digest 159 (.iconst 0) 1 160 := ⟨by decide +kernel, rfl⟩
theorem a11_digest_160 : At cX11_digest 160 (.istore_n 3) 1 161 := ⟨by decide +kernel, rfl⟩
theorem a11_digest_161 : At cX11_digest 161 (.iload_n 3) 1 162 := ⟨by decide +kernel, rfl⟩
theorem a11_digest_162 : At cX11_digest 162 (.aload_n 0) 1 163 := ⟨by decide +kernel, rfl⟩
theorem a11_digest_163 : At cX11_digest 163 (.getfield 7) 3 166 := ⟨by decide +kernel, rfl⟩
theorem a11_digest_166 : At cX11_digest 166 (.iconst 1) 1 167 := ⟨by decide +kernel, rfl⟩
theorem a11_digest_167 : At cX11_digest 167 (.iaload) 1 168 := ⟨by decide +kernel, rfl⟩
theorem a11_digest_168 : At cX11_digest 168 (.if_icmp .ge 43) 3 171 := ⟨by decide +kernel, rfl⟩
theorem a11_digest_171 : At cX11_digest 171 (.ldc2_w 286) 3 174 := ⟨by decide +kernel, rfl⟩
theorem a11_digest_174 : At cX11_digest 174 (.ldc2_w 286) 3 177 := ⟨by decide +kernel, rfl⟩
theorem a11_digest_177 : At cX11_digest 177 (.lload_n 1) 1 178 := ⟨by decide +kernel, rfl⟩
theorem a11_digest_178 : At cX11_digest 178 (.lmul) 1 179 := ⟨by decide +kernel, rfl⟩
theorem a11_digest_179 : At cX11_digest 179 (.aload_n 0) 1 180 := ⟨by decide +kernel, rfl⟩
theorem a11_digest_180 : At cX11_digest 180 (.getfield 7) 3 183 := ⟨by decide +kernel, rfl⟩
theorem a11_digest_183 : At cX11_digest 183 (.bipush 40) 2 185 := ⟨by decide +kernel, rfl⟩
theorem a11_digest_185 : At cX11_digest 185 (.iload_n 3) 1 186 := ⟨by decide +kernel, rfl⟩
theorem a11_digest_186 : At cX11_digest 186 (.iadd) 1 187 := ⟨by decide +kernel, rfl⟩
theorem a11_digest_187 : At cX11_digest 187 (.iaload) 1 188 := ⟨by decide +kernel, rfl⟩
theorem a11_digest_188 : At cX11_digest 188 (.i2l) 1 189 := ⟨by decide +kernel, rfl⟩
theorem a11_digest_189 : At cX11_digest 189 (.ladd) 1 190 := ⟨by decide +kernel, rfl⟩
theorem a11_digest_190 : At cX11_digest 190 (.lmul) 1 191 := ⟨by decide +kernel, rfl⟩
theorem a11_digest_191 : At cX11_digest 191 (.aload_n 0) 1 192 := ⟨by decide +kernel, rfl⟩
theorem a11_digest_192 : At cX11_digest 192 (.getfield 7) 3 195 := ⟨by decide +kernel, rfl⟩
theorem a11_digest_195 : At cX11_digest 195 (.bipush 7) 2 197 := ⟨by decide +kernel, rfl⟩
theorem a11_digest_197 : At cX11_digest 197 (.iaload) 1 198 := ⟨by decide +kernel, rfl⟩
theorem a11_digest_198 : At cX11_digest 198 (.iload_n 3) 1 199 := ⟨by decide +kernel, rfl⟩
theorem a11_digest_199 : At cX11_digest 199 (.ishr) 1 200 := ⟨by decide +kernel, rfl⟩
theorem a11_digest_200 : At cX11_digest 200 (.iconst 1) 1 201 := ⟨by decide +kernel, rfl⟩
theorem a11_digest_201 : At cX11_digest 201 (.iand) 1 202 := ⟨by decide +kernel, rfl⟩
theorem a11_digest_202 : At cX11_digest 202 (.i2l) 1 203 := ⟨by decide +kernel, rfl⟩
theorem a11_digest_203 : At cX11_digest 203 (.ladd) 1 204 := ⟨by decide +kernel, rfl⟩
theorem a11_digest_204 : At cX11_digest 204 (.lstore_n 1) 1 205 := ⟨by decide +kernel, rfl⟩
theorem a11_digest_205 : At cX11_digest 205 (.iinc 3 1) 3 208 := ⟨by decide +kernel, rfl⟩
theorem a11_digest_208 : At cX11_digest 208 (.goto (-47)) 3 211 := ⟨by decide +kernel, rfl⟩
theorem a11_digest_211 : At cX11_digest 211 (.aload_n 0) 1 212 := ⟨by decide +kernel, rfl⟩
theorem a11_digest_212 : At cX11_digest 212 (.lload_n 1) 1 213 := ⟨by decide +kernel, rfl⟩
theorem a11_digest_213 : At cX11_digest 213 (.bipush 46) 2 215 := ⟨by decide +kernel, rfl⟩
theorem a11_digest_215 : At cX11_digest 215 (.iconst 2) 1 216 := ⟨by decide +kernel, rfl⟩
theorem a11_digest_216 : At cX11_digest 216 (.aload_n 0) 1 217 := ⟨by decide +kernel, rfl⟩
theorem a11_digest_217 : At cX11_digest 217 (.getfield 7) 3 220 := ⟨by decide +kernel, rfl⟩
theorem a11_digest_220 : At cX11_digest 220 (.iconst 2) 1 221 := ⟨by decide +kernel, rfl⟩
theorem a11_digest_221 : At cX11_digest 221 (.iaload) 1 222 := ⟨by decide +kernel, rfl⟩
theorem a11_digest_222 : At cX11_digest 222 (.imul) 1 223 := ⟨by decide +kernel, rfl⟩
theorem a11_digest_223 : At cX11_digest 223 (.invokevirtual 290) 3 226 := ⟨by decide +kernel, rfl⟩
theorem a11_digest_226 : At cX11_digest 226 (.lstore_n 1) 1 227 := ⟨by decide +kernel, rfl⟩
theorem a11_digest_227 : At cX11_digest 227 (.aload_n 0) 1 228 := ⟨by decide +kernel, rfl⟩
theorem a11_digest_228 : At cX11_digest 228 (.lload_n 1) 1 229 := ⟨by decide +kernel, rfl⟩
theorem a11_digest_229 : At cX11_digest 229 (.bipush 56) 2 231 := ⟨by decide +kernel, rfl⟩
theorem a11_digest_231 : At cX11_digest 231 (.iconst 5) 1 232 := ⟨by decide +kernel, rfl⟩
theorem a11_digest_232 : At cX11_digest 232 (.aload_n 0) 1 233 := ⟨by decide +kernel, rfl⟩
theorem a11_digest_233 : At cX11_digest 233 (.getfield 7) 3 236 := ⟨by decide +kernel, rfl⟩
theorem a11_digest_236 : At cX11_digest 236 (.iconst 3) 1 237 := ⟨by decide +kernel, rfl⟩
theorem a11_digest_237 : At cX11_digest 237 (.iaload) 1 238 := ⟨by decide +kernel, rfl⟩
theorem a11_digest_238 : At cX11_digest 238 (.imul) 1 239 := ⟨by decide +kernel, rfl⟩
theorem a11_digest_239 : At cX11_digest 239 (.invokevirtual 290) 3 242 := ⟨by decide +kernel, rfl⟩
theorem a11_digest_242 : At cX11_digest 242 (.lstore_n 1) 1 243 := ⟨by decide +kernel, rfl⟩
theorem a11_digest_243 : At cX11_digest 243 (.aload_n 0) 1 244 := ⟨by decide +kernel, rfl⟩
theorem a11_digest_244 : At cX11_digest 244 (.lload_n 1) 1 245 := ⟨by decide +kernel, rfl⟩
theorem a11_digest_245 : At cX11_digest 245 (.bipush 86) 2 247 := ⟨by decide +kernel, rfl⟩
theorem a11_digest_247 : At cX11_digest 247 (.iconst 4) 1 248 := ⟨by decide +kernel, rfl⟩
theorem a11_digest_248 : At cX11_digest 248 (.aload_n 0) 1 249 := ⟨by decide +kernel, rfl⟩
theorem a11_digest_249 : At cX11_digest 249 (.getfield 7) 3 252 := ⟨by decide +kernel, rfl⟩
theorem a11_digest_252 : At cX11_digest 252 (.iconst 4) 1 253 := ⟨by decide +kernel, rfl⟩
theorem a11_digest_253 : At cX11_digest 253 (.iaload) 1 254 := ⟨by decide +kernel, rfl⟩
theorem a11_digest_254 : At cX11_digest 254 (.imul) 1 255 := ⟨by decide +kernel, rfl⟩
theorem a11_digest_255 : At cX11_digest 255 (.invokevirtual 290) 3 258 := ⟨by decide +kernel, rfl⟩
theorem a11_digest_258 : At cX11_digest 258 (.lstore_n 1) 1 259 := ⟨by decide +kernel, rfl⟩
theorem a11_digest_259 : At cX11_digest 259 (.ldc2_w 286) 3 262 := ⟨by decide +kernel, rfl⟩
theorem a11_digest_262 : At cX11_digest 262 (.ldc2_w 286) 3 265 := ⟨by decide +kernel, rfl⟩
theorem a11_digest_265 : At cX11_digest 265 (.lload_n 1) 1 266 := ⟨by decide +kernel, rfl⟩
theorem a11_digest_266 : At cX11_digest 266 (.lmul) 1 267 := ⟨by decide +kernel, rfl⟩
theorem a11_digest_267 : At cX11_digest 267 (.aload_n 0) 1 268 := ⟨by decide +kernel, rfl⟩
theorem a11_digest_268 : At cX11_digest 268 (.getfield 192) 3 271 := ⟨by decide +kernel, rfl⟩
theorem a11_digest_271 : At cX11_digest 271 (.ladd) 1 272 := ⟨by decide +kernel, rfl⟩
theorem a11_digest_272 : At cX11_digest 272 (.lmul) 1 273 := ⟨by decide +kernel, rfl⟩
theorem a11_digest_273 : At cX11_digest 273 (.aload_n 0) 1 274 := ⟨by decide +kernel, rfl⟩
theorem a11_digest_274 : At cX11_digest 274 (.getfield 23) 3 277 := ⟨by decide +kernel, rfl⟩
theorem a11_digest_277 : At cX11_digest 277 (.ladd) 1 278 := ⟨by decide +kernel, rfl⟩
theorem a11_digest_278 : At cX11_digest 278 (.lreturn) 1 279 := ⟨by decide +kernel, rfl⟩
def l11_digest_6 (k0 : Nat) (σ : Mem) : Nat → Int64 → Int32 → Option (Int64 × Int32)
  | 0, _, _ => none
  | n + 1, x1, x3 =>
  if 11 ≤ x3 then
  (some (x1, x3))
  else
  (bnd (f11_counted k0 x3 σ) fun w1 =>
  l11_digest_6 k0 σ n ((31 * x1) + (w1.toInt64)) (x3 + 1))
theorem lE11_digest_6 {V : Option AV} {S : Mem} (k0 : Nat) (σ : Mem) : ∀ (n : Nat) (x1 : Int64) (x3 : Int32) {w : Int64 × Int32}, l11_digest_6 k0 σ n x1 x3 = some w → (Go m11_digest 31 [some (.inr (.inr (11, k0))), some (.inr (.inl w.1)), none, some (.inl w.2)] [] σ V S) → Go m11_digest 6 [some (.inr (.inr (11, k0))), some (.inr (.inl x1)), none, some (.inl x3)] [] σ V S
  | 0, x1, x3, w, h, K1 => by cases h
  | n + 1, x1, x3, w, h, K1 => by
    rw [l11_digest_6] at h
    refine g_iload_n a11_digest_6 rfl ?_
    refine g_bipush (v := 11) a11_digest_7 rfl ?_
    refine g_icmp_ge (tgt := 31) a11_digest_9 rfl (fun c3 => ?_) (fun c3 => ?_)
    · have h := (if_pos c3).symm.trans h
      have h := Option.some.inj h
      subst h
      exact g_weak K1 ⟨rfl, rfl, rfl, trivial⟩
    · have h := (if_neg c3).symm.trans h
      refine g_ldc2 (v := 31) a11_digest_12 wl11_286 ?_
      refine g_lload_n a11_digest_15 rfl ?_
      refine g_lmul a11_digest_16 ?_
      refine g_aload_n a11_digest_17 rfl ?_
      refine g_iload_n a11_digest_18 rfl ?_
      obtain ⟨w1, hw1, h⟩ := bnd_inv h
      refine g_V1s (v1 := .inl w1) (σ1 := σ) a11_digest_19 cv11_283 (E11_counted hw1) rfl (fun o2 => ?_)
      refine g_i2l a11_digest_22 ?_
      refine g_ladd a11_digest_23 ?_
      refine g_lstore_n (L' := [some (.inr (.inr (11, k0))), some (.inr (.inl ((31 * x1) + (w1.toInt64)))), none, some (.inl x3)]) a11_digest_24 (Nat.le_of_ble_eq_true rfl) rfl rfl ?_
      refine g_iinc (v := (x3 + 1)) (L' := [some (.inr (.inr (11, k0))), some (.inr (.inl ((31 * x1) + (w1.toInt64)))), none, some (.inl (x3 + 1))]) a11_digest_25 rfl rfl (Nat.le_of_ble_eq_true rfl) rfl rfl ?_
      refine g_goto (tgt := 6) a11_digest_28 rfl ?_
      exact g_weak (lE11_digest_6 (V := V) (S := S)  k0 σ n _ _ h K1) ⟨rfl, rfl, rfl, trivial⟩
def l11_digest_33 (k0 : Nat) (σ : Mem) : Nat → Int64 → Int32 → Option (Int64 × Int32)
  | 0, _, _ => none
  | n + 1, x1, x3 =>
  if 6 ≤ x3 then
  (some (x1, x3))
  else
  (ck (inb (10 + x3) 142) <|
  ck (inb (16 + x3) 142) <|
  lt (((31 * ((31 * x1) + (((σ.1 22 0 ((10 + x3) : Int32).toNatClampNeg) : Int32).toInt64))) + (((σ.1 22 0 ((16 + x3) : Int32).toNatClampNeg) : Int32).toInt64)) : Int64) fun y7 =>
  l11_digest_33 k0 σ n y7 (x3 + 1))
theorem lE11_digest_33 {V : Option AV} {S : Mem} (k0 : Nat) (σ : Mem) : ∀ (n : Nat) (x1 : Int64) (x3 : Int32) {w : Int64 × Int32}, l11_digest_33 k0 σ n x1 x3 = some w → (Go m11_digest 77 [some (.inr (.inr (11, k0))), some (.inr (.inl w.1)), none, some (.inl w.2)] [] σ V S) → Go m11_digest 33 [some (.inr (.inr (11, k0))), some (.inr (.inl x1)), none, some (.inl x3)] [] σ V S
  | 0, x1, x3, w, h, K1 => by cases h
  | n + 1, x1, x3, w, h, K1 => by
    rw [l11_digest_33] at h
    refine g_iload_n a11_digest_33 rfl ?_
    refine g_bipush (v := 6) a11_digest_34 rfl ?_
    refine g_icmp_ge (tgt := 77) a11_digest_36 rfl (fun c8 => ?_) (fun c8 => ?_)
    · have h := (if_pos c8).symm.trans h
      have h := Option.some.inj h
      subst h
      exact g_weak K1 ⟨rfl, rfl, rfl, trivial⟩
    · have h := (if_neg c8).symm.trans h
      refine g_ldc2 (v := 31) a11_digest_39 wl11_286 ?_
      refine g_ldc2 (v := 31) a11_digest_42 wl11_286 ?_
      refine g_lload_n a11_digest_45 rfl ?_
      refine g_lmul a11_digest_46 ?_
      refine g_aload_n a11_digest_47 rfl ?_
      refine g_getf (v := .inr (.inr (22, 0))) a11_digest_48 fs11_7 rfl ?_
      refine g_bipush (v := 10) a11_digest_51 rfl ?_
      refine g_iload_n a11_digest_53 rfl ?_
      refine g_iadd a11_digest_54 ?_
      obtain ⟨q5, h⟩ := ck_inv h
      refine g_iald (x := (σ.1 22 0 ((10 + x3) : Int32).toNatClampNeg)) a11_digest_55 (rI22 (by decide)) (inb_ok q5) rfl ?_
      refine g_i2l a11_digest_56 ?_
      refine g_ladd a11_digest_57 ?_
      refine g_lmul a11_digest_58 ?_
      refine g_aload_n a11_digest_59 rfl ?_
      refine g_getf (v := .inr (.inr (22, 0))) a11_digest_60 fs11_7 rfl ?_
      refine g_bipush (v := 16) a11_digest_63 rfl ?_
      refine g_iload_n a11_digest_65 rfl ?_
      refine g_iadd a11_digest_66 ?_
      obtain ⟨q6, h⟩ := ck_inv h
      refine g_iald (x := (σ.1 22 0 ((16 + x3) : Int32).toNatClampNeg)) a11_digest_67 (rI22 (by decide)) (inb_ok q6) rfl ?_
      refine g_i2l a11_digest_68 ?_
      refine g_ladd a11_digest_69 ?_
      obtain ⟨y7, ey7, h⟩ := lt_inv h
      rw [ey7]
      refine g_lstore_n (L' := [some (.inr (.inr (11, k0))), some (.inr (.inl y7)), none, some (.inl x3)]) a11_digest_70 (Nat.le_of_ble_eq_true rfl) rfl rfl ?_
      refine g_iinc (v := (x3 + 1)) (L' := [some (.inr (.inr (11, k0))), some (.inr (.inl y7)), none, some (.inl (x3 + 1))]) a11_digest_71 rfl rfl (Nat.le_of_ble_eq_true rfl) rfl rfl ?_
      refine g_goto (tgt := 33) a11_digest_74 rfl ?_
      exact g_weak (lE11_digest_33 (V := V) (S := S)  k0 σ n _ _ h K1) ⟨rfl, rfl, rfl, trivial⟩
def l11_digest_79 (k0 : Nat) (σ : Mem) : Nat → Int64 → Int32 → Option (Int64 × Int32)
  | 0, _, _ => none
  | n + 1, x1, x3 =>
  if (f11_many k0 σ) ≤ x3 then
  (some (x1, x3))
  else
  (ck (inb (22 + x3) 142) <|
  ck (inb (28 + x3) 142) <|
  lt (((31 * ((31 * x1) + (((σ.1 22 0 ((22 + x3) : Int32).toNatClampNeg) : Int32).toInt64))) + (((σ.1 22 0 ((28 + x3) : Int32).toNatClampNeg) : Int32).toInt64)) : Int64) fun y13 =>
  ck (inb (34 + x3) 142) <|
  lt (((31 * ((31 * y13) + (((σ.1 22 0 ((34 + x3) : Int32).toNatClampNeg) : Int32).toInt64))) + (((((σ.1 22 0 6) >>> (x3 &&& 31)) &&& 1) : Int32).toInt64)) : Int64) fun y15 =>
  l11_digest_79 k0 σ n y15 (x3 + 1))
theorem lE11_digest_79 {V : Option AV} {S : Mem} (k0 : Nat) (σ : Mem) : ∀ (n : Nat) (x1 : Int64) (x3 : Int32) {w : Int64 × Int32}, l11_digest_79 k0 σ n x1 x3 = some w → (Go m11_digest 159 [some (.inr (.inr (11, k0))), some (.inr (.inl w.1)), none, some (.inl w.2)] [] σ V S) → Go m11_digest 79 [some (.inr (.inr (11, k0))), some (.inr (.inl x1)), none, some (.inl x3)] [] σ V S
  | 0, x1, x3, w, h, K1 => by cases h
  | n + 1, x1, x3, w, h, K1 => by
    rw [l11_digest_79] at h
    refine g_iload_n a11_digest_79 rfl ?_
    refine g_aload_n a11_digest_80 rfl ?_
    refine g_V0s (v1 := .inl (f11_many k0 σ)) (σ1 := σ) a11_digest_81 cv11_55 (E11_many _ _) rfl (fun o10 => ?_)
    refine g_icmp_ge (tgt := 159) a11_digest_84 rfl (fun c16 => ?_) (fun c16 => ?_)
    · have h := (if_pos c16).symm.trans h
      have h := Option.some.inj h
      subst h
      exact g_weak K1 ⟨rfl, rfl, rfl, trivial⟩
    · have h := (if_neg c16).symm.trans h
      refine g_ldc2 (v := 31) a11_digest_87 wl11_286 ?_
      refine g_ldc2 (v := 31) a11_digest_90 wl11_286 ?_
      refine g_lload_n a11_digest_93 rfl ?_
      refine g_lmul a11_digest_94 ?_
      refine g_aload_n a11_digest_95 rfl ?_
      refine g_getf (v := .inr (.inr (22, 0))) a11_digest_96 fs11_7 rfl ?_
      refine g_bipush (v := 22) a11_digest_99 rfl ?_
      refine g_iload_n a11_digest_101 rfl ?_
      refine g_iadd a11_digest_102 ?_
      obtain ⟨q11, h⟩ := ck_inv h
      refine g_iald (x := (σ.1 22 0 ((22 + x3) : Int32).toNatClampNeg)) a11_digest_103 (rI22 (by decide)) (inb_ok q11) rfl ?_
      refine g_i2l a11_digest_104 ?_
      refine g_ladd a11_digest_105 ?_
      refine g_lmul a11_digest_106 ?_
      refine g_aload_n a11_digest_107 rfl ?_
      refine g_getf (v := .inr (.inr (22, 0))) a11_digest_108 fs11_7 rfl ?_
      refine g_bipush (v := 28) a11_digest_111 rfl ?_
      refine g_iload_n a11_digest_113 rfl ?_
      refine g_iadd a11_digest_114 ?_
      obtain ⟨q12, h⟩ := ck_inv h
      refine g_iald (x := (σ.1 22 0 ((28 + x3) : Int32).toNatClampNeg)) a11_digest_115 (rI22 (by decide)) (inb_ok q12) rfl ?_
      refine g_i2l a11_digest_116 ?_
      refine g_ladd a11_digest_117 ?_
      obtain ⟨y13, ey13, h⟩ := lt_inv h
      rw [ey13]
      refine g_lstore_n (L' := [some (.inr (.inr (11, k0))), some (.inr (.inl y13)), none, some (.inl x3)]) a11_digest_118 (Nat.le_of_ble_eq_true rfl) rfl rfl ?_
      refine g_ldc2 (v := 31) a11_digest_119 wl11_286 ?_
      refine g_ldc2 (v := 31) a11_digest_122 wl11_286 ?_
      refine g_lload_n a11_digest_125 rfl ?_
      refine g_lmul a11_digest_126 ?_
      refine g_aload_n a11_digest_127 rfl ?_
      refine g_getf (v := .inr (.inr (22, 0))) a11_digest_128 fs11_7 rfl ?_
      refine g_bipush (v := 34) a11_digest_131 rfl ?_
      refine g_iload_n a11_digest_133 rfl ?_
      refine g_iadd a11_digest_134 ?_
      obtain ⟨q14, h⟩ := ck_inv h
      refine g_iald (x := (σ.1 22 0 ((34 + x3) : Int32).toNatClampNeg)) a11_digest_135 (rI22 (by decide)) (inb_ok q14) rfl ?_
      refine g_i2l a11_digest_136 ?_
      refine g_ladd a11_digest_137 ?_
      refine g_lmul a11_digest_138 ?_
      refine g_aload_n a11_digest_139 rfl ?_
      refine g_getf (v := .inr (.inr (22, 0))) a11_digest_140 fs11_7 rfl ?_
      refine g_bipush (v := 6) a11_digest_143 rfl ?_
      refine g_iald (x := (σ.1 22 0 6)) a11_digest_145 (rI22 (by decide)) (inb_ok (by decide)) rfl ?_
      refine g_iload_n a11_digest_146 rfl ?_
      refine g_ishr a11_digest_147 ?_
      refine g_iconst (v := 1) a11_digest_148 rfl ?_
      refine g_iand a11_digest_149 ?_
      refine g_i2l a11_digest_150 ?_
      refine g_ladd a11_digest_151 ?_
      obtain ⟨y15, ey15, h⟩ := lt_inv h
      rw [ey15]
      refine g_lstore_n (L' := [some (.inr (.inr (11, k0))), some (.inr (.inl y15)), none, some (.inl x3)]) a11_digest_152 (Nat.le_of_ble_eq_true rfl) rfl rfl ?_
      refine g_iinc (v := (x3 + 1)) (L' := [some (.inr (.inr (11, k0))), some (.inr (.inl y15)), none, some (.inl (x3 + 1))]) a11_digest_153 rfl rfl (Nat.le_of_ble_eq_true rfl) rfl rfl ?_
      refine g_goto (tgt := 79) a11_digest_156 rfl ?_
      exact g_weak (lE11_digest_79 (V := V) (S := S)  k0 σ n _ _ h K1) ⟨rfl, rfl, rfl, trivial⟩
def l11_digest_161 (k0 : Nat) (σ : Mem) : Nat → Int64 → Int32 → Option (Int64 × Int32)
  | 0, _, _ => none
  | n + 1, x1, x3 =>
  if (σ.1 22 0 1) ≤ x3 then
  (some (x1, x3))
  else
  (ck (inb (40 + x3) 142) <|
  lt (((31 * ((31 * x1) + (((σ.1 22 0 ((40 + x3) : Int32).toNatClampNeg) : Int32).toInt64))) + (((((σ.1 22 0 7) >>> (x3 &&& 31)) &&& 1) : Int32).toInt64)) : Int64) fun y19 =>
  l11_digest_161 k0 σ n y19 (x3 + 1))
theorem lE11_digest_161 {V : Option AV} {S : Mem} (k0 : Nat) (σ : Mem) : ∀ (n : Nat) (x1 : Int64) (x3 : Int32) {w : Int64 × Int32}, l11_digest_161 k0 σ n x1 x3 = some w → (Go m11_digest 211 [some (.inr (.inr (11, k0))), some (.inr (.inl w.1)), none, some (.inl w.2)] [] σ V S) → Go m11_digest 161 [some (.inr (.inr (11, k0))), some (.inr (.inl x1)), none, some (.inl x3)] [] σ V S
  | 0, x1, x3, w, h, K1 => by cases h
  | n + 1, x1, x3, w, h, K1 => by
    rw [l11_digest_161] at h
    refine g_iload_n a11_digest_161 rfl ?_
    refine g_aload_n a11_digest_162 rfl ?_
    refine g_getf (v := .inr (.inr (22, 0))) a11_digest_163 fs11_7 rfl ?_
    refine g_iconst (v := 1) a11_digest_166 rfl ?_
    refine g_iald (x := (σ.1 22 0 1)) a11_digest_167 (rI22 (by decide)) (inb_ok (by decide)) rfl ?_
    refine g_icmp_ge (tgt := 211) a11_digest_168 rfl (fun c20 => ?_) (fun c20 => ?_)
    · have h := (if_pos c20).symm.trans h
      have h := Option.some.inj h
      subst h
      exact g_weak K1 ⟨rfl, rfl, rfl, trivial⟩
    · have h := (if_neg c20).symm.trans h
      refine g_ldc2 (v := 31) a11_digest_171 wl11_286 ?_
      refine g_ldc2 (v := 31) a11_digest_174 wl11_286 ?_
      refine g_lload_n a11_digest_177 rfl ?_
      refine g_lmul a11_digest_178 ?_
      refine g_aload_n a11_digest_179 rfl ?_
      refine g_getf (v := .inr (.inr (22, 0))) a11_digest_180 fs11_7 rfl ?_
      refine g_bipush (v := 40) a11_digest_183 rfl ?_
      refine g_iload_n a11_digest_185 rfl ?_
      refine g_iadd a11_digest_186 ?_
      obtain ⟨q18, h⟩ := ck_inv h
      refine g_iald (x := (σ.1 22 0 ((40 + x3) : Int32).toNatClampNeg)) a11_digest_187 (rI22 (by decide)) (inb_ok q18) rfl ?_
      refine g_i2l a11_digest_188 ?_
      refine g_ladd a11_digest_189 ?_
      refine g_lmul a11_digest_190 ?_
      refine g_aload_n a11_digest_191 rfl ?_
      refine g_getf (v := .inr (.inr (22, 0))) a11_digest_192 fs11_7 rfl ?_
      refine g_bipush (v := 7) a11_digest_195 rfl ?_
      refine g_iald (x := (σ.1 22 0 7)) a11_digest_197 (rI22 (by decide)) (inb_ok (by decide)) rfl ?_
      refine g_iload_n a11_digest_198 rfl ?_
      refine g_ishr a11_digest_199 ?_
      refine g_iconst (v := 1) a11_digest_200 rfl ?_
      refine g_iand a11_digest_201 ?_
      refine g_i2l a11_digest_202 ?_
      refine g_ladd a11_digest_203 ?_
      obtain ⟨y19, ey19, h⟩ := lt_inv h
      rw [ey19]
      refine g_lstore_n (L' := [some (.inr (.inr (11, k0))), some (.inr (.inl y19)), none, some (.inl x3)]) a11_digest_204 (Nat.le_of_ble_eq_true rfl) rfl rfl ?_
      refine g_iinc (v := (x3 + 1)) (L' := [some (.inr (.inr (11, k0))), some (.inr (.inl y19)), none, some (.inl (x3 + 1))]) a11_digest_205 rfl rfl (Nat.le_of_ble_eq_true rfl) rfl rfl ?_
      refine g_goto (tgt := 161) a11_digest_208 rfl ?_
      exact g_weak (lE11_digest_161 (V := V) (S := S)  k0 σ n _ _ h K1) ⟨rfl, rfl, rfl, trivial⟩
def f11_digest (k0 : Nat) (σ : Mem) : Option (Int64) :=
  bnd (l11_digest_6 k0 σ 2000 1621 0) fun w4 =>
  bnd (l11_digest_33 k0 σ 2000 w4.1 0) fun w9 =>
  bnd (l11_digest_79 k0 σ 2000 w9.1 0) fun w17 =>
  bnd (l11_digest_161 k0 σ 2000 w17.1 0) fun w21 =>
  bnd (f11_sums k0 w21.1 46 (2 * (σ.1 22 0 2)) σ) fun w22 =>
  bnd (f11_sums k0 w22 56 (5 * (σ.1 22 0 3)) σ) fun w24 =>
  bnd (f11_sums k0 w24 86 (4 * (σ.1 22 0 4)) σ) fun w26 =>
  some ((31 * ((31 * w26) + (σ.2 11 k0 4))) + (σ.2 11 k0 5))
theorem E11_digest {k0 : Nat} {σ : Mem} {w : Int64} (h : f11_digest k0 σ = some w) : Ev m11_digest [.inr (.inr (11, k0))] σ (some (.inr (.inl w)) : Option AV) σ := by
  unfold f11_digest at h
  show Go m11_digest 0 [some (.inr (.inr (11, k0))), none, none, none] [] σ (some (.inr (.inl w)) : Option AV) σ
  refine g_ldc2 (v := 1621) a11_digest_0 wl11_288 ?_
  refine g_lstore_n (L' := [some (.inr (.inr (11, k0))), some (.inr (.inl 1621)), none, none]) a11_digest_3 (Nat.le_of_ble_eq_true rfl) rfl rfl ?_
  refine g_iconst (v := 0) a11_digest_4 rfl ?_
  refine g_istore_n (L' := [some (.inr (.inr (11, k0))), some (.inr (.inl 1621)), none, some (.inl 0)]) a11_digest_5 (Nat.le_of_ble_eq_true rfl) rfl rfl ?_
  obtain ⟨w4, hw4, h⟩ := bnd_inv h
  refine g_weak (lE11_digest_6 k0 σ 2000 _ _ hw4 ?_) ⟨rfl, rfl, rfl, trivial⟩
  refine g_iconst (v := 0) a11_digest_31 rfl ?_
  refine g_istore_n (L' := [some (.inr (.inr (11, k0))), some (.inr (.inl w4.1)), none, some (.inl 0)]) a11_digest_32 (Nat.le_of_ble_eq_true rfl) rfl rfl ?_
  obtain ⟨w9, hw9, h⟩ := bnd_inv h
  refine g_weak (lE11_digest_33 k0 σ 2000 _ _ hw9 ?_) ⟨rfl, rfl, rfl, trivial⟩
  refine g_iconst (v := 0) a11_digest_77 rfl ?_
  refine g_istore_n (L' := [some (.inr (.inr (11, k0))), some (.inr (.inl w9.1)), none, some (.inl 0)]) a11_digest_78 (Nat.le_of_ble_eq_true rfl) rfl rfl ?_
  obtain ⟨w17, hw17, h⟩ := bnd_inv h
  refine g_weak (lE11_digest_79 k0 σ 2000 _ _ hw17 ?_) ⟨rfl, rfl, rfl, trivial⟩
  refine g_iconst (v := 0) a11_digest_159 rfl ?_
  refine g_istore_n (L' := [some (.inr (.inr (11, k0))), some (.inr (.inl w17.1)), none, some (.inl 0)]) a11_digest_160 (Nat.le_of_ble_eq_true rfl) rfl rfl ?_
  obtain ⟨w21, hw21, h⟩ := bnd_inv h
  refine g_weak (lE11_digest_161 k0 σ 2000 _ _ hw21 ?_) ⟨rfl, rfl, rfl, trivial⟩
  refine g_aload_n a11_digest_211 rfl ?_
  refine g_lload_n a11_digest_212 rfl ?_
  refine g_bipush (v := 46) a11_digest_213 rfl ?_
  refine g_iconst (v := 2) a11_digest_215 rfl ?_
  refine g_aload_n a11_digest_216 rfl ?_
  refine g_getf (v := .inr (.inr (22, 0))) a11_digest_217 fs11_7 rfl ?_
  refine g_iconst (v := 2) a11_digest_220 rfl ?_
  refine g_iald (x := (σ.1 22 0 2)) a11_digest_221 (rI22 (by decide)) (inb_ok (by decide)) rfl ?_
  refine g_imul a11_digest_222 ?_
  obtain ⟨w22, hw22, h⟩ := bnd_inv h
  refine g_V3s (v1 := .inr (.inl w22)) (σ1 := σ) a11_digest_223 cv11_290 (E11_sums hw22) rfl (fun o23 => ?_)
  refine g_lstore_n (L' := [some (.inr (.inr (11, k0))), some (.inr (.inl w22)), none, some (.inl w21.2)]) a11_digest_226 (Nat.le_of_ble_eq_true rfl) rfl rfl ?_
  refine g_aload_n a11_digest_227 rfl ?_
  refine g_lload_n a11_digest_228 rfl ?_
  refine g_bipush (v := 56) a11_digest_229 rfl ?_
  refine g_iconst (v := 5) a11_digest_231 rfl ?_
  refine g_aload_n a11_digest_232 rfl ?_
  refine g_getf (v := .inr (.inr (22, 0))) a11_digest_233 fs11_7 rfl ?_
  refine g_iconst (v := 3) a11_digest_236 rfl ?_
  refine g_iald (x := (σ.1 22 0 3)) a11_digest_237 (rI22 (by decide)) (inb_ok (by decide)) rfl ?_
  refine g_imul a11_digest_238 ?_
  obtain ⟨w24, hw24, h⟩ := bnd_inv h
  refine g_V3s (v1 := .inr (.inl w24)) (σ1 := σ) a11_digest_239 cv11_290 (E11_sums hw24) rfl (fun o25 => ?_)
  refine g_lstore_n (L' := [some (.inr (.inr (11, k0))), some (.inr (.inl w24)), none, some (.inl w21.2)]) a11_digest_242 (Nat.le_of_ble_eq_true rfl) rfl rfl ?_
  refine g_aload_n a11_digest_243 rfl ?_
  refine g_lload_n a11_digest_244 rfl ?_
  refine g_bipush (v := 86) a11_digest_245 rfl ?_
  refine g_iconst (v := 4) a11_digest_247 rfl ?_
  refine g_aload_n a11_digest_248 rfl ?_
  refine g_getf (v := .inr (.inr (22, 0))) a11_digest_249 fs11_7 rfl ?_
  refine g_iconst (v := 4) a11_digest_252 rfl ?_
  refine g_iald (x := (σ.1 22 0 4)) a11_digest_253 (rI22 (by decide)) (inb_ok (by decide)) rfl ?_
  refine g_imul a11_digest_254 ?_
  obtain ⟨w26, hw26, h⟩ := bnd_inv h
  refine g_V3s (v1 := .inr (.inl w26)) (σ1 := σ) a11_digest_255 cv11_290 (E11_sums hw26) rfl (fun o27 => ?_)
  refine g_lstore_n (L' := [some (.inr (.inr (11, k0))), some (.inr (.inl w26)), none, some (.inl w21.2)]) a11_digest_258 (Nat.le_of_ble_eq_true rfl) rfl rfl ?_
  refine g_ldc2 (v := 31) a11_digest_259 wl11_286 ?_
  refine g_ldc2 (v := 31) a11_digest_262 wl11_286 ?_
  refine g_lload_n a11_digest_265 rfl ?_
  refine g_lmul a11_digest_266 ?_
  refine g_aload_n a11_digest_267 rfl ?_
  refine g_getf (v := .inr (.inl (σ.2 11 k0 4))) a11_digest_268 fs11_192 rfl ?_
  refine g_ladd a11_digest_271 ?_
  refine g_lmul a11_digest_272 ?_
  refine g_aload_n a11_digest_273 rfl ?_
  refine g_getf (v := .inr (.inl (σ.2 11 k0 5))) a11_digest_274 fs11_23 rfl ?_
  refine g_ladd a11_digest_277 ?_
  have h := Option.some.inj h
  subst h
  exact g_retE a11_digest_278 trivial rfl rfl
