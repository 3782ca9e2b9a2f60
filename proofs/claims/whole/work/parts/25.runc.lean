theorem a10_image_0 : At cX10_image 0 (.iload_n 1) 1 1 := ⟨by decide +kernel, rfl⟩
theorem a10_image_1 : At cX10_image 1 (.iconst 0) 1 2 := ⟨by decide +kernel, rfl⟩
theorem a10_image_2 : At cX10_image 2 (.iconst 1) 1 3 := ⟨by decide +kernel, rfl⟩
theorem a10_image_3 : At cX10_image 3 (.invokestatic 96) 3 6 := ⟨by decide +kernel, rfl⟩
theorem a10_image_6 : At cX10_image 6 (.ifCond .ne 8) 3 9 := ⟨by decide +kernel, rfl⟩
theorem a10_image_9 : At cX10_image 9 (.aload_n 0) 1 10 := ⟨by decide +kernel, rfl⟩
theorem a10_image_10 : At cX10_image 10 (.invokevirtual 100) 3 13 := ⟨by decide +kernel, rfl⟩
theorem a10_image_13 : At cX10_image 13 (.ireturn) 1 14 := ⟨by decide +kernel, rfl⟩
theorem a10_image_14 : At cX10_image 14 (.aload_n 0) 1 15 := ⟨by decide +kernel, rfl⟩
theorem a10_image_15 : At cX10_image 15 (.iload_n 1) 1 16 := ⟨by decide +kernel, rfl⟩
theorem a10_image_16 : At cX10_image 16 (.invokevirtual 326) 3 19 := ⟨by decide +kernel, rfl⟩
theorem a10_image_19 : At cX10_image 19 (.aload_n 0) 1 20 := ⟨by decide +kernel, rfl⟩
theorem a10_image_20 : At cX10_image 20 (.getfield 10) 3 23 := ⟨by decide +kernel, rfl⟩
theorem a10_image_23 : At cX10_image 23 (.invokevirtual 152) 3 26 := ⟨by decide +kernel, rfl⟩
theorem a10_image_26 : At cX10_image 26 (.aload_n 0) 1 27 := ⟨by decide +kernel, rfl⟩
theorem a10_image_27 : At cX10_image 27 (.aload_n 0) 1 28 := ⟨by decide +kernel, rfl⟩
theorem a10_image_28 : At cX10_image 28 (.getfield 330) 3 31 := ⟨by decide +kernel, rfl⟩
theorem a10_image_31 : At cX10_image 31 (.ifCond .ne 7) 3 34 := ⟨by decide +kernel, rfl⟩
theorem a10_image_34 : At cX10_image 34 (.iload_n 1) 1 35 := ⟨by decide +kernel, rfl⟩
theorem a10_image_35 : At cX10_image 35 (.ifCond .ne 7) 3 38 := ⟨by decide +kernel, rfl⟩
theorem a10_image_38 : At cX10_image 38 (.iconst 1) 1 39 := ⟨by decide +kernel, rfl⟩
theorem a10_image_39 : At cX10_image 39 (.goto 4) 3 42 := ⟨by decide +kernel, rfl⟩
theorem a10_image_42 : At cX10_image 42 (.iconst 0) 1 43 := ⟨by decide +kernel, rfl⟩
theorem a10_image_43 : At cX10_image 43 (.putfield 330) 3 46 := ⟨by decide +kernel, rfl⟩
theorem a10_image_46 : At cX10_image 46 (.aload_n 0) 1 47 := ⟨by decide +kernel, rfl⟩
theorem a10_image_47 : At cX10_image 47 (.aload_n 0) 1 48 := ⟨by decide +kernel, rfl⟩
theorem a10_image_48 : At cX10_image 48 (.getfield 334) 3 51 := ⟨by decide +kernel, rfl⟩
theorem a10_image_51 : At cX10_image 51 (.ifCond .ne 8) 3 54 := ⟨by decide +kernel, rfl⟩
theorem a10_image_54 : At cX10_image 54 (.iload_n 1) 1 55 := ⟨by decide +kernel, rfl⟩
theorem a10_image_55 : At cX10_image 55 (.iconst 1) 1 56 := ⟨by decide +kernel, rfl⟩
theorem a10_image_56 : At cX10_image 56 (.if_icmp .ne 7) 3 59 := ⟨by decide +kernel, rfl⟩
theorem a10_image_59 : At cX10_image 59 (.iconst 1) 1 60 := ⟨by decide +kernel, rfl⟩
theorem a10_image_60 : At cX10_image 60 (.goto 4) 3 63 := ⟨by decide +kernel, rfl⟩
theorem a10_image_63 : At cX10_image 63 (.iconst 0) 1 64 := ⟨by decide +kernel, rfl⟩
theorem a10_image_64 : At cX10_image 64 (.putfield 334) 3 67 := ⟨by decide +kernel, rfl⟩
theorem a10_image_67 : At cX10_image 67 (.iconst 1) 1 68 := ⟨by decide +kernel, rfl⟩
theorem a10_image_68 : At cX10_image 68 (.ireturn) 1 69 := ⟨by decide +kernel, rfl⟩
def f10_image (k0 : Nat) (x1 : Int32) (σ : Mem) : Option (Int32 × Mem) :=
  if (f10_within x1 0 1) = 0 then
  (lt (f10_refuseBad k0 σ) fun w2 =>
  some (w2.1, w2.2))
  else
  (bnd (f9_takeFrom (f10_imageAt k0 x1 σ) 0 σ) fun w5 =>
  lt (if (w5.1 10 k0 11) = 0 then
  (if x1 = 0 then
  (1)
  else
  (0))
  else
  (1) : Int32) fun w7 =>
  lt (sI w5 10 k0 11 w7) fun σ12 =>
  lt (if (σ12.1 10 k0 12) = 0 then
  (if x1 = 1 then
  (1)
  else
  (0))
  else
  (1) : Int32) fun w13 =>
  lt (sI σ12 10 k0 12 w13) fun σ18 =>
  some (1, σ18))
theorem E10_image {k0 : Nat} {x1 : Int32} {σ : Mem} {w : Int32 × Mem} (h : f10_image k0 x1 σ = some w) : Ev m10_image [.inr (.inr (10, k0)), .inl x1] σ (some (.inl w.1) : Option AV) w.2 := by
  unfold f10_image at h
  show Go m10_image 0 [some (.inr (.inr (10, k0))), some (.inl x1)] [] σ (some (.inl w.1) : Option AV) w.2
  refine g_iload_n a10_image_0 rfl ?_
  refine g_iconst (v := 0) a10_image_1 rfl ?_
  refine g_iconst (v := 1) a10_image_2 rfl ?_
  refine g_S3s (v1 := .inl (f10_within x1 0 1)) (σ1 := σ) a10_image_3 cs10_96 (E10_within _ _ _ _) rfl (fun o1 => ?_)
  refine g_if_ne (tgt := 14) a10_image_6 rfl (fun c19 => ?_) (fun c19 => ?_)
  · have h := (if_neg c19).symm.trans h
    refine g_aload_n a10_image_14 rfl ?_
    refine g_iload_n a10_image_15 rfl ?_
    refine g_V1s (v1 := .inr (.inr (9, (f10_imageAt k0 x1 σ)))) (σ1 := σ) a10_image_16 cv10_326 (E10_imageAt _ _ _) rfl (fun o4 => ?_)
    refine g_aload_n a10_image_19 rfl ?_
    refine g_getf (v := .inr (.inr (9, 0))) a10_image_20 fs10_10 rfl ?_
    obtain ⟨w5, hw5, h⟩ := bnd_inv h
    refine g_V1n (σ1 := w5) a10_image_23 cv10_152 (E9_takeFrom hw5) rfl (fun o6 => ?_)
    refine g_aload_n a10_image_26 rfl ?_
    refine g_aload_n a10_image_27 rfl ?_
    refine g_getf (v := .inl (w5.1 10 k0 11)) a10_image_28 fs10_330 rfl ?_
    obtain ⟨w7, hw7, h⟩ := lt_inv h
    have b11 : w7 = 0 ∨ w7 = 1 := by rw [← hw7]; repeat (first | exact Or.inl rfl | exact Or.inr rfl | split)
    have J8 : Go m10_image 43 [some (.inr (.inr (10, k0))), some (.inl x1)] [.inl w7, .inr (.inr (10, k0))] w5 (some (.inl w.1) : Option AV) w.2 := by
      obtain ⟨σ12, eσ12, h⟩ := lt_inv h
      refine g_putz a10_image_43 fs10_330 ps10_11 (fun _ _ _ => rfl) b11 ?_
      rw [eσ12]
      refine g_aload_n a10_image_46 rfl ?_
      refine g_aload_n a10_image_47 rfl ?_
      refine g_getf (v := .inl (σ12.1 10 k0 12)) a10_image_48 fs10_334 rfl ?_
      obtain ⟨w13, hw13, h⟩ := lt_inv h
      have b17 : w13 = 0 ∨ w13 = 1 := by rw [← hw13]; repeat (first | exact Or.inl rfl | exact Or.inr rfl | split)
      have J14 : Go m10_image 64 [none, none] [.inl w13, .inr (.inr (10, k0))] σ12 (some (.inl w.1) : Option AV) w.2 := by
        obtain ⟨σ18, eσ18, h⟩ := lt_inv h
        refine g_putz a10_image_64 fs10_334 ps10_12 (fun _ _ _ => rfl) b17 ?_
        rw [eσ18]
        refine g_iconst (v := 1) a10_image_67 rfl ?_
        have h := Option.some.inj h
        subst h
        exact g_retE a10_image_68 trivial rfl rfl
      clear h
      refine g_if_ne (tgt := 59) a10_image_51 rfl (fun c16 => ?_) (fun c16 => ?_)
      · have hw13 := (if_neg c16).symm.trans hw13
        refine g_iconst (v := 1) a10_image_59 rfl ?_
        refine g_goto (tgt := 64) a10_image_60 rfl ?_
        subst hw13
        exact g_weak J14 trivial
      · have hw13 := (if_pos c16).symm.trans hw13
        refine g_iload_n a10_image_54 rfl ?_
        refine g_iconst (v := 1) a10_image_55 rfl ?_
        refine g_icmp_ne (tgt := 63) a10_image_56 rfl (fun c15 => ?_) (fun c15 => ?_)
        · have hw13 := (if_neg c15).symm.trans hw13
          refine g_iconst (v := 0) a10_image_63 rfl ?_
          subst hw13
          exact g_weak J14 trivial
        · have hw13 := (if_pos c15).symm.trans hw13
          refine g_iconst (v := 1) a10_image_59 rfl ?_
          refine g_goto (tgt := 64) a10_image_60 rfl ?_
          subst hw13
          exact g_weak J14 trivial
    clear h
    refine g_if_ne (tgt := 38) a10_image_31 rfl (fun c10 => ?_) (fun c10 => ?_)
    · have hw7 := (if_neg c10).symm.trans hw7
      refine g_iconst (v := 1) a10_image_38 rfl ?_
      refine g_goto (tgt := 43) a10_image_39 rfl ?_
      subst hw7
      exact J8
    · have hw7 := (if_pos c10).symm.trans hw7
      refine g_iload_n a10_image_34 rfl ?_
      refine g_if_ne (tgt := 42) a10_image_35 rfl (fun c9 => ?_) (fun c9 => ?_)
      · have hw7 := (if_neg c9).symm.trans hw7
        refine g_iconst (v := 0) a10_image_42 rfl ?_
        subst hw7
        exact J8
      · have hw7 := (if_pos c9).symm.trans hw7
        refine g_iconst (v := 1) a10_image_38 rfl ?_
        refine g_goto (tgt := 43) a10_image_39 rfl ?_
        subst hw7
        exact J8
  · have h := (if_pos c19).symm.trans h
    refine g_aload_n a10_image_9 rfl ?_
    obtain ⟨w2, hw2, h⟩ := lt_inv h
    refine g_V0s (v1 := .inl w2.1) (σ1 := w2.2) a10_image_10 cv10_100 (by rw [← hw2]; exact E10_refuseBad _ _) rfl (fun o3 => ?_)
    have h := Option.some.inj h
    subst h
    exact g_retE a10_image_13 trivial rfl rfl
theorem a10_from_0 : At cX10_from 0 (.iload_n 1) 1 1 := ⟨by decide +kernel, rfl⟩
theorem a10_from_1 : At cX10_from 1 (.iconst 0) 1 2 := ⟨by decide +kernel, rfl⟩
theorem a10_from_2 : At cX10_from 2 (.iconst 1) 1 3 := ⟨by decide +kernel, rfl⟩
theorem a10_from_3 : At cX10_from 3 (.invokestatic 96) 3 6 := ⟨by decide +kernel, rfl⟩
theorem a10_from_6 : At cX10_from 6 (.ifCond .ne 8) 3 9 := ⟨by decide +kernel, rfl⟩
theorem a10_from_9 : At cX10_from 9 (.aload_n 0) 1 10 := ⟨by decide +kernel, rfl⟩
theorem a10_from_10 : At cX10_from 10 (.invokevirtual 100) 3 13 := ⟨by decide +kernel, rfl⟩
theorem a10_from_13 : At cX10_from 13 (.ireturn) 1 14 := ⟨by decide +kernel, rfl⟩
theorem a10_from_14 : At cX10_from 14 (.iload_n 1) 1 15 := ⟨by decide +kernel, rfl⟩
theorem a10_from_15 : At cX10_from 15 (.ifCond .ne 13) 3 18 := ⟨by decide +kernel, rfl⟩
theorem a10_from_18 : At cX10_from 18 (.aload_n 0) 1 19 := ⟨by decide +kernel, rfl⟩
theorem a10_from_19 : At cX10_from 19 (.getfield 330) 3 22 := ⟨by decide +kernel, rfl⟩
theorem a10_from_22 : At cX10_from 22 (.ifCond .eq 13) 3 25 := ⟨by decide +kernel, rfl⟩
theorem a10_from_25 : At cX10_from 25 (.goto 15) 3 28 := ⟨by decide +kernel, rfl⟩
theorem a10_from_28 : At cX10_from 28 (.aload_n 0) 1 29 := ⟨by decide +kernel, rfl⟩
theorem a10_from_29 : At cX10_from 29 (.getfield 334) 3 32 := ⟨by decide +kernel, rfl⟩
theorem a10_from_32 : At cX10_from 32 (.ifCond .ne 8) 3 35 := ⟨by decide +kernel, rfl⟩
theorem a10_from_35 : At cX10_from 35 (.aload_n 0) 1 36 := ⟨by decide +kernel, rfl⟩
theorem a10_from_36 : At cX10_from 36 (.invokevirtual 181) 3 39 := ⟨by decide +kernel, rfl⟩
theorem a10_from_39 : At cX10_from 39 (.ireturn) 1 40 := ⟨by decide +kernel, rfl⟩
theorem a10_from_40 : At cX10_from 40 (.aload_n 0) 1 41 := ⟨by decide +kernel, rfl⟩
theorem a10_from_41 : At cX10_from 41 (.getfield 10) 3 44 := ⟨by decide +kernel, rfl⟩
theorem a10_from_44 : At cX10_from 44 (.aload_n 0) 1 45 := ⟨by decide +kernel, rfl⟩
theorem a10_from_45 : At cX10_from 45 (.iload_n 1) 1 46 := ⟨by decide +kernel, rfl⟩
theorem a10_from_46 : At cX10_from 46 (.invokevirtual 326) 3 49 := ⟨by decide +kernel, rfl⟩
theorem a10_from_49 : At cX10_from 49 (.invokevirtual 152) 3 52 := ⟨by decide +kernel, rfl⟩
theorem a10_from_52 : At cX10_from 52 (.iconst 1) 1 53 := ⟨by decide +kernel, rfl⟩
theorem a10_from_53 : At cX10_from 53 (.ireturn) 1 54 := ⟨by decide +kernel, rfl⟩
def f10_from (k0 : Nat) (x1 : Int32) (σ : Mem) : Option (Int32 × Mem) :=
  if (f10_within x1 0 1) = 0 then
  (lt (f10_refuseBad k0 σ) fun w2 =>
  some (w2.1, w2.2))
  else
  (if x1 = 0 then
  (if (σ.1 10 k0 11) = 0 then
  (lt (f10_refuseNo k0 σ) fun w4 =>
  some (w4.1, w4.2))
  else
  (bnd (f9_takeFrom 0 (f10_imageAt k0 x1 σ) σ) fun w7 =>
  some (1, w7)))
  else
  (if (σ.1 10 k0 12) = 0 then
  (lt (f10_refuseNo k0 σ) fun w10 =>
  some (w10.1, w10.2))
  else
  (bnd (f9_takeFrom 0 (f10_imageAt k0 x1 σ) σ) fun w13 =>
  some (1, w13))))
theorem E10_from {k0 : Nat} {x1 : Int32} {σ : Mem} {w : Int32 × Mem} (h : f10_from k0 x1 σ = some w) : Ev m10_from [.inr (.inr (10, k0)), .inl x1] σ (some (.inl w.1) : Option AV) w.2 := by
  unfold f10_from at h
  show Go m10_from 0 [some (.inr (.inr (10, k0))), some (.inl x1)] [] σ (some (.inl w.1) : Option AV) w.2
  refine g_iload_n a10_from_0 rfl ?_
  refine g_iconst (v := 0) a10_from_1 rfl ?_
  refine g_iconst (v := 1) a10_from_2 rfl ?_
  refine g_S3s (v1 := .inl (f10_within x1 0 1)) (σ1 := σ) a10_from_3 cs10_96 (E10_within _ _ _ _) rfl (fun o1 => ?_)
  refine g_if_ne (tgt := 14) a10_from_6 rfl (fun c17 => ?_) (fun c17 => ?_)
  · have h := (if_neg c17).symm.trans h
    refine g_iload_n a10_from_14 rfl ?_
    refine g_if_ne (tgt := 28) a10_from_15 rfl (fun c16 => ?_) (fun c16 => ?_)
    · have h := (if_neg c16).symm.trans h
      refine g_aload_n a10_from_28 rfl ?_
      refine g_getf (v := .inl (σ.1 10 k0 12)) a10_from_29 fs10_334 rfl ?_
      refine g_if_ne (tgt := 40) a10_from_32 rfl (fun c15 => ?_) (fun c15 => ?_)
      · have h := (if_neg c15).symm.trans h
        refine g_aload_n a10_from_40 rfl ?_
        refine g_getf (v := .inr (.inr (9, 0))) a10_from_41 fs10_10 rfl ?_
        refine g_aload_n a10_from_44 rfl ?_
        refine g_iload_n a10_from_45 rfl ?_
        refine g_V1s (v1 := .inr (.inr (9, (f10_imageAt k0 x1 σ)))) (σ1 := σ) a10_from_46 cv10_326 (E10_imageAt _ _ _) rfl (fun o12 => ?_)
        obtain ⟨w13, hw13, h⟩ := bnd_inv h
        refine g_V1n (σ1 := w13) a10_from_49 cv10_152 (E9_takeFrom hw13) rfl (fun o14 => ?_)
        refine g_iconst (v := 1) a10_from_52 rfl ?_
        have h := Option.some.inj h
        subst h
        exact g_retE a10_from_53 trivial rfl rfl
      · have h := (if_pos c15).symm.trans h
        refine g_aload_n a10_from_35 rfl ?_
        obtain ⟨w10, hw10, h⟩ := lt_inv h
        refine g_V0s (v1 := .inl w10.1) (σ1 := w10.2) a10_from_36 cv10_181 (by rw [← hw10]; exact E10_refuseNo _ _) rfl (fun o11 => ?_)
        have h := Option.some.inj h
        subst h
        exact g_retE a10_from_39 trivial rfl rfl
    · have h := (if_pos c16).symm.trans h
      refine g_aload_n a10_from_18 rfl ?_
      refine g_getf (v := .inl (σ.1 10 k0 11)) a10_from_19 fs10_330 rfl ?_
      refine g_if_eq (tgt := 35) a10_from_22 rfl (fun c9 => ?_) (fun c9 => ?_)
      · have h := (if_pos c9).symm.trans h
        refine g_aload_n a10_from_35 rfl ?_
        obtain ⟨w4, hw4, h⟩ := lt_inv h
        refine g_V0s (v1 := .inl w4.1) (σ1 := w4.2) a10_from_36 cv10_181 (by rw [← hw4]; exact E10_refuseNo _ _) rfl (fun o5 => ?_)
        have h := Option.some.inj h
        subst h
        exact g_retE a10_from_39 trivial rfl rfl
      · have h := (if_neg c9).symm.trans h
        refine g_goto (tgt := 40) a10_from_25 rfl ?_
        refine g_aload_n a10_from_40 rfl ?_
        refine g_getf (v := .inr (.inr (9, 0))) a10_from_41 fs10_10 rfl ?_
        refine g_aload_n a10_from_44 rfl ?_
        refine g_iload_n a10_from_45 rfl ?_
        refine g_V1s (v1 := .inr (.inr (9, (f10_imageAt k0 x1 σ)))) (σ1 := σ) a10_from_46 cv10_326 (E10_imageAt _ _ _) rfl (fun o6 => ?_)
        obtain ⟨w7, hw7, h⟩ := bnd_inv h
        refine g_V1n (σ1 := w7) a10_from_49 cv10_152 (E9_takeFrom hw7) rfl (fun o8 => ?_)
        refine g_iconst (v := 1) a10_from_52 rfl ?_
        have h := Option.some.inj h
        subst h
        exact g_retE a10_from_53 trivial rfl rfl
  · have h := (if_pos c17).symm.trans h
    refine g_aload_n a10_from_9 rfl ?_
    obtain ⟨w2, hw2, h⟩ := lt_inv h
    refine g_V0s (v1 := .inl w2.1) (σ1 := w2.2) a10_from_10 cv10_100 (by rw [← hw2]; exact E10_refuseBad _ _) rfl (fun o3 => ?_)
    have h := Option.some.inj h
    subst h
    exact g_retE a10_from_13 trivial rfl rfl
theorem a10_status_0 : At cX10_status 0 (.iload_n 1) 1 1 := ⟨by decide +kernel, rfl⟩
theorem a10_status_1 : At cX10_status 1 (.tableswitch 42 0 2 #[27, 32, 37]) 27 28 := ⟨by decide +kernel, rfl⟩
theorem a10_status_28 : At cX10_status 28 (.aload_n 0) 1 29 := ⟨by decide +kernel, rfl⟩
theorem a10_status_29 : At cX10_status 29 (.getfield 337) 3 32 := ⟨by decide +kernel, rfl⟩
theorem a10_status_32 : At cX10_status 32 (.ireturn) 1 33 := ⟨by decide +kernel, rfl⟩
theorem a10_status_33 : At cX10_status 33 (.aload_n 0) 1 34 := ⟨by decide +kernel, rfl⟩
theorem a10_status_34 : At cX10_status 34 (.getfield 340) 3 37 := ⟨by decide +kernel, rfl⟩
theorem a10_status_37 : At cX10_status 37 (.ireturn) 1 38 := ⟨by decide +kernel, rfl⟩
theorem a10_status_38 : At cX10_status 38 (.aload_n 0) 1 39 := ⟨by decide +kernel, rfl⟩
theorem a10_status_39 : At cX10_status 39 (.getfield 343) 3 42 := ⟨by decide +kernel, rfl⟩
theorem a10_status_42 : At cX10_status 42 (.ireturn) 1 43 := ⟨by decide +kernel, rfl⟩
theorem a10_status_43 : At cX10_status 43 (.aload_n 0) 1 44 := ⟨by decide +kernel, rfl⟩
theorem a10_status_44 : At cX10_status 44 (.invokevirtual 100) 3 47 := ⟨by decide +kernel, rfl⟩
theorem a10_status_47 : At cX10_status 47 (.pop) 1 48 := ⟨by decide +kernel, rfl⟩
theorem a10_status_48 : At cX10_status 48 (.iconst (-1)) 1 49 := ⟨by decide +kernel, rfl⟩
theorem a10_status_49 : At cX10_status 49 (.ireturn) 1 50 := ⟨by decide +kernel, rfl⟩
def f10_status (k0 : Nat) (x1 : Int32) (σ : Mem) : Int32 × Mem :=
  if x1 = 0 then
  (((σ.1 10 k0 13), σ))
  else if x1 = 1 then
  (((σ.1 10 k0 14), σ))
  else if x1 = 2 then
  (((σ.1 10 k0 15), σ))
  else 
  (lt (f10_refuseBad k0 σ) fun w1 =>
  ((-1), w1.2))
theorem E10_status (k0 : Nat) (x1 : Int32) (σ : Mem) : Ev m10_status [.inr (.inr (10, k0)), .inl x1] σ (some (.inl ((f10_status k0 x1 σ).1)) : Option AV) (f10_status k0 x1 σ).2 := by
  obtain ⟨w, h⟩ : ∃ w, f10_status k0 x1 σ = w := ⟨_, rfl⟩
  rw [h]
  unfold f10_status at h
  show Go m10_status 0 [some (.inr (.inr (10, k0))), some (.inl x1)] [] σ (some (.inl w.1) : Option AV) w.2
  refine g_iload_n a10_status_0 rfl ?_
  rcases Decidable.em (x1 = 0) with c3 | c3
  · have h := (if_pos c3).symm.trans h
    refine g_tsIn (tgt := 28) (off := 27) a10_status_1 (by rw [c3]; decide) (by rw [c3]; decide) (by rw [c3]; rfl) rfl ?_
    refine g_aload_n a10_status_28 rfl ?_
    refine g_getf (v := .inl (σ.1 10 k0 13)) a10_status_29 fs10_337 rfl ?_
    subst h
    exact g_retE a10_status_32 trivial rfl rfl
  have h := (if_neg c3).symm.trans h
  rcases Decidable.em (x1 = 1) with c4 | c4
  · have h := (if_pos c4).symm.trans h
    refine g_tsIn (tgt := 33) (off := 32) a10_status_1 (by rw [c4]; decide) (by rw [c4]; decide) (by rw [c4]; rfl) rfl ?_
    refine g_aload_n a10_status_33 rfl ?_
    refine g_getf (v := .inl (σ.1 10 k0 14)) a10_status_34 fs10_340 rfl ?_
    subst h
    exact g_retE a10_status_37 trivial rfl rfl
  have h := (if_neg c4).symm.trans h
  rcases Decidable.em (x1 = 2) with c5 | c5
  · have h := (if_pos c5).symm.trans h
    refine g_tsIn (tgt := 38) (off := 37) a10_status_1 (by rw [c5]; decide) (by rw [c5]; decide) (by rw [c5]; rfl) rfl ?_
    refine g_aload_n a10_status_38 rfl ?_
    refine g_getf (v := .inl (σ.1 10 k0 15)) a10_status_39 fs10_343 rfl ?_
    subst h
    exact g_retE a10_status_42 trivial rfl rfl
  have h := (if_neg c5).symm.trans h
  have tc3 := lv_neT c3 (a := 0) rfl
  have tc4 := lv_neT c4 (a := 1) rfl
  have tc5 := lv_neT c5 (a := 2) rfl
  refine g_tsOut (tgt := 43) a10_status_1 (by omega) rfl ?_
  refine g_aload_n a10_status_43 rfl ?_
  obtain ⟨w1, hw1, h⟩ := lt_inv h
  refine g_V0s (v1 := .inl w1.1) (σ1 := w1.2) a10_status_44 cv10_100 (by rw [← hw1]; exact E10_refuseBad _ _) rfl (fun o2 => ?_)
  refine g_pop a10_status_47 (fun _ => rfl) ?_
  refine g_iconst (v := (-1)) a10_status_48 rfl ?_
  subst h
  exact g_retE a10_status_49 trivial rfl rfl
theorem a10_countOf_0 : At cX10_countOf 0 (.iload_n 1) 1 1 := ⟨by decide +kernel, rfl⟩
theorem a10_countOf_1 : At cX10_countOf 1 (.tableswitch 168 0 9 #[55, 66, 80, 91, 102, 113, 124, 135, 146, 157]) 55 56 := ⟨by decide +kernel, rfl⟩
theorem a10_countOf_56 : At cX10_countOf 56 (.aload_n 0) 1 57 := ⟨by decide +kernel, rfl⟩
theorem a10_countOf_57 : At cX10_countOf 57 (.getfield 10) 3 60 := ⟨by decide +kernel, rfl⟩
theorem a10_countOf_60 : At cX10_countOf 60 (.getfield 76) 3 63 := ⟨by decide +kernel, rfl⟩
theorem a10_countOf_63 : At cX10_countOf 63 (.invokevirtual 80) 3 66 := ⟨by decide +kernel, rfl⟩
theorem a10_countOf_66 : At cX10_countOf 66 (.ireturn) 1 67 := ⟨by decide +kernel, rfl⟩
theorem a10_countOf_67 : At cX10_countOf 67 (.aload_n 0) 1 68 := ⟨by decide +kernel, rfl⟩
theorem a10_countOf_68 : At cX10_countOf 68 (.getfield 10) 3 71 := ⟨by decide +kernel, rfl⟩
theorem a10_countOf_71 : At cX10_countOf 71 (.getfield 159) 3 74 := ⟨by decide +kernel, rfl⟩
theorem a10_countOf_74 : At cX10_countOf 74 (.getfield 222) 3 77 := ⟨by decide +kernel, rfl⟩
theorem a10_countOf_77 : At cX10_countOf 77 (.invokestatic 229) 3 80 := ⟨by decide +kernel, rfl⟩
theorem a10_countOf_80 : At cX10_countOf 80 (.ireturn) 1 81 := ⟨by decide +kernel, rfl⟩
theorem a10_countOf_81 : At cX10_countOf 81 (.aload_n 0) 1 82 := ⟨by decide +kernel, rfl⟩
theorem a10_countOf_82 : At cX10_countOf 82 (.getfield 10) 3 85 := ⟨by decide +kernel, rfl⟩
theorem a10_countOf_85 : At cX10_countOf 85 (.getfield 131) 3 88 := ⟨by decide +kernel, rfl⟩
theorem a10_countOf_88 : At cX10_countOf 88 (.invokevirtual 80) 3 91 := ⟨by decide +kernel, rfl⟩
theorem a10_countOf_91 : At cX10_countOf 91 (.ireturn) 1 92 := ⟨by decide +kernel, rfl⟩
theorem a10_countOf_92 : At cX10_countOf 92 (.aload_n 0) 1 93 := ⟨by decide +kernel, rfl⟩
theorem a10_countOf_93 : At cX10_countOf 93 (.getfield 10) 3 96 := ⟨by decide +kernel, rfl⟩
theorem a10_countOf_96 : At cX10_countOf 96 (.getfield 159) 3 99 := ⟨by decide +kernel, rfl⟩
theorem a10_countOf_99 : At cX10_countOf 99 (.invokevirtual 166) 3 102 := ⟨by decide +kernel, rfl⟩
theorem a10_countOf_102 : At cX10_countOf 102 (.ireturn) 1 103 := ⟨by decide +kernel, rfl⟩
theorem a10_countOf_103 : At cX10_countOf 103 (.aload_n 0) 1 104 := ⟨by decide +kernel, rfl⟩
theorem a10_countOf_104 : At cX10_countOf 104 (.getfield 10) 3 107 := ⟨by decide +kernel, rfl⟩
theorem a10_countOf_107 : At cX10_countOf 107 (.getfield 159) 3 110 := ⟨by decide +kernel, rfl⟩
theorem a10_countOf_110 : At cX10_countOf 110 (.getfield 187) 3 113 := ⟨by decide +kernel, rfl⟩
theorem a10_countOf_113 : At cX10_countOf 113 (.ireturn) 1 114 := ⟨by decide +kernel, rfl⟩
theorem a10_countOf_114 : At cX10_countOf 114 (.aload_n 0) 1 115 := ⟨by decide +kernel, rfl⟩
theorem a10_countOf_115 : At cX10_countOf 115 (.getfield 10) 3 118 := ⟨by decide +kernel, rfl⟩
theorem a10_countOf_118 : At cX10_countOf 118 (.getfield 159) 3 121 := ⟨by decide +kernel, rfl⟩
theorem a10_countOf_121 : At cX10_countOf 121 (.getfield 359) 3 124 := ⟨by decide +kernel, rfl⟩
theorem a10_countOf_124 : At cX10_countOf 124 (.ireturn) 1 125 := ⟨by decide +kernel, rfl⟩
theorem a10_countOf_125 : At cX10_countOf 125 (.aload_n 0) 1 126 := ⟨by decide +kernel, rfl⟩
theorem a10_countOf_126 : At cX10_countOf 126 (.getfield 10) 3 129 := ⟨by decide +kernel, rfl⟩
theorem a10_countOf_129 : At cX10_countOf 129 (.getfield 250) 3 132 := ⟨by decide +kernel, rfl⟩
theorem a10_countOf_132 : At cX10_countOf 132 (.invokevirtual 80) 3 135 := ⟨by decide +kernel, rfl⟩
theorem a10_countOf_135 : At cX10_countOf 135 (.ireturn) 1 136 := ⟨by decide +kernel, rfl⟩
theorem a10_countOf_136 : At cX10_countOf 136 (.aload_n 0) 1 137 := ⟨by decide +kernel, rfl⟩
theorem a10_countOf_137 : At cX10_countOf 137 (.getfield 10) 3 140 := ⟨by decide +kernel, rfl⟩
theorem a10_countOf_140 : At cX10_countOf 140 (.getfield 260) 3 143 := ⟨by decide +kernel, rfl⟩
theorem a10_countOf_143 : At cX10_countOf 143 (.invokevirtual 80) 3 146 := ⟨by decide +kernel, rfl⟩
theorem a10_countOf_146 : At cX10_countOf 146 (.ireturn) 1 147 := ⟨by decide +kernel, rfl⟩
theorem a10_countOf_147 : At cX10_countOf 147 (.aload_n 0) 1 148 := ⟨by decide +kernel, rfl⟩
theorem a10_countOf_148 : At cX10_countOf 148 (.getfield 10) 3 151 := ⟨by decide +kernel, rfl⟩
theorem a10_countOf_151 : At cX10_countOf 151 (.getfield 263) 3 154 := ⟨by decide +kernel, rfl⟩
theorem a10_countOf_154 : At cX10_countOf 154 (.invokevirtual 80) 3 157 := ⟨by decide +kernel, rfl⟩
theorem a10_countOf_157 : At cX10_countOf 157 (.ireturn) 1 158 := ⟨by decide +kernel, rfl⟩
theorem a10_countOf_158 : At cX10_countOf 158 (.aload_n 0) 1 159 := ⟨by decide +kernel, rfl⟩
theorem a10_countOf_159 : At cX10_countOf 159 (.getfield 10) 3 162 := ⟨by decide +kernel, rfl⟩
theorem a10_countOf_162 : At cX10_countOf 162 (.getfield 178) 3 165 := ⟨by decide +kernel, rfl⟩
theorem a10_countOf_165 : At cX10_countOf 165 (.invokevirtual 80) 3 168 := ⟨by decide +kernel, rfl⟩
theorem a10_countOf_168 : At cX10_countOf 168 (.ireturn) 1 169 := ⟨by decide +kernel, rfl⟩
theorem a10_countOf_169 : At cX10_countOf 169 (.aload_n 0) 1 170 := ⟨by decide +kernel, rfl⟩
theorem a10_countOf_170 : At cX10_countOf 170 (.getfield 44) 3 173 := ⟨by decide +kernel, rfl⟩
theorem a10_countOf_173 : At cX10_countOf 173 (.invokevirtual 142) 3 176 := ⟨by decide +kernel, rfl⟩
theorem a10_countOf_176 : At cX10_countOf 176 (.ireturn) 1 177 := ⟨by decide +kernel, rfl⟩
def f10_countOf (k0 : Nat) (x1 : Int32) (σ : Mem) : Int32 :=
  if x1 = 0 then
  ((f7_size 1 σ))
  else if x1 = 1 then
  ((fJ6_bitCount (σ.1 4 0 0)))
  else if x1 = 2 then
  ((f7_size 2 σ))
  else if x1 = 3 then
  ((f4_partsThere 0 σ))
  else if x1 = 4 then
  ((σ.1 4 0 3))
  else if x1 = 5 then
  ((σ.1 4 0 2))
  else if x1 = 6 then
  ((f7_size 3 σ))
  else if x1 = 7 then
  ((f7_size 4 σ))
  else if x1 = 8 then
  ((f7_size 5 σ))
  else if x1 = 9 then
  ((f7_size 6 σ))
  else 
  ((f8_length 0 σ))
theorem E10_countOf (k0 : Nat) (x1 : Int32) (σ : Mem) : Ev m10_countOf [.inr (.inr (10, k0)), .inl x1] σ (some (.inl (f10_countOf k0 x1 σ)) : Option AV) σ := by
  obtain ⟨w, h⟩ : ∃ w, f10_countOf k0 x1 σ = w := ⟨_, rfl⟩
  rw [h]
  unfold f10_countOf at h
  show Go m10_countOf 0 [some (.inr (.inr (10, k0))), some (.inl x1)] [] σ (some (.inl w) : Option AV) σ
  refine g_iload_n a10_countOf_0 rfl ?_
  rcases Decidable.em (x1 = 0) with c10 | c10
  · have h := (if_pos c10).symm.trans h
    refine g_tsIn (tgt := 56) (off := 55) a10_countOf_1 (by rw [c10]; decide) (by rw [c10]; decide) (by rw [c10]; rfl) rfl ?_
    refine g_aload_n a10_countOf_56 rfl ?_
    refine g_getf (v := .inr (.inr (9, 0))) a10_countOf_57 fs10_10 rfl ?_
    refine g_getf (v := .inr (.inr (7, 1))) a10_countOf_60 fs10_76 rfl ?_
    refine g_V0s (v1 := .inl (f7_size 1 σ)) (σ1 := σ) a10_countOf_63 cv10_80 (E7_size _ _) rfl (fun o1 => ?_)
    subst h
    exact g_retE a10_countOf_66 trivial rfl rfl
  have h := (if_neg c10).symm.trans h
  rcases Decidable.em (x1 = 1) with c11 | c11
  · have h := (if_pos c11).symm.trans h
    refine g_tsIn (tgt := 67) (off := 66) a10_countOf_1 (by rw [c11]; decide) (by rw [c11]; decide) (by rw [c11]; rfl) rfl ?_
    refine g_aload_n a10_countOf_67 rfl ?_
    refine g_getf (v := .inr (.inr (9, 0))) a10_countOf_68 fs10_10 rfl ?_
    refine g_getf (v := .inr (.inr (4, 0))) a10_countOf_71 fs10_159 rfl ?_
    refine g_getf (v := .inl (σ.1 4 0 0)) a10_countOf_74 fs10_222 rfl ?_
    refine g_S1s (v1 := .inl (fJ6_bitCount (σ.1 4 0 0))) (σ1 := σ) a10_countOf_77 cs10_229 (EJ6_bitCount _ _) rfl (fun o2 => ?_)
    subst h
    exact g_retE a10_countOf_80 trivial rfl rfl
  have h := (if_neg c11).symm.trans h
  rcases Decidable.em (x1 = 2) with c12 | c12
  · have h := (if_pos c12).symm.trans h
    refine g_tsIn (tgt := 81) (off := 80) a10_countOf_1 (by rw [c12]; decide) (by rw [c12]; decide) (by rw [c12]; rfl) rfl ?_
    refine g_aload_n a10_countOf_81 rfl ?_
    refine g_getf (v := .inr (.inr (9, 0))) a10_countOf_82 fs10_10 rfl ?_
    refine g_getf (v := .inr (.inr (7, 2))) a10_countOf_85 fs10_131 rfl ?_
    refine g_V0s (v1 := .inl (f7_size 2 σ)) (σ1 := σ) a10_countOf_88 cv10_80 (E7_size _ _) rfl (fun o3 => ?_)
    subst h
    exact g_retE a10_countOf_91 trivial rfl rfl
  have h := (if_neg c12).symm.trans h
  rcases Decidable.em (x1 = 3) with c13 | c13
  · have h := (if_pos c13).symm.trans h
    refine g_tsIn (tgt := 92) (off := 91) a10_countOf_1 (by rw [c13]; decide) (by rw [c13]; decide) (by rw [c13]; rfl) rfl ?_
    refine g_aload_n a10_countOf_92 rfl ?_
    refine g_getf (v := .inr (.inr (9, 0))) a10_countOf_93 fs10_10 rfl ?_
    refine g_getf (v := .inr (.inr (4, 0))) a10_countOf_96 fs10_159 rfl ?_
    refine g_V0s (v1 := .inl (f4_partsThere 0 σ)) (σ1 := σ) a10_countOf_99 cv10_166 (E4_partsThere _ _) rfl (fun o4 => ?_)
    subst h
    exact g_retE a10_countOf_102 trivial rfl rfl
  have h := (if_neg c13).symm.trans h
  rcases Decidable.em (x1 = 4) with c14 | c14
  · have h := (if_pos c14).symm.trans h
    refine g_tsIn (tgt := 103) (off := 102) a10_countOf_1 (by rw [c14]; decide) (by rw [c14]; decide) (by rw [c14]; rfl) rfl ?_
    refine g_aload_n a10_countOf_103 rfl ?_
    refine g_getf (v := .inr (.inr (9, 0))) a10_countOf_104 fs10_10 rfl ?_
    refine g_getf (v := .inr (.inr (4, 0))) a10_countOf_107 fs10_159 rfl ?_
    refine g_getf (v := .inl (σ.1 4 0 3)) a10_countOf_110 fs10_187 rfl ?_
    subst h
    exact g_retE a10_countOf_113 trivial rfl rfl
  have h := (if_neg c14).symm.trans h
  rcases Decidable.em (x1 = 5) with c15 | c15
  · have h := (if_pos c15).symm.trans h
    refine g_tsIn (tgt := 114) (off := 113) a10_countOf_1 (by rw [c15]; decide) (by rw [c15]; decide) (by rw [c15]; rfl) rfl ?_
    refine g_aload_n a10_countOf_114 rfl ?_
    refine g_getf (v := .inr (.inr (9, 0))) a10_countOf_115 fs10_10 rfl ?_
    refine g_getf (v := .inr (.inr (4, 0))) a10_countOf_118 fs10_159 rfl ?_
    refine g_getf (v := .inl (σ.1 4 0 2)) a10_countOf_121 fs10_359 rfl ?_
    subst h
    exact g_retE a10_countOf_124 trivial rfl rfl
  have h := (if_neg c15).symm.trans h
  rcases Decidable.em (x1 = 6) with c16 | c16
  · have h := (if_pos c16).symm.trans h
    refine g_tsIn (tgt := 125) (off := 124) a10_countOf_1 (by rw [c16]; decide) (by rw [c16]; decide) (by rw [c16]; rfl) rfl ?_
    refine g_aload_n a10_countOf_125 rfl ?_
    refine g_getf (v := .inr (.inr (9, 0))) a10_countOf_126 fs10_10 rfl ?_
    refine g_getf (v := .inr (.inr (7, 3))) a10_countOf_129 fs10_250 rfl ?_
    refine g_V0s (v1 := .inl (f7_size 3 σ)) (σ1 := σ) a10_countOf_132 cv10_80 (E7_size _ _) rfl (fun o5 => ?_)
    subst h
    exact g_retE a10_countOf_135 trivial rfl rfl
  have h := (if_neg c16).symm.trans h
  rcases Decidable.em (x1 = 7) with c17 | c17
  · have h := (if_pos c17).symm.trans h
    refine g_tsIn (tgt := 136) (off := 135) a10_countOf_1 (by rw [c17]; decide) (by rw [c17]; decide) (by rw [c17]; rfl) rfl ?_
    refine g_aload_n a10_countOf_136 rfl ?_
    refine g_getf (v := .inr (.inr (9, 0))) a10_countOf_137 fs10_10 rfl ?_
    refine g_getf (v := .inr (.inr (7, 4))) a10_countOf_140 fs10_260 rfl ?_
    refine g_V0s (v1 := .inl (f7_size 4 σ)) (σ1 := σ) a10_countOf_143 cv10_80 (E7_size _ _) rfl (fun o6 => ?_)
    subst h
    exact g_retE a10_countOf_146 trivial rfl rfl
  have h := (if_neg c17).symm.trans h
  rcases Decidable.em (x1 = 8) with c18 | c18
  · have h := (if_pos c18).symm.trans h
    refine g_tsIn (tgt := 147) (off := 146) a10_countOf_1 (by rw [c18]; decide) (by rw [c18]; decide) (by rw [c18]; rfl) rfl ?_
    refine g_aload_n a10_countOf_147 rfl ?_
    refine g_getf (v := .inr (.inr (9, 0))) a10_countOf_148 fs10_10 rfl ?_
    refine g_getf (v := .inr (.inr (7, 5))) a10_countOf_151 fs10_263 rfl ?_
    refine g_V0s (v1 := .inl (f7_size 5 σ)) (σ1 := σ) a10_countOf_154 cv10_80 (E7_size _ _) rfl (fun o7 => ?_)
    subst h
    exact g_retE a10_countOf_157 trivial rfl rfl
  have h := (if_neg c18).symm.trans h
  rcases Decidable.em (x1 = 9) with c19 | c19
  · have h := (if_pos c19).symm.trans h
    refine g_tsIn (tgt := 158) (off := 157) a10_countOf_1 (by rw [c19]; decide) (by rw [c19]; decide) (by rw [c19]; rfl) rfl ?_
    refine g_aload_n a10_countOf_158 rfl ?_
    refine g_getf (v := .inr (.inr (9, 0))) a10_countOf_159 fs10_10 rfl ?_
    refine g_getf (v := .inr (.inr (7, 6))) a10_countOf_162 fs10_178 rfl ?_
    refine g_V0s (v1 := .inl (f7_size 6 σ)) (σ1 := σ) a10_countOf_165 cv10_80 (E7_size _ _) rfl (fun o8 => ?_)
    subst h
    exact g_retE a10_countOf_168 trivial rfl rfl
  have h := (if_neg c19).symm.trans h
  have tc10 := lv_neT c10 (a := 0) rfl
  have tc11 := lv_neT c11 (a := 1) rfl
  have tc12 := lv_neT c12 (a := 2) rfl
  have tc13 := lv_neT c13 (a := 3) rfl
  have tc14 := lv_neT c14 (a := 4) rfl
  have tc15 := lv_neT c15 (a := 5) rfl
  have tc16 := lv_neT c16 (a := 6) rfl
  have tc17 := lv_neT c17 (a := 7) rfl
  have tc18 := lv_neT c18 (a := 8) rfl
  have tc19 := lv_neT c19 (a := 9) rfl
  refine g_tsOut (tgt := 169) a10_countOf_1 (by omega) rfl ?_
  refine g_aload_n a10_countOf_169 rfl ?_
  refine g_getf (v := .inr (.inr (8, 0))) a10_countOf_170 fs10_44 rfl ?_
  refine g_V0s (v1 := .inl (f8_length 0 σ)) (σ1 := σ) a10_countOf_173 cv10_142 (E8_length _ _) rfl (fun o9 => ?_)
  subst h
  exact g_retE a10_countOf_176 trivial rfl rfl
theorem a10_count_0 : At cX10_count 0 (.iload_n 1) 1 1 := ⟨by decide +kernel, rfl⟩
theorem a10_count_1 : At cX10_count 1 (.iconst 0) 1 2 := ⟨by decide +kernel, rfl⟩
theorem a10_count_2 : At cX10_count 2 (.bipush 10) 2 4 := ⟨by decide +kernel, rfl⟩
theorem a10_count_4 : At cX10_count 4 (.invokestatic 96) 3 7 := ⟨by decide +kernel, rfl⟩
theorem a10_count_7 : At cX10_count 7 (.ifCond .ne 8) 3 10 := ⟨by decide +kernel, rfl⟩
theorem a10_count_10 : At cX10_count 10 (.aload_n 0) 1 11 := ⟨by decide +kernel, rfl⟩
theorem a10_count_11 : At cX10_count 11 (.invokevirtual 100) 3 14 := ⟨by decide +kernel, rfl⟩
theorem a10_count_14 : At cX10_count 14 (.ireturn) 1 15 := ⟨by decide +kernel, rfl⟩
theorem a10_count_15 : At cX10_count 15 (.aload_n 0) 1 16 := ⟨by decide +kernel, rfl⟩
theorem a10_count_16 : At cX10_count 16 (.iload_n 1) 1 17 := ⟨by decide +kernel, rfl⟩
theorem a10_count_17 : At cX10_count 17 (.invokevirtual 346) 3 20 := ⟨by decide +kernel, rfl⟩
theorem a10_count_20 : At cX10_count 20 (.ireturn) 1 21 := ⟨by decide +kernel, rfl⟩
def f10_count (k0 : Nat) (x1 : Int32) (σ : Mem) : Int32 × Mem :=
  if (f10_within x1 0 10) = 0 then
  (lt (f10_refuseBad k0 σ) fun w2 =>
  (w2.1, w2.2))
  else
  (((f10_countOf k0 x1 σ), σ))
theorem E10_count (k0 : Nat) (x1 : Int32) (σ : Mem) : Ev m10_count [.inr (.inr (10, k0)), .inl x1] σ (some (.inl ((f10_count k0 x1 σ).1)) : Option AV) (f10_count k0 x1 σ).2 := by
  obtain ⟨w, h⟩ : ∃ w, f10_count k0 x1 σ = w := ⟨_, rfl⟩
  rw [h]
  unfold f10_count at h
  show Go m10_count 0 [some (.inr (.inr (10, k0))), some (.inl x1)] [] σ (some (.inl w.1) : Option AV) w.2
  refine g_iload_n a10_count_0 rfl ?_
  refine g_iconst (v := 0) a10_count_1 rfl ?_
  refine g_bipush (v := 10) a10_count_2 rfl ?_
  refine g_S3s (v1 := .inl (f10_within x1 0 10)) (σ1 := σ) a10_count_4 cs10_96 (E10_within _ _ _ _) rfl (fun o1 => ?_)
  refine g_if_ne (tgt := 15) a10_count_7 rfl (fun c5 => ?_) (fun c5 => ?_)
  · have h := (if_neg c5).symm.trans h
    refine g_aload_n a10_count_15 rfl ?_
    refine g_iload_n a10_count_16 rfl ?_
    refine g_V1s (v1 := .inl (f10_countOf k0 x1 σ)) (σ1 := σ) a10_count_17 cv10_346 (E10_countOf _ _ _) rfl (fun o4 => ?_)
    subst h
    exact g_retE a10_count_20 trivial rfl rfl
  · have h := (if_pos c5).symm.trans h
    refine g_aload_n a10_count_10 rfl ?_
    obtain ⟨w2, hw2, h⟩ := lt_inv h
    refine g_V0s (v1 := .inl w2.1) (σ1 := w2.2) a10_count_11 cv10_100 (by rw [← hw2]; exact E10_refuseBad _ _) rfl (fun o3 => ?_)
    subst h
    exact g_retE a10_count_14 trivial rfl rfl
theorem a7_digestOn_0 : At cX7_digestOn 0 (.lload_n 1) 1 1 := ⟨by decide +kernel, rfl⟩
theorem a7_digestOn_1 : At cX7_digestOn 1 (.lstore_n 3) 1 2 := ⟨by decide +kernel, rfl⟩
theorem a7_digestOn_2 : At cX7_digestOn 2 (.iconst 0) 1 3 := ⟨by decide +kernel, rfl⟩
theorem a7_digestOn_3 : At cX7_digestOn 3 (.istore 5) 2 5 := ⟨by decide +kernel, rfl⟩
theorem a7_digestOn_5 : At cX7_digestOn 5 (.iload 5) 2 7 := ⟨by decide +kernel, rfl⟩
theorem a7_digestOn_7 : At cX7_digestOn 7 (.aload_n 0) 1 8 := ⟨by decide +kernel, rfl⟩
theorem a7_digestOn_8 : At cX7_digestOn 8 (.getfield 26) 3 11 := ⟨by decide +kernel, rfl⟩
theorem a7_digestOn_11 : At cX7_digestOn 11 (.if_icmp .ge 43) 3 14 := ⟨by decide +kernel, rfl⟩
theorem a7_digestOn_14 : At cX7_digestOn 14 (.iconst 0) 1 15 := ⟨by decide +kernel, rfl⟩
theorem a7_digestOn_15 : At cX7_digestOn 15 (.istore 6) 2 17 := ⟨by decide +kernel, rfl⟩
theorem a7_digestOn_17 : At cX7_digestOn 17 (.iload 6) 2 19 := ⟨by decide +kernel, rfl⟩
theorem a7_digestOn_19 : At cX7_digestOn 19 (.aload_n 0) 1 20 := ⟨by decide +kernel, rfl⟩
theorem a7_digestOn_20 : At cX7_digestOn 20 (.getfield 13) 3 23 := ⟨by decide +kernel, rfl⟩
theorem a7_digestOn_23 : At cX7_digestOn 23 (.if_icmp .ge 25) 3 26 := ⟨by decide +kernel, rfl⟩
theorem a7_digestOn_26 : At cX7_digestOn 26 (.ldc2_w 46) 3 29 := ⟨by decide +kernel, rfl⟩
theorem a7_digestOn_29 : At cX7_digestOn 29 (.lload_n 3) 1 30 := ⟨by decide +kernel, rfl⟩
theorem a7_digestOn_30 : At cX7_digestOn 30 (.lmul) 1 31 := ⟨by decide +kernel, rfl⟩
theorem a7_digestOn_31 : At cX7_digestOn 31 (.aload_n 0) 1 32 := ⟨by decide +kernel, rfl⟩
theorem a7_digestOn_32 : At cX7_digestOn 32 (.iload 5) 2 34 := ⟨by decide +kernel, rfl⟩
theorem a7_digestOn_34 : At cX7_digestOn 34 (.iload 6) 2 36 := ⟨by decide +kernel, rfl⟩
theorem a7_digestOn_36 : At cX7_digestOn 36 (.invokevirtual 37) 3 39 := ⟨by decide +kernel, rfl⟩
theorem a7_digestOn_39 : At cX7_digestOn 39 (.i2l) 1 40 := ⟨by decide +kernel, rfl⟩
theorem a7_digestOn_40 : At cX7_digestOn 40 (.ladd) 1 41 := ⟨by decide +kernel, rfl⟩
theorem a7_digestOn_41 : At cX7_digestOn 41 (.lstore_n 3) 1 42 := ⟨by decide +kernel, rfl⟩
theorem a7_digestOn_42 : At cX7_digestOn 42 (.iinc 6 1) 3 45 := ⟨by decide +kernel, rfl⟩
theorem a7_digestOn_45 : At cX7_digestOn 45 (.goto (-28)) 3 48 := ⟨by decide +kernel, rfl⟩
theorem a7_digestOn_48 : At cX7_digestOn 48 (.iinc 5 1) 3 51 := ⟨by decide +kernel, rfl⟩
theorem a7_digestOn_51 : At cX7_digestOn 51 (.goto (-46)) 3 54 := ⟨by decide +kernel, rfl⟩
theorem a7_digestOn_54 : At cX7_digestOn 54 (.lload_n 3) 1 55 := ⟨by decide +kernel, rfl⟩
theorem a7_digestOn_55 : At cX7_digestOn 55 (.lreturn) 1 56 := ⟨by decide +kernel, rfl⟩
def l7_digestOn_17 (k0 : Nat) (x5 : Int32) (σ : Mem) : Nat → Int64 → Int32 → Option (Int64 × Int32)
  | 0, _, _ => none
  | n + 1, x3, x6 =>
  if (σ.1 7 k0 1) ≤ x6 then
  (some (x3, x6))
  else
  (bnd (f7_at k0 x5 x6 σ) fun w1 =>
  l7_digestOn_17 k0 x5 σ n ((31 * x3) + (w1.toInt64)) (x6 + 1))
theorem lE7_digestOn_17 {V : Option AV} {S : Mem} (k0 : Nat) (x5 : Int32) (σ : Mem) : ∀ (n : Nat) (x3 : Int64) (x6 : Int32) {w : Int64 × Int32}, l7_digestOn_17 k0 x5 σ n x3 x6 = some w → (Go m7_digestOn 48 [some (.inr (.inr (7, k0))), none, none, some (.inr (.inl w.1)), none, some (.inl x5), some (.inl w.2)] [] σ V S) → Go m7_digestOn 17 [some (.inr (.inr (7, k0))), none, none, some (.inr (.inl x3)), none, some (.inl x5), some (.inl x6)] [] σ V S
  | 0, x3, x6, w, h, K1 => by cases h
  | n + 1, x3, x6, w, h, K1 => by
    rw [l7_digestOn_17] at h
    refine g_iload a7_digestOn_17 rfl ?_
    refine g_aload_n a7_digestOn_19 rfl ?_
    refine g_getf (v := .inl (σ.1 7 k0 1)) a7_digestOn_20 fs7_13 rfl ?_
    refine g_icmp_ge (tgt := 48) a7_digestOn_23 rfl (fun c3 => ?_) (fun c3 => ?_)
    · have h := (if_pos c3).symm.trans h
      have h := Option.some.inj h
      subst h
      exact g_weak K1 ⟨rfl, rfl, rfl, rfl, trivial⟩
    · have h := (if_neg c3).symm.trans h
      refine g_ldc2 (v := 31) a7_digestOn_26 wl7_46 ?_
      refine g_lload_n a7_digestOn_29 rfl ?_
      refine g_lmul a7_digestOn_30 ?_
      refine g_aload_n a7_digestOn_31 rfl ?_
      refine g_iload a7_digestOn_32 rfl ?_
      refine g_iload a7_digestOn_34 rfl ?_
      obtain ⟨w1, hw1, h⟩ := bnd_inv h
      refine g_V2s (v1 := .inl w1) (σ1 := σ) a7_digestOn_36 cv7_37 (E7_at hw1) rfl (fun o2 => ?_)
      refine g_i2l a7_digestOn_39 ?_
      refine g_ladd a7_digestOn_40 ?_
      refine g_lstore_n (L' := [some (.inr (.inr (7, k0))), none, none, some (.inr (.inl ((31 * x3) + (w1.toInt64)))), none, some (.inl x5), some (.inl x6)]) a7_digestOn_41 (Nat.le_of_ble_eq_true rfl) rfl rfl ?_
      refine g_iinc (v := (x6 + 1)) (L' := [some (.inr (.inr (7, k0))), none, none, some (.inr (.inl ((31 * x3) + (w1.toInt64)))), none, some (.inl x5), some (.inl (x6 + 1))]) a7_digestOn_42 rfl rfl (Nat.le_of_ble_eq_true rfl) rfl rfl ?_
      refine g_goto (tgt := 17) a7_digestOn_45 rfl ?_
      exact g_weak (lE7_digestOn_17 (V := V) (S := S)  k0 x5 σ n _ _ h K1) ⟨rfl, rfl, rfl, rfl, trivial⟩
def l7_digestOn_5 (k0 : Nat) (σ : Mem) : Nat → Int64 → Int32 → Option (Int64 × Int32)
  | 0, _, _ => none
  | n + 1, x3, x5 =>
  if (σ.1 7 k0 3) ≤ x5 then
  (some (x3, x5))
  else
  (bnd (l7_digestOn_17 k0 x5 σ 2000 x3 0) fun w4 =>
  l7_digestOn_5 k0 σ n w4.1 (x5 + 1))
theorem lE7_digestOn_5 {V : Option AV} {S : Mem} (k0 : Nat) (σ : Mem) : ∀ (n : Nat) (x3 : Int64) (x5 : Int32) {w : Int64 × Int32}, l7_digestOn_5 k0 σ n x3 x5 = some w → (Go m7_digestOn 54 [some (.inr (.inr (7, k0))), none, none, some (.inr (.inl w.1)), none, some (.inl w.2), none] [] σ V S) → Go m7_digestOn 5 [some (.inr (.inr (7, k0))), none, none, some (.inr (.inl x3)), none, some (.inl x5), none] [] σ V S
  | 0, x3, x5, w, h, K1 => by cases h
  | n + 1, x3, x5, w, h, K1 => by
    rw [l7_digestOn_5] at h
    refine g_iload a7_digestOn_5 rfl ?_
    refine g_aload_n a7_digestOn_7 rfl ?_
    refine g_getf (v := .inl (σ.1 7 k0 3)) a7_digestOn_8 fs7_26 rfl ?_
    refine g_icmp_ge (tgt := 54) a7_digestOn_11 rfl (fun c5 => ?_) (fun c5 => ?_)
    · have h := (if_pos c5).symm.trans h
      have h := Option.some.inj h
      subst h
      exact g_weak K1 ⟨rfl, rfl, rfl, trivial⟩
    · have h := (if_neg c5).symm.trans h
      refine g_iconst (v := 0) a7_digestOn_14 rfl ?_
      refine g_istore (L' := [some (.inr (.inr (7, k0))), none, none, some (.inr (.inl x3)), none, some (.inl x5), some (.inl 0)]) a7_digestOn_15 (Nat.le_of_ble_eq_true rfl) rfl rfl ?_
      obtain ⟨w4, hw4, h⟩ := bnd_inv h
      refine g_weak (lE7_digestOn_17 k0 x5 σ 2000 _ _ hw4 ?_) ⟨rfl, rfl, rfl, rfl, trivial⟩
      refine g_iinc (v := (x5 + 1)) (L' := [some (.inr (.inr (7, k0))), none, none, some (.inr (.inl w4.1)), none, some (.inl (x5 + 1)), some (.inl w4.2)]) a7_digestOn_48 rfl rfl (Nat.le_of_ble_eq_true rfl) rfl rfl ?_
      refine g_goto (tgt := 5) a7_digestOn_51 rfl ?_
      exact g_weak (lE7_digestOn_5 (V := V) (S := S)  k0 σ n _ _ h K1) ⟨rfl, rfl, rfl, trivial⟩
def f7_digestOn (k0 : Nat) (x1 : Int64) (σ : Mem) : Option (Int64) :=
  bnd (l7_digestOn_5 k0 σ 2000 x1 0) fun w6 =>
  some w6.1
theorem E7_digestOn {k0 : Nat} {x1 : Int64} {σ : Mem} {w : Int64} (h : f7_digestOn k0 x1 σ = some w) : Ev m7_digestOn [.inr (.inr (7, k0)), .inr (.inl x1)] σ (some (.inr (.inl w)) : Option AV) σ := by
  unfold f7_digestOn at h
  show Go m7_digestOn 0 [some (.inr (.inr (7, k0))), some (.inr (.inl x1)), none, none, none, none, none] [] σ (some (.inr (.inl w)) : Option AV) σ
  refine g_lload_n a7_digestOn_0 rfl ?_
  refine g_lstore_n (L' := [some (.inr (.inr (7, k0))), some (.inr (.inl x1)), none, some (.inr (.inl x1)), none, none, none]) a7_digestOn_1 (Nat.le_of_ble_eq_true rfl) rfl rfl ?_
  refine g_iconst (v := 0) a7_digestOn_2 rfl ?_
  refine g_istore (L' := [some (.inr (.inr (7, k0))), some (.inr (.inl x1)), none, some (.inr (.inl x1)), none, some (.inl 0), none]) a7_digestOn_3 (Nat.le_of_ble_eq_true rfl) rfl rfl ?_
  obtain ⟨w6, hw6, h⟩ := bnd_inv h
  refine g_weak (lE7_digestOn_5 k0 σ 2000 _ _ hw6 ?_) ⟨rfl, rfl, rfl, trivial⟩
  refine g_lload_n a7_digestOn_54 rfl ?_
  have h := Option.some.inj h
  subst h
  exact g_retE a7_digestOn_55 trivial rfl rfl
theorem a9_digestOn_0 : At cX9_digestOn 0 (.aload_n 0) 1 1 := ⟨by decide +kernel, rfl⟩
theorem a9_digestOn_1 : At cX9_digestOn 1 (.getfield 14) 3 4 := ⟨by decide +kernel, rfl⟩
theorem a9_digestOn_4 : At cX9_digestOn 4 (.lload_n 1) 1 5 := ⟨by decide +kernel, rfl⟩
theorem a9_digestOn_5 : At cX9_digestOn 5 (.invokevirtual 138) 3 8 := ⟨by decide +kernel, rfl⟩
theorem a9_digestOn_8 : At cX9_digestOn 8 (.lstore_n 3) 1 9 := ⟨by decide +kernel, rfl⟩
theorem a9_digestOn_9 : At cX9_digestOn 9 (.iconst 0) 1 10 := ⟨by decide +kernel, rfl⟩
theorem a9_digestOn_10 : At cX9_digestOn 10 (.istore 5) 2 12 := ⟨by decide +kernel, rfl⟩
theorem a9_digestOn_12 : At cX9_digestOn 12 (.iload 5) 2 14 := ⟨by decide +kernel, rfl⟩
theorem a9_digestOn_14 : At cX9_digestOn 14 (.aload_n 0) 1 15 := ⟨by decide +kernel, rfl⟩
theorem a9_digestOn_15 : At cX9_digestOn 15 (.getfield 20) 3 18 := ⟨by decide +kernel, rfl⟩
theorem a9_digestOn_18 : At cX9_digestOn 18 (.invokevirtual 70) 3 21 := ⟨by decide +kernel, rfl⟩
theorem a9_digestOn_21 : At cX9_digestOn 21 (.if_icmp .ge 88) 3 24 := ⟨by decide +kernel, rfl⟩
theorem a9_digestOn_24 : At cX9_digestOn 24 (.ldc2_w 142) 3 27 := ⟨by decide +kernel, rfl⟩
theorem a9_digestOn_27 : At cX9_digestOn 27 (.lload_n 3) 1 28 := ⟨by decide +kernel, rfl⟩
theorem a9_digestOn_28 : At cX9_digestOn 28 (.lmul) 1 29 := ⟨by decide +kernel, rfl⟩
theorem a9_digestOn_29 : At cX9_digestOn 29 (.aload_n 0) 1 30 := ⟨by decide +kernel, rfl⟩
theorem a9_digestOn_30 : At cX9_digestOn 30 (.getfield 20) 3 33 := ⟨by decide +kernel, rfl⟩
theorem a9_digestOn_33 : At cX9_digestOn 33 (.iload 5) 2 35 := ⟨by decide +kernel, rfl⟩
theorem a9_digestOn_35 : At cX9_digestOn 35 (.iconst 0) 1 36 := ⟨by decide +kernel, rfl⟩
theorem a9_digestOn_36 : At cX9_digestOn 36 (.invokevirtual 94) 3 39 := ⟨by decide +kernel, rfl⟩
theorem a9_digestOn_39 : At cX9_digestOn 39 (.i2l) 1 40 := ⟨by decide +kernel, rfl⟩
theorem a9_digestOn_40 : At cX9_digestOn 40 (.ladd) 1 41 := ⟨by decide +kernel, rfl⟩
theorem a9_digestOn_41 : At cX9_digestOn 41 (.lstore_n 3) 1 42 := ⟨by decide +kernel, rfl⟩
theorem a9_digestOn_42 : At cX9_digestOn 42 (.ldc2_w 142) 3 45 := ⟨by decide +kernel, rfl⟩
theorem a9_digestOn_45 : At cX9_digestOn 45 (.lload_n 3) 1 46 := ⟨by decide +kernel, rfl⟩
theorem a9_digestOn_46 : At cX9_digestOn 46 (.lmul) 1 47 := ⟨by decide +kernel, rfl⟩
theorem a9_digestOn_47 : At cX9_digestOn 47 (.aload_n 0) 1 48 := ⟨by decide +kernel, rfl⟩
theorem a9_digestOn_48 : At cX9_digestOn 48 (.getfield 20) 3 51 := ⟨by decide +kernel, rfl⟩
theorem a9_digestOn_51 : At cX9_digestOn 51 (.iload 5) 2 53 := ⟨by decide +kernel, rfl⟩
theorem a9_digestOn_53 : At cX9_digestOn 53 (.iconst 1) 1 54 := ⟨by decide +kernel, rfl⟩
theorem a9_digestOn_54 : At cX9_digestOn 54 (.invokevirtual 94) 3 57 := ⟨by decide +kernel, rfl⟩
theorem a9_digestOn_57 : At cX9_digestOn 57 (.i2l) 1 58 := ⟨by decide +kernel, rfl⟩
theorem a9_digestOn_58 : At cX9_digestOn 58 (.ladd) 1 59 := ⟨by decide +kernel, rfl⟩
theorem a9_digestOn_59 : At cX9_digestOn 59 (.lstore_n 3) 1 60 := ⟨by decide +kernel, rfl⟩
theorem a9_digestOn_60 : At cX9_digestOn 60 (.ldc2_w 142) 3 63 := ⟨by decide +kernel, rfl⟩
theorem a9_digestOn_63 : At cX9_digestOn 63 (.lload_n 3) 1 64 := ⟨by decide +kernel, rfl⟩
theorem a9_digestOn_64 : At cX9_digestOn 64 (.lmul) 1 65 := ⟨by decide +kernel, rfl⟩
theorem a9_digestOn_65 : At cX9_digestOn 65 (.aload_n 0) 1 66 := ⟨by decide +kernel, rfl⟩
theorem a9_digestOn_66 : At cX9_digestOn 66 (.getfield 20) 3 69 := ⟨by decide +kernel, rfl⟩
theorem a9_digestOn_69 : At cX9_digestOn 69 (.iload 5) 2 71 := ⟨by decide +kernel, rfl⟩
theorem a9_digestOn_71 : At cX9_digestOn 71 (.iconst 2) 1 72 := ⟨by decide +kernel, rfl⟩
theorem a9_digestOn_72 : At cX9_digestOn 72 (.invokevirtual 94) 3 75 := ⟨by decide +kernel, rfl⟩
theorem a9_digestOn_75 : At cX9_digestOn 75 (.i2l) 1 76 := ⟨by decide +kernel, rfl⟩
theorem a9_digestOn_76 : At cX9_digestOn 76 (.ladd) 1 77 := ⟨by decide +kernel, rfl⟩
theorem a9_digestOn_77 : At cX9_digestOn 77 (.lstore_n 3) 1 78 := ⟨by decide +kernel, rfl⟩
theorem a9_digestOn_78 : At cX9_digestOn 78 (.ldc2_w 142) 3 81 := ⟨by decide +kernel, rfl⟩
theorem a9_digestOn_81 : At cX9_digestOn 81 (.lload_n 3) 1 82 := ⟨by decide +kernel, rfl⟩
theorem a9_digestOn_82 : At cX9_digestOn 82 (.lmul) 1 83 := ⟨by decide +kernel, rfl⟩
theorem a9_digestOn_83 : At cX9_digestOn 83 (.aload_n 0) 1 84 := ⟨by decide +kernel, rfl⟩
theorem a9_digestOn_84 : At cX9_digestOn 84 (.getfield 41) 3 87 := ⟨by decide +kernel, rfl⟩
theorem a9_digestOn_87 : At cX9_digestOn 87 (.iload 5) 2 89 := ⟨by decide +kernel, rfl⟩
theorem a9_digestOn_89 : At cX9_digestOn 89 (.invokevirtual 131) 3 92 := ⟨by decide +kernel, rfl⟩
theorem a9_digestOn_92 : At cX9_digestOn 92 (.ifCond .eq 7) 3 95 := ⟨by decide +kernel, rfl⟩
theorem a9_digestOn_95 : At cX9_digestOn 95 (.iconst 1) 1 96 := ⟨by decide +kernel, rfl⟩
theorem a9_digestOn_96 : At cX9_digestOn 96 (.goto 4) 3 99 := ⟨by decide +kernel, rfl⟩
theorem a9_digestOn_99 : At cX9_digestOn 99 (.iconst 0) 1 100 := ⟨by decide +kernel, rfl⟩
theorem a9_digestOn_100 : At cX9_digestOn 100 (.i2l) 1 101 := ⟨by decide +kernel, rfl⟩
theorem a9_digestOn_101 : At cX9_digestOn 101 (.ladd) 1 102 := ⟨by decide +kernel, rfl⟩
theorem a9_digestOn_102 : At cX9_digestOn 102 (.lstore_n 3) 1 103 := ⟨by decide +kernel, rfl⟩
theorem a9_digestOn_103 : At cX9_digestOn 103 (.iinc 5 1) 3 106 := ⟨by decide +kernel, rfl⟩
theorem a9_digestOn_106 : At cX9_digestOn 106 (.goto (-94)) 3 109 := ⟨by decide +kernel, rfl⟩
theorem a9_digestOn_109 : At cX9_digestOn 109 (.iconst 0) 1 110 := ⟨by decide +kernel, rfl⟩
theorem a9_digestOn_110 : At cX9_digestOn 110 (.istore 5) 2 112 := ⟨by decide +kernel, rfl⟩
theorem a9_digestOn_112 : At cX9_digestOn 112 (.iload 5) 2 114 := ⟨by decide +kernel, rfl⟩
theorem a9_digestOn_114 : At cX9_digestOn 114 (.aload_n 0) 1 115 := ⟨by decide +kernel, rfl⟩
theorem a9_digestOn_115 : At cX9_digestOn 115 (.getfield 23) 3 118 := ⟨by decide +kernel, rfl⟩
theorem a9_digestOn_118 : At cX9_digestOn 118 (.invokevirtual 70) 3 121 := ⟨by decide +kernel, rfl⟩
theorem a9_digestOn_121 : At cX9_digestOn 121 (.if_icmp .ge 52) 3 124 := ⟨by decide +kernel, rfl⟩
theorem a9_digestOn_124 : At cX9_digestOn 124 (.ldc2_w 142) 3 127 := ⟨by decide +kernel, rfl⟩
theorem a9_digestOn_127 : At cX9_digestOn 127 (.lload_n 3) 1 128 := ⟨by decide +kernel, rfl⟩
theorem a9_digestOn_128 : At cX9_digestOn 128 (.lmul) 1 129 := ⟨by decide +kernel, rfl⟩
theorem a9_digestOn_129 : At cX9_digestOn 129 (.aload_n 0) 1 130 := ⟨by decide +kernel, rfl⟩
theorem a9_digestOn_130 : At cX9_digestOn 130 (.getfield 23) 3 133 := ⟨by decide +kernel, rfl⟩
theorem a9_digestOn_133 : At cX9_digestOn 133 (.iload 5) 2 135 := ⟨by decide +kernel, rfl⟩
theorem a9_digestOn_135 : At cX9_digestOn 135 (.iconst 0) 1 136 := ⟨by decide +kernel, rfl⟩
theorem a9_digestOn_136 : At cX9_digestOn 136 (.invokevirtual 94) 3 139 := ⟨by decide +kernel, rfl⟩
theorem a9_digestOn_139 : At cX9_digestOn 139 (.i2l) 1 140 := ⟨by decide +kernel, rfl⟩
theorem a9_digestOn_140 : At cX9_digestOn 140 (.ladd) 1 141 := ⟨by decide +kernel, rfl⟩
theorem a9_digestOn_141 : At cX9_digestOn 141 (.lstore_n 3) 1 142 := ⟨by decide +kernel, rfl⟩
theorem a9_digestOn_142 : At cX9_digestOn 142 (.ldc2_w 142) 3 145 := ⟨by decide +kernel, rfl⟩
theorem a9_digestOn_145 : At cX9_digestOn 145 (.lload_n 3) 1 146 := ⟨by decide +kernel, rfl⟩
theorem a9_digestOn_146 : At cX9_digestOn 146 (.lmul) 1 147 := ⟨by decide +kernel, rfl⟩
theorem a9_digestOn_147 : At cX9_digestOn 147 (.aload_n 0) 1 148 := ⟨by decide +kernel, rfl⟩
theorem a9_digestOn_148 : At cX9_digestOn 148 (.getfield 41) 3 151 := ⟨by decide +kernel, rfl⟩
theorem a9_digestOn_151 : At cX9_digestOn 151 (.iload 5) 2 153 := ⟨by decide +kernel, rfl⟩
theorem a9_digestOn_153 : At cX9_digestOn 153 (.invokevirtual 144) 3 156 := ⟨by decide +kernel, rfl⟩
theorem a9_digestOn_156 : At cX9_digestOn 156 (.ifCond .eq 7) 3 159 := ⟨by decide +kernel, rfl⟩
theorem a9_digestOn_159 : At cX9_digestOn 159 (.iconst 1) 1 160 := ⟨by decide +kernel, rfl⟩
theorem a9_digestOn_160 : At cX9_digestOn 160 (.goto 4) 3 163 := ⟨by decide +kernel, rfl⟩
theorem a9_digestOn_163 : At cX9_digestOn 163 (.iconst 0) 1 164 := ⟨by decide +kernel, rfl⟩
theorem a9_digestOn_164 : At cX9_digestOn 164 (.i2l) 1 165 := ⟨by decide +kernel, rfl⟩
theorem a9_digestOn_165 : At cX9_digestOn 165 (.ladd) 1 166 := ⟨by decide +kernel, rfl⟩
theorem a9_digestOn_166 : At cX9_digestOn 166 (.lstore_n 3) 1 167 := ⟨by decide +kernel, rfl⟩
theorem a9_digestOn_167 : At cX9_digestOn 167 (.iinc 5 1) 3 170 := ⟨by decide +kernel, rfl⟩
theorem a9_digestOn_170 : At cX9_digestOn 170 (.goto (-58)) 3 173 := ⟨by decide +kernel, rfl⟩
theorem a9_digestOn_173 : At cX9_digestOn 173 (.aload_n 0) 1 174 := ⟨by decide +kernel, rfl⟩
theorem a9_digestOn_174 : At cX9_digestOn 174 (.getfield 32) 3 177 := ⟨by decide +kernel, rfl⟩
theorem a9_digestOn_177 : At cX9_digestOn 177 (.aload_n 0) 1 178 := ⟨by decide +kernel, rfl⟩
theorem a9_digestOn_178 : At cX9_digestOn 178 (.getfield 29) 3 181 := ⟨by decide +kernel, rfl⟩
theorem a9_digestOn_181 : At cX9_digestOn 181 (.aload_n 0) 1 182 := ⟨by decide +kernel, rfl⟩
theorem a9_digestOn_182 : At cX9_digestOn 182 (.getfield 26) 3 185 := ⟨by decide +kernel, rfl⟩
theorem a9_digestOn_185 : At cX9_digestOn 185 (.lload_n 3) 1 186 := ⟨by decide +kernel, rfl⟩
theorem a9_digestOn_186 : At cX9_digestOn 186 (.invokevirtual 138) 3 189 := ⟨by decide +kernel, rfl⟩
theorem a9_digestOn_189 : At cX9_digestOn 189 (.invokevirtual 138) 3 192 := ⟨by decide +kernel, rfl⟩
theorem a9_digestOn_192 : At cX9_digestOn 192 (.invokevirtual 138) 3 195 := ⟨by decide +kernel, rfl⟩
theorem a9_digestOn_195 : At cX9_digestOn 195 (.lreturn) 1 196 := ⟨by decide +kernel, rfl⟩
def l9_digestOn_12 (k0 : Nat) (σ : Mem) : Nat → Int64 → Int32 → Option (Int64 × Int32)
  | 0, _, _ => none
  | n + 1, x3, x5 =>
  if (f7_size (7 * k0 + 1) σ) ≤ x5 then
  (some (x3, x5))
  else
  (bnd (f7_at (7 * k0 + 1) x5 0 σ) fun w4 =>
  bnd (f7_at (7 * k0 + 1) x5 1 σ) fun w6 =>
  lt (((31 * ((31 * x3) + (w4.toInt64))) + (w6.toInt64)) : Int64) fun y8 =>
  bnd (f7_at (7 * k0 + 1) x5 2 σ) fun w9 =>
  lt (if (f4_isUp k0 x5 σ) = 0 then
  (0)
  else
  (1) : Int32) fun w12 =>
  lt (((31 * ((31 * y8) + (w9.toInt64))) + (w12.toInt64)) : Int64) fun y16 =>
  l9_digestOn_12 k0 σ n y16 (x5 + 1))
theorem lE9_digestOn_12 {V : Option AV} {S : Mem} (k0 : Nat) (σ : Mem) : ∀ (n : Nat) (x3 : Int64) (x5 : Int32) {w : Int64 × Int32}, l9_digestOn_12 k0 σ n x3 x5 = some w → (Go m9_digestOn 109 [some (.inr (.inr (9, k0))), none, none, some (.inr (.inl w.1)), none, some (.inl w.2)] [] σ V S) → Go m9_digestOn 12 [some (.inr (.inr (9, k0))), none, none, some (.inr (.inl x3)), none, some (.inl x5)] [] σ V S
  | 0, x3, x5, w, h, K1 => by cases h
  | n + 1, x3, x5, w, h, K1 => by
    rw [l9_digestOn_12] at h
    refine g_iload a9_digestOn_12 rfl ?_
    refine g_aload_n a9_digestOn_14 rfl ?_
    refine g_getf (v := .inr (.inr (7, (7 * k0 + 1)))) a9_digestOn_15 fs9_20 rfl ?_
    refine g_V0s (v1 := .inl (f7_size (7 * k0 + 1) σ)) (σ1 := σ) a9_digestOn_18 cv9_70 (E7_size _ _) rfl (fun o3 => ?_)
    refine g_icmp_ge (tgt := 109) a9_digestOn_21 rfl (fun c17 => ?_) (fun c17 => ?_)
    · have h := (if_pos c17).symm.trans h
      have h := Option.some.inj h
      subst h
      exact g_weak K1 ⟨rfl, rfl, rfl, trivial⟩
    · have h := (if_neg c17).symm.trans h
      refine g_ldc2 (v := 31) a9_digestOn_24 wl9_142 ?_
      refine g_lload_n a9_digestOn_27 rfl ?_
      refine g_lmul a9_digestOn_28 ?_
      refine g_aload_n a9_digestOn_29 rfl ?_
      refine g_getf (v := .inr (.inr (7, (7 * k0 + 1)))) a9_digestOn_30 fs9_20 rfl ?_
      refine g_iload a9_digestOn_33 rfl ?_
      refine g_iconst (v := 0) a9_digestOn_35 rfl ?_
      obtain ⟨w4, hw4, h⟩ := bnd_inv h
      refine g_V2s (v1 := .inl w4) (σ1 := σ) a9_digestOn_36 cv9_94 (E7_at hw4) rfl (fun o5 => ?_)
      refine g_i2l a9_digestOn_39 ?_
      refine g_ladd a9_digestOn_40 ?_
      refine g_lstore_n (L' := [some (.inr (.inr (9, k0))), none, none, some (.inr (.inl ((31 * x3) + (w4.toInt64)))), none, some (.inl x5)]) a9_digestOn_41 (Nat.le_of_ble_eq_true rfl) rfl rfl ?_
      refine g_ldc2 (v := 31) a9_digestOn_42 wl9_142 ?_
      refine g_lload_n a9_digestOn_45 rfl ?_
      refine g_lmul a9_digestOn_46 ?_
      refine g_aload_n a9_digestOn_47 rfl ?_
      refine g_getf (v := .inr (.inr (7, (7 * k0 + 1)))) a9_digestOn_48 fs9_20 rfl ?_
      refine g_iload a9_digestOn_51 rfl ?_
      refine g_iconst (v := 1) a9_digestOn_53 rfl ?_
      obtain ⟨w6, hw6, h⟩ := bnd_inv h
      refine g_V2s (v1 := .inl w6) (σ1 := σ) a9_digestOn_54 cv9_94 (E7_at hw6) rfl (fun o7 => ?_)
      refine g_i2l a9_digestOn_57 ?_
      refine g_ladd a9_digestOn_58 ?_
      obtain ⟨y8, ey8, h⟩ := lt_inv h
      rw [ey8]
      refine g_lstore_n (L' := [some (.inr (.inr (9, k0))), none, none, some (.inr (.inl y8)), none, some (.inl x5)]) a9_digestOn_59 (Nat.le_of_ble_eq_true rfl) rfl rfl ?_
      refine g_ldc2 (v := 31) a9_digestOn_60 wl9_142 ?_
      refine g_lload_n a9_digestOn_63 rfl ?_
      refine g_lmul a9_digestOn_64 ?_
      refine g_aload_n a9_digestOn_65 rfl ?_
      refine g_getf (v := .inr (.inr (7, (7 * k0 + 1)))) a9_digestOn_66 fs9_20 rfl ?_
      refine g_iload a9_digestOn_69 rfl ?_
      refine g_iconst (v := 2) a9_digestOn_71 rfl ?_
      obtain ⟨w9, hw9, h⟩ := bnd_inv h
      refine g_V2s (v1 := .inl w9) (σ1 := σ) a9_digestOn_72 cv9_94 (E7_at hw9) rfl (fun o10 => ?_)
      refine g_i2l a9_digestOn_75 ?_
      refine g_ladd a9_digestOn_76 ?_
      refine g_lstore_n (L' := [some (.inr (.inr (9, k0))), none, none, some (.inr (.inl ((31 * y8) + (w9.toInt64)))), none, some (.inl x5)]) a9_digestOn_77 (Nat.le_of_ble_eq_true rfl) rfl rfl ?_
      refine g_ldc2 (v := 31) a9_digestOn_78 wl9_142 ?_
      refine g_lload_n a9_digestOn_81 rfl ?_
      refine g_lmul a9_digestOn_82 ?_
      refine g_aload_n a9_digestOn_83 rfl ?_
      refine g_getf (v := .inr (.inr (4, k0))) a9_digestOn_84 fs9_41 rfl ?_
      refine g_iload a9_digestOn_87 rfl ?_
      refine g_V1s (v1 := .inl (f4_isUp k0 x5 σ)) (σ1 := σ) a9_digestOn_89 cv9_131 (E4_isUp _ _ _) rfl (fun o11 => ?_)
      obtain ⟨w12, hw12, h⟩ := lt_inv h
      have b15 : w12 = 0 ∨ w12 = 1 := by rw [← hw12]; repeat (first | exact Or.inl rfl | exact Or.inr rfl | split)
      have J13 : Go m9_digestOn 100 [some (.inr (.inr (9, k0))), none, none, none, none, some (.inl x5)] [.inl w12, .inr (.inl (31 * ((31 * y8) + (w9.toInt64))))] σ V S := by
        refine g_i2l a9_digestOn_100 ?_
        refine g_ladd a9_digestOn_101 ?_
        obtain ⟨y16, ey16, h⟩ := lt_inv h
        rw [ey16]
        refine g_lstore_n (L' := [some (.inr (.inr (9, k0))), none, none, some (.inr (.inl y16)), none, some (.inl x5)]) a9_digestOn_102 (Nat.le_of_ble_eq_true rfl) rfl rfl ?_
        refine g_iinc (v := (x5 + 1)) (L' := [some (.inr (.inr (9, k0))), none, none, some (.inr (.inl y16)), none, some (.inl (x5 + 1))]) a9_digestOn_103 rfl rfl (Nat.le_of_ble_eq_true rfl) rfl rfl ?_
        refine g_goto (tgt := 12) a9_digestOn_106 rfl ?_
        exact g_weak (lE9_digestOn_12 (V := V) (S := S)  k0 σ n _ _ h K1) ⟨rfl, rfl, rfl, trivial⟩
      clear h
      refine g_if_eq (tgt := 99) a9_digestOn_92 rfl (fun c14 => ?_) (fun c14 => ?_)
      · have hw12 := (if_pos c14).symm.trans hw12
        refine g_iconst (v := 0) a9_digestOn_99 rfl ?_
        subst hw12
        exact g_weak J13 ⟨rfl, rfl, trivial⟩
      · have hw12 := (if_neg c14).symm.trans hw12
        refine g_iconst (v := 1) a9_digestOn_95 rfl ?_
        refine g_goto (tgt := 100) a9_digestOn_96 rfl ?_
        subst hw12
        exact g_weak J13 ⟨rfl, rfl, trivial⟩
def l9_digestOn_112 (k0 : Nat) (σ : Mem) : Nat → Int64 → Int32 → Option (Int64 × Int32)
  | 0, _, _ => none
  | n + 1, x3, x5 =>
  if (f7_size (7 * k0 + 2) σ) ≤ x5 then
  (some (x3, x5))
  else
  (bnd (f7_at (7 * k0 + 2) x5 0 σ) fun w20 =>
  lt (if (f4_isThere k0 x5 σ) = 0 then
  (0)
  else
  (1) : Int32) fun w23 =>
  lt (((31 * ((31 * x3) + (w20.toInt64))) + (w23.toInt64)) : Int64) fun y27 =>
  l9_digestOn_112 k0 σ n y27 (x5 + 1))
theorem lE9_digestOn_112 {V : Option AV} {S : Mem} (k0 : Nat) (σ : Mem) : ∀ (n : Nat) (x3 : Int64) (x5 : Int32) {w : Int64 × Int32}, l9_digestOn_112 k0 σ n x3 x5 = some w → (Go m9_digestOn 173 [some (.inr (.inr (9, k0))), none, none, some (.inr (.inl w.1)), none, some (.inl w.2)] [] σ V S) → Go m9_digestOn 112 [some (.inr (.inr (9, k0))), none, none, some (.inr (.inl x3)), none, some (.inl x5)] [] σ V S
  | 0, x3, x5, w, h, K1 => by cases h
  | n + 1, x3, x5, w, h, K1 => by
    rw [l9_digestOn_112] at h
    refine g_iload a9_digestOn_112 rfl ?_
    refine g_aload_n a9_digestOn_114 rfl ?_
    refine g_getf (v := .inr (.inr (7, (7 * k0 + 2)))) a9_digestOn_115 fs9_23 rfl ?_
    refine g_V0s (v1 := .inl (f7_size (7 * k0 + 2) σ)) (σ1 := σ) a9_digestOn_118 cv9_70 (E7_size _ _) rfl (fun o19 => ?_)
    refine g_icmp_ge (tgt := 173) a9_digestOn_121 rfl (fun c28 => ?_) (fun c28 => ?_)
    · have h := (if_pos c28).symm.trans h
      have h := Option.some.inj h
      subst h
      exact g_weak K1 ⟨rfl, rfl, rfl, trivial⟩
    · have h := (if_neg c28).symm.trans h
      refine g_ldc2 (v := 31) a9_digestOn_124 wl9_142 ?_
      refine g_lload_n a9_digestOn_127 rfl ?_
      refine g_lmul a9_digestOn_128 ?_
      refine g_aload_n a9_digestOn_129 rfl ?_
      refine g_getf (v := .inr (.inr (7, (7 * k0 + 2)))) a9_digestOn_130 fs9_23 rfl ?_
      refine g_iload a9_digestOn_133 rfl ?_
      refine g_iconst (v := 0) a9_digestOn_135 rfl ?_
      obtain ⟨w20, hw20, h⟩ := bnd_inv h
      refine g_V2s (v1 := .inl w20) (σ1 := σ) a9_digestOn_136 cv9_94 (E7_at hw20) rfl (fun o21 => ?_)
      refine g_i2l a9_digestOn_139 ?_
      refine g_ladd a9_digestOn_140 ?_
      refine g_lstore_n (L' := [some (.inr (.inr (9, k0))), none, none, some (.inr (.inl ((31 * x3) + (w20.toInt64)))), none, some (.inl x5)]) a9_digestOn_141 (Nat.le_of_ble_eq_true rfl) rfl rfl ?_
      refine g_ldc2 (v := 31) a9_digestOn_142 wl9_142 ?_
      refine g_lload_n a9_digestOn_145 rfl ?_
      refine g_lmul a9_digestOn_146 ?_
      refine g_aload_n a9_digestOn_147 rfl ?_
      refine g_getf (v := .inr (.inr (4, k0))) a9_digestOn_148 fs9_41 rfl ?_
      refine g_iload a9_digestOn_151 rfl ?_
      refine g_V1s (v1 := .inl (f4_isThere k0 x5 σ)) (σ1 := σ) a9_digestOn_153 cv9_144 (E4_isThere _ _ _) rfl (fun o22 => ?_)
      obtain ⟨w23, hw23, h⟩ := lt_inv h
      have b26 : w23 = 0 ∨ w23 = 1 := by rw [← hw23]; repeat (first | exact Or.inl rfl | exact Or.inr rfl | split)
      have J24 : Go m9_digestOn 164 [some (.inr (.inr (9, k0))), none, none, none, none, some (.inl x5)] [.inl w23, .inr (.inl (31 * ((31 * x3) + (w20.toInt64))))] σ V S := by
        refine g_i2l a9_digestOn_164 ?_
        refine g_ladd a9_digestOn_165 ?_
        obtain ⟨y27, ey27, h⟩ := lt_inv h
        rw [ey27]
        refine g_lstore_n (L' := [some (.inr (.inr (9, k0))), none, none, some (.inr (.inl y27)), none, some (.inl x5)]) a9_digestOn_166 (Nat.le_of_ble_eq_true rfl) rfl rfl ?_
        refine g_iinc (v := (x5 + 1)) (L' := [some (.inr (.inr (9, k0))), none, none, some (.inr (.inl y27)), none, some (.inl (x5 + 1))]) a9_digestOn_167 rfl rfl (Nat.le_of_ble_eq_true rfl) rfl rfl ?_
        refine g_goto (tgt := 112) a9_digestOn_170 rfl ?_
        exact g_weak (lE9_digestOn_112 (V := V) (S := S)  k0 σ n _ _ h K1) ⟨rfl, rfl, rfl, trivial⟩
      clear h
      refine g_if_eq (tgt := 163) a9_digestOn_156 rfl (fun c25 => ?_) (fun c25 => ?_)
      · have hw23 := (if_pos c25).symm.trans hw23
        refine g_iconst (v := 0) a9_digestOn_163 rfl ?_
        subst hw23
        exact g_weak J24 ⟨rfl, rfl, trivial⟩
      · have hw23 := (if_neg c25).symm.trans hw23
        refine g_iconst (v := 1) a9_digestOn_159 rfl ?_
        refine g_goto (tgt := 164) a9_digestOn_160 rfl ?_
        subst hw23
        exact g_weak J24 ⟨rfl, rfl, trivial⟩
def f9_digestOn (k0 : Nat) (x1 : Int64) (σ : Mem) : Option (Int64) :=
  bnd (f7_digestOn (7 * k0) x1 σ) fun w1 =>
  bnd (l9_digestOn_12 k0 σ 2000 w1 0) fun w18 =>
  bnd (l9_digestOn_112 k0 σ 2000 w18.1 0) fun w29 =>
  bnd (f7_digestOn (7 * k0 + 3) w29.1 σ) fun w30 =>
  bnd (f7_digestOn (7 * k0 + 4) w30 σ) fun w32 =>
  bnd (f7_digestOn (7 * k0 + 5) w32 σ) fun w34 =>
  some w34
theorem E9_digestOn {k0 : Nat} {x1 : Int64} {σ : Mem} {w : Int64} (h : f9_digestOn k0 x1 σ = some w) : Ev m9_digestOn [.inr (.inr (9, k0)), .inr (.inl x1)] σ (some (.inr (.inl w)) : Option AV) σ := by
  unfold f9_digestOn at h
  show Go m9_digestOn 0 [some (.inr (.inr (9, k0))), some (.inr (.inl x1)), none, none, none, none] [] σ (some (.inr (.inl w)) : Option AV) σ
  refine g_aload_n a9_digestOn_0 rfl ?_
  refine g_getf (v := .inr (.inr (7, (7 * k0)))) a9_digestOn_1 fs9_14 rfl ?_
  refine g_lload_n a9_digestOn_4 rfl ?_
  obtain ⟨w1, hw1, h⟩ := bnd_inv h
  refine g_V1s (v1 := .inr (.inl w1)) (σ1 := σ) a9_digestOn_5 cv9_138 (E7_digestOn hw1) rfl (fun o2 => ?_)
  refine g_lstore_n (L' := [some (.inr (.inr (9, k0))), some (.inr (.inl x1)), none, some (.inr (.inl w1)), none, none]) a9_digestOn_8 (Nat.le_of_ble_eq_true rfl) rfl rfl ?_
  refine g_iconst (v := 0) a9_digestOn_9 rfl ?_
  refine g_istore (L' := [some (.inr (.inr (9, k0))), some (.inr (.inl x1)), none, some (.inr (.inl w1)), none, some (.inl 0)]) a9_digestOn_10 (Nat.le_of_ble_eq_true rfl) rfl rfl ?_
  obtain ⟨w18, hw18, h⟩ := bnd_inv h
  refine g_weak (lE9_digestOn_12 k0 σ 2000 _ _ hw18 ?_) ⟨rfl, rfl, rfl, trivial⟩
  refine g_iconst (v := 0) a9_digestOn_109 rfl ?_
  refine g_istore (L' := [some (.inr (.inr (9, k0))), none, none, some (.inr (.inl w18.1)), none, some (.inl 0)]) a9_digestOn_110 (Nat.le_of_ble_eq_true rfl) rfl rfl ?_
  obtain ⟨w29, hw29, h⟩ := bnd_inv h
  refine g_weak (lE9_digestOn_112 k0 σ 2000 _ _ hw29 ?_) ⟨rfl, rfl, rfl, trivial⟩
  refine g_aload_n a9_digestOn_173 rfl ?_
  refine g_getf (v := .inr (.inr (7, (7 * k0 + 5)))) a9_digestOn_174 fs9_32 rfl ?_
  refine g_aload_n a9_digestOn_177 rfl ?_
  refine g_getf (v := .inr (.inr (7, (7 * k0 + 4)))) a9_digestOn_178 fs9_29 rfl ?_
  refine g_aload_n a9_digestOn_181 rfl ?_
  refine g_getf (v := .inr (.inr (7, (7 * k0 + 3)))) a9_digestOn_182 fs9_26 rfl ?_
  refine g_lload_n a9_digestOn_185 rfl ?_
  obtain ⟨w30, hw30, h⟩ := bnd_inv h
  refine g_V1s (v1 := .inr (.inl w30)) (σ1 := σ) a9_digestOn_186 cv9_138 (E7_digestOn hw30) rfl (fun o31 => ?_)
  obtain ⟨w32, hw32, h⟩ := bnd_inv h
  refine g_V1s (v1 := .inr (.inl w32)) (σ1 := σ) a9_digestOn_189 cv9_138 (E7_digestOn hw32) rfl (fun o33 => ?_)
  obtain ⟨w34, hw34, h⟩ := bnd_inv h
  refine g_V1s (v1 := .inr (.inl w34)) (σ1 := σ) a9_digestOn_192 cv9_138 (E7_digestOn hw34) rfl (fun o35 => ?_)
  have h := Option.some.inj h
  subst h
  exact g_retE a9_digestOn_195 trivial rfl rfl
theorem a10_digest_0 : At cX10_digest 0 (.ldc2_w 349) 3 3 := ⟨by decide +kernel, rfl⟩
theorem a10_digest_3 : At cX10_digest 3 (.lstore_n 1) 1 4 := ⟨by decide +kernel, rfl⟩
theorem a10_digest_4 : At cX10_digest 4 (.iconst 0) 1 5 := ⟨by decide +kernel, rfl⟩
theorem a10_digest_5 : At cX10_digest 5 (.istore_n 3) 1 6 := ⟨by decide +kernel, rfl⟩
theorem a10_digest_6 : At cX10_digest 6 (.iload_n 3) 1 7 := ⟨by decide +kernel, rfl⟩
theorem a10_digest_7 : At cX10_digest 7 (.bipush 10) 2 9 := ⟨by decide +kernel, rfl⟩
theorem a10_digest_9 : At cX10_digest 9 (.if_icmp .gt 22) 3 12 := ⟨by decide +kernel, rfl⟩
theorem a10_digest_12 : At cX10_digest 12 (.ldc2_w 351) 3 15 := ⟨by decide +kernel, rfl⟩
theorem a10_digest_15 : At cX10_digest 15 (.lload_n 1) 1 16 := ⟨by decide +kernel, rfl⟩
theorem a10_digest_16 : At cX10_digest 16 (.lmul) 1 17 := ⟨by decide +kernel, rfl⟩
theorem a10_digest_17 : At cX10_digest 17 (.aload_n 0) 1 18 := ⟨by decide +kernel, rfl⟩
theorem a10_digest_18 : At cX10_digest 18 (.iload_n 3) 1 19 := ⟨by decide +kernel, rfl⟩
theorem a10_digest_19 : At cX10_digest 19 (.invokevirtual 346) 3 22 := ⟨by decide +kernel, rfl⟩
theorem a10_digest_22 : At cX10_digest 22 (.i2l) 1 23 := ⟨by decide +kernel, rfl⟩
theorem a10_digest_23 : At cX10_digest 23 (.ladd) 1 24 := ⟨by decide +kernel, rfl⟩
theorem a10_digest_24 : At cX10_digest 24 (.lstore_n 1) 1 25 := ⟨by decide +kernel, rfl⟩
theorem a10_digest_25 : At cX10_digest 25 (.iinc 3 1) 3 28 := ⟨by decide +kernel, rfl⟩
theorem a10_digest_28 : At cX10_digest 28 (.goto (-22)) 3 31 := ⟨by decide +kernel, rfl⟩
theorem a10_digest_31 : At cX10_digest 31 (.aload_n 0) 1 32 := ⟨by decide +kernel, rfl⟩
theorem a10_digest_32 : At cX10_digest 32 (.getfield 10) 3 35 := ⟨by decide +kernel, rfl⟩
theorem a10_digest_35 : At cX10_digest 35 (.lload_n 1) 1 36 := ⟨by decide +kernel, rfl⟩
theorem a10_digest_36 : At cX10_digest 36 (.invokevirtual 353) 3 39 := ⟨by decide +kernel, rfl⟩
theorem a10_digest_39 : At cX10_digest 39 (.lstore_n 1) 1 40 := ⟨by decide +kernel, rfl⟩
theorem a10_digest_40 : At cX10_digest 40 (.ldc2_w 351) 3 43 := ⟨by decide +kernel, rfl⟩
theorem a10_digest_43 : At cX10_digest 43 (.lload_n 1) 1 44 := ⟨by decide +kernel, rfl⟩
theorem a10_digest_44 : At cX10_digest 44 (.lmul) 1 45 := ⟨by decide +kernel, rfl⟩
theorem a10_digest_45 : At cX10_digest 45 (.aload_n 0) 1 46 := ⟨by decide +kernel, rfl⟩
theorem a10_digest_46 : At cX10_digest 46 (.getfield 51) 3 49 := ⟨by decide +kernel, rfl⟩
theorem a10_digest_49 : At cX10_digest 49 (.invokevirtual 319) 3 52 := ⟨by decide +kernel, rfl⟩
theorem a10_digest_52 : At cX10_digest 52 (.ladd) 1 53 := ⟨by decide +kernel, rfl⟩
theorem a10_digest_53 : At cX10_digest 53 (.lstore_n 1) 1 54 := ⟨by decide +kernel, rfl⟩
theorem a10_digest_54 : At cX10_digest 54 (.ldc2_w 351) 3 57 := ⟨by decide +kernel, rfl⟩
theorem a10_digest_57 : At cX10_digest 57 (.lload_n 1) 1 58 := ⟨by decide +kernel, rfl⟩
theorem a10_digest_58 : At cX10_digest 58 (.lmul) 1 59 := ⟨by decide +kernel, rfl⟩
theorem a10_digest_59 : At cX10_digest 59 (.aload_n 0) 1 60 := ⟨by decide +kernel, rfl⟩
theorem a10_digest_60 : At cX10_digest 60 (.getfield 51) 3 63 := ⟨by decide +kernel, rfl⟩
theorem a10_digest_63 : At cX10_digest 63 (.invokevirtual 323) 3 66 := ⟨by decide +kernel, rfl⟩
theorem a10_digest_66 : At cX10_digest 66 (.ladd) 1 67 := ⟨by decide +kernel, rfl⟩
theorem a10_digest_67 : At cX10_digest 67 (.lreturn) 1 68 := ⟨by decide +kernel, rfl⟩
def l10_digest_6 (k0 : Nat) (σ : Mem) : Nat → Int64 → Int32 → Option (Int64 × Int32)
  | 0, _, _ => none
  | n + 1, x1, x3 =>
  if 10 < x3 then
  (some (x1, x3))
  else
  (lt (((31 * x1) + (((f10_countOf k0 x3 σ) : Int32).toInt64)) : Int64) fun y2 =>
  l10_digest_6 k0 σ n y2 (x3 + 1))
theorem lE10_digest_6 {V : Option AV} {S : Mem} (k0 : Nat) (σ : Mem) : ∀ (n : Nat) (x1 : Int64) (x3 : Int32) {w : Int64 × Int32}, l10_digest_6 k0 σ n x1 x3 = some w → (Go m10_digest 31 [some (.inr (.inr (10, k0))), some (.inr (.inl w.1)), none, some (.inl w.2)] [] σ V S) → Go m10_digest 6 [some (.inr (.inr (10, k0))), some (.inr (.inl x1)), none, some (.inl x3)] [] σ V S
  | 0, x1, x3, w, h, K1 => by cases h
  | n + 1, x1, x3, w, h, K1 => by
    rw [l10_digest_6] at h
    refine g_iload_n a10_digest_6 rfl ?_
    refine g_bipush (v := 10) a10_digest_7 rfl ?_
    refine g_icmp_gt (tgt := 31) a10_digest_9 rfl (fun c3 => ?_) (fun c3 => ?_)
    · have h := (if_pos c3).symm.trans h
      have h := Option.some.inj h
      subst h
      exact g_weak K1 ⟨rfl, rfl, rfl, trivial⟩
    · have h := (if_neg c3).symm.trans h
      refine g_ldc2 (v := 31) a10_digest_12 wl10_351 ?_
      refine g_lload_n a10_digest_15 rfl ?_
      refine g_lmul a10_digest_16 ?_
      refine g_aload_n a10_digest_17 rfl ?_
      refine g_iload_n a10_digest_18 rfl ?_
      refine g_V1s (v1 := .inl (f10_countOf k0 x3 σ)) (σ1 := σ) a10_digest_19 cv10_346 (E10_countOf _ _ _) rfl (fun o1 => ?_)
      refine g_i2l a10_digest_22 ?_
      refine g_ladd a10_digest_23 ?_
      obtain ⟨y2, ey2, h⟩ := lt_inv h
      rw [ey2]
      refine g_lstore_n (L' := [some (.inr (.inr (10, k0))), some (.inr (.inl y2)), none, some (.inl x3)]) a10_digest_24 (Nat.le_of_ble_eq_true rfl) rfl rfl ?_
      refine g_iinc (v := (x3 + 1)) (L' := [some (.inr (.inr (10, k0))), some (.inr (.inl y2)), none, some (.inl (x3 + 1))]) a10_digest_25 rfl rfl (Nat.le_of_ble_eq_true rfl) rfl rfl ?_
      refine g_goto (tgt := 6) a10_digest_28 rfl ?_
      exact g_weak (lE10_digest_6 (V := V) (S := S)  k0 σ n _ _ h K1) ⟨rfl, rfl, rfl, trivial⟩
def f10_digest (k0 : Nat) (σ : Mem) : Option (Int64) :=
  bnd (l10_digest_6 k0 σ 2000 1621 0) fun w4 =>
  bnd (f9_digestOn 0 w4.1 σ) fun w5 =>
  some ((31 * ((31 * w5) + (f1_above 0 σ))) + (f1_below 0 σ))
theorem E10_digest {k0 : Nat} {σ : Mem} {w : Int64} (h : f10_digest k0 σ = some w) : Ev m10_digest [.inr (.inr (10, k0))] σ (some (.inr (.inl w)) : Option AV) σ := by
  unfold f10_digest at h
  show Go m10_digest 0 [some (.inr (.inr (10, k0))), none, none, none] [] σ (some (.inr (.inl w)) : Option AV) σ
  refine g_ldc2 (v := 1621) a10_digest_0 wl10_349 ?_
  refine g_lstore_n (L' := [some (.inr (.inr (10, k0))), some (.inr (.inl 1621)), none, none]) a10_digest_3 (Nat.le_of_ble_eq_true rfl) rfl rfl ?_
  refine g_iconst (v := 0) a10_digest_4 rfl ?_
  refine g_istore_n (L' := [some (.inr (.inr (10, k0))), some (.inr (.inl 1621)), none, some (.inl 0)]) a10_digest_5 (Nat.le_of_ble_eq_true rfl) rfl rfl ?_
  obtain ⟨w4, hw4, h⟩ := bnd_inv h
  refine g_weak (lE10_digest_6 k0 σ 2000 _ _ hw4 ?_) ⟨rfl, rfl, rfl, trivial⟩
  refine g_aload_n a10_digest_31 rfl ?_
  refine g_getf (v := .inr (.inr (9, 0))) a10_digest_32 fs10_10 rfl ?_
  refine g_lload_n a10_digest_35 rfl ?_
  obtain ⟨w5, hw5, h⟩ := bnd_inv h
  refine g_V1s (v1 := .inr (.inl w5)) (σ1 := σ) a10_digest_36 cv10_353 (E9_digestOn hw5) rfl (fun o6 => ?_)
  refine g_lstore_n (L' := [some (.inr (.inr (10, k0))), some (.inr (.inl w5)), none, some (.inl w4.2)]) a10_digest_39 (Nat.le_of_ble_eq_true rfl) rfl rfl ?_
  refine g_ldc2 (v := 31) a10_digest_40 wl10_351 ?_
  refine g_lload_n a10_digest_43 rfl ?_
  refine g_lmul a10_digest_44 ?_
  refine g_aload_n a10_digest_45 rfl ?_
  refine g_getf (v := .inr (.inr (1, 0))) a10_digest_46 fs10_51 rfl ?_
  refine g_V0s (v1 := .inr (.inl (f1_above 0 σ))) (σ1 := σ) a10_digest_49 cv10_319 (E1_above _ _) rfl (fun o7 => ?_)
  refine g_ladd a10_digest_52 ?_
  refine g_lstore_n (L' := [some (.inr (.inr (10, k0))), some (.inr (.inl ((31 * w5) + (f1_above 0 σ)))), none, some (.inl w4.2)]) a10_digest_53 (Nat.le_of_ble_eq_true rfl) rfl rfl ?_
  refine g_ldc2 (v := 31) a10_digest_54 wl10_351 ?_
  refine g_lload_n a10_digest_57 rfl ?_
  refine g_lmul a10_digest_58 ?_
  refine g_aload_n a10_digest_59 rfl ?_
  refine g_getf (v := .inr (.inr (1, 0))) a10_digest_60 fs10_51 rfl ?_
  refine g_V0s (v1 := .inr (.inl (f1_below 0 σ))) (σ1 := σ) a10_digest_63 cv10_323 (E1_below _ _) rfl (fun o8 => ?_)
  refine g_ladd a10_digest_66 ?_
  have h := Option.some.inj h
  subst h
  exact g_retE a10_digest_67 trivial rfl rfl
