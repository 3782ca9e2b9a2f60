theorem a2_thingKinds_0 : At cX2_thingKinds 0 (.bipush 63) 2 2 := ⟨by decide +kernel, rfl⟩
theorem a2_thingKinds_2 : At cX2_thingKinds 2 (.istore_n 3) 1 3 := ⟨by decide +kernel, rfl⟩
theorem a2_thingKinds_3 : At cX2_thingKinds 3 (.iconst 0) 1 4 := ⟨by decide +kernel, rfl⟩
theorem a2_thingKinds_4 : At cX2_thingKinds 4 (.istore 4) 2 6 := ⟨by decide +kernel, rfl⟩
theorem a2_thingKinds_6 : At cX2_thingKinds 6 (.iload 4) 2 8 := ⟨by decide +kernel, rfl⟩
theorem a2_thingKinds_8 : At cX2_thingKinds 8 (.aload_n 1) 1 9 := ⟨by decide +kernel, rfl⟩
theorem a2_thingKinds_9 : At cX2_thingKinds 9 (.invokevirtual 20) 3 12 := ⟨by decide +kernel, rfl⟩
theorem a2_thingKinds_12 : At cX2_thingKinds 12 (.if_icmp .ge 59) 3 15 := ⟨by decide +kernel, rfl⟩
theorem a2_thingKinds_15 : At cX2_thingKinds 15 (.aload_n 1) 1 16 := ⟨by decide +kernel, rfl⟩
theorem a2_thingKinds_16 : At cX2_thingKinds 16 (.iload 4) 2 18 := ⟨by decide +kernel, rfl⟩
theorem a2_thingKinds_18 : At cX2_thingKinds 18 (.iconst 0) 1 19 := ⟨by decide +kernel, rfl⟩
theorem a2_thingKinds_19 : At cX2_thingKinds 19 (.invokevirtual 26) 3 22 := ⟨by decide +kernel, rfl⟩
theorem a2_thingKinds_22 : At cX2_thingKinds 22 (.iload_n 2) 1 23 := ⟨by decide +kernel, rfl⟩
theorem a2_thingKinds_23 : At cX2_thingKinds 23 (.if_icmp .ne 42) 3 26 := ⟨by decide +kernel, rfl⟩
theorem a2_thingKinds_26 : At cX2_thingKinds 26 (.aload_n 0) 1 27 := ⟨by decide +kernel, rfl⟩
theorem a2_thingKinds_27 : At cX2_thingKinds 27 (.aload_n 1) 1 28 := ⟨by decide +kernel, rfl⟩
theorem a2_thingKinds_28 : At cX2_thingKinds 28 (.iload 4) 2 30 := ⟨by decide +kernel, rfl⟩
theorem a2_thingKinds_30 : At cX2_thingKinds 30 (.iconst 1) 1 31 := ⟨by decide +kernel, rfl⟩
theorem a2_thingKinds_31 : At cX2_thingKinds 31 (.invokevirtual 26) 3 34 := ⟨by decide +kernel, rfl⟩
theorem a2_thingKinds_34 : At cX2_thingKinds 34 (.aload_n 1) 1 35 := ⟨by decide +kernel, rfl⟩
theorem a2_thingKinds_35 : At cX2_thingKinds 35 (.iload 4) 2 37 := ⟨by decide +kernel, rfl⟩
theorem a2_thingKinds_37 : At cX2_thingKinds 37 (.iconst 2) 1 38 := ⟨by decide +kernel, rfl⟩
theorem a2_thingKinds_38 : At cX2_thingKinds 38 (.invokevirtual 26) 3 41 := ⟨by decide +kernel, rfl⟩
theorem a2_thingKinds_41 : At cX2_thingKinds 41 (.aload_n 1) 1 42 := ⟨by decide +kernel, rfl⟩
theorem a2_thingKinds_42 : At cX2_thingKinds 42 (.iload 4) 2 44 := ⟨by decide +kernel, rfl⟩
theorem a2_thingKinds_44 : At cX2_thingKinds 44 (.iconst 3) 1 45 := ⟨by decide +kernel, rfl⟩
theorem a2_thingKinds_45 : At cX2_thingKinds 45 (.invokevirtual 26) 3 48 := ⟨by decide +kernel, rfl⟩
theorem a2_thingKinds_48 : At cX2_thingKinds 48 (.invokevirtual 30) 3 51 := ⟨by decide +kernel, rfl⟩
theorem a2_thingKinds_51 : At cX2_thingKinds 51 (.iload_n 3) 1 52 := ⟨by decide +kernel, rfl⟩
theorem a2_thingKinds_52 : At cX2_thingKinds 52 (.aload_n 0) 1 53 := ⟨by decide +kernel, rfl⟩
theorem a2_thingKinds_53 : At cX2_thingKinds 53 (.aload_n 1) 1 54 := ⟨by decide +kernel, rfl⟩
theorem a2_thingKinds_54 : At cX2_thingKinds 54 (.iload 4) 2 56 := ⟨by decide +kernel, rfl⟩
theorem a2_thingKinds_56 : At cX2_thingKinds 56 (.iconst 4) 1 57 := ⟨by decide +kernel, rfl⟩
theorem a2_thingKinds_57 : At cX2_thingKinds 57 (.invokevirtual 26) 3 60 := ⟨by decide +kernel, rfl⟩
theorem a2_thingKinds_60 : At cX2_thingKinds 60 (.invokevirtual 34) 3 63 := ⟨by decide +kernel, rfl⟩
theorem a2_thingKinds_63 : At cX2_thingKinds 63 (.iand) 1 64 := ⟨by decide +kernel, rfl⟩
theorem a2_thingKinds_64 : At cX2_thingKinds 64 (.istore_n 3) 1 65 := ⟨by decide +kernel, rfl⟩
theorem a2_thingKinds_65 : At cX2_thingKinds 65 (.iinc 4 1) 3 68 := ⟨by decide +kernel, rfl⟩
theorem a2_thingKinds_68 : At cX2_thingKinds 68 (.goto (-62)) 3 71 := ⟨by decide +kernel, rfl⟩
theorem a2_thingKinds_71 : At cX2_thingKinds 71 (.iload_n 3) 1 72 := ⟨by decide +kernel, rfl⟩
theorem a2_thingKinds_72 : At cX2_thingKinds 72 (.ireturn) 1 73 := ⟨by decide +kernel, rfl⟩
def l2_thingKinds_6 (k0 : Nat) (k1 : Nat) (x2 : Int32) : Nat → Int32 → Int32 → Mem → Option (Int32 × Int32 × Mem)
  | 0, _, _, _ => none
  | n + 1, x3, x4, σ =>
  if (f7_size k1 σ) ≤ x4 then
  (some (x3, x4, σ))
  else
  (bnd (f7_at k1 x4 0 σ) fun w2 =>
  bnd (if w2 = x2 then
  (bnd (f7_at k1 x4 1 σ) fun w6 =>
  bnd (f7_at k1 x4 2 σ) fun w8 =>
  bnd (f7_at k1 x4 3 σ) fun w10 =>
  bnd (f2_drawAll k0 w6 w8 w10 σ) fun w12 =>
  bnd (f7_at k1 x4 4 w12) fun w14 =>
  bnd (f2_answering k0 w14 w12) fun w16 =>
  some ((x3 &&& w16), w12))
  else
  (some (x3, σ)) : Option (Int32 × Mem)) fun w4 =>
  l2_thingKinds_6 k0 k1 x2 n w4.1 (x4 + 1) w4.2)
theorem lE2_thingKinds_6 {V : Option AV} {S : Mem} (k0 : Nat) (k1 : Nat) (x2 : Int32) : ∀ (n : Nat) (x3 : Int32) (x4 : Int32) (σ : Mem) {w : Int32 × Int32 × Mem}, l2_thingKinds_6 k0 k1 x2 n x3 x4 σ = some w → (Go m2_thingKinds 71 [some (.inr (.inr (2, k0))), some (.inr (.inr (7, k1))), some (.inl x2), some (.inl w.1), some (.inl w.2.1)] [] w.2.2 V S) → Go m2_thingKinds 6 [some (.inr (.inr (2, k0))), some (.inr (.inr (7, k1))), some (.inl x2), some (.inl x3), some (.inl x4)] [] σ V S
  | 0, x3, x4, σ, w, h, K1 => by cases h
  | n + 1, x3, x4, σ, w, h, K1 => by
    rw [l2_thingKinds_6] at h
    refine g_iload a2_thingKinds_6 rfl ?_
    refine g_aload_n a2_thingKinds_8 rfl ?_
    refine g_V0s (v1 := .inl (f7_size k1 σ)) (σ1 := σ) a2_thingKinds_9 cv2_20 (E7_size _ _) rfl (fun o1 => ?_)
    refine g_icmp_ge (tgt := 71) a2_thingKinds_12 rfl (fun c19 => ?_) (fun c19 => ?_)
    · have h := (if_pos c19).symm.trans h
      have h := Option.some.inj h
      subst h
      exact g_weak K1 ⟨rfl, rfl, rfl, rfl, rfl, trivial⟩
    · have h := (if_neg c19).symm.trans h
      refine g_aload_n a2_thingKinds_15 rfl ?_
      refine g_iload a2_thingKinds_16 rfl ?_
      refine g_iconst (v := 0) a2_thingKinds_18 rfl ?_
      obtain ⟨w2, hw2, h⟩ := bnd_inv h
      refine g_V2s (v1 := .inl w2) (σ1 := σ) a2_thingKinds_19 cv2_26 (E7_at hw2) rfl (fun o3 => ?_)
      refine g_iload_n a2_thingKinds_22 rfl ?_
      obtain ⟨w4, hw4, h⟩ := bnd_inv h
      have J5 : Go m2_thingKinds 65 [some (.inr (.inr (2, k0))), some (.inr (.inr (7, k1))), some (.inl x2), some (.inl w4.1), some (.inl x4)] [] w4.2 V S := by
        refine g_iinc (v := (x4 + 1)) (L' := [some (.inr (.inr (2, k0))), some (.inr (.inr (7, k1))), some (.inl x2), some (.inl w4.1), some (.inl (x4 + 1))]) a2_thingKinds_65 rfl rfl (Nat.le_of_ble_eq_true rfl) rfl rfl ?_
        refine g_goto (tgt := 6) a2_thingKinds_68 rfl ?_
        exact g_weak (lE2_thingKinds_6 (V := V) (S := S)  k0 k1 x2 n _ _ _ h K1) ⟨rfl, rfl, rfl, rfl, rfl, trivial⟩
      clear h
      refine g_icmp_ne (tgt := 65) a2_thingKinds_23 rfl (fun c18 => ?_) (fun c18 => ?_)
      · have hw4 := (if_neg c18).symm.trans hw4
        have hw4 := Option.some.inj hw4
        subst hw4
        exact g_weak J5 ⟨rfl, rfl, rfl, rfl, rfl, trivial⟩
      · have hw4 := (if_pos c18).symm.trans hw4
        refine g_aload_n a2_thingKinds_26 rfl ?_
        refine g_aload_n a2_thingKinds_27 rfl ?_
        refine g_iload a2_thingKinds_28 rfl ?_
        refine g_iconst (v := 1) a2_thingKinds_30 rfl ?_
        obtain ⟨w6, hw6, hw4⟩ := bnd_inv hw4
        refine g_V2s (v1 := .inl w6) (σ1 := σ) a2_thingKinds_31 cv2_26 (E7_at hw6) rfl (fun o7 => ?_)
        refine g_aload_n a2_thingKinds_34 rfl ?_
        refine g_iload a2_thingKinds_35 rfl ?_
        refine g_iconst (v := 2) a2_thingKinds_37 rfl ?_
        obtain ⟨w8, hw8, hw4⟩ := bnd_inv hw4
        refine g_V2s (v1 := .inl w8) (σ1 := σ) a2_thingKinds_38 cv2_26 (E7_at hw8) rfl (fun o9 => ?_)
        refine g_aload_n a2_thingKinds_41 rfl ?_
        refine g_iload a2_thingKinds_42 rfl ?_
        refine g_iconst (v := 3) a2_thingKinds_44 rfl ?_
        obtain ⟨w10, hw10, hw4⟩ := bnd_inv hw4
        refine g_V2s (v1 := .inl w10) (σ1 := σ) a2_thingKinds_45 cv2_26 (E7_at hw10) rfl (fun o11 => ?_)
        obtain ⟨w12, hw12, hw4⟩ := bnd_inv hw4
        refine g_V3n (σ1 := w12) a2_thingKinds_48 cv2_30 (E2_drawAll hw12) rfl (fun o13 => ?_)
        refine g_iload_n a2_thingKinds_51 rfl ?_
        refine g_aload_n a2_thingKinds_52 rfl ?_
        refine g_aload_n a2_thingKinds_53 rfl ?_
        refine g_iload a2_thingKinds_54 rfl ?_
        refine g_iconst (v := 4) a2_thingKinds_56 rfl ?_
        obtain ⟨w14, hw14, hw4⟩ := bnd_inv hw4
        refine g_V2s (v1 := .inl w14) (σ1 := w12) a2_thingKinds_57 cv2_26 (E7_at hw14) rfl (fun o15 => ?_)
        obtain ⟨w16, hw16, hw4⟩ := bnd_inv hw4
        refine g_V1s (v1 := .inl w16) (σ1 := w12) a2_thingKinds_60 cv2_34 (E2_answering hw16) rfl (fun o17 => ?_)
        refine g_iand a2_thingKinds_63 ?_
        refine g_istore_n (L' := [some (.inr (.inr (2, k0))), some (.inr (.inr (7, k1))), some (.inl x2), some (.inl (x3 &&& w16)), some (.inl x4)]) a2_thingKinds_64 (Nat.le_of_ble_eq_true rfl) rfl rfl ?_
        have hw4 := Option.some.inj hw4
        subst hw4
        exact g_weak J5 ⟨rfl, rfl, rfl, rfl, rfl, trivial⟩
def f2_thingKinds (k0 : Nat) (k1 : Nat) (x2 : Int32) (σ : Mem) : Option (Int32 × Mem) :=
  bnd (l2_thingKinds_6 k0 k1 x2 2000 63 0 σ) fun w20 =>
  some (w20.1, w20.2.2)
theorem E2_thingKinds {k0 : Nat} {k1 : Nat} {x2 : Int32} {σ : Mem} {w : Int32 × Mem} (h : f2_thingKinds k0 k1 x2 σ = some w) : Ev m2_thingKinds [.inr (.inr (2, k0)), .inr (.inr (7, k1)), .inl x2] σ (some (.inl w.1) : Option AV) w.2 := by
  unfold f2_thingKinds at h
  show Go m2_thingKinds 0 [some (.inr (.inr (2, k0))), some (.inr (.inr (7, k1))), some (.inl x2), none, none] [] σ (some (.inl w.1) : Option AV) w.2
  refine g_bipush (v := 63) a2_thingKinds_0 rfl ?_
  refine g_istore_n (L' := [some (.inr (.inr (2, k0))), some (.inr (.inr (7, k1))), some (.inl x2), some (.inl 63), none]) a2_thingKinds_2 (Nat.le_of_ble_eq_true rfl) rfl rfl ?_
  refine g_iconst (v := 0) a2_thingKinds_3 rfl ?_
  refine g_istore (L' := [some (.inr (.inr (2, k0))), some (.inr (.inr (7, k1))), some (.inl x2), some (.inl 63), some (.inl 0)]) a2_thingKinds_4 (Nat.le_of_ble_eq_true rfl) rfl rfl ?_
  obtain ⟨w20, hw20, h⟩ := bnd_inv h
  refine g_weak (lE2_thingKinds_6 k0 k1 x2 2000 _ _ _ hw20 ?_) ⟨rfl, rfl, rfl, rfl, rfl, trivial⟩
  refine g_iload_n a2_thingKinds_71 rfl ?_
  have h := Option.some.inj h
  subst h
  exact g_retE a2_thingKinds_72 trivial rfl rfl
theorem a10_is_0 : At cX10_is 0 (.aload_n 0) 1 1 := ⟨by decide +kernel, rfl⟩
theorem a10_is_1 : At cX10_is 1 (.iload_n 1) 1 2 := ⟨by decide +kernel, rfl⟩
theorem a10_is_2 : At cX10_is 2 (.invokevirtual 169) 3 5 := ⟨by decide +kernel, rfl⟩
theorem a10_is_5 : At cX10_is 5 (.ifCond .ne 8) 3 8 := ⟨by decide +kernel, rfl⟩
theorem a10_is_8 : At cX10_is 8 (.aload_n 0) 1 9 := ⟨by decide +kernel, rfl⟩
theorem a10_is_9 : At cX10_is 9 (.invokevirtual 100) 3 12 := ⟨by decide +kernel, rfl⟩
theorem a10_is_12 : At cX10_is 12 (.ireturn) 1 13 := ⟨by decide +kernel, rfl⟩
theorem a10_is_13 : At cX10_is 13 (.aload_n 0) 1 14 := ⟨by decide +kernel, rfl⟩
theorem a10_is_14 : At cX10_is 14 (.getfield 65) 3 17 := ⟨by decide +kernel, rfl⟩
theorem a10_is_17 : At cX10_is 17 (.aload_n 0) 1 18 := ⟨by decide +kernel, rfl⟩
theorem a10_is_18 : At cX10_is 18 (.getfield 10) 3 21 := ⟨by decide +kernel, rfl⟩
theorem a10_is_21 : At cX10_is 21 (.getfield 260) 3 24 := ⟨by decide +kernel, rfl⟩
theorem a10_is_24 : At cX10_is 24 (.iload_n 1) 1 25 := ⟨by decide +kernel, rfl⟩
theorem a10_is_25 : At cX10_is 25 (.invokevirtual 270) 3 28 := ⟨by decide +kernel, rfl⟩
theorem a10_is_28 : At cX10_is 28 (.ireturn) 1 29 := ⟨by decide +kernel, rfl⟩
def f10_is (k0 : Nat) (x1 : Int32) (σ : Mem) : Option (Int32 × Mem) :=
  if (f10_isThing k0 x1 σ) = 0 then
  (lt (f10_refuseBad k0 σ) fun w2 =>
  some (w2.1, w2.2))
  else
  (bnd (f2_thingKinds 0 4 x1 σ) fun w4 =>
  some (w4.1, w4.2))
theorem E10_is {k0 : Nat} {x1 : Int32} {σ : Mem} {w : Int32 × Mem} (h : f10_is k0 x1 σ = some w) : Ev m10_is [.inr (.inr (10, k0)), .inl x1] σ (some (.inl w.1) : Option AV) w.2 := by
  unfold f10_is at h
  show Go m10_is 0 [some (.inr (.inr (10, k0))), some (.inl x1)] [] σ (some (.inl w.1) : Option AV) w.2
  refine g_aload_n a10_is_0 rfl ?_
  refine g_iload_n a10_is_1 rfl ?_
  refine g_V1s (v1 := .inl (f10_isThing k0 x1 σ)) (σ1 := σ) a10_is_2 cv10_169 (E10_isThing _ _ _) rfl (fun o1 => ?_)
  refine g_if_ne (tgt := 13) a10_is_5 rfl (fun c6 => ?_) (fun c6 => ?_)
  · have h := (if_neg c6).symm.trans h
    refine g_aload_n a10_is_13 rfl ?_
    refine g_getf (v := .inr (.inr (2, 0))) a10_is_14 fs10_65 rfl ?_
    refine g_aload_n a10_is_17 rfl ?_
    refine g_getf (v := .inr (.inr (9, 0))) a10_is_18 fs10_10 rfl ?_
    refine g_getf (v := .inr (.inr (7, 4))) a10_is_21 fs10_260 rfl ?_
    refine g_iload_n a10_is_24 rfl ?_
    obtain ⟨w4, hw4, h⟩ := bnd_inv h
    refine g_V2s (v1 := .inl w4.1) (σ1 := w4.2) a10_is_25 cv10_270 (E2_thingKinds hw4) rfl (fun o5 => ?_)
    have h := Option.some.inj h
    subst h
    exact g_retE a10_is_28 trivial rfl rfl
  · have h := (if_pos c6).symm.trans h
    refine g_aload_n a10_is_8 rfl ?_
    obtain ⟨w2, hw2, h⟩ := lt_inv h
    refine g_V0s (v1 := .inl w2.1) (σ1 := w2.2) a10_is_9 cv10_100 (by rw [← hw2]; exact E10_refuseBad _ _) rfl (fun o3 => ?_)
    have h := Option.some.inj h
    subst h
    exact g_retE a10_is_12 trivial rfl rfl
theorem a2_mostAlike_0 : At cX2_mostAlike 0 (.iconst 0) 1 1 := ⟨by decide +kernel, rfl⟩
theorem a2_mostAlike_1 : At cX2_mostAlike 1 (.istore_n 2) 1 2 := ⟨by decide +kernel, rfl⟩
theorem a2_mostAlike_2 : At cX2_mostAlike 2 (.iconst 0) 1 3 := ⟨by decide +kernel, rfl⟩
theorem a2_mostAlike_3 : At cX2_mostAlike 3 (.istore_n 3) 1 4 := ⟨by decide +kernel, rfl⟩
theorem a2_mostAlike_4 : At cX2_mostAlike 4 (.iload_n 3) 1 5 := ⟨by decide +kernel, rfl⟩
theorem a2_mostAlike_5 : At cX2_mostAlike 5 (.bipush 6) 2 7 := ⟨by decide +kernel, rfl⟩
theorem a2_mostAlike_7 : At cX2_mostAlike 7 (.if_icmp .ge 31) 3 10 := ⟨by decide +kernel, rfl⟩
theorem a2_mostAlike_10 : At cX2_mostAlike 10 (.iload_n 2) 1 11 := ⟨by decide +kernel, rfl⟩
theorem a2_mostAlike_11 : At cX2_mostAlike 11 (.iload_n 1) 1 12 := ⟨by decide +kernel, rfl⟩
theorem a2_mostAlike_12 : At cX2_mostAlike 12 (.aload_n 0) 1 13 := ⟨by decide +kernel, rfl⟩
theorem a2_mostAlike_13 : At cX2_mostAlike 13 (.aload_n 0) 1 14 := ⟨by decide +kernel, rfl⟩
theorem a2_mostAlike_14 : At cX2_mostAlike 14 (.getfield 14) 3 17 := ⟨by decide +kernel, rfl⟩
theorem a2_mostAlike_17 : At cX2_mostAlike 17 (.iload_n 3) 1 18 := ⟨by decide +kernel, rfl⟩
theorem a2_mostAlike_18 : At cX2_mostAlike 18 (.invokevirtual 58) 3 21 := ⟨by decide +kernel, rfl⟩
theorem a2_mostAlike_21 : At cX2_mostAlike 21 (.invokevirtual 34) 3 24 := ⟨by decide +kernel, rfl⟩
theorem a2_mostAlike_24 : At cX2_mostAlike 24 (.iand) 1 25 := ⟨by decide +kernel, rfl⟩
theorem a2_mostAlike_25 : At cX2_mostAlike 25 (.invokestatic 60) 3 28 := ⟨by decide +kernel, rfl⟩
theorem a2_mostAlike_28 : At cX2_mostAlike 28 (.invokestatic 65) 3 31 := ⟨by decide +kernel, rfl⟩
theorem a2_mostAlike_31 : At cX2_mostAlike 31 (.istore_n 2) 1 32 := ⟨by decide +kernel, rfl⟩
theorem a2_mostAlike_32 : At cX2_mostAlike 32 (.iinc 3 1) 3 35 := ⟨by decide +kernel, rfl⟩
theorem a2_mostAlike_35 : At cX2_mostAlike 35 (.goto (-31)) 3 38 := ⟨by decide +kernel, rfl⟩
theorem a2_mostAlike_38 : At cX2_mostAlike 38 (.iload_n 2) 1 39 := ⟨by decide +kernel, rfl⟩
theorem a2_mostAlike_39 : At cX2_mostAlike 39 (.ireturn) 1 40 := ⟨by decide +kernel, rfl⟩
def l2_mostAlike_4 (k0 : Nat) (x1 : Int32) (σ : Mem) : Nat → Int32 → Int32 → Option (Int32 × Int32)
  | 0, _, _ => none
  | n + 1, x2, x3 =>
  if 6 ≤ x3 then
  (some (x2, x3))
  else
  (bnd (f6_at 6 x3 σ) fun w1 =>
  bnd (f2_answering k0 w1 σ) fun w3 =>
  l2_mostAlike_4 k0 x1 σ n (mxI x2 (fJ6_bitCount (x1 &&& w3))) (x3 + 1))
theorem lE2_mostAlike_4 {V : Option AV} {S : Mem} (k0 : Nat) (x1 : Int32) (σ : Mem) : ∀ (n : Nat) (x2 : Int32) (x3 : Int32) {w : Int32 × Int32}, l2_mostAlike_4 k0 x1 σ n x2 x3 = some w → (Go m2_mostAlike 38 [some (.inr (.inr (2, k0))), some (.inl x1), some (.inl w.1), some (.inl w.2)] [] σ V S) → Go m2_mostAlike 4 [some (.inr (.inr (2, k0))), some (.inl x1), some (.inl x2), some (.inl x3)] [] σ V S
  | 0, x2, x3, w, h, K1 => by cases h
  | n + 1, x2, x3, w, h, K1 => by
    rw [l2_mostAlike_4] at h
    refine g_iload_n a2_mostAlike_4 rfl ?_
    refine g_bipush (v := 6) a2_mostAlike_5 rfl ?_
    refine g_icmp_ge (tgt := 38) a2_mostAlike_7 rfl (fun c6 => ?_) (fun c6 => ?_)
    · have h := (if_pos c6).symm.trans h
      have h := Option.some.inj h
      subst h
      exact g_weak K1 ⟨rfl, rfl, rfl, rfl, trivial⟩
    · have h := (if_neg c6).symm.trans h
      refine g_iload_n a2_mostAlike_10 rfl ?_
      refine g_iload_n a2_mostAlike_11 rfl ?_
      refine g_aload_n a2_mostAlike_12 rfl ?_
      refine g_aload_n a2_mostAlike_13 rfl ?_
      refine g_getf (v := .inr (.inr (6, 6))) a2_mostAlike_14 fs2_14 rfl ?_
      refine g_iload_n a2_mostAlike_17 rfl ?_
      obtain ⟨w1, hw1, h⟩ := bnd_inv h
      refine g_V1s (v1 := .inl w1) (σ1 := σ) a2_mostAlike_18 cv2_58 (E6_at hw1) rfl (fun o2 => ?_)
      obtain ⟨w3, hw3, h⟩ := bnd_inv h
      refine g_V1s (v1 := .inl w3) (σ1 := σ) a2_mostAlike_21 cv2_34 (E2_answering hw3) rfl (fun o4 => ?_)
      refine g_iand a2_mostAlike_24 ?_
      refine g_S1s (v1 := .inl (fJ6_bitCount (x1 &&& w3))) (σ1 := σ) a2_mostAlike_25 cs2_60 (EJ6_bitCount _ _) rfl (fun o5 => ?_)
      refine g_max a2_mostAlike_28 cm2_65 rfl ?_
      refine g_istore_n (L' := [some (.inr (.inr (2, k0))), some (.inl x1), some (.inl (mxI x2 (fJ6_bitCount (x1 &&& w3)))), some (.inl x3)]) a2_mostAlike_31 (Nat.le_of_ble_eq_true rfl) rfl rfl ?_
      refine g_iinc (v := (x3 + 1)) (L' := [some (.inr (.inr (2, k0))), some (.inl x1), some (.inl (mxI x2 (fJ6_bitCount (x1 &&& w3)))), some (.inl (x3 + 1))]) a2_mostAlike_32 rfl rfl (Nat.le_of_ble_eq_true rfl) rfl rfl ?_
      refine g_goto (tgt := 4) a2_mostAlike_35 rfl ?_
      exact g_weak (lE2_mostAlike_4 (V := V) (S := S)  k0 x1 σ n _ _ h K1) ⟨rfl, rfl, rfl, rfl, trivial⟩
def f2_mostAlike (k0 : Nat) (x1 : Int32) (σ : Mem) : Option (Int32) :=
  bnd (l2_mostAlike_4 k0 x1 σ 2000 0 0) fun w7 =>
  some w7.1
theorem E2_mostAlike {k0 : Nat} {x1 : Int32} {σ : Mem} {w : Int32} (h : f2_mostAlike k0 x1 σ = some w) : Ev m2_mostAlike [.inr (.inr (2, k0)), .inl x1] σ (some (.inl w) : Option AV) σ := by
  unfold f2_mostAlike at h
  show Go m2_mostAlike 0 [some (.inr (.inr (2, k0))), some (.inl x1), none, none] [] σ (some (.inl w) : Option AV) σ
  refine g_iconst (v := 0) a2_mostAlike_0 rfl ?_
  refine g_istore_n (L' := [some (.inr (.inr (2, k0))), some (.inl x1), some (.inl 0), none]) a2_mostAlike_1 (Nat.le_of_ble_eq_true rfl) rfl rfl ?_
  refine g_iconst (v := 0) a2_mostAlike_2 rfl ?_
  refine g_istore_n (L' := [some (.inr (.inr (2, k0))), some (.inl x1), some (.inl 0), some (.inl 0)]) a2_mostAlike_3 (Nat.le_of_ble_eq_true rfl) rfl rfl ?_
  obtain ⟨w7, hw7, h⟩ := bnd_inv h
  refine g_weak (lE2_mostAlike_4 k0 x1 σ 2000 _ _ hw7 ?_) ⟨rfl, rfl, rfl, rfl, trivial⟩
  refine g_iload_n a2_mostAlike_38 rfl ?_
  have h := Option.some.inj h
  subst h
  exact g_retE a2_mostAlike_39 trivial rfl rfl
theorem a2_bestLook_0 : At cX2_bestLook 0 (.iconst (-1)) 1 1 := ⟨by decide +kernel, rfl⟩
theorem a2_bestLook_1 : At cX2_bestLook 1 (.istore_n 3) 1 2 := ⟨by decide +kernel, rfl⟩
theorem a2_bestLook_2 : At cX2_bestLook 2 (.bipush 7) 2 4 := ⟨by decide +kernel, rfl⟩
theorem a2_bestLook_4 : At cX2_bestLook 4 (.istore 4) 2 6 := ⟨by decide +kernel, rfl⟩
theorem a2_bestLook_6 : At cX2_bestLook 6 (.iconst 0) 1 7 := ⟨by decide +kernel, rfl⟩
theorem a2_bestLook_7 : At cX2_bestLook 7 (.istore 5) 2 9 := ⟨by decide +kernel, rfl⟩
theorem a2_bestLook_9 : At cX2_bestLook 9 (.iload 5) 2 11 := ⟨by decide +kernel, rfl⟩
theorem a2_bestLook_11 : At cX2_bestLook 11 (.bipush 12) 2 13 := ⟨by decide +kernel, rfl⟩
theorem a2_bestLook_13 : At cX2_bestLook 13 (.if_icmp .ge 65) 3 16 := ⟨by decide +kernel, rfl⟩
theorem a2_bestLook_16 : At cX2_bestLook 16 (.iload_n 1) 1 17 := ⟨by decide +kernel, rfl⟩
theorem a2_bestLook_17 : At cX2_bestLook 17 (.ifCond .eq 61) 3 20 := ⟨by decide +kernel, rfl⟩
theorem a2_bestLook_20 : At cX2_bestLook 20 (.iconst 0) 1 21 := ⟨by decide +kernel, rfl⟩
theorem a2_bestLook_21 : At cX2_bestLook 21 (.istore 6) 2 23 := ⟨by decide +kernel, rfl⟩
theorem a2_bestLook_23 : At cX2_bestLook 23 (.iload 6) 2 25 := ⟨by decide +kernel, rfl⟩
theorem a2_bestLook_25 : At cX2_bestLook 25 (.bipush 10) 2 27 := ⟨by decide +kernel, rfl⟩
theorem a2_bestLook_27 : At cX2_bestLook 27 (.if_icmp .ge 45) 3 30 := ⟨by decide +kernel, rfl⟩
theorem a2_bestLook_30 : At cX2_bestLook 30 (.aload_n 0) 1 31 := ⟨by decide +kernel, rfl⟩
theorem a2_bestLook_31 : At cX2_bestLook 31 (.iload_n 2) 1 32 := ⟨by decide +kernel, rfl⟩
theorem a2_bestLook_32 : At cX2_bestLook 32 (.iload 5) 2 34 := ⟨by decide +kernel, rfl⟩
theorem a2_bestLook_34 : At cX2_bestLook 34 (.iload 6) 2 36 := ⟨by decide +kernel, rfl⟩
theorem a2_bestLook_36 : At cX2_bestLook 36 (.invokevirtual 30) 3 39 := ⟨by decide +kernel, rfl⟩
theorem a2_bestLook_39 : At cX2_bestLook 39 (.aload_n 0) 1 40 := ⟨by decide +kernel, rfl⟩
theorem a2_bestLook_40 : At cX2_bestLook 40 (.iload_n 1) 1 41 := ⟨by decide +kernel, rfl⟩
theorem a2_bestLook_41 : At cX2_bestLook 41 (.invokevirtual 42) 3 44 := ⟨by decide +kernel, rfl⟩
theorem a2_bestLook_44 : At cX2_bestLook 44 (.istore 7) 2 46 := ⟨by decide +kernel, rfl⟩
theorem a2_bestLook_46 : At cX2_bestLook 46 (.iload 7) 2 48 := ⟨by decide +kernel, rfl⟩
theorem a2_bestLook_48 : At cX2_bestLook 48 (.iload 4) 2 50 := ⟨by decide +kernel, rfl⟩
theorem a2_bestLook_50 : At cX2_bestLook 50 (.if_icmp .ge 16) 3 53 := ⟨by decide +kernel, rfl⟩
theorem a2_bestLook_53 : At cX2_bestLook 53 (.iload 7) 2 55 := ⟨by decide +kernel, rfl⟩
theorem a2_bestLook_55 : At cX2_bestLook 55 (.istore 4) 2 57 := ⟨by decide +kernel, rfl⟩
theorem a2_bestLook_57 : At cX2_bestLook 57 (.bipush 100) 2 59 := ⟨by decide +kernel, rfl⟩
theorem a2_bestLook_59 : At cX2_bestLook 59 (.iload 5) 2 61 := ⟨by decide +kernel, rfl⟩
theorem a2_bestLook_61 : At cX2_bestLook 61 (.imul) 1 62 := ⟨by decide +kernel, rfl⟩
theorem a2_bestLook_62 : At cX2_bestLook 62 (.iload 6) 2 64 := ⟨by decide +kernel, rfl⟩
theorem a2_bestLook_64 : At cX2_bestLook 64 (.iadd) 1 65 := ⟨by decide +kernel, rfl⟩
theorem a2_bestLook_65 : At cX2_bestLook 65 (.istore_n 3) 1 66 := ⟨by decide +kernel, rfl⟩
theorem a2_bestLook_66 : At cX2_bestLook 66 (.iinc 6 1) 3 69 := ⟨by decide +kernel, rfl⟩
theorem a2_bestLook_69 : At cX2_bestLook 69 (.goto (-46)) 3 72 := ⟨by decide +kernel, rfl⟩
theorem a2_bestLook_72 : At cX2_bestLook 72 (.iinc 5 1) 3 75 := ⟨by decide +kernel, rfl⟩
theorem a2_bestLook_75 : At cX2_bestLook 75 (.goto (-66)) 3 78 := ⟨by decide +kernel, rfl⟩
theorem a2_bestLook_78 : At cX2_bestLook 78 (.iload_n 3) 1 79 := ⟨by decide +kernel, rfl⟩
theorem a2_bestLook_79 : At cX2_bestLook 79 (.ireturn) 1 80 := ⟨by decide +kernel, rfl⟩
def l2_bestLook_23 (k0 : Nat) (x1 : Int32) (x2 : Int32) (x5 : Int32) : Nat → Int32 → Int32 → Int32 → Mem → Option (Int32 × Int32 × Int32 × Mem)
  | 0, _, _, _, _ => none
  | n + 1, x3, x4, x6, σ =>
  if 10 ≤ x6 then
  (some (x3, x4, x6, σ))
  else
  (bnd (f2_drawAll k0 x2 x5 x6 σ) fun w1 =>
  bnd (f2_mostAlike k0 x1 w1) fun w3 =>
  lt (if x4 ≤ w3 then
  ((x3, x4))
  else
  ((((100 * x5) + x6), w3)) : Int32 × Int32) fun w5 =>
  l2_bestLook_23 k0 x1 x2 x5 n w5.1 w5.2 (x6 + 1) w1)
theorem lE2_bestLook_23 {V : Option AV} {S : Mem} (k0 : Nat) (x1 : Int32) (x2 : Int32) (x5 : Int32) : ∀ (n : Nat) (x3 : Int32) (x4 : Int32) (x6 : Int32) (σ : Mem) {w : Int32 × Int32 × Int32 × Mem}, l2_bestLook_23 k0 x1 x2 x5 n x3 x4 x6 σ = some w → (Go m2_bestLook 72 [some (.inr (.inr (2, k0))), some (.inl x1), some (.inl x2), some (.inl w.1), some (.inl w.2.1), some (.inl x5), some (.inl w.2.2.1), none] [] w.2.2.2 V S) → Go m2_bestLook 23 [some (.inr (.inr (2, k0))), some (.inl x1), some (.inl x2), some (.inl x3), some (.inl x4), some (.inl x5), some (.inl x6), none] [] σ V S
  | 0, x3, x4, x6, σ, w, h, K1 => by cases h
  | n + 1, x3, x4, x6, σ, w, h, K1 => by
    rw [l2_bestLook_23] at h
    refine g_iload a2_bestLook_23 rfl ?_
    refine g_bipush (v := 10) a2_bestLook_25 rfl ?_
    refine g_icmp_ge (tgt := 72) a2_bestLook_27 rfl (fun c8 => ?_) (fun c8 => ?_)
    · have h := (if_pos c8).symm.trans h
      have h := Option.some.inj h
      subst h
      exact g_weak K1 ⟨rfl, rfl, rfl, rfl, rfl, rfl, rfl, trivial⟩
    · have h := (if_neg c8).symm.trans h
      refine g_aload_n a2_bestLook_30 rfl ?_
      refine g_iload_n a2_bestLook_31 rfl ?_
      refine g_iload a2_bestLook_32 rfl ?_
      refine g_iload a2_bestLook_34 rfl ?_
      obtain ⟨w1, hw1, h⟩ := bnd_inv h
      refine g_V3n (σ1 := w1) a2_bestLook_36 cv2_30 (E2_drawAll hw1) rfl (fun o2 => ?_)
      refine g_aload_n a2_bestLook_39 rfl ?_
      refine g_iload_n a2_bestLook_40 rfl ?_
      obtain ⟨w3, hw3, h⟩ := bnd_inv h
      refine g_V1s (v1 := .inl w3) (σ1 := w1) a2_bestLook_41 cv2_42 (E2_mostAlike hw3) rfl (fun o4 => ?_)
      refine g_istore (L' := [some (.inr (.inr (2, k0))), some (.inl x1), some (.inl x2), some (.inl x3), some (.inl x4), some (.inl x5), some (.inl x6), some (.inl w3)]) a2_bestLook_44 (Nat.le_of_ble_eq_true rfl) rfl rfl ?_
      refine g_iload a2_bestLook_46 rfl ?_
      refine g_iload a2_bestLook_48 rfl ?_
      obtain ⟨w5, hw5, h⟩ := lt_inv h
      have J6 : Go m2_bestLook 66 [some (.inr (.inr (2, k0))), some (.inl x1), some (.inl x2), some (.inl w5.1), some (.inl w5.2), some (.inl x5), some (.inl x6), none] [] w1 V S := by
        refine g_iinc (v := (x6 + 1)) (L' := [some (.inr (.inr (2, k0))), some (.inl x1), some (.inl x2), some (.inl w5.1), some (.inl w5.2), some (.inl x5), some (.inl (x6 + 1)), none]) a2_bestLook_66 rfl rfl (Nat.le_of_ble_eq_true rfl) rfl rfl ?_
        refine g_goto (tgt := 23) a2_bestLook_69 rfl ?_
        exact g_weak (lE2_bestLook_23 (V := V) (S := S)  k0 x1 x2 x5 n _ _ _ _ h K1) ⟨rfl, rfl, rfl, rfl, rfl, rfl, rfl, trivial⟩
      clear h
      refine g_icmp_ge (tgt := 66) a2_bestLook_50 rfl (fun c7 => ?_) (fun c7 => ?_)
      · have hw5 := (if_pos c7).symm.trans hw5
        subst hw5
        exact g_weak J6 ⟨rfl, rfl, rfl, rfl, rfl, rfl, rfl, trivial⟩
      · have hw5 := (if_neg c7).symm.trans hw5
        refine g_iload a2_bestLook_53 rfl ?_
        refine g_istore (L' := [some (.inr (.inr (2, k0))), some (.inl x1), some (.inl x2), some (.inl x3), some (.inl w3), some (.inl x5), some (.inl x6), some (.inl w3)]) a2_bestLook_55 (Nat.le_of_ble_eq_true rfl) rfl rfl ?_
        refine g_bipush (v := 100) a2_bestLook_57 rfl ?_
        refine g_iload a2_bestLook_59 rfl ?_
        refine g_imul a2_bestLook_61 ?_
        refine g_iload a2_bestLook_62 rfl ?_
        refine g_iadd a2_bestLook_64 ?_
        refine g_istore_n (L' := [some (.inr (.inr (2, k0))), some (.inl x1), some (.inl x2), some (.inl ((100 * x5) + x6)), some (.inl w3), some (.inl x5), some (.inl x6), some (.inl w3)]) a2_bestLook_65 (Nat.le_of_ble_eq_true rfl) rfl rfl ?_
        subst hw5
        exact g_weak J6 ⟨rfl, rfl, rfl, rfl, rfl, rfl, rfl, trivial⟩
def l2_bestLook_9 (k0 : Nat) (x1 : Int32) (x2 : Int32) : Nat → Int32 → Int32 → Int32 → Mem → Option (Int32 × Int32 × Int32 × Mem)
  | 0, _, _, _, _ => none
  | n + 1, x3, x4, x5, σ =>
  if 12 ≤ x5 then
  (some (x3, x4, x5, σ))
  else
  (if x1 = 0 then
  (some (x3, x4, x5, σ))
  else
  (bnd (l2_bestLook_23 k0 x1 x2 x5 2000 x3 x4 0 σ) fun w9 =>
  l2_bestLook_9 k0 x1 x2 n w9.1 w9.2.1 (x5 + 1) w9.2.2.2))
theorem lE2_bestLook_9 {V : Option AV} {S : Mem} (k0 : Nat) (x1 : Int32) (x2 : Int32) : ∀ (n : Nat) (x3 : Int32) (x4 : Int32) (x5 : Int32) (σ : Mem) {w : Int32 × Int32 × Int32 × Mem}, l2_bestLook_9 k0 x1 x2 n x3 x4 x5 σ = some w → (Go m2_bestLook 78 [some (.inr (.inr (2, k0))), some (.inl x1), some (.inl x2), some (.inl w.1), some (.inl w.2.1), some (.inl w.2.2.1), none, none] [] w.2.2.2 V S) → Go m2_bestLook 9 [some (.inr (.inr (2, k0))), some (.inl x1), some (.inl x2), some (.inl x3), some (.inl x4), some (.inl x5), none, none] [] σ V S
  | 0, x3, x4, x5, σ, w, h, K1 => by cases h
  | n + 1, x3, x4, x5, σ, w, h, K1 => by
    rw [l2_bestLook_9] at h
    refine g_iload a2_bestLook_9 rfl ?_
    refine g_bipush (v := 12) a2_bestLook_11 rfl ?_
    refine g_icmp_ge (tgt := 78) a2_bestLook_13 rfl (fun c11 => ?_) (fun c11 => ?_)
    · have h := (if_pos c11).symm.trans h
      have h := Option.some.inj h
      subst h
      exact g_weak K1 ⟨rfl, rfl, rfl, rfl, rfl, rfl, trivial⟩
    · have h := (if_neg c11).symm.trans h
      refine g_iload_n a2_bestLook_16 rfl ?_
      refine g_if_eq (tgt := 78) a2_bestLook_17 rfl (fun c10 => ?_) (fun c10 => ?_)
      · have h := (if_pos c10).symm.trans h
        have h := Option.some.inj h
        subst h
        exact g_weak K1 ⟨rfl, rfl, rfl, rfl, rfl, rfl, trivial⟩
      · have h := (if_neg c10).symm.trans h
        refine g_iconst (v := 0) a2_bestLook_20 rfl ?_
        refine g_istore (L' := [some (.inr (.inr (2, k0))), some (.inl x1), some (.inl x2), some (.inl x3), some (.inl x4), some (.inl x5), some (.inl 0), none]) a2_bestLook_21 (Nat.le_of_ble_eq_true rfl) rfl rfl ?_
        obtain ⟨w9, hw9, h⟩ := bnd_inv h
        refine g_weak (lE2_bestLook_23 k0 x1 x2 x5 2000 _ _ _ _ hw9 ?_) ⟨rfl, rfl, rfl, rfl, rfl, rfl, rfl, trivial⟩
        refine g_iinc (v := (x5 + 1)) (L' := [some (.inr (.inr (2, k0))), some (.inl x1), some (.inl x2), some (.inl w9.1), some (.inl w9.2.1), some (.inl (x5 + 1)), some (.inl w9.2.2.1), none]) a2_bestLook_72 rfl rfl (Nat.le_of_ble_eq_true rfl) rfl rfl ?_
        refine g_goto (tgt := 9) a2_bestLook_75 rfl ?_
        exact g_weak (lE2_bestLook_9 (V := V) (S := S)  k0 x1 x2 n _ _ _ _ h K1) ⟨rfl, rfl, rfl, rfl, rfl, rfl, trivial⟩
def f2_bestLook (k0 : Nat) (x1 : Int32) (x2 : Int32) (σ : Mem) : Option (Int32 × Mem) :=
  bnd (l2_bestLook_9 k0 x1 x2 2000 (-1) 7 0 σ) fun w12 =>
  some (w12.1, w12.2.2.2)
theorem E2_bestLook {k0 : Nat} {x1 : Int32} {x2 : Int32} {σ : Mem} {w : Int32 × Mem} (h : f2_bestLook k0 x1 x2 σ = some w) : Ev m2_bestLook [.inr (.inr (2, k0)), .inl x1, .inl x2] σ (some (.inl w.1) : Option AV) w.2 := by
  unfold f2_bestLook at h
  show Go m2_bestLook 0 [some (.inr (.inr (2, k0))), some (.inl x1), some (.inl x2), none, none, none, none, none] [] σ (some (.inl w.1) : Option AV) w.2
  refine g_iconst (v := (-1)) a2_bestLook_0 rfl ?_
  refine g_istore_n (L' := [some (.inr (.inr (2, k0))), some (.inl x1), some (.inl x2), some (.inl (-1)), none, none, none, none]) a2_bestLook_1 (Nat.le_of_ble_eq_true rfl) rfl rfl ?_
  refine g_bipush (v := 7) a2_bestLook_2 rfl ?_
  refine g_istore (L' := [some (.inr (.inr (2, k0))), some (.inl x1), some (.inl x2), some (.inl (-1)), some (.inl 7), none, none, none]) a2_bestLook_4 (Nat.le_of_ble_eq_true rfl) rfl rfl ?_
  refine g_iconst (v := 0) a2_bestLook_6 rfl ?_
  refine g_istore (L' := [some (.inr (.inr (2, k0))), some (.inl x1), some (.inl x2), some (.inl (-1)), some (.inl 7), some (.inl 0), none, none]) a2_bestLook_7 (Nat.le_of_ble_eq_true rfl) rfl rfl ?_
  obtain ⟨w12, hw12, h⟩ := bnd_inv h
  refine g_weak (lE2_bestLook_9 k0 x1 x2 2000 _ _ _ _ hw12 ?_) ⟨rfl, rfl, rfl, rfl, rfl, rfl, trivial⟩
  refine g_iload_n a2_bestLook_78 rfl ?_
  have h := Option.some.inj h
  subst h
  exact g_retE a2_bestLook_79 trivial rfl rfl
theorem a10_look_0 : At cX10_look 0 (.aload_n 0) 1 1 := ⟨by decide +kernel, rfl⟩
theorem a10_look_1 : At cX10_look 1 (.iload_n 1) 1 2 := ⟨by decide +kernel, rfl⟩
theorem a10_look_2 : At cX10_look 2 (.invokevirtual 169) 3 5 := ⟨by decide +kernel, rfl⟩
theorem a10_look_5 : At cX10_look 5 (.ifCond .ne 8) 3 8 := ⟨by decide +kernel, rfl⟩
theorem a10_look_8 : At cX10_look 8 (.aload_n 0) 1 9 := ⟨by decide +kernel, rfl⟩
theorem a10_look_9 : At cX10_look 9 (.invokevirtual 100) 3 12 := ⟨by decide +kernel, rfl⟩
theorem a10_look_12 : At cX10_look 12 (.ireturn) 1 13 := ⟨by decide +kernel, rfl⟩
theorem a10_look_13 : At cX10_look 13 (.aload_n 0) 1 14 := ⟨by decide +kernel, rfl⟩
theorem a10_look_14 : At cX10_look 14 (.getfield 65) 3 17 := ⟨by decide +kernel, rfl⟩
theorem a10_look_17 : At cX10_look 17 (.aload_n 0) 1 18 := ⟨by decide +kernel, rfl⟩
theorem a10_look_18 : At cX10_look 18 (.getfield 10) 3 21 := ⟨by decide +kernel, rfl⟩
theorem a10_look_21 : At cX10_look 21 (.getfield 260) 3 24 := ⟨by decide +kernel, rfl⟩
theorem a10_look_24 : At cX10_look 24 (.iload_n 1) 1 25 := ⟨by decide +kernel, rfl⟩
theorem a10_look_25 : At cX10_look 25 (.invokevirtual 270) 3 28 := ⟨by decide +kernel, rfl⟩
theorem a10_look_28 : At cX10_look 28 (.istore_n 2) 1 29 := ⟨by decide +kernel, rfl⟩
theorem a10_look_29 : At cX10_look 29 (.aload_n 0) 1 30 := ⟨by decide +kernel, rfl⟩
theorem a10_look_30 : At cX10_look 30 (.getfield 65) 3 33 := ⟨by decide +kernel, rfl⟩
theorem a10_look_33 : At cX10_look 33 (.iload_n 2) 1 34 := ⟨by decide +kernel, rfl⟩
theorem a10_look_34 : At cX10_look 34 (.aload_n 0) 1 35 := ⟨by decide +kernel, rfl⟩
theorem a10_look_35 : At cX10_look 35 (.getfield 10) 3 38 := ⟨by decide +kernel, rfl⟩
theorem a10_look_38 : At cX10_look 38 (.getfield 76) 3 41 := ⟨by decide +kernel, rfl⟩
theorem a10_look_41 : At cX10_look 41 (.iload_n 1) 1 42 := ⟨by decide +kernel, rfl⟩
theorem a10_look_42 : At cX10_look 42 (.iconst 1) 1 43 := ⟨by decide +kernel, rfl⟩
theorem a10_look_43 : At cX10_look 43 (.invokevirtual 106) 3 46 := ⟨by decide +kernel, rfl⟩
theorem a10_look_46 : At cX10_look 46 (.invokevirtual 274) 3 49 := ⟨by decide +kernel, rfl⟩
theorem a10_look_49 : At cX10_look 49 (.ireturn) 1 50 := ⟨by decide +kernel, rfl⟩
def f10_look (k0 : Nat) (x1 : Int32) (σ : Mem) : Option (Int32 × Mem) :=
  if (f10_isThing k0 x1 σ) = 0 then
  (lt (f10_refuseBad k0 σ) fun w2 =>
  some (w2.1, w2.2))
  else
  (bnd (f2_thingKinds 0 4 x1 σ) fun w4 =>
  bnd (f7_at 1 x1 1 w4.2) fun w6 =>
  bnd (f2_bestLook 0 w4.1 w6 w4.2) fun w8 =>
  some (w8.1, w8.2))
theorem E10_look {k0 : Nat} {x1 : Int32} {σ : Mem} {w : Int32 × Mem} (h : f10_look k0 x1 σ = some w) : Ev m10_look [.inr (.inr (10, k0)), .inl x1] σ (some (.inl w.1) : Option AV) w.2 := by
  unfold f10_look at h
  show Go m10_look 0 [some (.inr (.inr (10, k0))), some (.inl x1), none] [] σ (some (.inl w.1) : Option AV) w.2
  refine g_aload_n a10_look_0 rfl ?_
  refine g_iload_n a10_look_1 rfl ?_
  refine g_V1s (v1 := .inl (f10_isThing k0 x1 σ)) (σ1 := σ) a10_look_2 cv10_169 (E10_isThing _ _ _) rfl (fun o1 => ?_)
  refine g_if_ne (tgt := 13) a10_look_5 rfl (fun c10 => ?_) (fun c10 => ?_)
  · have h := (if_neg c10).symm.trans h
    refine g_aload_n a10_look_13 rfl ?_
    refine g_getf (v := .inr (.inr (2, 0))) a10_look_14 fs10_65 rfl ?_
    refine g_aload_n a10_look_17 rfl ?_
    refine g_getf (v := .inr (.inr (9, 0))) a10_look_18 fs10_10 rfl ?_
    refine g_getf (v := .inr (.inr (7, 4))) a10_look_21 fs10_260 rfl ?_
    refine g_iload_n a10_look_24 rfl ?_
    obtain ⟨w4, hw4, h⟩ := bnd_inv h
    refine g_V2s (v1 := .inl w4.1) (σ1 := w4.2) a10_look_25 cv10_270 (E2_thingKinds hw4) rfl (fun o5 => ?_)
    refine g_istore_n (L' := [some (.inr (.inr (10, k0))), some (.inl x1), some (.inl w4.1)]) a10_look_28 (Nat.le_of_ble_eq_true rfl) rfl rfl ?_
    refine g_aload_n a10_look_29 rfl ?_
    refine g_getf (v := .inr (.inr (2, 0))) a10_look_30 fs10_65 rfl ?_
    refine g_iload_n a10_look_33 rfl ?_
    refine g_aload_n a10_look_34 rfl ?_
    refine g_getf (v := .inr (.inr (9, 0))) a10_look_35 fs10_10 rfl ?_
    refine g_getf (v := .inr (.inr (7, 1))) a10_look_38 fs10_76 rfl ?_
    refine g_iload_n a10_look_41 rfl ?_
    refine g_iconst (v := 1) a10_look_42 rfl ?_
    obtain ⟨w6, hw6, h⟩ := bnd_inv h
    refine g_V2s (v1 := .inl w6) (σ1 := w4.2) a10_look_43 cv10_106 (E7_at hw6) rfl (fun o7 => ?_)
    obtain ⟨w8, hw8, h⟩ := bnd_inv h
    refine g_V2s (v1 := .inl w8.1) (σ1 := w8.2) a10_look_46 cv10_274 (E2_bestLook hw8) rfl (fun o9 => ?_)
    have h := Option.some.inj h
    subst h
    exact g_retE a10_look_49 trivial rfl rfl
  · have h := (if_pos c10).symm.trans h
    refine g_aload_n a10_look_8 rfl ?_
    obtain ⟨w2, hw2, h⟩ := lt_inv h
    refine g_V0s (v1 := .inl w2.1) (σ1 := w2.2) a10_look_9 cv10_100 (by rw [← hw2]; exact E10_refuseBad _ _) rfl (fun o3 => ?_)
    have h := Option.some.inj h
    subst h
    exact g_retE a10_look_12 trivial rfl rfl
theorem a2_needAll_0 : At cX2_needAll 0 (.iconst 0) 1 1 := ⟨by decide +kernel, rfl⟩
theorem a2_needAll_1 : At cX2_needAll 1 (.istore_n 3) 1 2 := ⟨by decide +kernel, rfl⟩
theorem a2_needAll_2 : At cX2_needAll 2 (.iload_n 3) 1 3 := ⟨by decide +kernel, rfl⟩
theorem a2_needAll_3 : At cX2_needAll 3 (.bipush 6) 2 5 := ⟨by decide +kernel, rfl⟩
theorem a2_needAll_5 : At cX2_needAll 5 (.if_icmp .ge 23) 3 8 := ⟨by decide +kernel, rfl⟩
theorem a2_needAll_8 : At cX2_needAll 8 (.aload_n 0) 1 9 := ⟨by decide +kernel, rfl⟩
theorem a2_needAll_9 : At cX2_needAll 9 (.getfield 14) 3 12 := ⟨by decide +kernel, rfl⟩
theorem a2_needAll_12 : At cX2_needAll 12 (.iload_n 3) 1 13 := ⟨by decide +kernel, rfl⟩
theorem a2_needAll_13 : At cX2_needAll 13 (.iload_n 3) 1 14 := ⟨by decide +kernel, rfl⟩
theorem a2_needAll_14 : At cX2_needAll 14 (.iload_n 1) 1 15 := ⟨by decide +kernel, rfl⟩
theorem a2_needAll_15 : At cX2_needAll 15 (.iload_n 2) 1 16 := ⟨by decide +kernel, rfl⟩
theorem a2_needAll_16 : At cX2_needAll 16 (.invokestatic 54) 3 19 := ⟨by decide +kernel, rfl⟩
theorem a2_needAll_19 : At cX2_needAll 19 (.invokevirtual 51) 3 22 := ⟨by decide +kernel, rfl⟩
theorem a2_needAll_22 : At cX2_needAll 22 (.iinc 3 1) 3 25 := ⟨by decide +kernel, rfl⟩
theorem a2_needAll_25 : At cX2_needAll 25 (.goto (-23)) 3 28 := ⟨by decide +kernel, rfl⟩
theorem a2_needAll_28 : At cX2_needAll 28 (.return_) 1 29 := ⟨by decide +kernel, rfl⟩
def l2_needAll_2 (k0 : Nat) (x1 : Int32) (x2 : Int32) : Nat → Int32 → Mem → Option (Int32 × Mem)
  | 0, _, _ => none
  | n + 1, x3, σ =>
  if 6 ≤ x3 then
  (some (x3, σ))
  else
  (bnd (f6_put 6 x3 (f3_need x3 x1 x2) σ) fun w2 =>
  l2_needAll_2 k0 x1 x2 n (x3 + 1) w2)
theorem lE2_needAll_2 {V : Option AV} {S : Mem} (k0 : Nat) (x1 : Int32) (x2 : Int32) : ∀ (n : Nat) (x3 : Int32) (σ : Mem) {w : Int32 × Mem}, l2_needAll_2 k0 x1 x2 n x3 σ = some w → (Go m2_needAll 28 [some (.inr (.inr (2, k0))), some (.inl x1), some (.inl x2), some (.inl w.1)] [] w.2 V S) → Go m2_needAll 2 [some (.inr (.inr (2, k0))), some (.inl x1), some (.inl x2), some (.inl x3)] [] σ V S
  | 0, x3, σ, w, h, K1 => by cases h
  | n + 1, x3, σ, w, h, K1 => by
    rw [l2_needAll_2] at h
    refine g_iload_n a2_needAll_2 rfl ?_
    refine g_bipush (v := 6) a2_needAll_3 rfl ?_
    refine g_icmp_ge (tgt := 28) a2_needAll_5 rfl (fun c4 => ?_) (fun c4 => ?_)
    · have h := (if_pos c4).symm.trans h
      have h := Option.some.inj h
      subst h
      exact g_weak K1 ⟨rfl, rfl, rfl, rfl, trivial⟩
    · have h := (if_neg c4).symm.trans h
      refine g_aload_n a2_needAll_8 rfl ?_
      refine g_getf (v := .inr (.inr (6, 6))) a2_needAll_9 fs2_14 rfl ?_
      refine g_iload_n a2_needAll_12 rfl ?_
      refine g_iload_n a2_needAll_13 rfl ?_
      refine g_iload_n a2_needAll_14 rfl ?_
      refine g_iload_n a2_needAll_15 rfl ?_
      refine g_S3s (v1 := .inl (f3_need x3 x1 x2)) (σ1 := σ) a2_needAll_16 cs2_54 (E3_need _ _ _ _) rfl (fun o1 => ?_)
      obtain ⟨w2, hw2, h⟩ := bnd_inv h
      refine g_V2n (σ1 := w2) a2_needAll_19 cv2_51 (E6_put hw2) rfl (fun o3 => ?_)
      refine g_iinc (v := (x3 + 1)) (L' := [some (.inr (.inr (2, k0))), some (.inl x1), some (.inl x2), some (.inl (x3 + 1))]) a2_needAll_22 rfl rfl (Nat.le_of_ble_eq_true rfl) rfl rfl ?_
      refine g_goto (tgt := 2) a2_needAll_25 rfl ?_
      exact g_weak (lE2_needAll_2 (V := V) (S := S)  k0 x1 x2 n _ _ h K1) ⟨rfl, rfl, rfl, rfl, trivial⟩
def f2_needAll (k0 : Nat) (x1 : Int32) (x2 : Int32) (σ : Mem) : Option (Mem) :=
  bnd (l2_needAll_2 k0 x1 x2 2000 0 σ) fun w5 =>
  some w5.2
theorem E2_needAll {k0 : Nat} {x1 : Int32} {x2 : Int32} {σ : Mem} {w : Mem} (h : f2_needAll k0 x1 x2 σ = some w) : Ev m2_needAll [.inr (.inr (2, k0)), .inl x1, .inl x2] σ none w := by
  unfold f2_needAll at h
  show Go m2_needAll 0 [some (.inr (.inr (2, k0))), some (.inl x1), some (.inl x2), none] [] σ none w
  refine g_iconst (v := 0) a2_needAll_0 rfl ?_
  refine g_istore_n (L' := [some (.inr (.inr (2, k0))), some (.inl x1), some (.inl x2), some (.inl 0)]) a2_needAll_1 (Nat.le_of_ble_eq_true rfl) rfl rfl ?_
  obtain ⟨w5, hw5, h⟩ := bnd_inv h
  refine g_weak (lE2_needAll_2 k0 x1 x2 2000 _ _ hw5 ?_) ⟨rfl, rfl, rfl, rfl, trivial⟩
  have h := Option.some.inj h
  subst h
  exact g_retE a2_needAll_28 trivial rfl rfl
theorem a2_partKinds_0 : At cX2_partKinds 0 (.bipush 63) 2 2 := ⟨by decide +kernel, rfl⟩
theorem a2_partKinds_2 : At cX2_partKinds 2 (.istore_n 3) 1 3 := ⟨by decide +kernel, rfl⟩
theorem a2_partKinds_3 : At cX2_partKinds 3 (.iconst 0) 1 4 := ⟨by decide +kernel, rfl⟩
theorem a2_partKinds_4 : At cX2_partKinds 4 (.istore 4) 2 6 := ⟨by decide +kernel, rfl⟩
theorem a2_partKinds_6 : At cX2_partKinds 6 (.iload 4) 2 8 := ⟨by decide +kernel, rfl⟩
theorem a2_partKinds_8 : At cX2_partKinds 8 (.aload_n 1) 1 9 := ⟨by decide +kernel, rfl⟩
theorem a2_partKinds_9 : At cX2_partKinds 9 (.invokevirtual 20) 3 12 := ⟨by decide +kernel, rfl⟩
theorem a2_partKinds_12 : At cX2_partKinds 12 (.if_icmp .ge 52) 3 15 := ⟨by decide +kernel, rfl⟩
theorem a2_partKinds_15 : At cX2_partKinds 15 (.aload_n 1) 1 16 := ⟨by decide +kernel, rfl⟩
theorem a2_partKinds_16 : At cX2_partKinds 16 (.iload 4) 2 18 := ⟨by decide +kernel, rfl⟩
theorem a2_partKinds_18 : At cX2_partKinds 18 (.iconst 0) 1 19 := ⟨by decide +kernel, rfl⟩
theorem a2_partKinds_19 : At cX2_partKinds 19 (.invokevirtual 26) 3 22 := ⟨by decide +kernel, rfl⟩
theorem a2_partKinds_22 : At cX2_partKinds 22 (.iload_n 2) 1 23 := ⟨by decide +kernel, rfl⟩
theorem a2_partKinds_23 : At cX2_partKinds 23 (.if_icmp .ne 35) 3 26 := ⟨by decide +kernel, rfl⟩
theorem a2_partKinds_26 : At cX2_partKinds 26 (.aload_n 0) 1 27 := ⟨by decide +kernel, rfl⟩
theorem a2_partKinds_27 : At cX2_partKinds 27 (.aload_n 1) 1 28 := ⟨by decide +kernel, rfl⟩
theorem a2_partKinds_28 : At cX2_partKinds 28 (.iload 4) 2 30 := ⟨by decide +kernel, rfl⟩
theorem a2_partKinds_30 : At cX2_partKinds 30 (.iconst 1) 1 31 := ⟨by decide +kernel, rfl⟩
theorem a2_partKinds_31 : At cX2_partKinds 31 (.invokevirtual 26) 3 34 := ⟨by decide +kernel, rfl⟩
theorem a2_partKinds_34 : At cX2_partKinds 34 (.aload_n 1) 1 35 := ⟨by decide +kernel, rfl⟩
theorem a2_partKinds_35 : At cX2_partKinds 35 (.iload 4) 2 37 := ⟨by decide +kernel, rfl⟩
theorem a2_partKinds_37 : At cX2_partKinds 37 (.iconst 2) 1 38 := ⟨by decide +kernel, rfl⟩
theorem a2_partKinds_38 : At cX2_partKinds 38 (.invokevirtual 26) 3 41 := ⟨by decide +kernel, rfl⟩
theorem a2_partKinds_41 : At cX2_partKinds 41 (.invokevirtual 38) 3 44 := ⟨by decide +kernel, rfl⟩
theorem a2_partKinds_44 : At cX2_partKinds 44 (.iload_n 3) 1 45 := ⟨by decide +kernel, rfl⟩
theorem a2_partKinds_45 : At cX2_partKinds 45 (.aload_n 0) 1 46 := ⟨by decide +kernel, rfl⟩
theorem a2_partKinds_46 : At cX2_partKinds 46 (.aload_n 1) 1 47 := ⟨by decide +kernel, rfl⟩
theorem a2_partKinds_47 : At cX2_partKinds 47 (.iload 4) 2 49 := ⟨by decide +kernel, rfl⟩
theorem a2_partKinds_49 : At cX2_partKinds 49 (.iconst 3) 1 50 := ⟨by decide +kernel, rfl⟩
theorem a2_partKinds_50 : At cX2_partKinds 50 (.invokevirtual 26) 3 53 := ⟨by decide +kernel, rfl⟩
theorem a2_partKinds_53 : At cX2_partKinds 53 (.invokevirtual 34) 3 56 := ⟨by decide +kernel, rfl⟩
theorem a2_partKinds_56 : At cX2_partKinds 56 (.iand) 1 57 := ⟨by decide +kernel, rfl⟩
theorem a2_partKinds_57 : At cX2_partKinds 57 (.istore_n 3) 1 58 := ⟨by decide +kernel, rfl⟩
theorem a2_partKinds_58 : At cX2_partKinds 58 (.iinc 4 1) 3 61 := ⟨by decide +kernel, rfl⟩
theorem a2_partKinds_61 : At cX2_partKinds 61 (.goto (-55)) 3 64 := ⟨by decide +kernel, rfl⟩
theorem a2_partKinds_64 : At cX2_partKinds 64 (.iload_n 3) 1 65 := ⟨by decide +kernel, rfl⟩
theorem a2_partKinds_65 : At cX2_partKinds 65 (.ireturn) 1 66 := ⟨by decide +kernel, rfl⟩
def l2_partKinds_6 (k0 : Nat) (k1 : Nat) (x2 : Int32) : Nat → Int32 → Int32 → Mem → Option (Int32 × Int32 × Mem)
  | 0, _, _, _ => none
  | n + 1, x3, x4, σ =>
  if (f7_size k1 σ) ≤ x4 then
  (some (x3, x4, σ))
  else
  (bnd (f7_at k1 x4 0 σ) fun w2 =>
  bnd (if w2 = x2 then
  (bnd (f7_at k1 x4 1 σ) fun w6 =>
  bnd (f7_at k1 x4 2 σ) fun w8 =>
  bnd (f2_needAll k0 w6 w8 σ) fun w10 =>
  bnd (f7_at k1 x4 3 w10) fun w12 =>
  bnd (f2_answering k0 w12 w10) fun w14 =>
  some ((x3 &&& w14), w10))
  else
  (some (x3, σ)) : Option (Int32 × Mem)) fun w4 =>
  l2_partKinds_6 k0 k1 x2 n w4.1 (x4 + 1) w4.2)
theorem lE2_partKinds_6 {V : Option AV} {S : Mem} (k0 : Nat) (k1 : Nat) (x2 : Int32) : ∀ (n : Nat) (x3 : Int32) (x4 : Int32) (σ : Mem) {w : Int32 × Int32 × Mem}, l2_partKinds_6 k0 k1 x2 n x3 x4 σ = some w → (Go m2_partKinds 64 [some (.inr (.inr (2, k0))), some (.inr (.inr (7, k1))), some (.inl x2), some (.inl w.1), some (.inl w.2.1)] [] w.2.2 V S) → Go m2_partKinds 6 [some (.inr (.inr (2, k0))), some (.inr (.inr (7, k1))), some (.inl x2), some (.inl x3), some (.inl x4)] [] σ V S
  | 0, x3, x4, σ, w, h, K1 => by cases h
  | n + 1, x3, x4, σ, w, h, K1 => by
    rw [l2_partKinds_6] at h
    refine g_iload a2_partKinds_6 rfl ?_
    refine g_aload_n a2_partKinds_8 rfl ?_
    refine g_V0s (v1 := .inl (f7_size k1 σ)) (σ1 := σ) a2_partKinds_9 cv2_20 (E7_size _ _) rfl (fun o1 => ?_)
    refine g_icmp_ge (tgt := 64) a2_partKinds_12 rfl (fun c17 => ?_) (fun c17 => ?_)
    · have h := (if_pos c17).symm.trans h
      have h := Option.some.inj h
      subst h
      exact g_weak K1 ⟨rfl, rfl, rfl, rfl, rfl, trivial⟩
    · have h := (if_neg c17).symm.trans h
      refine g_aload_n a2_partKinds_15 rfl ?_
      refine g_iload a2_partKinds_16 rfl ?_
      refine g_iconst (v := 0) a2_partKinds_18 rfl ?_
      obtain ⟨w2, hw2, h⟩ := bnd_inv h
      refine g_V2s (v1 := .inl w2) (σ1 := σ) a2_partKinds_19 cv2_26 (E7_at hw2) rfl (fun o3 => ?_)
      refine g_iload_n a2_partKinds_22 rfl ?_
      obtain ⟨w4, hw4, h⟩ := bnd_inv h
      have J5 : Go m2_partKinds 58 [some (.inr (.inr (2, k0))), some (.inr (.inr (7, k1))), some (.inl x2), some (.inl w4.1), some (.inl x4)] [] w4.2 V S := by
        refine g_iinc (v := (x4 + 1)) (L' := [some (.inr (.inr (2, k0))), some (.inr (.inr (7, k1))), some (.inl x2), some (.inl w4.1), some (.inl (x4 + 1))]) a2_partKinds_58 rfl rfl (Nat.le_of_ble_eq_true rfl) rfl rfl ?_
        refine g_goto (tgt := 6) a2_partKinds_61 rfl ?_
        exact g_weak (lE2_partKinds_6 (V := V) (S := S)  k0 k1 x2 n _ _ _ h K1) ⟨rfl, rfl, rfl, rfl, rfl, trivial⟩
      clear h
      refine g_icmp_ne (tgt := 58) a2_partKinds_23 rfl (fun c16 => ?_) (fun c16 => ?_)
      · have hw4 := (if_neg c16).symm.trans hw4
        have hw4 := Option.some.inj hw4
        subst hw4
        exact g_weak J5 ⟨rfl, rfl, rfl, rfl, rfl, trivial⟩
      · have hw4 := (if_pos c16).symm.trans hw4
        refine g_aload_n a2_partKinds_26 rfl ?_
        refine g_aload_n a2_partKinds_27 rfl ?_
        refine g_iload a2_partKinds_28 rfl ?_
        refine g_iconst (v := 1) a2_partKinds_30 rfl ?_
        obtain ⟨w6, hw6, hw4⟩ := bnd_inv hw4
        refine g_V2s (v1 := .inl w6) (σ1 := σ) a2_partKinds_31 cv2_26 (E7_at hw6) rfl (fun o7 => ?_)
        refine g_aload_n a2_partKinds_34 rfl ?_
        refine g_iload a2_partKinds_35 rfl ?_
        refine g_iconst (v := 2) a2_partKinds_37 rfl ?_
        obtain ⟨w8, hw8, hw4⟩ := bnd_inv hw4
        refine g_V2s (v1 := .inl w8) (σ1 := σ) a2_partKinds_38 cv2_26 (E7_at hw8) rfl (fun o9 => ?_)
        obtain ⟨w10, hw10, hw4⟩ := bnd_inv hw4
        refine g_V2n (σ1 := w10) a2_partKinds_41 cv2_38 (E2_needAll hw10) rfl (fun o11 => ?_)
        refine g_iload_n a2_partKinds_44 rfl ?_
        refine g_aload_n a2_partKinds_45 rfl ?_
        refine g_aload_n a2_partKinds_46 rfl ?_
        refine g_iload a2_partKinds_47 rfl ?_
        refine g_iconst (v := 3) a2_partKinds_49 rfl ?_
        obtain ⟨w12, hw12, hw4⟩ := bnd_inv hw4
        refine g_V2s (v1 := .inl w12) (σ1 := w10) a2_partKinds_50 cv2_26 (E7_at hw12) rfl (fun o13 => ?_)
        obtain ⟨w14, hw14, hw4⟩ := bnd_inv hw4
        refine g_V1s (v1 := .inl w14) (σ1 := w10) a2_partKinds_53 cv2_34 (E2_answering hw14) rfl (fun o15 => ?_)
        refine g_iand a2_partKinds_56 ?_
        refine g_istore_n (L' := [some (.inr (.inr (2, k0))), some (.inr (.inr (7, k1))), some (.inl x2), some (.inl (x3 &&& w14)), some (.inl x4)]) a2_partKinds_57 (Nat.le_of_ble_eq_true rfl) rfl rfl ?_
        have hw4 := Option.some.inj hw4
        subst hw4
        exact g_weak J5 ⟨rfl, rfl, rfl, rfl, rfl, trivial⟩
def f2_partKinds (k0 : Nat) (k1 : Nat) (x2 : Int32) (σ : Mem) : Option (Int32 × Mem) :=
  bnd (l2_partKinds_6 k0 k1 x2 2000 63 0 σ) fun w18 =>
  some (w18.1, w18.2.2)
theorem E2_partKinds {k0 : Nat} {k1 : Nat} {x2 : Int32} {σ : Mem} {w : Int32 × Mem} (h : f2_partKinds k0 k1 x2 σ = some w) : Ev m2_partKinds [.inr (.inr (2, k0)), .inr (.inr (7, k1)), .inl x2] σ (some (.inl w.1) : Option AV) w.2 := by
  unfold f2_partKinds at h
  show Go m2_partKinds 0 [some (.inr (.inr (2, k0))), some (.inr (.inr (7, k1))), some (.inl x2), none, none] [] σ (some (.inl w.1) : Option AV) w.2
  refine g_bipush (v := 63) a2_partKinds_0 rfl ?_
  refine g_istore_n (L' := [some (.inr (.inr (2, k0))), some (.inr (.inr (7, k1))), some (.inl x2), some (.inl 63), none]) a2_partKinds_2 (Nat.le_of_ble_eq_true rfl) rfl rfl ?_
  refine g_iconst (v := 0) a2_partKinds_3 rfl ?_
  refine g_istore (L' := [some (.inr (.inr (2, k0))), some (.inr (.inr (7, k1))), some (.inl x2), some (.inl 63), some (.inl 0)]) a2_partKinds_4 (Nat.le_of_ble_eq_true rfl) rfl rfl ?_
  obtain ⟨w18, hw18, h⟩ := bnd_inv h
  refine g_weak (lE2_partKinds_6 k0 k1 x2 2000 _ _ _ hw18 ?_) ⟨rfl, rfl, rfl, rfl, rfl, trivial⟩
  refine g_iload_n a2_partKinds_64 rfl ?_
  have h := Option.some.inj h
  subst h
  exact g_retE a2_partKinds_65 trivial rfl rfl
theorem a10_kinds_0 : At cX10_kinds 0 (.aload_n 0) 1 1 := ⟨by decide +kernel, rfl⟩
theorem a10_kinds_1 : At cX10_kinds 1 (.iload_n 1) 1 2 := ⟨by decide +kernel, rfl⟩
theorem a10_kinds_2 : At cX10_kinds 2 (.invokevirtual 191) 3 5 := ⟨by decide +kernel, rfl⟩
theorem a10_kinds_5 : At cX10_kinds 5 (.ifCond .ne 8) 3 8 := ⟨by decide +kernel, rfl⟩
theorem a10_kinds_8 : At cX10_kinds 8 (.aload_n 0) 1 9 := ⟨by decide +kernel, rfl⟩
theorem a10_kinds_9 : At cX10_kinds 9 (.invokevirtual 100) 3 12 := ⟨by decide +kernel, rfl⟩
theorem a10_kinds_12 : At cX10_kinds 12 (.ireturn) 1 13 := ⟨by decide +kernel, rfl⟩
theorem a10_kinds_13 : At cX10_kinds 13 (.aload_n 0) 1 14 := ⟨by decide +kernel, rfl⟩
theorem a10_kinds_14 : At cX10_kinds 14 (.getfield 65) 3 17 := ⟨by decide +kernel, rfl⟩
theorem a10_kinds_17 : At cX10_kinds 17 (.aload_n 0) 1 18 := ⟨by decide +kernel, rfl⟩
theorem a10_kinds_18 : At cX10_kinds 18 (.getfield 10) 3 21 := ⟨by decide +kernel, rfl⟩
theorem a10_kinds_21 : At cX10_kinds 21 (.getfield 263) 3 24 := ⟨by decide +kernel, rfl⟩
theorem a10_kinds_24 : At cX10_kinds 24 (.iload_n 1) 1 25 := ⟨by decide +kernel, rfl⟩
theorem a10_kinds_25 : At cX10_kinds 25 (.invokevirtual 277) 3 28 := ⟨by decide +kernel, rfl⟩
theorem a10_kinds_28 : At cX10_kinds 28 (.ireturn) 1 29 := ⟨by decide +kernel, rfl⟩
def f10_kinds (k0 : Nat) (x1 : Int32) (σ : Mem) : Option (Int32 × Mem) :=
  if (f10_isPart k0 x1 σ) = 0 then
  (lt (f10_refuseBad k0 σ) fun w2 =>
  some (w2.1, w2.2))
  else
  (bnd (f2_partKinds 0 5 x1 σ) fun w4 =>
  some (w4.1, w4.2))
theorem E10_kinds {k0 : Nat} {x1 : Int32} {σ : Mem} {w : Int32 × Mem} (h : f10_kinds k0 x1 σ = some w) : Ev m10_kinds [.inr (.inr (10, k0)), .inl x1] σ (some (.inl w.1) : Option AV) w.2 := by
  unfold f10_kinds at h
  show Go m10_kinds 0 [some (.inr (.inr (10, k0))), some (.inl x1)] [] σ (some (.inl w.1) : Option AV) w.2
  refine g_aload_n a10_kinds_0 rfl ?_
  refine g_iload_n a10_kinds_1 rfl ?_
  refine g_V1s (v1 := .inl (f10_isPart k0 x1 σ)) (σ1 := σ) a10_kinds_2 cv10_191 (E10_isPart _ _ _) rfl (fun o1 => ?_)
  refine g_if_ne (tgt := 13) a10_kinds_5 rfl (fun c6 => ?_) (fun c6 => ?_)
  · have h := (if_neg c6).symm.trans h
    refine g_aload_n a10_kinds_13 rfl ?_
    refine g_getf (v := .inr (.inr (2, 0))) a10_kinds_14 fs10_65 rfl ?_
    refine g_aload_n a10_kinds_17 rfl ?_
    refine g_getf (v := .inr (.inr (9, 0))) a10_kinds_18 fs10_10 rfl ?_
    refine g_getf (v := .inr (.inr (7, 5))) a10_kinds_21 fs10_263 rfl ?_
    refine g_iload_n a10_kinds_24 rfl ?_
    obtain ⟨w4, hw4, h⟩ := bnd_inv h
    refine g_V2s (v1 := .inl w4.1) (σ1 := w4.2) a10_kinds_25 cv10_277 (E2_partKinds hw4) rfl (fun o5 => ?_)
    have h := Option.some.inj h
    subst h
    exact g_retE a10_kinds_28 trivial rfl rfl
  · have h := (if_pos c6).symm.trans h
    refine g_aload_n a10_kinds_8 rfl ?_
    obtain ⟨w2, hw2, h⟩ := lt_inv h
    refine g_V0s (v1 := .inl w2.1) (σ1 := w2.2) a10_kinds_9 cv10_100 (by rw [← hw2]; exact E10_refuseBad _ _) rfl (fun o3 => ?_)
    have h := Option.some.inj h
    subst h
    exact g_retE a10_kinds_12 trivial rfl rfl
theorem a2_bestAsk_0 : At cX2_bestAsk 0 (.iconst (-1)) 1 1 := ⟨by decide +kernel, rfl⟩
theorem a2_bestAsk_1 : At cX2_bestAsk 1 (.istore_n 2) 1 2 := ⟨by decide +kernel, rfl⟩
theorem a2_bestAsk_2 : At cX2_bestAsk 2 (.bipush 7) 2 4 := ⟨by decide +kernel, rfl⟩
theorem a2_bestAsk_4 : At cX2_bestAsk 4 (.istore_n 3) 1 5 := ⟨by decide +kernel, rfl⟩
theorem a2_bestAsk_5 : At cX2_bestAsk 5 (.iconst 0) 1 6 := ⟨by decide +kernel, rfl⟩
theorem a2_bestAsk_6 : At cX2_bestAsk 6 (.istore 4) 2 8 := ⟨by decide +kernel, rfl⟩
theorem a2_bestAsk_8 : At cX2_bestAsk 8 (.iload 4) 2 10 := ⟨by decide +kernel, rfl⟩
theorem a2_bestAsk_10 : At cX2_bestAsk 10 (.bipush 6) 2 12 := ⟨by decide +kernel, rfl⟩
theorem a2_bestAsk_12 : At cX2_bestAsk 12 (.if_icmp .ge 61) 3 15 := ⟨by decide +kernel, rfl⟩
theorem a2_bestAsk_15 : At cX2_bestAsk 15 (.iload_n 1) 1 16 := ⟨by decide +kernel, rfl⟩
theorem a2_bestAsk_16 : At cX2_bestAsk 16 (.ifCond .eq 57) 3 19 := ⟨by decide +kernel, rfl⟩
theorem a2_bestAsk_19 : At cX2_bestAsk 19 (.iconst 0) 1 20 := ⟨by decide +kernel, rfl⟩
theorem a2_bestAsk_20 : At cX2_bestAsk 20 (.istore 5) 2 22 := ⟨by decide +kernel, rfl⟩
theorem a2_bestAsk_22 : At cX2_bestAsk 22 (.iload 5) 2 24 := ⟨by decide +kernel, rfl⟩
theorem a2_bestAsk_24 : At cX2_bestAsk 24 (.iconst 2) 1 25 := ⟨by decide +kernel, rfl⟩
theorem a2_bestAsk_25 : At cX2_bestAsk 25 (.if_icmp .ge 42) 3 28 := ⟨by decide +kernel, rfl⟩
theorem a2_bestAsk_28 : At cX2_bestAsk 28 (.aload_n 0) 1 29 := ⟨by decide +kernel, rfl⟩
theorem a2_bestAsk_29 : At cX2_bestAsk 29 (.iload 4) 2 31 := ⟨by decide +kernel, rfl⟩
theorem a2_bestAsk_31 : At cX2_bestAsk 31 (.iload 5) 2 33 := ⟨by decide +kernel, rfl⟩
theorem a2_bestAsk_33 : At cX2_bestAsk 33 (.invokevirtual 38) 3 36 := ⟨by decide +kernel, rfl⟩
theorem a2_bestAsk_36 : At cX2_bestAsk 36 (.aload_n 0) 1 37 := ⟨by decide +kernel, rfl⟩
theorem a2_bestAsk_37 : At cX2_bestAsk 37 (.iload_n 1) 1 38 := ⟨by decide +kernel, rfl⟩
theorem a2_bestAsk_38 : At cX2_bestAsk 38 (.invokevirtual 42) 3 41 := ⟨by decide +kernel, rfl⟩
theorem a2_bestAsk_41 : At cX2_bestAsk 41 (.istore 6) 2 43 := ⟨by decide +kernel, rfl⟩
theorem a2_bestAsk_43 : At cX2_bestAsk 43 (.iload 6) 2 45 := ⟨by decide +kernel, rfl⟩
theorem a2_bestAsk_45 : At cX2_bestAsk 45 (.iload_n 3) 1 46 := ⟨by decide +kernel, rfl⟩
theorem a2_bestAsk_46 : At cX2_bestAsk 46 (.if_icmp .ge 15) 3 49 := ⟨by decide +kernel, rfl⟩
theorem a2_bestAsk_49 : At cX2_bestAsk 49 (.iload 6) 2 51 := ⟨by decide +kernel, rfl⟩
theorem a2_bestAsk_51 : At cX2_bestAsk 51 (.istore_n 3) 1 52 := ⟨by decide +kernel, rfl⟩
theorem a2_bestAsk_52 : At cX2_bestAsk 52 (.bipush 10) 2 54 := ⟨by decide +kernel, rfl⟩
theorem a2_bestAsk_54 : At cX2_bestAsk 54 (.iload 4) 2 56 := ⟨by decide +kernel, rfl⟩
theorem a2_bestAsk_56 : At cX2_bestAsk 56 (.imul) 1 57 := ⟨by decide +kernel, rfl⟩
theorem a2_bestAsk_57 : At cX2_bestAsk 57 (.iload 5) 2 59 := ⟨by decide +kernel, rfl⟩
theorem a2_bestAsk_59 : At cX2_bestAsk 59 (.iadd) 1 60 := ⟨by decide +kernel, rfl⟩
theorem a2_bestAsk_60 : At cX2_bestAsk 60 (.istore_n 2) 1 61 := ⟨by decide +kernel, rfl⟩
theorem a2_bestAsk_61 : At cX2_bestAsk 61 (.iinc 5 1) 3 64 := ⟨by decide +kernel, rfl⟩
theorem a2_bestAsk_64 : At cX2_bestAsk 64 (.goto (-42)) 3 67 := ⟨by decide +kernel, rfl⟩
theorem a2_bestAsk_67 : At cX2_bestAsk 67 (.iinc 4 1) 3 70 := ⟨by decide +kernel, rfl⟩
theorem a2_bestAsk_70 : At cX2_bestAsk 70 (.goto (-62)) 3 73 := ⟨by decide +kernel, rfl⟩
theorem a2_bestAsk_73 : At cX2_bestAsk 73 (.iload_n 2) 1 74 := ⟨by decide +kernel, rfl⟩
theorem a2_bestAsk_74 : At cX2_bestAsk 74 (.ireturn) 1 75 := ⟨by decide +kernel, rfl⟩
def l2_bestAsk_22 (k0 : Nat) (x1 : Int32) (x4 : Int32) : Nat → Int32 → Int32 → Int32 → Mem → Option (Int32 × Int32 × Int32 × Mem)
  | 0, _, _, _, _ => none
  | n + 1, x2, x3, x5, σ =>
  if 2 ≤ x5 then
  (some (x2, x3, x5, σ))
  else
  (bnd (f2_needAll k0 x4 x5 σ) fun w1 =>
  bnd (f2_mostAlike k0 x1 w1) fun w3 =>
  lt (if x3 ≤ w3 then
  ((x2, x3))
  else
  ((((10 * x4) + x5), w3)) : Int32 × Int32) fun w5 =>
  l2_bestAsk_22 k0 x1 x4 n w5.1 w5.2 (x5 + 1) w1)
theorem lE2_bestAsk_22 {V : Option AV} {S : Mem} (k0 : Nat) (x1 : Int32) (x4 : Int32) : ∀ (n : Nat) (x2 : Int32) (x3 : Int32) (x5 : Int32) (σ : Mem) {w : Int32 × Int32 × Int32 × Mem}, l2_bestAsk_22 k0 x1 x4 n x2 x3 x5 σ = some w → (Go m2_bestAsk 67 [some (.inr (.inr (2, k0))), some (.inl x1), some (.inl w.1), some (.inl w.2.1), some (.inl x4), some (.inl w.2.2.1), none] [] w.2.2.2 V S) → Go m2_bestAsk 22 [some (.inr (.inr (2, k0))), some (.inl x1), some (.inl x2), some (.inl x3), some (.inl x4), some (.inl x5), none] [] σ V S
  | 0, x2, x3, x5, σ, w, h, K1 => by cases h
  | n + 1, x2, x3, x5, σ, w, h, K1 => by
    rw [l2_bestAsk_22] at h
    refine g_iload a2_bestAsk_22 rfl ?_
    refine g_iconst (v := 2) a2_bestAsk_24 rfl ?_
    refine g_icmp_ge (tgt := 67) a2_bestAsk_25 rfl (fun c8 => ?_) (fun c8 => ?_)
    · have h := (if_pos c8).symm.trans h
      have h := Option.some.inj h
      subst h
      exact g_weak K1 ⟨rfl, rfl, rfl, rfl, rfl, rfl, trivial⟩
    · have h := (if_neg c8).symm.trans h
      refine g_aload_n a2_bestAsk_28 rfl ?_
      refine g_iload a2_bestAsk_29 rfl ?_
      refine g_iload a2_bestAsk_31 rfl ?_
      obtain ⟨w1, hw1, h⟩ := bnd_inv h
      refine g_V2n (σ1 := w1) a2_bestAsk_33 cv2_38 (E2_needAll hw1) rfl (fun o2 => ?_)
      refine g_aload_n a2_bestAsk_36 rfl ?_
      refine g_iload_n a2_bestAsk_37 rfl ?_
      obtain ⟨w3, hw3, h⟩ := bnd_inv h
      refine g_V1s (v1 := .inl w3) (σ1 := w1) a2_bestAsk_38 cv2_42 (E2_mostAlike hw3) rfl (fun o4 => ?_)
      refine g_istore (L' := [some (.inr (.inr (2, k0))), some (.inl x1), some (.inl x2), some (.inl x3), some (.inl x4), some (.inl x5), some (.inl w3)]) a2_bestAsk_41 (Nat.le_of_ble_eq_true rfl) rfl rfl ?_
      refine g_iload a2_bestAsk_43 rfl ?_
      refine g_iload_n a2_bestAsk_45 rfl ?_
      obtain ⟨w5, hw5, h⟩ := lt_inv h
      have J6 : Go m2_bestAsk 61 [some (.inr (.inr (2, k0))), some (.inl x1), some (.inl w5.1), some (.inl w5.2), some (.inl x4), some (.inl x5), none] [] w1 V S := by
        refine g_iinc (v := (x5 + 1)) (L' := [some (.inr (.inr (2, k0))), some (.inl x1), some (.inl w5.1), some (.inl w5.2), some (.inl x4), some (.inl (x5 + 1)), none]) a2_bestAsk_61 rfl rfl (Nat.le_of_ble_eq_true rfl) rfl rfl ?_
        refine g_goto (tgt := 22) a2_bestAsk_64 rfl ?_
        exact g_weak (lE2_bestAsk_22 (V := V) (S := S)  k0 x1 x4 n _ _ _ _ h K1) ⟨rfl, rfl, rfl, rfl, rfl, rfl, trivial⟩
      clear h
      refine g_icmp_ge (tgt := 61) a2_bestAsk_46 rfl (fun c7 => ?_) (fun c7 => ?_)
      · have hw5 := (if_pos c7).symm.trans hw5
        subst hw5
        exact g_weak J6 ⟨rfl, rfl, rfl, rfl, rfl, rfl, trivial⟩
      · have hw5 := (if_neg c7).symm.trans hw5
        refine g_iload a2_bestAsk_49 rfl ?_
        refine g_istore_n (L' := [some (.inr (.inr (2, k0))), some (.inl x1), some (.inl x2), some (.inl w3), some (.inl x4), some (.inl x5), some (.inl w3)]) a2_bestAsk_51 (Nat.le_of_ble_eq_true rfl) rfl rfl ?_
        refine g_bipush (v := 10) a2_bestAsk_52 rfl ?_
        refine g_iload a2_bestAsk_54 rfl ?_
        refine g_imul a2_bestAsk_56 ?_
        refine g_iload a2_bestAsk_57 rfl ?_
        refine g_iadd a2_bestAsk_59 ?_
        refine g_istore_n (L' := [some (.inr (.inr (2, k0))), some (.inl x1), some (.inl ((10 * x4) + x5)), some (.inl w3), some (.inl x4), some (.inl x5), some (.inl w3)]) a2_bestAsk_60 (Nat.le_of_ble_eq_true rfl) rfl rfl ?_
        subst hw5
        exact g_weak J6 ⟨rfl, rfl, rfl, rfl, rfl, rfl, trivial⟩
def l2_bestAsk_8 (k0 : Nat) (x1 : Int32) : Nat → Int32 → Int32 → Int32 → Mem → Option (Int32 × Int32 × Int32 × Mem)
  | 0, _, _, _, _ => none
  | n + 1, x2, x3, x4, σ =>
  if 6 ≤ x4 then
  (some (x2, x3, x4, σ))
  else
  (if x1 = 0 then
  (some (x2, x3, x4, σ))
  else
  (bnd (l2_bestAsk_22 k0 x1 x4 2000 x2 x3 0 σ) fun w9 =>
  l2_bestAsk_8 k0 x1 n w9.1 w9.2.1 (x4 + 1) w9.2.2.2))
theorem lE2_bestAsk_8 {V : Option AV} {S : Mem} (k0 : Nat) (x1 : Int32) : ∀ (n : Nat) (x2 : Int32) (x3 : Int32) (x4 : Int32) (σ : Mem) {w : Int32 × Int32 × Int32 × Mem}, l2_bestAsk_8 k0 x1 n x2 x3 x4 σ = some w → (Go m2_bestAsk 73 [some (.inr (.inr (2, k0))), some (.inl x1), some (.inl w.1), some (.inl w.2.1), some (.inl w.2.2.1), none, none] [] w.2.2.2 V S) → Go m2_bestAsk 8 [some (.inr (.inr (2, k0))), some (.inl x1), some (.inl x2), some (.inl x3), some (.inl x4), none, none] [] σ V S
  | 0, x2, x3, x4, σ, w, h, K1 => by cases h
  | n + 1, x2, x3, x4, σ, w, h, K1 => by
    rw [l2_bestAsk_8] at h
    refine g_iload a2_bestAsk_8 rfl ?_
    refine g_bipush (v := 6) a2_bestAsk_10 rfl ?_
    refine g_icmp_ge (tgt := 73) a2_bestAsk_12 rfl (fun c11 => ?_) (fun c11 => ?_)
    · have h := (if_pos c11).symm.trans h
      have h := Option.some.inj h
      subst h
      exact g_weak K1 ⟨rfl, rfl, rfl, rfl, rfl, trivial⟩
    · have h := (if_neg c11).symm.trans h
      refine g_iload_n a2_bestAsk_15 rfl ?_
      refine g_if_eq (tgt := 73) a2_bestAsk_16 rfl (fun c10 => ?_) (fun c10 => ?_)
      · have h := (if_pos c10).symm.trans h
        have h := Option.some.inj h
        subst h
        exact g_weak K1 ⟨rfl, rfl, rfl, rfl, rfl, trivial⟩
      · have h := (if_neg c10).symm.trans h
        refine g_iconst (v := 0) a2_bestAsk_19 rfl ?_
        refine g_istore (L' := [some (.inr (.inr (2, k0))), some (.inl x1), some (.inl x2), some (.inl x3), some (.inl x4), some (.inl 0), none]) a2_bestAsk_20 (Nat.le_of_ble_eq_true rfl) rfl rfl ?_
        obtain ⟨w9, hw9, h⟩ := bnd_inv h
        refine g_weak (lE2_bestAsk_22 k0 x1 x4 2000 _ _ _ _ hw9 ?_) ⟨rfl, rfl, rfl, rfl, rfl, rfl, trivial⟩
        refine g_iinc (v := (x4 + 1)) (L' := [some (.inr (.inr (2, k0))), some (.inl x1), some (.inl w9.1), some (.inl w9.2.1), some (.inl (x4 + 1)), some (.inl w9.2.2.1), none]) a2_bestAsk_67 rfl rfl (Nat.le_of_ble_eq_true rfl) rfl rfl ?_
        refine g_goto (tgt := 8) a2_bestAsk_70 rfl ?_
        exact g_weak (lE2_bestAsk_8 (V := V) (S := S)  k0 x1 n _ _ _ _ h K1) ⟨rfl, rfl, rfl, rfl, rfl, trivial⟩
def f2_bestAsk (k0 : Nat) (x1 : Int32) (σ : Mem) : Option (Int32 × Mem) :=
  bnd (l2_bestAsk_8 k0 x1 2000 (-1) 7 0 σ) fun w12 =>
  some (w12.1, w12.2.2.2)
theorem E2_bestAsk {k0 : Nat} {x1 : Int32} {σ : Mem} {w : Int32 × Mem} (h : f2_bestAsk k0 x1 σ = some w) : Ev m2_bestAsk [.inr (.inr (2, k0)), .inl x1] σ (some (.inl w.1) : Option AV) w.2 := by
  unfold f2_bestAsk at h
  show Go m2_bestAsk 0 [some (.inr (.inr (2, k0))), some (.inl x1), none, none, none, none, none] [] σ (some (.inl w.1) : Option AV) w.2
  refine g_iconst (v := (-1)) a2_bestAsk_0 rfl ?_
  refine g_istore_n (L' := [some (.inr (.inr (2, k0))), some (.inl x1), some (.inl (-1)), none, none, none, none]) a2_bestAsk_1 (Nat.le_of_ble_eq_true rfl) rfl rfl ?_
  refine g_bipush (v := 7) a2_bestAsk_2 rfl ?_
  refine g_istore_n (L' := [some (.inr (.inr (2, k0))), some (.inl x1), some (.inl (-1)), some (.inl 7), none, none, none]) a2_bestAsk_4 (Nat.le_of_ble_eq_true rfl) rfl rfl ?_
  refine g_iconst (v := 0) a2_bestAsk_5 rfl ?_
  refine g_istore (L' := [some (.inr (.inr (2, k0))), some (.inl x1), some (.inl (-1)), some (.inl 7), some (.inl 0), none, none]) a2_bestAsk_6 (Nat.le_of_ble_eq_true rfl) rfl rfl ?_
  obtain ⟨w12, hw12, h⟩ := bnd_inv h
  refine g_weak (lE2_bestAsk_8 k0 x1 2000 _ _ _ _ hw12 ?_) ⟨rfl, rfl, rfl, rfl, rfl, trivial⟩
  refine g_iload_n a2_bestAsk_73 rfl ?_
  have h := Option.some.inj h
  subst h
  exact g_retE a2_bestAsk_74 trivial rfl rfl
theorem a10_ask_0 : At cX10_ask 0 (.aload_n 0) 1 1 := ⟨by decide +kernel, rfl⟩
theorem a10_ask_1 : At cX10_ask 1 (.iload_n 1) 1 2 := ⟨by decide +kernel, rfl⟩
theorem a10_ask_2 : At cX10_ask 2 (.invokevirtual 191) 3 5 := ⟨by decide +kernel, rfl⟩
theorem a10_ask_5 : At cX10_ask 5 (.ifCond .ne 8) 3 8 := ⟨by decide +kernel, rfl⟩
theorem a10_ask_8 : At cX10_ask 8 (.aload_n 0) 1 9 := ⟨by decide +kernel, rfl⟩
theorem a10_ask_9 : At cX10_ask 9 (.invokevirtual 100) 3 12 := ⟨by decide +kernel, rfl⟩
theorem a10_ask_12 : At cX10_ask 12 (.ireturn) 1 13 := ⟨by decide +kernel, rfl⟩
theorem a10_ask_13 : At cX10_ask 13 (.aload_n 0) 1 14 := ⟨by decide +kernel, rfl⟩
theorem a10_ask_14 : At cX10_ask 14 (.getfield 65) 3 17 := ⟨by decide +kernel, rfl⟩
theorem a10_ask_17 : At cX10_ask 17 (.aload_n 0) 1 18 := ⟨by decide +kernel, rfl⟩
theorem a10_ask_18 : At cX10_ask 18 (.getfield 65) 3 21 := ⟨by decide +kernel, rfl⟩
theorem a10_ask_21 : At cX10_ask 21 (.aload_n 0) 1 22 := ⟨by decide +kernel, rfl⟩
theorem a10_ask_22 : At cX10_ask 22 (.getfield 10) 3 25 := ⟨by decide +kernel, rfl⟩
theorem a10_ask_25 : At cX10_ask 25 (.getfield 263) 3 28 := ⟨by decide +kernel, rfl⟩
theorem a10_ask_28 : At cX10_ask 28 (.iload_n 1) 1 29 := ⟨by decide +kernel, rfl⟩
theorem a10_ask_29 : At cX10_ask 29 (.invokevirtual 277) 3 32 := ⟨by decide +kernel, rfl⟩
theorem a10_ask_32 : At cX10_ask 32 (.invokevirtual 280) 3 35 := ⟨by decide +kernel, rfl⟩
theorem a10_ask_35 : At cX10_ask 35 (.ireturn) 1 36 := ⟨by decide +kernel, rfl⟩
def f10_ask (k0 : Nat) (x1 : Int32) (σ : Mem) : Option (Int32 × Mem) :=
  if (f10_isPart k0 x1 σ) = 0 then
  (lt (f10_refuseBad k0 σ) fun w2 =>
  some (w2.1, w2.2))
  else
  (bnd (f2_partKinds 0 5 x1 σ) fun w4 =>
  bnd (f2_bestAsk 0 w4.1 w4.2) fun w6 =>
  some (w6.1, w6.2))
theorem E10_ask {k0 : Nat} {x1 : Int32} {σ : Mem} {w : Int32 × Mem} (h : f10_ask k0 x1 σ = some w) : Ev m10_ask [.inr (.inr (10, k0)), .inl x1] σ (some (.inl w.1) : Option AV) w.2 := by
  unfold f10_ask at h
  show Go m10_ask 0 [some (.inr (.inr (10, k0))), some (.inl x1)] [] σ (some (.inl w.1) : Option AV) w.2
  refine g_aload_n a10_ask_0 rfl ?_
  refine g_iload_n a10_ask_1 rfl ?_
  refine g_V1s (v1 := .inl (f10_isPart k0 x1 σ)) (σ1 := σ) a10_ask_2 cv10_191 (E10_isPart _ _ _) rfl (fun o1 => ?_)
  refine g_if_ne (tgt := 13) a10_ask_5 rfl (fun c8 => ?_) (fun c8 => ?_)
  · have h := (if_neg c8).symm.trans h
    refine g_aload_n a10_ask_13 rfl ?_
    refine g_getf (v := .inr (.inr (2, 0))) a10_ask_14 fs10_65 rfl ?_
    refine g_aload_n a10_ask_17 rfl ?_
    refine g_getf (v := .inr (.inr (2, 0))) a10_ask_18 fs10_65 rfl ?_
    refine g_aload_n a10_ask_21 rfl ?_
    refine g_getf (v := .inr (.inr (9, 0))) a10_ask_22 fs10_10 rfl ?_
    refine g_getf (v := .inr (.inr (7, 5))) a10_ask_25 fs10_263 rfl ?_
    refine g_iload_n a10_ask_28 rfl ?_
    obtain ⟨w4, hw4, h⟩ := bnd_inv h
    refine g_V2s (v1 := .inl w4.1) (σ1 := w4.2) a10_ask_29 cv10_277 (E2_partKinds hw4) rfl (fun o5 => ?_)
    obtain ⟨w6, hw6, h⟩ := bnd_inv h
    refine g_V1s (v1 := .inl w6.1) (σ1 := w6.2) a10_ask_32 cv10_280 (E2_bestAsk hw6) rfl (fun o7 => ?_)
    have h := Option.some.inj h
    subst h
    exact g_retE a10_ask_35 trivial rfl rfl
  · have h := (if_pos c8).symm.trans h
    refine g_aload_n a10_ask_8 rfl ?_
    obtain ⟨w2, hw2, h⟩ := lt_inv h
    refine g_V0s (v1 := .inl w2.1) (σ1 := w2.2) a10_ask_9 cv10_100 (by rw [← hw2]; exact E10_refuseBad _ _) rfl (fun o3 => ?_)
    have h := Option.some.inj h
    subst h
    exact g_retE a10_ask_12 trivial rfl rfl
theorem a0_gain_0 : At cX0_gain 0 (.iload_n 1) 1 1 := ⟨by decide +kernel, rfl⟩
theorem a0_gain_1 : At cX0_gain 1 (.aload_n 0) 1 2 := ⟨by decide +kernel, rfl⟩
theorem a0_gain_2 : At cX0_gain 2 (.getfield 20) 3 5 := ⟨by decide +kernel, rfl⟩
theorem a0_gain_5 : At cX0_gain 5 (.isub) 1 6 := ⟨by decide +kernel, rfl⟩
theorem a0_gain_6 : At cX0_gain 6 (.invokestatic 45) 3 9 := ⟨by decide +kernel, rfl⟩
theorem a0_gain_9 : At cX0_gain 9 (.istore_n 3) 1 10 := ⟨by decide +kernel, rfl⟩
theorem a0_gain_10 : At cX0_gain 10 (.iload_n 2) 1 11 := ⟨by decide +kernel, rfl⟩
theorem a0_gain_11 : At cX0_gain 11 (.aload_n 0) 1 12 := ⟨by decide +kernel, rfl⟩
theorem a0_gain_12 : At cX0_gain 12 (.getfield 20) 3 15 := ⟨by decide +kernel, rfl⟩
theorem a0_gain_15 : At cX0_gain 15 (.isub) 1 16 := ⟨by decide +kernel, rfl⟩
theorem a0_gain_16 : At cX0_gain 16 (.invokestatic 45) 3 19 := ⟨by decide +kernel, rfl⟩
theorem a0_gain_19 : At cX0_gain 19 (.istore 4) 2 21 := ⟨by decide +kernel, rfl⟩
theorem a0_gain_21 : At cX0_gain 21 (.iload_n 3) 1 22 := ⟨by decide +kernel, rfl⟩
theorem a0_gain_22 : At cX0_gain 22 (.iload 4) 2 24 := ⟨by decide +kernel, rfl⟩
theorem a0_gain_24 : At cX0_gain 24 (.if_icmp .ne 6) 3 27 := ⟨by decide +kernel, rfl⟩
theorem a0_gain_27 : At cX0_gain 27 (.bipush 6) 2 29 := ⟨by decide +kernel, rfl⟩
theorem a0_gain_29 : At cX0_gain 29 (.ireturn) 1 30 := ⟨by decide +kernel, rfl⟩
theorem a0_gain_30 : At cX0_gain 30 (.iload_n 3) 1 31 := ⟨by decide +kernel, rfl⟩
theorem a0_gain_31 : At cX0_gain 31 (.iload 4) 2 33 := ⟨by decide +kernel, rfl⟩
theorem a0_gain_33 : At cX0_gain 33 (.if_icmp .ge 10) 3 36 := ⟨by decide +kernel, rfl⟩
theorem a0_gain_36 : At cX0_gain 36 (.bipush 12) 2 38 := ⟨by decide +kernel, rfl⟩
theorem a0_gain_38 : At cX0_gain 38 (.iload_n 3) 1 39 := ⟨by decide +kernel, rfl⟩
theorem a0_gain_39 : At cX0_gain 39 (.isub) 1 40 := ⟨by decide +kernel, rfl⟩
theorem a0_gain_40 : At cX0_gain 40 (.goto 4) 3 43 := ⟨by decide +kernel, rfl⟩
theorem a0_gain_43 : At cX0_gain 43 (.iconst 0) 1 44 := ⟨by decide +kernel, rfl⟩
theorem a0_gain_44 : At cX0_gain 44 (.ireturn) 1 45 := ⟨by decide +kernel, rfl⟩
def f0_gain (k0 : Nat) (x1 : Int32) (x2 : Int32) (σ : Mem) : Int32 :=
  if (abI (x1 - (σ.1 0 k0 1))) = (abI (x2 - (σ.1 0 k0 1))) then
  (6)
  else
  (if (abI (x2 - (σ.1 0 k0 1))) ≤ (abI (x1 - (σ.1 0 k0 1))) then
  (0)
  else
  ((12 - (abI (x1 - (σ.1 0 k0 1))))))
theorem E0_gain (k0 : Nat) (x1 : Int32) (x2 : Int32) (σ : Mem) : Ev m0_gain [.inr (.inr (0, k0)), .inl x1, .inl x2] σ (some (.inl (f0_gain k0 x1 x2 σ)) : Option AV) σ := by
  obtain ⟨w, h⟩ : ∃ w, f0_gain k0 x1 x2 σ = w := ⟨_, rfl⟩
  rw [h]
  unfold f0_gain at h
  show Go m0_gain 0 [some (.inr (.inr (0, k0))), some (.inl x1), some (.inl x2), none, none] [] σ (some (.inl w) : Option AV) σ
  refine g_iload_n a0_gain_0 rfl ?_
  refine g_aload_n a0_gain_1 rfl ?_
  refine g_getf (v := .inl (σ.1 0 k0 1)) a0_gain_2 fs0_20 rfl ?_
  refine g_isub a0_gain_5 ?_
  refine g_abs a0_gain_6 cm0_45 rfl ?_
  refine g_istore_n (L' := [some (.inr (.inr (0, k0))), some (.inl x1), some (.inl x2), some (.inl (abI (x1 - (σ.1 0 k0 1)))), none]) a0_gain_9 (Nat.le_of_ble_eq_true rfl) rfl rfl ?_
  refine g_iload_n a0_gain_10 rfl ?_
  refine g_aload_n a0_gain_11 rfl ?_
  refine g_getf (v := .inl (σ.1 0 k0 1)) a0_gain_12 fs0_20 rfl ?_
  refine g_isub a0_gain_15 ?_
  refine g_abs a0_gain_16 cm0_45 rfl ?_
  refine g_istore (L' := [some (.inr (.inr (0, k0))), some (.inl x1), some (.inl x2), some (.inl (abI (x1 - (σ.1 0 k0 1)))), some (.inl (abI (x2 - (σ.1 0 k0 1))))]) a0_gain_19 (Nat.le_of_ble_eq_true rfl) rfl rfl ?_
  refine g_iload_n a0_gain_21 rfl ?_
  refine g_iload a0_gain_22 rfl ?_
  refine g_icmp_ne (tgt := 30) a0_gain_24 rfl (fun c2 => ?_) (fun c2 => ?_)
  · have h := (if_neg c2).symm.trans h
    refine g_iload_n a0_gain_30 rfl ?_
    refine g_iload a0_gain_31 rfl ?_
    refine g_icmp_ge (tgt := 43) a0_gain_33 rfl (fun c1 => ?_) (fun c1 => ?_)
    · have h := (if_pos c1).symm.trans h
      refine g_iconst (v := 0) a0_gain_43 rfl ?_
      subst h
      exact g_retE a0_gain_44 trivial rfl rfl
    · have h := (if_neg c1).symm.trans h
      refine g_bipush (v := 12) a0_gain_36 rfl ?_
      refine g_iload_n a0_gain_38 rfl ?_
      refine g_isub a0_gain_39 ?_
      refine g_goto (tgt := 44) a0_gain_40 rfl ?_
      subst h
      exact g_retE a0_gain_44 trivial rfl rfl
  · have h := (if_pos c2).symm.trans h
    refine g_bipush (v := 6) a0_gain_27 rfl ?_
    subst h
    exact g_retE a0_gain_29 trivial rfl rfl
theorem a0_settle_0 : At cX0_settle 0 (.aload_n 0) 1 1 := ⟨by decide +kernel, rfl⟩
theorem a0_settle_1 : At cX0_settle 1 (.iload_n 1) 1 2 := ⟨by decide +kernel, rfl⟩
theorem a0_settle_2 : At cX0_settle 2 (.putfield 20) 3 5 := ⟨by decide +kernel, rfl⟩
theorem a0_settle_5 : At cX0_settle 5 (.iconst 0) 1 6 := ⟨by decide +kernel, rfl⟩
theorem a0_settle_6 : At cX0_settle 6 (.istore_n 2) 1 7 := ⟨by decide +kernel, rfl⟩
theorem a0_settle_7 : At cX0_settle 7 (.iload_n 2) 1 8 := ⟨by decide +kernel, rfl⟩
theorem a0_settle_8 : At cX0_settle 8 (.bipush 10) 2 10 := ⟨by decide +kernel, rfl⟩
theorem a0_settle_10 : At cX0_settle 10 (.if_icmp .ge 48) 3 13 := ⟨by decide +kernel, rfl⟩
theorem a0_settle_13 : At cX0_settle 13 (.iconst 0) 1 14 := ⟨by decide +kernel, rfl⟩
theorem a0_settle_14 : At cX0_settle 14 (.istore_n 3) 1 15 := ⟨by decide +kernel, rfl⟩
theorem a0_settle_15 : At cX0_settle 15 (.iconst 0) 1 16 := ⟨by decide +kernel, rfl⟩
theorem a0_settle_16 : At cX0_settle 16 (.istore 4) 2 18 := ⟨by decide +kernel, rfl⟩
theorem a0_settle_18 : At cX0_settle 18 (.iload 4) 2 20 := ⟨by decide +kernel, rfl⟩
theorem a0_settle_20 : At cX0_settle 20 (.bipush 10) 2 22 := ⟨by decide +kernel, rfl⟩
theorem a0_settle_22 : At cX0_settle 22 (.if_icmp .ge 21) 3 25 := ⟨by decide +kernel, rfl⟩
theorem a0_settle_25 : At cX0_settle 25 (.iload_n 3) 1 26 := ⟨by decide +kernel, rfl⟩
theorem a0_settle_26 : At cX0_settle 26 (.aload_n 0) 1 27 := ⟨by decide +kernel, rfl⟩
theorem a0_settle_27 : At cX0_settle 27 (.iload 4) 2 29 := ⟨by decide +kernel, rfl⟩
theorem a0_settle_29 : At cX0_settle 29 (.iload_n 2) 1 30 := ⟨by decide +kernel, rfl⟩
theorem a0_settle_30 : At cX0_settle 30 (.invokevirtual 24) 3 33 := ⟨by decide +kernel, rfl⟩
theorem a0_settle_33 : At cX0_settle 33 (.invokestatic 28) 3 36 := ⟨by decide +kernel, rfl⟩
theorem a0_settle_36 : At cX0_settle 36 (.istore_n 3) 1 37 := ⟨by decide +kernel, rfl⟩
theorem a0_settle_37 : At cX0_settle 37 (.iinc 4 1) 3 40 := ⟨by decide +kernel, rfl⟩
theorem a0_settle_40 : At cX0_settle 40 (.goto (-22)) 3 43 := ⟨by decide +kernel, rfl⟩
theorem a0_settle_43 : At cX0_settle 43 (.aload_n 0) 1 44 := ⟨by decide +kernel, rfl⟩
theorem a0_settle_44 : At cX0_settle 44 (.getfield 16) 3 47 := ⟨by decide +kernel, rfl⟩
theorem a0_settle_47 : At cX0_settle 47 (.iload_n 2) 1 48 := ⟨by decide +kernel, rfl⟩
theorem a0_settle_48 : At cX0_settle 48 (.iload_n 3) 1 49 := ⟨by decide +kernel, rfl⟩
theorem a0_settle_49 : At cX0_settle 49 (.invokevirtual 33) 3 52 := ⟨by decide +kernel, rfl⟩
theorem a0_settle_52 : At cX0_settle 52 (.iinc 2 1) 3 55 := ⟨by decide +kernel, rfl⟩
theorem a0_settle_55 : At cX0_settle 55 (.goto (-48)) 3 58 := ⟨by decide +kernel, rfl⟩
theorem a0_settle_58 : At cX0_settle 58 (.return_) 1 59 := ⟨by decide +kernel, rfl⟩
def l0_settle_18 (k0 : Nat) (x2 : Int32) (σ : Mem) : Nat → Int32 → Int32 → Option (Int32 × Int32)
  | 0, _, _ => none
  | n + 1, x3, x4 =>
  if 10 ≤ x4 then
  (some (x3, x4))
  else
  (l0_settle_18 k0 x2 σ n (mxI x3 (f0_gain k0 x4 x2 σ)) (x4 + 1))
theorem lE0_settle_18 {V : Option AV} {S : Mem} (k0 : Nat) (x2 : Int32) (σ : Mem) : ∀ (n : Nat) (x3 : Int32) (x4 : Int32) {w : Int32 × Int32}, l0_settle_18 k0 x2 σ n x3 x4 = some w → (Go m0_settle 43 [some (.inr (.inr (0, k0))), none, some (.inl x2), some (.inl w.1), some (.inl w.2)] [] σ V S) → Go m0_settle 18 [some (.inr (.inr (0, k0))), none, some (.inl x2), some (.inl x3), some (.inl x4)] [] σ V S
  | 0, x3, x4, w, h, K1 => by cases h
  | n + 1, x3, x4, w, h, K1 => by
    rw [l0_settle_18] at h
    refine g_iload a0_settle_18 rfl ?_
    refine g_bipush (v := 10) a0_settle_20 rfl ?_
    refine g_icmp_ge (tgt := 43) a0_settle_22 rfl (fun c3 => ?_) (fun c3 => ?_)
    · have h := (if_pos c3).symm.trans h
      have h := Option.some.inj h
      subst h
      exact g_weak K1 ⟨rfl, rfl, rfl, rfl, trivial⟩
    · have h := (if_neg c3).symm.trans h
      refine g_iload_n a0_settle_25 rfl ?_
      refine g_aload_n a0_settle_26 rfl ?_
      refine g_iload a0_settle_27 rfl ?_
      refine g_iload_n a0_settle_29 rfl ?_
      refine g_V2s (v1 := .inl (f0_gain k0 x4 x2 σ)) (σ1 := σ) a0_settle_30 cv0_24 (E0_gain _ _ _ _) rfl (fun o2 => ?_)
      refine g_max a0_settle_33 cm0_28 rfl ?_
      refine g_istore_n (L' := [some (.inr (.inr (0, k0))), none, some (.inl x2), some (.inl (mxI x3 (f0_gain k0 x4 x2 σ))), some (.inl x4)]) a0_settle_36 (Nat.le_of_ble_eq_true rfl) rfl rfl ?_
      refine g_iinc (v := (x4 + 1)) (L' := [some (.inr (.inr (0, k0))), none, some (.inl x2), some (.inl (mxI x3 (f0_gain k0 x4 x2 σ))), some (.inl (x4 + 1))]) a0_settle_37 rfl rfl (Nat.le_of_ble_eq_true rfl) rfl rfl ?_
      refine g_goto (tgt := 18) a0_settle_40 rfl ?_
      exact g_weak (lE0_settle_18 (V := V) (S := S)  k0 x2 σ n _ _ h K1) ⟨rfl, rfl, rfl, rfl, trivial⟩
def l0_settle_7 (k0 : Nat) : Nat → Int32 → Mem → Option (Int32 × Mem)
  | 0, _, _ => none
  | n + 1, x2, σ =>
  if 10 ≤ x2 then
  (some (x2, σ))
  else
  (bnd (l0_settle_18 k0 x2 σ 2000 0 0) fun w4 =>
  bnd (f6_put 7 x2 w4.1 σ) fun w5 =>
  l0_settle_7 k0 n (x2 + 1) w5)
theorem lE0_settle_7 {V : Option AV} {S : Mem} (k0 : Nat) : ∀ (n : Nat) (x2 : Int32) (σ : Mem) {w : Int32 × Mem}, l0_settle_7 k0 n x2 σ = some w → (Go m0_settle 58 [some (.inr (.inr (0, k0))), none, some (.inl w.1), none, none] [] w.2 V S) → Go m0_settle 7 [some (.inr (.inr (0, k0))), none, some (.inl x2), none, none] [] σ V S
  | 0, x2, σ, w, h, K1 => by cases h
  | n + 1, x2, σ, w, h, K1 => by
    rw [l0_settle_7] at h
    refine g_iload_n a0_settle_7 rfl ?_
    refine g_bipush (v := 10) a0_settle_8 rfl ?_
    refine g_icmp_ge (tgt := 58) a0_settle_10 rfl (fun c7 => ?_) (fun c7 => ?_)
    · have h := (if_pos c7).symm.trans h
      have h := Option.some.inj h
      subst h
      exact g_weak K1 ⟨rfl, rfl, trivial⟩
    · have h := (if_neg c7).symm.trans h
      refine g_iconst (v := 0) a0_settle_13 rfl ?_
      refine g_istore_n (L' := [some (.inr (.inr (0, k0))), none, some (.inl x2), some (.inl 0), none]) a0_settle_14 (Nat.le_of_ble_eq_true rfl) rfl rfl ?_
      refine g_iconst (v := 0) a0_settle_15 rfl ?_
      refine g_istore (L' := [some (.inr (.inr (0, k0))), none, some (.inl x2), some (.inl 0), some (.inl 0)]) a0_settle_16 (Nat.le_of_ble_eq_true rfl) rfl rfl ?_
      obtain ⟨w4, hw4, h⟩ := bnd_inv h
      refine g_weak (lE0_settle_18 k0 x2 σ 2000 _ _ hw4 ?_) ⟨rfl, rfl, rfl, rfl, trivial⟩
      refine g_aload_n a0_settle_43 rfl ?_
      refine g_getf (v := .inr (.inr (6, 7))) a0_settle_44 fs0_16 rfl ?_
      refine g_iload_n a0_settle_47 rfl ?_
      refine g_iload_n a0_settle_48 rfl ?_
      obtain ⟨w5, hw5, h⟩ := bnd_inv h
      refine g_V2n (σ1 := w5) a0_settle_49 cv0_33 (E6_put hw5) rfl (fun o6 => ?_)
      refine g_iinc (v := (x2 + 1)) (L' := [some (.inr (.inr (0, k0))), none, some (.inl (x2 + 1)), some (.inl w4.1), some (.inl w4.2)]) a0_settle_52 rfl rfl (Nat.le_of_ble_eq_true rfl) rfl rfl ?_
      refine g_goto (tgt := 7) a0_settle_55 rfl ?_
      exact g_weak (lE0_settle_7 (V := V) (S := S)  k0 n _ _ h K1) ⟨rfl, rfl, trivial⟩
def f0_settle (k0 : Nat) (x1 : Int32) (σ : Mem) : Option (Mem) :=
  lt (sI σ 0 k0 1 x1) fun σ1 =>
  bnd (l0_settle_7 k0 2000 0 σ1) fun w8 =>
  some w8.2
theorem E0_settle {k0 : Nat} {x1 : Int32} {σ : Mem} {w : Mem} (h : f0_settle k0 x1 σ = some w) : Ev m0_settle [.inr (.inr (0, k0)), .inl x1] σ none w := by
  unfold f0_settle at h
  show Go m0_settle 0 [some (.inr (.inr (0, k0))), some (.inl x1), none, none, none] [] σ none w
  refine g_aload_n a0_settle_0 rfl ?_
  refine g_iload_n a0_settle_1 rfl ?_
  obtain ⟨σ1, eσ1, h⟩ := lt_inv h
  refine g_puti a0_settle_2 fs0_20 ps0_1 (fun _ _ _ => rfl) ?_
  rw [eσ1]
  refine g_iconst (v := 0) a0_settle_5 rfl ?_
  refine g_istore_n (L' := [some (.inr (.inr (0, k0))), some (.inl x1), some (.inl 0), none, none]) a0_settle_6 (Nat.le_of_ble_eq_true rfl) rfl rfl ?_
  obtain ⟨w8, hw8, h⟩ := bnd_inv h
  refine g_weak (lE0_settle_7 k0 2000 _ _ hw8 ?_) ⟨rfl, rfl, trivial⟩
  have h := Option.some.inj h
  subst h
  exact g_retE a0_settle_58 trivial rfl rfl
theorem a0_rests_0 : At cX0_rests 0 (.iload_n 1) 1 1 := ⟨by decide +kernel, rfl⟩
theorem a0_rests_1 : At cX0_rests 1 (.bipush 10) 2 3 := ⟨by decide +kernel, rfl⟩
theorem a0_rests_3 : At cX0_rests 3 (.idiv) 1 4 := ⟨by decide +kernel, rfl⟩
theorem a0_rests_4 : At cX0_rests 4 (.istore_n 2) 1 5 := ⟨by decide +kernel, rfl⟩
theorem a0_rests_5 : At cX0_rests 5 (.iload_n 1) 1 6 := ⟨by decide +kernel, rfl⟩
theorem a0_rests_6 : At cX0_rests 6 (.bipush 10) 2 8 := ⟨by decide +kernel, rfl⟩
theorem a0_rests_8 : At cX0_rests 8 (.irem) 1 9 := ⟨by decide +kernel, rfl⟩
theorem a0_rests_9 : At cX0_rests 9 (.istore_n 3) 1 10 := ⟨by decide +kernel, rfl⟩
theorem a0_rests_10 : At cX0_rests 10 (.aload_n 0) 1 11 := ⟨by decide +kernel, rfl⟩
theorem a0_rests_11 : At cX0_rests 11 (.iload_n 2) 1 12 := ⟨by decide +kernel, rfl⟩
theorem a0_rests_12 : At cX0_rests 12 (.iload_n 3) 1 13 := ⟨by decide +kernel, rfl⟩
theorem a0_rests_13 : At cX0_rests 13 (.invokevirtual 24) 3 16 := ⟨by decide +kernel, rfl⟩
theorem a0_rests_16 : At cX0_rests 16 (.aload_n 0) 1 17 := ⟨by decide +kernel, rfl⟩
theorem a0_rests_17 : At cX0_rests 17 (.getfield 16) 3 20 := ⟨by decide +kernel, rfl⟩
theorem a0_rests_20 : At cX0_rests 20 (.iload_n 3) 1 21 := ⟨by decide +kernel, rfl⟩
theorem a0_rests_21 : At cX0_rests 21 (.invokevirtual 41) 3 24 := ⟨by decide +kernel, rfl⟩
theorem a0_rests_24 : At cX0_rests 24 (.if_icmp .ne 24) 3 27 := ⟨by decide +kernel, rfl⟩
theorem a0_rests_27 : At cX0_rests 27 (.aload_n 0) 1 28 := ⟨by decide +kernel, rfl⟩
theorem a0_rests_28 : At cX0_rests 28 (.iload_n 3) 1 29 := ⟨by decide +kernel, rfl⟩
theorem a0_rests_29 : At cX0_rests 29 (.iload_n 2) 1 30 := ⟨by decide +kernel, rfl⟩
theorem a0_rests_30 : At cX0_rests 30 (.invokevirtual 24) 3 33 := ⟨by decide +kernel, rfl⟩
theorem a0_rests_33 : At cX0_rests 33 (.aload_n 0) 1 34 := ⟨by decide +kernel, rfl⟩
theorem a0_rests_34 : At cX0_rests 34 (.getfield 16) 3 37 := ⟨by decide +kernel, rfl⟩
theorem a0_rests_37 : At cX0_rests 37 (.iload_n 2) 1 38 := ⟨by decide +kernel, rfl⟩
theorem a0_rests_38 : At cX0_rests 38 (.invokevirtual 41) 3 41 := ⟨by decide +kernel, rfl⟩
theorem a0_rests_41 : At cX0_rests 41 (.if_icmp .ne 7) 3 44 := ⟨by decide +kernel, rfl⟩
theorem a0_rests_44 : At cX0_rests 44 (.iconst 1) 1 45 := ⟨by decide +kernel, rfl⟩
theorem a0_rests_45 : At cX0_rests 45 (.goto 4) 3 48 := ⟨by decide +kernel, rfl⟩
theorem a0_rests_48 : At cX0_rests 48 (.iconst 0) 1 49 := ⟨by decide +kernel, rfl⟩
theorem a0_rests_49 : At cX0_rests 49 (.ireturn) 1 50 := ⟨by decide +kernel, rfl⟩
def f0_rests (k0 : Nat) (x1 : Int32) (σ : Mem) : Option (Int32) :=
  bnd (f6_at 7 (x1 - x1 / 10 * 10) σ) fun w2 =>
  if (f0_gain k0 (x1 / 10) (x1 - x1 / 10 * 10) σ) = w2 then
  (bnd (f6_at 7 (x1 / 10) σ) fun w5 =>
  if (f0_gain k0 (x1 - x1 / 10 * 10) (x1 / 10) σ) = w5 then
  (some 1)
  else
  (some 0))
  else
  (some 0)
theorem E0_rests {k0 : Nat} {x1 : Int32} {σ : Mem} {w : Int32} (h : f0_rests k0 x1 σ = some w) : Ev m0_rests [.inr (.inr (0, k0)), .inl x1] σ (some (.inl w) : Option AV) σ := by
  unfold f0_rests at h
  show Go m0_rests 0 [some (.inr (.inr (0, k0))), some (.inl x1), none, none] [] σ (some (.inl w) : Option AV) σ
  refine g_iload_n a0_rests_0 rfl ?_
  refine g_bipush (v := 10) a0_rests_1 rfl ?_
  refine g_idiv a0_rests_3 (by decide) ?_
  refine g_istore_n (L' := [some (.inr (.inr (0, k0))), some (.inl x1), some (.inl (x1 / 10)), none]) a0_rests_4 (Nat.le_of_ble_eq_true rfl) rfl rfl ?_
  refine g_iload_n a0_rests_5 rfl ?_
  refine g_bipush (v := 10) a0_rests_6 rfl ?_
  refine g_irem a0_rests_8 (by decide) ?_
  refine g_istore_n (L' := [some (.inr (.inr (0, k0))), some (.inl x1), some (.inl (x1 / 10)), some (.inl (x1 - x1 / 10 * 10))]) a0_rests_9 (Nat.le_of_ble_eq_true rfl) rfl rfl ?_
  refine g_aload_n a0_rests_10 rfl ?_
  refine g_iload_n a0_rests_11 rfl ?_
  refine g_iload_n a0_rests_12 rfl ?_
  refine g_V2s (v1 := .inl (f0_gain k0 (x1 / 10) (x1 - x1 / 10 * 10) σ)) (σ1 := σ) a0_rests_13 cv0_24 (E0_gain _ _ _ _) rfl (fun o1 => ?_)
  refine g_aload_n a0_rests_16 rfl ?_
  refine g_getf (v := .inr (.inr (6, 7))) a0_rests_17 fs0_16 rfl ?_
  refine g_iload_n a0_rests_20 rfl ?_
  obtain ⟨w2, hw2, h⟩ := bnd_inv h
  refine g_V1s (v1 := .inl w2) (σ1 := σ) a0_rests_21 cv0_41 (E6_at hw2) rfl (fun o3 => ?_)
  refine g_icmp_ne (tgt := 48) a0_rests_24 rfl (fun c8 => ?_) (fun c8 => ?_)
  · have h := (if_neg c8).symm.trans h
    refine g_iconst (v := 0) a0_rests_48 rfl ?_
    have h := Option.some.inj h
    subst h
    exact g_retE a0_rests_49 (Or.inl rfl) rfl rfl
  · have h := (if_pos c8).symm.trans h
    refine g_aload_n a0_rests_27 rfl ?_
    refine g_iload_n a0_rests_28 rfl ?_
    refine g_iload_n a0_rests_29 rfl ?_
    refine g_V2s (v1 := .inl (f0_gain k0 (x1 - x1 / 10 * 10) (x1 / 10) σ)) (σ1 := σ) a0_rests_30 cv0_24 (E0_gain _ _ _ _) rfl (fun o4 => ?_)
    refine g_aload_n a0_rests_33 rfl ?_
    refine g_getf (v := .inr (.inr (6, 7))) a0_rests_34 fs0_16 rfl ?_
    refine g_iload_n a0_rests_37 rfl ?_
    obtain ⟨w5, hw5, h⟩ := bnd_inv h
    refine g_V1s (v1 := .inl w5) (σ1 := σ) a0_rests_38 cv0_41 (E6_at hw5) rfl (fun o6 => ?_)
    refine g_icmp_ne (tgt := 48) a0_rests_41 rfl (fun c7 => ?_) (fun c7 => ?_)
    · have h := (if_neg c7).symm.trans h
      refine g_iconst (v := 0) a0_rests_48 rfl ?_
      have h := Option.some.inj h
      subst h
      exact g_retE a0_rests_49 (Or.inl rfl) rfl rfl
    · have h := (if_pos c7).symm.trans h
      refine g_iconst (v := 1) a0_rests_44 rfl ?_
      refine g_goto (tgt := 49) a0_rests_45 rfl ?_
      have h := Option.some.inj h
      subst h
      exact g_retE a0_rests_49 (Or.inr rfl) rfl rfl
theorem a0_resting_0 : At cX0_resting 0 (.iconst 0) 1 1 := ⟨by decide +kernel, rfl⟩
theorem a0_resting_1 : At cX0_resting 1 (.istore_n 1) 1 2 := ⟨by decide +kernel, rfl⟩
theorem a0_resting_2 : At cX0_resting 2 (.iconst 0) 1 3 := ⟨by decide +kernel, rfl⟩
theorem a0_resting_3 : At cX0_resting 3 (.istore_n 2) 1 4 := ⟨by decide +kernel, rfl⟩
theorem a0_resting_4 : At cX0_resting 4 (.iload_n 2) 1 5 := ⟨by decide +kernel, rfl⟩
theorem a0_resting_5 : At cX0_resting 5 (.bipush 100) 2 7 := ⟨by decide +kernel, rfl⟩
theorem a0_resting_7 : At cX0_resting 7 (.if_icmp .ge 20) 3 10 := ⟨by decide +kernel, rfl⟩
theorem a0_resting_10 : At cX0_resting 10 (.aload_n 0) 1 11 := ⟨by decide +kernel, rfl⟩
theorem a0_resting_11 : At cX0_resting 11 (.iload_n 2) 1 12 := ⟨by decide +kernel, rfl⟩
theorem a0_resting_12 : At cX0_resting 12 (.invokevirtual 37) 3 15 := ⟨by decide +kernel, rfl⟩
theorem a0_resting_15 : At cX0_resting 15 (.ifCond .eq 6) 3 18 := ⟨by decide +kernel, rfl⟩
theorem a0_resting_18 : At cX0_resting 18 (.iinc 1 1) 3 21 := ⟨by decide +kernel, rfl⟩
theorem a0_resting_21 : At cX0_resting 21 (.iinc 2 1) 3 24 := ⟨by decide +kernel, rfl⟩
theorem a0_resting_24 : At cX0_resting 24 (.goto (-20)) 3 27 := ⟨by decide +kernel, rfl⟩
theorem a0_resting_27 : At cX0_resting 27 (.iload_n 1) 1 28 := ⟨by decide +kernel, rfl⟩
theorem a0_resting_28 : At cX0_resting 28 (.ireturn) 1 29 := ⟨by decide +kernel, rfl⟩
def l0_resting_4 (k0 : Nat) (σ : Mem) : Nat → Int32 → Int32 → Option (Int32 × Int32)
  | 0, _, _ => none
  | n + 1, x1, x2 =>
  if 100 ≤ x2 then
  (some (x1, x2))
  else
  (bnd (f0_rests k0 x2 σ) fun w1 =>
  lt (if w1 = 0 then
  (x1)
  else
  ((x1 + 1)) : Int32) fun w3 =>
  l0_resting_4 k0 σ n w3 (x2 + 1))
theorem lE0_resting_4 {V : Option AV} {S : Mem} (k0 : Nat) (σ : Mem) : ∀ (n : Nat) (x1 : Int32) (x2 : Int32) {w : Int32 × Int32}, l0_resting_4 k0 σ n x1 x2 = some w → (Go m0_resting 27 [some (.inr (.inr (0, k0))), some (.inl w.1), some (.inl w.2)] [] σ V S) → Go m0_resting 4 [some (.inr (.inr (0, k0))), some (.inl x1), some (.inl x2)] [] σ V S
  | 0, x1, x2, w, h, K1 => by cases h
  | n + 1, x1, x2, w, h, K1 => by
    rw [l0_resting_4] at h
    refine g_iload_n a0_resting_4 rfl ?_
    refine g_bipush (v := 100) a0_resting_5 rfl ?_
    refine g_icmp_ge (tgt := 27) a0_resting_7 rfl (fun c6 => ?_) (fun c6 => ?_)
    · have h := (if_pos c6).symm.trans h
      have h := Option.some.inj h
      subst h
      exact g_weak K1 ⟨rfl, rfl, rfl, trivial⟩
    · have h := (if_neg c6).symm.trans h
      refine g_aload_n a0_resting_10 rfl ?_
      refine g_iload_n a0_resting_11 rfl ?_
      obtain ⟨w1, hw1, h⟩ := bnd_inv h
      refine g_V1s (v1 := .inl w1) (σ1 := σ) a0_resting_12 cv0_37 (E0_rests hw1) rfl (fun o2 => ?_)
      obtain ⟨w3, hw3, h⟩ := lt_inv h
      have J4 : Go m0_resting 21 [some (.inr (.inr (0, k0))), some (.inl w3), some (.inl x2)] [] σ V S := by
        refine g_iinc (v := (x2 + 1)) (L' := [some (.inr (.inr (0, k0))), some (.inl w3), some (.inl (x2 + 1))]) a0_resting_21 rfl rfl (Nat.le_of_ble_eq_true rfl) rfl rfl ?_
        refine g_goto (tgt := 4) a0_resting_24 rfl ?_
        exact g_weak (lE0_resting_4 (V := V) (S := S)  k0 σ n _ _ h K1) ⟨rfl, rfl, rfl, trivial⟩
      clear h
      refine g_if_eq (tgt := 21) a0_resting_15 rfl (fun c5 => ?_) (fun c5 => ?_)
      · have hw3 := (if_pos c5).symm.trans hw3
        subst hw3
        exact g_weak J4 ⟨rfl, rfl, rfl, trivial⟩
      · have hw3 := (if_neg c5).symm.trans hw3
        refine g_iinc (v := (x1 + 1)) (L' := [some (.inr (.inr (0, k0))), some (.inl (x1 + 1)), some (.inl x2)]) a0_resting_18 rfl rfl (Nat.le_of_ble_eq_true rfl) rfl rfl ?_
        subst hw3
        exact g_weak J4 ⟨rfl, rfl, rfl, trivial⟩
def f0_resting (k0 : Nat) (σ : Mem) : Option (Int32) :=
  bnd (l0_resting_4 k0 σ 2000 0 0) fun w7 =>
  some w7.1
theorem E0_resting {k0 : Nat} {σ : Mem} {w : Int32} (h : f0_resting k0 σ = some w) : Ev m0_resting [.inr (.inr (0, k0))] σ (some (.inl w) : Option AV) σ := by
  unfold f0_resting at h
  show Go m0_resting 0 [some (.inr (.inr (0, k0))), none, none] [] σ (some (.inl w) : Option AV) σ
  refine g_iconst (v := 0) a0_resting_0 rfl ?_
  refine g_istore_n (L' := [some (.inr (.inr (0, k0))), some (.inl 0), none]) a0_resting_1 (Nat.le_of_ble_eq_true rfl) rfl rfl ?_
  refine g_iconst (v := 0) a0_resting_2 rfl ?_
  refine g_istore_n (L' := [some (.inr (.inr (0, k0))), some (.inl 0), some (.inl 0)]) a0_resting_3 (Nat.le_of_ble_eq_true rfl) rfl rfl ?_
  obtain ⟨w7, hw7, h⟩ := bnd_inv h
  refine g_weak (lE0_resting_4 k0 σ 2000 _ _ hw7 ?_) ⟨rfl, rfl, rfl, trivial⟩
  refine g_iload_n a0_resting_27 rfl ?_
  have h := Option.some.inj h
  subst h
  exact g_retE a0_resting_28 trivial rfl rfl
theorem a0_restingAt_0 : At cX0_restingAt 0 (.iconst 0) 1 1 := ⟨by decide +kernel, rfl⟩
theorem a0_restingAt_1 : At cX0_restingAt 1 (.istore_n 2) 1 2 := ⟨by decide +kernel, rfl⟩
theorem a0_restingAt_2 : At cX0_restingAt 2 (.iconst 0) 1 3 := ⟨by decide +kernel, rfl⟩
theorem a0_restingAt_3 : At cX0_restingAt 3 (.istore_n 3) 1 4 := ⟨by decide +kernel, rfl⟩
theorem a0_restingAt_4 : At cX0_restingAt 4 (.iload_n 3) 1 5 := ⟨by decide +kernel, rfl⟩
theorem a0_restingAt_5 : At cX0_restingAt 5 (.bipush 100) 2 7 := ⟨by decide +kernel, rfl⟩
theorem a0_restingAt_7 : At cX0_restingAt 7 (.if_icmp .ge 27) 3 10 := ⟨by decide +kernel, rfl⟩
theorem a0_restingAt_10 : At cX0_restingAt 10 (.aload_n 0) 1 11 := ⟨by decide +kernel, rfl⟩
theorem a0_restingAt_11 : At cX0_restingAt 11 (.iload_n 3) 1 12 := ⟨by decide +kernel, rfl⟩
theorem a0_restingAt_12 : At cX0_restingAt 12 (.invokevirtual 37) 3 15 := ⟨by decide +kernel, rfl⟩
theorem a0_restingAt_15 : At cX0_restingAt 15 (.ifCond .eq 13) 3 18 := ⟨by decide +kernel, rfl⟩
theorem a0_restingAt_18 : At cX0_restingAt 18 (.iload_n 2) 1 19 := ⟨by decide +kernel, rfl⟩
theorem a0_restingAt_19 : At cX0_restingAt 19 (.iload_n 1) 1 20 := ⟨by decide +kernel, rfl⟩
theorem a0_restingAt_20 : At cX0_restingAt 20 (.if_icmp .ne 5) 3 23 := ⟨by decide +kernel, rfl⟩
theorem a0_restingAt_23 : At cX0_restingAt 23 (.iload_n 3) 1 24 := ⟨by decide +kernel, rfl⟩
theorem a0_restingAt_24 : At cX0_restingAt 24 (.ireturn) 1 25 := ⟨by decide +kernel, rfl⟩
theorem a0_restingAt_25 : At cX0_restingAt 25 (.iinc 2 1) 3 28 := ⟨by decide +kernel, rfl⟩
theorem a0_restingAt_28 : At cX0_restingAt 28 (.iinc 3 1) 3 31 := ⟨by decide +kernel, rfl⟩
theorem a0_restingAt_31 : At cX0_restingAt 31 (.goto (-27)) 3 34 := ⟨by decide +kernel, rfl⟩
theorem a0_restingAt_34 : At cX0_restingAt 34 (.bipush (-5)) 2 36 := ⟨by decide +kernel, rfl⟩
theorem a0_restingAt_36 : At cX0_restingAt 36 (.ireturn) 1 37 := ⟨by decide +kernel, rfl⟩
def l0_restingAt_4 (k0 : Nat) (x1 : Int32) (σ : Mem) : Nat → Int32 → Int32 → Option ((Int32 × Int32) ⊕ (Int32))
  | 0, _, _ => none
  | n + 1, x2, x3 =>
  if 100 ≤ x3 then
  (some (.inl (x2, x3)))
  else
  (bnd (f0_rests k0 x3 σ) fun w1 =>
  if w1 = 0 then
  (l0_restingAt_4 k0 x1 σ n x2 (x3 + 1))
  else
  (if x2 = x1 then
  (some (.inr x3))
  else
  (l0_restingAt_4 k0 x1 σ n (x2 + 1) (x3 + 1))))
theorem lE0_restingAt_4 {V : Option AV} {S : Mem} (k0 : Nat) (x1 : Int32) (σ : Mem) : ∀ (n : Nat) (x2 : Int32) (x3 : Int32) {w : (Int32 × Int32) ⊕ (Int32)}, l0_restingAt_4 k0 x1 σ n x2 x3 = some w → (∀ u, w = .inl u → Go m0_restingAt 34 [some (.inr (.inr (0, k0))), some (.inl x1), some (.inl u.1), some (.inl u.2)] [] σ V S) → (∀ u, w = .inr u → (some (.inl u) : Option AV) = V ∧ σ = S) → Go m0_restingAt 4 [some (.inr (.inr (0, k0))), some (.inl x1), some (.inl x2), some (.inl x3)] [] σ V S
  | 0, x2, x3, w, h, K1, K2 => by cases h
  | n + 1, x2, x3, w, h, K1, K2 => by
    rw [l0_restingAt_4] at h
    refine g_iload_n a0_restingAt_4 rfl ?_
    refine g_bipush (v := 100) a0_restingAt_5 rfl ?_
    refine g_icmp_ge (tgt := 34) a0_restingAt_7 rfl (fun c5 => ?_) (fun c5 => ?_)
    · have h := (if_pos c5).symm.trans h
      have h := Option.some.inj h
      subst h
      exact g_weak (K1 _ rfl) ⟨rfl, rfl, rfl, rfl, trivial⟩
    · have h := (if_neg c5).symm.trans h
      refine g_aload_n a0_restingAt_10 rfl ?_
      refine g_iload_n a0_restingAt_11 rfl ?_
      obtain ⟨w1, hw1, h⟩ := bnd_inv h
      refine g_V1s (v1 := .inl w1) (σ1 := σ) a0_restingAt_12 cv0_37 (E0_rests hw1) rfl (fun o2 => ?_)
      refine g_if_eq (tgt := 28) a0_restingAt_15 rfl (fun c4 => ?_) (fun c4 => ?_)
      · have h := (if_pos c4).symm.trans h
        refine g_iinc (v := (x3 + 1)) (L' := [some (.inr (.inr (0, k0))), some (.inl x1), some (.inl x2), some (.inl (x3 + 1))]) a0_restingAt_28 rfl rfl (Nat.le_of_ble_eq_true rfl) rfl rfl ?_
        refine g_goto (tgt := 4) a0_restingAt_31 rfl ?_
        exact g_weak (lE0_restingAt_4 (V := V) (S := S)  k0 x1 σ n _ _ h K1 K2) ⟨rfl, rfl, rfl, rfl, trivial⟩
      · have h := (if_neg c4).symm.trans h
        refine g_iload_n a0_restingAt_18 rfl ?_
        refine g_iload_n a0_restingAt_19 rfl ?_
        refine g_icmp_ne (tgt := 25) a0_restingAt_20 rfl (fun c3 => ?_) (fun c3 => ?_)
        · have h := (if_neg c3).symm.trans h
          refine g_iinc (v := (x2 + 1)) (L' := [some (.inr (.inr (0, k0))), some (.inl x1), some (.inl (x2 + 1)), some (.inl x3)]) a0_restingAt_25 rfl rfl (Nat.le_of_ble_eq_true rfl) rfl rfl ?_
          refine g_iinc (v := (x3 + 1)) (L' := [some (.inr (.inr (0, k0))), some (.inl x1), some (.inl (x2 + 1)), some (.inl (x3 + 1))]) a0_restingAt_28 rfl rfl (Nat.le_of_ble_eq_true rfl) rfl rfl ?_
          refine g_goto (tgt := 4) a0_restingAt_31 rfl ?_
          exact g_weak (lE0_restingAt_4 (V := V) (S := S)  k0 x1 σ n _ _ h K1 K2) ⟨rfl, rfl, rfl, rfl, trivial⟩
        · have h := (if_pos c3).symm.trans h
          refine g_iload_n a0_restingAt_23 rfl ?_
          have h := Option.some.inj h
          subst h
          obtain ⟨hV, hS⟩ := K2 _ rfl
          subst hV; subst hS
          exact g_retE a0_restingAt_24 trivial rfl rfl
def f0_restingAt (k0 : Nat) (x1 : Int32) (σ : Mem) : Option (Int32) :=
  bnd (l0_restingAt_4 k0 x1 σ 2000 0 0) fun w6 =>
  sm w6 (fun u7 =>
  some (-5)) (fun u7 => some u7)
theorem E0_restingAt {k0 : Nat} {x1 : Int32} {σ : Mem} {w : Int32} (h : f0_restingAt k0 x1 σ = some w) : Ev m0_restingAt [.inr (.inr (0, k0)), .inl x1] σ (some (.inl w) : Option AV) σ := by
  unfold f0_restingAt at h
  show Go m0_restingAt 0 [some (.inr (.inr (0, k0))), some (.inl x1), none, none] [] σ (some (.inl w) : Option AV) σ
  refine g_iconst (v := 0) a0_restingAt_0 rfl ?_
  refine g_istore_n (L' := [some (.inr (.inr (0, k0))), some (.inl x1), some (.inl 0), none]) a0_restingAt_1 (Nat.le_of_ble_eq_true rfl) rfl rfl ?_
  refine g_iconst (v := 0) a0_restingAt_2 rfl ?_
  refine g_istore_n (L' := [some (.inr (.inr (0, k0))), some (.inl x1), some (.inl 0), some (.inl 0)]) a0_restingAt_3 (Nat.le_of_ble_eq_true rfl) rfl rfl ?_
  obtain ⟨w6, hw6, h⟩ := bnd_inv h
  rcases w6 with u7 | u7
  · have h := sm_l h
    refine g_weak (lE0_restingAt_4 k0 x1 σ 2000 _ _ hw6 (fun _ e => ?_) (fun _ e => by cases e)) ⟨rfl, rfl, rfl, rfl, trivial⟩
    cases e
    refine g_bipush (v := (-5)) a0_restingAt_34 rfl ?_
    have h := Option.some.inj h
    subst h
    exact g_retE a0_restingAt_36 trivial rfl rfl
  · have h := sm_r h
    have h := Option.some.inj h
    subst h
    exact g_weak (lE0_restingAt_4 k0 x1 σ 2000 _ _ hw6 (fun _ e => by cases e) (fun _ e => by cases e; exact ⟨rfl, rfl⟩)) ⟨rfl, rfl, rfl, rfl, trivial⟩
theorem a10_sweep_0 : At cX10_sweep 0 (.aload_n 0) 1 1 := ⟨by decide +kernel, rfl⟩
theorem a10_sweep_1 : At cX10_sweep 1 (.iload_n 1) 1 2 := ⟨by decide +kernel, rfl⟩
theorem a10_sweep_2 : At cX10_sweep 2 (.invokevirtual 191) 3 5 := ⟨by decide +kernel, rfl⟩
theorem a10_sweep_5 : At cX10_sweep 5 (.ifCond .eq 8) 3 8 := ⟨by decide +kernel, rfl⟩
theorem a10_sweep_8 : At cX10_sweep 8 (.iload_n 2) 1 9 := ⟨by decide +kernel, rfl⟩
theorem a10_sweep_9 : At cX10_sweep 9 (.iconst (-1)) 1 10 := ⟨by decide +kernel, rfl⟩
theorem a10_sweep_10 : At cX10_sweep 10 (.if_icmp .ge 8) 3 13 := ⟨by decide +kernel, rfl⟩
theorem a10_sweep_13 : At cX10_sweep 13 (.aload_n 0) 1 14 := ⟨by decide +kernel, rfl⟩
theorem a10_sweep_14 : At cX10_sweep 14 (.invokevirtual 237) 3 17 := ⟨by decide +kernel, rfl⟩
theorem a10_sweep_17 : At cX10_sweep 17 (.ireturn) 1 18 := ⟨by decide +kernel, rfl⟩
theorem a10_sweep_18 : At cX10_sweep 18 (.aload_n 0) 1 19 := ⟨by decide +kernel, rfl⟩
theorem a10_sweep_19 : At cX10_sweep 19 (.iload_n 1) 1 20 := ⟨by decide +kernel, rfl⟩
theorem a10_sweep_20 : At cX10_sweep 20 (.invokevirtual 213) 3 23 := ⟨by decide +kernel, rfl⟩
theorem a10_sweep_23 : At cX10_sweep 23 (.istore_n 3) 1 24 := ⟨by decide +kernel, rfl⟩
theorem a10_sweep_24 : At cX10_sweep 24 (.aload_n 0) 1 25 := ⟨by decide +kernel, rfl⟩
theorem a10_sweep_25 : At cX10_sweep 25 (.getfield 72) 3 28 := ⟨by decide +kernel, rfl⟩
theorem a10_sweep_28 : At cX10_sweep 28 (.iload_n 3) 1 29 := ⟨by decide +kernel, rfl⟩
theorem a10_sweep_29 : At cX10_sweep 29 (.iconst (-1)) 1 30 := ⟨by decide +kernel, rfl⟩
theorem a10_sweep_30 : At cX10_sweep 30 (.if_icmp .ne 8) 3 33 := ⟨by decide +kernel, rfl⟩
theorem a10_sweep_33 : At cX10_sweep 33 (.bipush 10) 2 35 := ⟨by decide +kernel, rfl⟩
theorem a10_sweep_35 : At cX10_sweep 35 (.goto 9) 3 38 := ⟨by decide +kernel, rfl⟩
theorem a10_sweep_38 : At cX10_sweep 38 (.iload_n 3) 1 39 := ⟨by decide +kernel, rfl⟩
theorem a10_sweep_39 : At cX10_sweep 39 (.bipush 10) 2 41 := ⟨by decide +kernel, rfl⟩
theorem a10_sweep_41 : At cX10_sweep 41 (.invokestatic 283) 3 44 := ⟨by decide +kernel, rfl⟩
theorem a10_sweep_44 : At cX10_sweep 44 (.invokevirtual 288) 3 47 := ⟨by decide +kernel, rfl⟩
theorem a10_sweep_47 : At cX10_sweep 47 (.iload_n 2) 1 48 := ⟨by decide +kernel, rfl⟩
theorem a10_sweep_48 : At cX10_sweep 48 (.iconst (-1)) 1 49 := ⟨by decide +kernel, rfl⟩
theorem a10_sweep_49 : At cX10_sweep 49 (.if_icmp .ne 13) 3 52 := ⟨by decide +kernel, rfl⟩
theorem a10_sweep_52 : At cX10_sweep 52 (.aload_n 0) 1 53 := ⟨by decide +kernel, rfl⟩
theorem a10_sweep_53 : At cX10_sweep 53 (.getfield 72) 3 56 := ⟨by decide +kernel, rfl⟩
theorem a10_sweep_56 : At cX10_sweep 56 (.invokevirtual 291) 3 59 := ⟨by decide +kernel, rfl⟩
theorem a10_sweep_59 : At cX10_sweep 59 (.goto 11) 3 62 := ⟨by decide +kernel, rfl⟩
theorem a10_sweep_62 : At cX10_sweep 62 (.aload_n 0) 1 63 := ⟨by decide +kernel, rfl⟩
theorem a10_sweep_63 : At cX10_sweep 63 (.getfield 72) 3 66 := ⟨by decide +kernel, rfl⟩
theorem a10_sweep_66 : At cX10_sweep 66 (.iload_n 2) 1 67 := ⟨by decide +kernel, rfl⟩
theorem a10_sweep_67 : At cX10_sweep 67 (.invokevirtual 294) 3 70 := ⟨by decide +kernel, rfl⟩
theorem a10_sweep_70 : At cX10_sweep 70 (.ireturn) 1 71 := ⟨by decide +kernel, rfl⟩
def f10_sweep (k0 : Nat) (x1 : Int32) (x2 : Int32) (σ : Mem) : Option (Int32 × Mem) :=
  if (f10_isPart k0 x1 σ) = 0 then
  (lt (f10_refuseBadTen k0 σ) fun w2 =>
  some (w2.1, w2.2))
  else
  (if (-1) ≤ x2 then
  (bnd (f10_summersUntil k0 x1 σ) fun w4 =>
  lt (if w4.1 = (-1) then
  (10)
  else
  ((mnI w4.1 10)) : Int32) fun w6 =>
  bnd (f0_settle 0 w6 w4.2) fun w9 =>
  if x2 = (-1) then
  (bnd (f0_resting 0 w9) fun w11 =>
  some (w11, w9))
  else
  (bnd (f0_restingAt 0 x2 w9) fun w13 =>
  some (w13, w9)))
  else
  (lt (f10_refuseBadTen k0 σ) fun w16 =>
  some (w16.1, w16.2)))
theorem E10_sweep {k0 : Nat} {x1 : Int32} {x2 : Int32} {σ : Mem} {w : Int32 × Mem} (h : f10_sweep k0 x1 x2 σ = some w) : Ev m10_sweep [.inr (.inr (10, k0)), .inl x1, .inl x2] σ (some (.inl w.1) : Option AV) w.2 := by
  unfold f10_sweep at h
  show Go m10_sweep 0 [some (.inr (.inr (10, k0))), some (.inl x1), some (.inl x2), none] [] σ (some (.inl w.1) : Option AV) w.2
  refine g_aload_n a10_sweep_0 rfl ?_
  refine g_iload_n a10_sweep_1 rfl ?_
  refine g_V1s (v1 := .inl (f10_isPart k0 x1 σ)) (σ1 := σ) a10_sweep_2 cv10_191 (E10_isPart _ _ _) rfl (fun o1 => ?_)
  refine g_if_eq (tgt := 13) a10_sweep_5 rfl (fun c19 => ?_) (fun c19 => ?_)
  · have h := (if_pos c19).symm.trans h
    refine g_aload_n a10_sweep_13 rfl ?_
    obtain ⟨w2, hw2, h⟩ := lt_inv h
    refine g_V0s (v1 := .inl w2.1) (σ1 := w2.2) a10_sweep_14 cv10_237 (by rw [← hw2]; exact E10_refuseBadTen _ _) rfl (fun o3 => ?_)
    have h := Option.some.inj h
    subst h
    exact g_retE a10_sweep_17 trivial rfl rfl
  · have h := (if_neg c19).symm.trans h
    refine g_iload_n a10_sweep_8 rfl ?_
    refine g_iconst (v := (-1)) a10_sweep_9 rfl ?_
    refine g_icmp_ge (tgt := 18) a10_sweep_10 rfl (fun c18 => ?_) (fun c18 => ?_)
    · have h := (if_pos c18).symm.trans h
      refine g_aload_n a10_sweep_18 rfl ?_
      refine g_iload_n a10_sweep_19 rfl ?_
      obtain ⟨w4, hw4, h⟩ := bnd_inv h
      refine g_V1s (v1 := .inl w4.1) (σ1 := w4.2) a10_sweep_20 cv10_213 (E10_summersUntil hw4) rfl (fun o5 => ?_)
      refine g_istore_n (L' := [some (.inr (.inr (10, k0))), some (.inl x1), some (.inl x2), some (.inl w4.1)]) a10_sweep_23 (Nat.le_of_ble_eq_true rfl) rfl rfl ?_
      refine g_aload_n a10_sweep_24 rfl ?_
      refine g_getf (v := .inr (.inr (0, 0))) a10_sweep_25 fs10_72 rfl ?_
      refine g_iload_n a10_sweep_28 rfl ?_
      refine g_iconst (v := (-1)) a10_sweep_29 rfl ?_
      obtain ⟨w6, hw6, h⟩ := lt_inv h
      have J7 : Go m10_sweep 44 [some (.inr (.inr (10, k0))), none, some (.inl x2), none] [.inl w6, .inr (.inr (0, 0))] w4.2 (some (.inl w.1) : Option AV) w.2 := by
        obtain ⟨w9, hw9, h⟩ := bnd_inv h
        refine g_V1n (σ1 := w9) a10_sweep_44 cv10_288 (E0_settle hw9) rfl (fun o10 => ?_)
        refine g_iload_n a10_sweep_47 rfl ?_
        refine g_iconst (v := (-1)) a10_sweep_48 rfl ?_
        refine g_icmp_ne (tgt := 62) a10_sweep_49 rfl (fun c15 => ?_) (fun c15 => ?_)
        · have h := (if_neg c15).symm.trans h
          refine g_aload_n a10_sweep_62 rfl ?_
          refine g_getf (v := .inr (.inr (0, 0))) a10_sweep_63 fs10_72 rfl ?_
          refine g_iload_n a10_sweep_66 rfl ?_
          obtain ⟨w13, hw13, h⟩ := bnd_inv h
          refine g_V1s (v1 := .inl w13) (σ1 := w9) a10_sweep_67 cv10_294 (E0_restingAt hw13) rfl (fun o14 => ?_)
          have h := Option.some.inj h
          subst h
          exact g_retE a10_sweep_70 trivial rfl rfl
        · have h := (if_pos c15).symm.trans h
          refine g_aload_n a10_sweep_52 rfl ?_
          refine g_getf (v := .inr (.inr (0, 0))) a10_sweep_53 fs10_72 rfl ?_
          obtain ⟨w11, hw11, h⟩ := bnd_inv h
          refine g_V0s (v1 := .inl w11) (σ1 := w9) a10_sweep_56 cv10_291 (E0_resting hw11) rfl (fun o12 => ?_)
          refine g_goto (tgt := 70) a10_sweep_59 rfl ?_
          have h := Option.some.inj h
          subst h
          exact g_retE a10_sweep_70 trivial rfl rfl
      clear h
      refine g_icmp_ne (tgt := 38) a10_sweep_30 rfl (fun c8 => ?_) (fun c8 => ?_)
      · have hw6 := (if_neg c8).symm.trans hw6
        refine g_iload_n a10_sweep_38 rfl ?_
        refine g_bipush (v := 10) a10_sweep_39 rfl ?_
        refine g_min a10_sweep_41 cm10_283 rfl ?_
        subst hw6
        exact g_weak J7 ⟨rfl, rfl, trivial⟩
      · have hw6 := (if_pos c8).symm.trans hw6
        refine g_bipush (v := 10) a10_sweep_33 rfl ?_
        refine g_goto (tgt := 44) a10_sweep_35 rfl ?_
        subst hw6
        exact g_weak J7 ⟨rfl, rfl, trivial⟩
    · have h := (if_neg c18).symm.trans h
      refine g_aload_n a10_sweep_13 rfl ?_
      obtain ⟨w16, hw16, h⟩ := lt_inv h
      refine g_V0s (v1 := .inl w16.1) (σ1 := w16.2) a10_sweep_14 cv10_237 (by rw [← hw16]; exact E10_refuseBadTen _ _) rfl (fun o17 => ?_)
      have h := Option.some.inj h
      subst h
      exact g_retE a10_sweep_17 trivial rfl rfl
theorem a1_commonOf_0 : At cX1_commonOf 0 (.lload_n 0) 1 1 := ⟨by decide +kernel, rfl⟩
theorem a1_commonOf_1 : At cX1_commonOf 1 (.lstore 4) 2 3 := ⟨by decide +kernel, rfl⟩
theorem a1_commonOf_3 : At cX1_commonOf 3 (.lload_n 2) 1 4 := ⟨by decide +kernel, rfl⟩
theorem a1_commonOf_4 : At cX1_commonOf 4 (.lstore 6) 2 6 := ⟨by decide +kernel, rfl⟩
theorem a1_commonOf_6 : At cX1_commonOf 6 (.iconst 0) 1 7 := ⟨by decide +kernel, rfl⟩
theorem a1_commonOf_7 : At cX1_commonOf 7 (.istore 8) 2 9 := ⟨by decide +kernel, rfl⟩
theorem a1_commonOf_9 : At cX1_commonOf 9 (.iload 8) 2 11 := ⟨by decide +kernel, rfl⟩
theorem a1_commonOf_11 : At cX1_commonOf 11 (.bipush 100) 2 13 := ⟨by decide +kernel, rfl⟩
theorem a1_commonOf_13 : At cX1_commonOf 13 (.if_icmp .ge 31) 3 16 := ⟨by decide +kernel, rfl⟩
theorem a1_commonOf_16 : At cX1_commonOf 16 (.lload 6) 2 18 := ⟨by decide +kernel, rfl⟩
theorem a1_commonOf_18 : At cX1_commonOf 18 (.lconst 0) 1 19 := ⟨by decide +kernel, rfl⟩
theorem a1_commonOf_19 : At cX1_commonOf 19 (.lcmp) 1 20 := ⟨by decide +kernel, rfl⟩
theorem a1_commonOf_20 : At cX1_commonOf 20 (.ifCond .eq 24) 3 23 := ⟨by decide +kernel, rfl⟩
theorem a1_commonOf_23 : At cX1_commonOf 23 (.lload 4) 2 25 := ⟨by decide +kernel, rfl⟩
theorem a1_commonOf_25 : At cX1_commonOf 25 (.lload 6) 2 27 := ⟨by decide +kernel, rfl⟩
theorem a1_commonOf_27 : At cX1_commonOf 27 (.lrem) 1 28 := ⟨by decide +kernel, rfl⟩
theorem a1_commonOf_28 : At cX1_commonOf 28 (.lstore 9) 2 30 := ⟨by decide +kernel, rfl⟩
theorem a1_commonOf_30 : At cX1_commonOf 30 (.lload 6) 2 32 := ⟨by decide +kernel, rfl⟩
theorem a1_commonOf_32 : At cX1_commonOf 32 (.lstore 4) 2 34 := ⟨by decide +kernel, rfl⟩
theorem a1_commonOf_34 : At cX1_commonOf 34 (.lload 9) 2 36 := ⟨by decide +kernel, rfl⟩
theorem a1_commonOf_36 : At cX1_commonOf 36 (.lstore 6) 2 38 := ⟨by decide +kernel, rfl⟩
theorem a1_commonOf_38 : At cX1_commonOf 38 (.iinc 8 1) 3 41 := ⟨by decide +kernel, rfl⟩
theorem a1_commonOf_41 : At cX1_commonOf 41 (.goto (-32)) 3 44 := ⟨by decide +kernel, rfl⟩
theorem a1_commonOf_44 : At cX1_commonOf 44 (.lload 4) 2 46 := ⟨by decide +kernel, rfl⟩
theorem a1_commonOf_46 : At cX1_commonOf 46 (.lreturn) 1 47 := ⟨by decide +kernel, rfl⟩
def l1_commonOf_9  : Nat → Int64 → Int64 → Int32 → Option (Int64 × Int64 × Int32)
  | 0, _, _, _ => none
  | n + 1, x4, x6, x8 =>
  if 100 ≤ x8 then
  (some (x4, x6, x8))
  else
  (if (lg_cmp x6 0) = 0 then
  (some (x4, x6, x8))
  else
  (ck (decide (¬ x6 = 0)) <|
  l1_commonOf_9  n x6 (x4 - x4 / x6 * x6) (x8 + 1)))
theorem lE1_commonOf_9 {V : Option AV} {S : Mem}  {σ : Mem} : ∀ (n : Nat) (x4 : Int64) (x6 : Int64) (x8 : Int32) {w : Int64 × Int64 × Int32}, l1_commonOf_9  n x4 x6 x8 = some w → (Go m1_commonOf 44 [none, none, none, none, some (.inr (.inl w.1)), none, some (.inr (.inl w.2.1)), none, some (.inl w.2.2), none, none] [] σ V S) → Go m1_commonOf 9 [none, none, none, none, some (.inr (.inl x4)), none, some (.inr (.inl x6)), none, some (.inl x8), none, none] [] σ V S
  | 0, x4, x6, x8, w, h, K1 => by cases h
  | n + 1, x4, x6, x8, w, h, K1 => by
    rw [l1_commonOf_9] at h
    refine g_iload a1_commonOf_9 rfl ?_
    refine g_bipush (v := 100) a1_commonOf_11 rfl ?_
    refine g_icmp_ge (tgt := 44) a1_commonOf_13 rfl (fun c3 => ?_) (fun c3 => ?_)
    · have h := (if_pos c3).symm.trans h
      have h := Option.some.inj h
      subst h
      exact g_weak K1 ⟨rfl, rfl, rfl, trivial⟩
    · have h := (if_neg c3).symm.trans h
      refine g_lload a1_commonOf_16 rfl ?_
      refine g_lconst (v := 0) a1_commonOf_18 rfl ?_
      refine g_lcmp a1_commonOf_19 ?_
      refine g_if_eq (tgt := 44) a1_commonOf_20 rfl (fun c2 => ?_) (fun c2 => ?_)
      · have h := (if_pos c2).symm.trans h
        have h := Option.some.inj h
        subst h
        exact g_weak K1 ⟨rfl, rfl, rfl, trivial⟩
      · have h := (if_neg c2).symm.trans h
        refine g_lload a1_commonOf_23 rfl ?_
        refine g_lload a1_commonOf_25 rfl ?_
        obtain ⟨q1, h⟩ := ck_inv h
        refine g_lrem a1_commonOf_27 (of_decide_eq_true q1) ?_
        refine g_lstore (L' := [none, none, none, none, some (.inr (.inl x4)), none, some (.inr (.inl x6)), none, some (.inl x8), some (.inr (.inl (x4 - x4 / x6 * x6))), none]) a1_commonOf_28 (Nat.le_of_ble_eq_true rfl) rfl rfl ?_
        refine g_lload a1_commonOf_30 rfl ?_
        refine g_lstore (L' := [none, none, none, none, some (.inr (.inl x6)), none, some (.inr (.inl x6)), none, some (.inl x8), some (.inr (.inl (x4 - x4 / x6 * x6))), none]) a1_commonOf_32 (Nat.le_of_ble_eq_true rfl) rfl rfl ?_
        refine g_lload a1_commonOf_34 rfl ?_
        refine g_lstore (L' := [none, none, none, none, some (.inr (.inl x6)), none, some (.inr (.inl (x4 - x4 / x6 * x6))), none, some (.inl x8), some (.inr (.inl (x4 - x4 / x6 * x6))), none]) a1_commonOf_36 (Nat.le_of_ble_eq_true rfl) rfl rfl ?_
        refine g_iinc (v := (x8 + 1)) (L' := [none, none, none, none, some (.inr (.inl x6)), none, some (.inr (.inl (x4 - x4 / x6 * x6))), none, some (.inl (x8 + 1)), some (.inr (.inl (x4 - x4 / x6 * x6))), none]) a1_commonOf_38 rfl rfl (Nat.le_of_ble_eq_true rfl) rfl rfl ?_
        refine g_goto (tgt := 9) a1_commonOf_41 rfl ?_
        exact g_weak (lE1_commonOf_9 (V := V) (S := S)   n _ _ _ h K1) ⟨rfl, rfl, rfl, trivial⟩
def f1_commonOf (x0 : Int64) (x2 : Int64) : Option (Int64) :=
  bnd (l1_commonOf_9  2000 x0 x2 0) fun w4 =>
  some w4.1
theorem E1_commonOf {x0 : Int64} {x2 : Int64} {σ : Mem} {w : Int64} (h : f1_commonOf x0 x2 = some w) : Ev m1_commonOf [.inr (.inl x0), .inr (.inl x2)] σ (some (.inr (.inl w)) : Option AV) σ := by
  unfold f1_commonOf at h
  show Go m1_commonOf 0 [some (.inr (.inl x0)), none, some (.inr (.inl x2)), none, none, none, none, none, none, none, none] [] σ (some (.inr (.inl w)) : Option AV) σ
  refine g_lload_n a1_commonOf_0 rfl ?_
  refine g_lstore (L' := [some (.inr (.inl x0)), none, some (.inr (.inl x2)), none, some (.inr (.inl x0)), none, none, none, none, none, none]) a1_commonOf_1 (Nat.le_of_ble_eq_true rfl) rfl rfl ?_
  refine g_lload_n a1_commonOf_3 rfl ?_
  refine g_lstore (L' := [some (.inr (.inl x0)), none, some (.inr (.inl x2)), none, some (.inr (.inl x0)), none, some (.inr (.inl x2)), none, none, none, none]) a1_commonOf_4 (Nat.le_of_ble_eq_true rfl) rfl rfl ?_
  refine g_iconst (v := 0) a1_commonOf_6 rfl ?_
  refine g_istore (L' := [some (.inr (.inl x0)), none, some (.inr (.inl x2)), none, some (.inr (.inl x0)), none, some (.inr (.inl x2)), none, some (.inl 0), none, none]) a1_commonOf_7 (Nat.le_of_ble_eq_true rfl) rfl rfl ?_
  obtain ⟨w4, hw4, h⟩ := bnd_inv h
  refine g_weak (lE1_commonOf_9  2000 _ _ _ hw4 ?_) ⟨rfl, rfl, rfl, trivial⟩
  refine g_lload a1_commonOf_44 rfl ?_
  have h := Option.some.inj h
  subst h
  exact g_retE a1_commonOf_46 trivial rfl rfl
theorem a1_set_0 : At cX1_set 0 (.lload_n 1) 1 1 := ⟨by decide +kernel, rfl⟩
theorem a1_set_1 : At cX1_set 1 (.lload_n 3) 1 2 := ⟨by decide +kernel, rfl⟩
theorem a1_set_2 : At cX1_set 2 (.invokestatic 16) 3 5 := ⟨by decide +kernel, rfl⟩
theorem a1_set_5 : At cX1_set 5 (.lstore 5) 2 7 := ⟨by decide +kernel, rfl⟩
theorem a1_set_7 : At cX1_set 7 (.lload 5) 2 9 := ⟨by decide +kernel, rfl⟩
theorem a1_set_9 : At cX1_set 9 (.lconst 0) 1 10 := ⟨by decide +kernel, rfl⟩
theorem a1_set_10 : At cX1_set 10 (.lcmp) 1 11 := ⟨by decide +kernel, rfl⟩
theorem a1_set_11 : At cX1_set 11 (.ifCond .eq 19) 3 14 := ⟨by decide +kernel, rfl⟩
theorem a1_set_14 : At cX1_set 14 (.aload_n 0) 1 15 := ⟨by decide +kernel, rfl⟩
theorem a1_set_15 : At cX1_set 15 (.lload_n 1) 1 16 := ⟨by decide +kernel, rfl⟩
theorem a1_set_16 : At cX1_set 16 (.lload 5) 2 18 := ⟨by decide +kernel, rfl⟩
theorem a1_set_18 : At cX1_set 18 (.ldiv) 1 19 := ⟨by decide +kernel, rfl⟩
theorem a1_set_19 : At cX1_set 19 (.putfield 7) 3 22 := ⟨by decide +kernel, rfl⟩
theorem a1_set_22 : At cX1_set 22 (.aload_n 0) 1 23 := ⟨by decide +kernel, rfl⟩
theorem a1_set_23 : At cX1_set 23 (.lload_n 3) 1 24 := ⟨by decide +kernel, rfl⟩
theorem a1_set_24 : At cX1_set 24 (.lload 5) 2 26 := ⟨by decide +kernel, rfl⟩
theorem a1_set_26 : At cX1_set 26 (.ldiv) 1 27 := ⟨by decide +kernel, rfl⟩
theorem a1_set_27 : At cX1_set 27 (.putfield 13) 3 30 := ⟨by decide +kernel, rfl⟩
theorem a1_set_30 : At cX1_set 30 (.return_) 1 31 := ⟨by decide +kernel, rfl⟩
def f1_set (k0 : Nat) (x1 : Int64) (x3 : Int64) (σ : Mem) : Option (Mem) :=
  bnd (f1_commonOf x1 x3) fun w1 =>
  if (lg_cmp w1 0) = 0 then
  (some σ)
  else
  (ck (decide (¬ w1 = 0)) <|
  lt (sL σ 1 k0 0 (x1 / w1)) fun σ4 =>
  ck (decide (¬ w1 = 0)) <|
  lt (sL σ4 1 k0 1 (x3 / w1)) fun σ6 =>
  some σ6)
theorem E1_set {k0 : Nat} {x1 : Int64} {x3 : Int64} {σ : Mem} {w : Mem} (h : f1_set k0 x1 x3 σ = some w) : Ev m1_set [.inr (.inr (1, k0)), .inr (.inl x1), .inr (.inl x3)] σ none w := by
  unfold f1_set at h
  show Go m1_set 0 [some (.inr (.inr (1, k0))), some (.inr (.inl x1)), none, some (.inr (.inl x3)), none, none, none] [] σ none w
  refine g_lload_n a1_set_0 rfl ?_
  refine g_lload_n a1_set_1 rfl ?_
  obtain ⟨w1, hw1, h⟩ := bnd_inv h
  refine g_S2s (v1 := .inr (.inl w1)) (σ1 := σ) a1_set_2 cs1_16 (E1_commonOf hw1) rfl (fun o2 => ?_)
  refine g_lstore (L' := [some (.inr (.inr (1, k0))), some (.inr (.inl x1)), none, some (.inr (.inl x3)), none, some (.inr (.inl w1)), none]) a1_set_5 (Nat.le_of_ble_eq_true rfl) rfl rfl ?_
  refine g_lload a1_set_7 rfl ?_
  refine g_lconst (v := 0) a1_set_9 rfl ?_
  refine g_lcmp a1_set_10 ?_
  refine g_if_eq (tgt := 30) a1_set_11 rfl (fun c7 => ?_) (fun c7 => ?_)
  · have h := (if_pos c7).symm.trans h
    have h := Option.some.inj h
    subst h
    exact g_retE a1_set_30 trivial rfl rfl
  · have h := (if_neg c7).symm.trans h
    refine g_aload_n a1_set_14 rfl ?_
    refine g_lload_n a1_set_15 rfl ?_
    refine g_lload a1_set_16 rfl ?_
    obtain ⟨q3, h⟩ := ck_inv h
    refine g_ldiv a1_set_18 (of_decide_eq_true q3) ?_
    obtain ⟨σ4, eσ4, h⟩ := lt_inv h
    refine g_putl a1_set_19 fs1_7 ps1_0 (fun _ _ _ => rfl) ?_
    rw [eσ4]
    refine g_aload_n a1_set_22 rfl ?_
    refine g_lload_n a1_set_23 rfl ?_
    refine g_lload a1_set_24 rfl ?_
    obtain ⟨q5, h⟩ := ck_inv h
    refine g_ldiv a1_set_26 (of_decide_eq_true q5) ?_
    obtain ⟨σ6, eσ6, h⟩ := lt_inv h
    refine g_putl a1_set_27 fs1_13 ps1_1 (fun _ _ _ => rfl) ?_
    rw [eσ6]
    have h := Option.some.inj h
    subst h
    exact g_retE a1_set_30 trivial rfl rfl
theorem a10_falls_0 : At cX10_falls 0 (.iload_n 1) 1 1 := ⟨by decide +kernel, rfl⟩
theorem a10_falls_1 : At cX10_falls 1 (.invokestatic 93) 3 4 := ⟨by decide +kernel, rfl⟩
theorem a10_falls_4 : At cX10_falls 4 (.ifCond .eq 13) 3 7 := ⟨by decide +kernel, rfl⟩
theorem a10_falls_7 : At cX10_falls 7 (.iload_n 2) 1 8 := ⟨by decide +kernel, rfl⟩
theorem a10_falls_8 : At cX10_falls 8 (.iconst 0) 1 9 := ⟨by decide +kernel, rfl⟩
theorem a10_falls_9 : At cX10_falls 9 (.bipush 10) 2 11 := ⟨by decide +kernel, rfl⟩
theorem a10_falls_11 : At cX10_falls 11 (.invokestatic 96) 3 14 := ⟨by decide +kernel, rfl⟩
theorem a10_falls_14 : At cX10_falls 14 (.ifCond .ne 8) 3 17 := ⟨by decide +kernel, rfl⟩
theorem a10_falls_17 : At cX10_falls 17 (.aload_n 0) 1 18 := ⟨by decide +kernel, rfl⟩
theorem a10_falls_18 : At cX10_falls 18 (.invokevirtual 100) 3 21 := ⟨by decide +kernel, rfl⟩
theorem a10_falls_21 : At cX10_falls 21 (.ireturn) 1 22 := ⟨by decide +kernel, rfl⟩
theorem a10_falls_22 : At cX10_falls 22 (.aload_n 0) 1 23 := ⟨by decide +kernel, rfl⟩
theorem a10_falls_23 : At cX10_falls 23 (.getfield 10) 3 26 := ⟨by decide +kernel, rfl⟩
theorem a10_falls_26 : At cX10_falls 26 (.iload_n 1) 1 27 := ⟨by decide +kernel, rfl⟩
theorem a10_falls_27 : At cX10_falls 27 (.invokevirtual 216) 3 30 := ⟨by decide +kernel, rfl⟩
theorem a10_falls_30 : At cX10_falls 30 (.ifCond .ne 14) 3 33 := ⟨by decide +kernel, rfl⟩
theorem a10_falls_33 : At cX10_falls 33 (.aload_n 0) 1 34 := ⟨by decide +kernel, rfl⟩
theorem a10_falls_34 : At cX10_falls 34 (.getfield 51) 3 37 := ⟨by decide +kernel, rfl⟩
theorem a10_falls_37 : At cX10_falls 37 (.lconst 0) 1 38 := ⟨by decide +kernel, rfl⟩
theorem a10_falls_38 : At cX10_falls 38 (.lconst 1) 1 39 := ⟨by decide +kernel, rfl⟩
theorem a10_falls_39 : At cX10_falls 39 (.invokevirtual 297) 3 42 := ⟨by decide +kernel, rfl⟩
theorem a10_falls_42 : At cX10_falls 42 (.iconst 1) 1 43 := ⟨by decide +kernel, rfl⟩
theorem a10_falls_43 : At cX10_falls 43 (.ireturn) 1 44 := ⟨by decide +kernel, rfl⟩
theorem a10_falls_44 : At cX10_falls 44 (.bipush 10) 2 46 := ⟨by decide +kernel, rfl⟩
theorem a10_falls_46 : At cX10_falls 46 (.iload_n 2) 1 47 := ⟨by decide +kernel, rfl⟩
theorem a10_falls_47 : At cX10_falls 47 (.isub) 1 48 := ⟨by decide +kernel, rfl⟩
theorem a10_falls_48 : At cX10_falls 48 (.i2l) 1 49 := ⟨by decide +kernel, rfl⟩
theorem a10_falls_49 : At cX10_falls 49 (.lstore_n 3) 1 50 := ⟨by decide +kernel, rfl⟩
theorem a10_falls_50 : At cX10_falls 50 (.ldc2_w 301) 3 53 := ⟨by decide +kernel, rfl⟩
theorem a10_falls_53 : At cX10_falls 53 (.lstore 5) 2 55 := ⟨by decide +kernel, rfl⟩
theorem a10_falls_55 : At cX10_falls 55 (.aload_n 0) 1 56 := ⟨by decide +kernel, rfl⟩
theorem a10_falls_56 : At cX10_falls 56 (.getfield 10) 3 59 := ⟨by decide +kernel, rfl⟩
theorem a10_falls_59 : At cX10_falls 59 (.iload_n 1) 1 60 := ⟨by decide +kernel, rfl⟩
theorem a10_falls_60 : At cX10_falls 60 (.invokevirtual 219) 3 63 := ⟨by decide +kernel, rfl⟩
theorem a10_falls_63 : At cX10_falls 63 (.aload_n 0) 1 64 := ⟨by decide +kernel, rfl⟩
theorem a10_falls_64 : At cX10_falls 64 (.getfield 10) 3 67 := ⟨by decide +kernel, rfl⟩
theorem a10_falls_67 : At cX10_falls 67 (.getfield 159) 3 70 := ⟨by decide +kernel, rfl⟩
theorem a10_falls_70 : At cX10_falls 70 (.getfield 222) 3 73 := ⟨by decide +kernel, rfl⟩
theorem a10_falls_73 : At cX10_falls 73 (.iand) 1 74 := ⟨by decide +kernel, rfl⟩
theorem a10_falls_74 : At cX10_falls 74 (.invokestatic 229) 3 77 := ⟨by decide +kernel, rfl⟩
theorem a10_falls_77 : At cX10_falls 77 (.istore 7) 2 79 := ⟨by decide +kernel, rfl⟩
theorem a10_falls_79 : At cX10_falls 79 (.iconst 0) 1 80 := ⟨by decide +kernel, rfl⟩
theorem a10_falls_80 : At cX10_falls 80 (.istore 8) 2 82 := ⟨by decide +kernel, rfl⟩
theorem a10_falls_82 : At cX10_falls 82 (.iload 8) 2 84 := ⟨by decide +kernel, rfl⟩
theorem a10_falls_84 : At cX10_falls 84 (.iload 7) 2 86 := ⟨by decide +kernel, rfl⟩
theorem a10_falls_86 : At cX10_falls 86 (.if_icmp .ge 22) 3 89 := ⟨by decide +kernel, rfl⟩
theorem a10_falls_89 : At cX10_falls 89 (.lload_n 3) 1 90 := ⟨by decide +kernel, rfl⟩
theorem a10_falls_90 : At cX10_falls 90 (.iload_n 2) 1 91 := ⟨by decide +kernel, rfl⟩
theorem a10_falls_91 : At cX10_falls 91 (.i2l) 1 92 := ⟨by decide +kernel, rfl⟩
theorem a10_falls_92 : At cX10_falls 92 (.lmul) 1 93 := ⟨by decide +kernel, rfl⟩
theorem a10_falls_93 : At cX10_falls 93 (.lstore_n 3) 1 94 := ⟨by decide +kernel, rfl⟩
theorem a10_falls_94 : At cX10_falls 94 (.lload 5) 2 96 := ⟨by decide +kernel, rfl⟩
theorem a10_falls_96 : At cX10_falls 96 (.ldc2_w 301) 3 99 := ⟨by decide +kernel, rfl⟩
theorem a10_falls_99 : At cX10_falls 99 (.lmul) 1 100 := ⟨by decide +kernel, rfl⟩
theorem a10_falls_100 : At cX10_falls 100 (.lstore 5) 2 102 := ⟨by decide +kernel, rfl⟩
theorem a10_falls_102 : At cX10_falls 102 (.iinc 8 1) 3 105 := ⟨by decide +kernel, rfl⟩
theorem a10_falls_105 : At cX10_falls 105 (.goto (-23)) 3 108 := ⟨by decide +kernel, rfl⟩
theorem a10_falls_108 : At cX10_falls 108 (.aload_n 0) 1 109 := ⟨by decide +kernel, rfl⟩
theorem a10_falls_109 : At cX10_falls 109 (.getfield 51) 3 112 := ⟨by decide +kernel, rfl⟩
theorem a10_falls_112 : At cX10_falls 112 (.lload_n 3) 1 113 := ⟨by decide +kernel, rfl⟩
theorem a10_falls_113 : At cX10_falls 113 (.lload 5) 2 115 := ⟨by decide +kernel, rfl⟩
theorem a10_falls_115 : At cX10_falls 115 (.invokevirtual 297) 3 118 := ⟨by decide +kernel, rfl⟩
theorem a10_falls_118 : At cX10_falls 118 (.iconst 1) 1 119 := ⟨by decide +kernel, rfl⟩
theorem a10_falls_119 : At cX10_falls 119 (.ireturn) 1 120 := ⟨by decide +kernel, rfl⟩
def l10_falls_82 (k0 : Nat) (x2 : Int32) (x7 : Int32) : Nat → Int64 → Int64 → Int32 → Option (Int64 × Int64 × Int32)
  | 0, _, _, _ => none
  | n + 1, x3, x5, x8 =>
  if x7 ≤ x8 then
  (some (x3, x5, x8))
  else
  (l10_falls_82 k0 x2 x7 n (x3 * (x2.toInt64)) (x5 * 10) (x8 + 1))
theorem lE10_falls_82 {V : Option AV} {S : Mem} (k0 : Nat) (x2 : Int32) (x7 : Int32) {σ : Mem} : ∀ (n : Nat) (x3 : Int64) (x5 : Int64) (x8 : Int32) {w : Int64 × Int64 × Int32}, l10_falls_82 k0 x2 x7 n x3 x5 x8 = some w → (Go m10_falls 108 [some (.inr (.inr (10, k0))), none, some (.inl x2), some (.inr (.inl w.1)), none, some (.inr (.inl w.2.1)), none, some (.inl x7), some (.inl w.2.2)] [] σ V S) → Go m10_falls 82 [some (.inr (.inr (10, k0))), none, some (.inl x2), some (.inr (.inl x3)), none, some (.inr (.inl x5)), none, some (.inl x7), some (.inl x8)] [] σ V S
  | 0, x3, x5, x8, w, h, K1 => by cases h
  | n + 1, x3, x5, x8, w, h, K1 => by
    rw [l10_falls_82] at h
    refine g_iload a10_falls_82 rfl ?_
    refine g_iload a10_falls_84 rfl ?_
    refine g_icmp_ge (tgt := 108) a10_falls_86 rfl (fun c14 => ?_) (fun c14 => ?_)
    · have h := (if_pos c14).symm.trans h
      have h := Option.some.inj h
      subst h
      exact g_weak K1 ⟨rfl, rfl, rfl, rfl, rfl, rfl, trivial⟩
    · have h := (if_neg c14).symm.trans h
      refine g_lload_n a10_falls_89 rfl ?_
      refine g_iload_n a10_falls_90 rfl ?_
      refine g_i2l a10_falls_91 ?_
      refine g_lmul a10_falls_92 ?_
      refine g_lstore_n (L' := [some (.inr (.inr (10, k0))), none, some (.inl x2), some (.inr (.inl (x3 * (x2.toInt64)))), none, some (.inr (.inl x5)), none, some (.inl x7), some (.inl x8)]) a10_falls_93 (Nat.le_of_ble_eq_true rfl) rfl rfl ?_
      refine g_lload a10_falls_94 rfl ?_
      refine g_ldc2 (v := 10) a10_falls_96 wl10_301 ?_
      refine g_lmul a10_falls_99 ?_
      refine g_lstore (L' := [some (.inr (.inr (10, k0))), none, some (.inl x2), some (.inr (.inl (x3 * (x2.toInt64)))), none, some (.inr (.inl (x5 * 10))), none, some (.inl x7), some (.inl x8)]) a10_falls_100 (Nat.le_of_ble_eq_true rfl) rfl rfl ?_
      refine g_iinc (v := (x8 + 1)) (L' := [some (.inr (.inr (10, k0))), none, some (.inl x2), some (.inr (.inl (x3 * (x2.toInt64)))), none, some (.inr (.inl (x5 * 10))), none, some (.inl x7), some (.inl (x8 + 1))]) a10_falls_102 rfl rfl (Nat.le_of_ble_eq_true rfl) rfl rfl ?_
      refine g_goto (tgt := 82) a10_falls_105 rfl ?_
      exact g_weak (lE10_falls_82 (V := V) (S := S)  k0 x2 x7 n _ _ _ h K1) ⟨rfl, rfl, rfl, rfl, rfl, rfl, trivial⟩
def f10_falls (k0 : Nat) (x1 : Int32) (x2 : Int32) (σ : Mem) : Option (Int32 × Mem) :=
  if (f10_isCell x1) = 0 then
  (lt (f10_refuseBad k0 σ) fun w2 =>
  some (w2.1, w2.2))
  else
  (if (f10_within x2 0 10) = 0 then
  (lt (f10_refuseBad k0 σ) fun w5 =>
  some (w5.1, w5.2))
  else
  (bnd (f9_mayBeHim 0 x1 σ) fun w7 =>
  if w7 = 0 then
  (bnd (f1_set 0 0 1 σ) fun w9 =>
  some (1, w9))
  else
  (bnd (f9_stronger 0 x1 σ) fun w11 =>
  bnd (l10_falls_82 k0 x2 (fJ6_bitCount (w11 &&& (σ.1 4 0 0))) 2000 (((10 - x2) : Int32).toInt64) 10 0) fun w15 =>
  bnd (f1_set 0 w15.1 w15.2.1 σ) fun w16 =>
  some (1, w16))))
theorem E10_falls {k0 : Nat} {x1 : Int32} {x2 : Int32} {σ : Mem} {w : Int32 × Mem} (h : f10_falls k0 x1 x2 σ = some w) : Ev m10_falls [.inr (.inr (10, k0)), .inl x1, .inl x2] σ (some (.inl w.1) : Option AV) w.2 := by
  unfold f10_falls at h
  show Go m10_falls 0 [some (.inr (.inr (10, k0))), some (.inl x1), some (.inl x2), none, none, none, none, none, none] [] σ (some (.inl w.1) : Option AV) w.2
  refine g_iload_n a10_falls_0 rfl ?_
  refine g_S1s (v1 := .inl (f10_isCell x1)) (σ1 := σ) a10_falls_1 cs10_93 (E10_isCell _ _) rfl (fun o1 => ?_)
  refine g_if_eq (tgt := 17) a10_falls_4 rfl (fun c20 => ?_) (fun c20 => ?_)
  · have h := (if_pos c20).symm.trans h
    refine g_aload_n a10_falls_17 rfl ?_
    obtain ⟨w2, hw2, h⟩ := lt_inv h
    refine g_V0s (v1 := .inl w2.1) (σ1 := w2.2) a10_falls_18 cv10_100 (by rw [← hw2]; exact E10_refuseBad _ _) rfl (fun o3 => ?_)
    have h := Option.some.inj h
    subst h
    exact g_retE a10_falls_21 trivial rfl rfl
  · have h := (if_neg c20).symm.trans h
    refine g_iload_n a10_falls_7 rfl ?_
    refine g_iconst (v := 0) a10_falls_8 rfl ?_
    refine g_bipush (v := 10) a10_falls_9 rfl ?_
    refine g_S3s (v1 := .inl (f10_within x2 0 10)) (σ1 := σ) a10_falls_11 cs10_96 (E10_within _ _ _ _) rfl (fun o4 => ?_)
    refine g_if_ne (tgt := 22) a10_falls_14 rfl (fun c19 => ?_) (fun c19 => ?_)
    · have h := (if_neg c19).symm.trans h
      refine g_aload_n a10_falls_22 rfl ?_
      refine g_getf (v := .inr (.inr (9, 0))) a10_falls_23 fs10_10 rfl ?_
      refine g_iload_n a10_falls_26 rfl ?_
      obtain ⟨w7, hw7, h⟩ := bnd_inv h
      refine g_V1s (v1 := .inl w7) (σ1 := σ) a10_falls_27 cv10_216 (E9_mayBeHim hw7) rfl (fun o8 => ?_)
      refine g_if_ne (tgt := 44) a10_falls_30 rfl (fun c18 => ?_) (fun c18 => ?_)
      · have h := (if_neg c18).symm.trans h
        refine g_bipush (v := 10) a10_falls_44 rfl ?_
        refine g_iload_n a10_falls_46 rfl ?_
        refine g_isub a10_falls_47 ?_
        refine g_i2l a10_falls_48 ?_
        refine g_lstore_n (L' := [some (.inr (.inr (10, k0))), some (.inl x1), some (.inl x2), some (.inr (.inl (((10 - x2) : Int32).toInt64))), none, none, none, none, none]) a10_falls_49 (Nat.le_of_ble_eq_true rfl) rfl rfl ?_
        refine g_ldc2 (v := 10) a10_falls_50 wl10_301 ?_
        refine g_lstore (L' := [some (.inr (.inr (10, k0))), some (.inl x1), some (.inl x2), some (.inr (.inl (((10 - x2) : Int32).toInt64))), none, some (.inr (.inl 10)), none, none, none]) a10_falls_53 (Nat.le_of_ble_eq_true rfl) rfl rfl ?_
        refine g_aload_n a10_falls_55 rfl ?_
        refine g_getf (v := .inr (.inr (9, 0))) a10_falls_56 fs10_10 rfl ?_
        refine g_iload_n a10_falls_59 rfl ?_
        obtain ⟨w11, hw11, h⟩ := bnd_inv h
        refine g_V1s (v1 := .inl w11) (σ1 := σ) a10_falls_60 cv10_219 (E9_stronger hw11) rfl (fun o12 => ?_)
        refine g_aload_n a10_falls_63 rfl ?_
        refine g_getf (v := .inr (.inr (9, 0))) a10_falls_64 fs10_10 rfl ?_
        refine g_getf (v := .inr (.inr (4, 0))) a10_falls_67 fs10_159 rfl ?_
        refine g_getf (v := .inl (σ.1 4 0 0)) a10_falls_70 fs10_222 rfl ?_
        refine g_iand a10_falls_73 ?_
        refine g_S1s (v1 := .inl (fJ6_bitCount (w11 &&& (σ.1 4 0 0)))) (σ1 := σ) a10_falls_74 cs10_229 (EJ6_bitCount _ _) rfl (fun o13 => ?_)
        refine g_istore (L' := [some (.inr (.inr (10, k0))), some (.inl x1), some (.inl x2), some (.inr (.inl (((10 - x2) : Int32).toInt64))), none, some (.inr (.inl 10)), none, some (.inl (fJ6_bitCount (w11 &&& (σ.1 4 0 0)))), none]) a10_falls_77 (Nat.le_of_ble_eq_true rfl) rfl rfl ?_
        refine g_iconst (v := 0) a10_falls_79 rfl ?_
        refine g_istore (L' := [some (.inr (.inr (10, k0))), some (.inl x1), some (.inl x2), some (.inr (.inl (((10 - x2) : Int32).toInt64))), none, some (.inr (.inl 10)), none, some (.inl (fJ6_bitCount (w11 &&& (σ.1 4 0 0)))), some (.inl 0)]) a10_falls_80 (Nat.le_of_ble_eq_true rfl) rfl rfl ?_
        obtain ⟨w15, hw15, h⟩ := bnd_inv h
        refine g_weak (lE10_falls_82 k0 x2 (fJ6_bitCount (w11 &&& (σ.1 4 0 0))) 2000 _ _ _ hw15 ?_) ⟨rfl, rfl, rfl, rfl, rfl, rfl, trivial⟩
        refine g_aload_n a10_falls_108 rfl ?_
        refine g_getf (v := .inr (.inr (1, 0))) a10_falls_109 fs10_51 rfl ?_
        refine g_lload_n a10_falls_112 rfl ?_
        refine g_lload a10_falls_113 rfl ?_
        obtain ⟨w16, hw16, h⟩ := bnd_inv h
        refine g_V2n (σ1 := w16) a10_falls_115 cv10_297 (E1_set hw16) rfl (fun o17 => ?_)
        refine g_iconst (v := 1) a10_falls_118 rfl ?_
        have h := Option.some.inj h
        subst h
        exact g_retE a10_falls_119 trivial rfl rfl
      · have h := (if_pos c18).symm.trans h
        refine g_aload_n a10_falls_33 rfl ?_
        refine g_getf (v := .inr (.inr (1, 0))) a10_falls_34 fs10_51 rfl ?_
        refine g_lconst (v := 0) a10_falls_37 rfl ?_
        refine g_lconst (v := 1) a10_falls_38 rfl ?_
        obtain ⟨w9, hw9, h⟩ := bnd_inv h
        refine g_V2n (σ1 := w9) a10_falls_39 cv10_297 (E1_set hw9) rfl (fun o10 => ?_)
        refine g_iconst (v := 1) a10_falls_42 rfl ?_
        have h := Option.some.inj h
        subst h
        exact g_retE a10_falls_43 trivial rfl rfl
    · have h := (if_pos c19).symm.trans h
      refine g_aload_n a10_falls_17 rfl ?_
      obtain ⟨w5, hw5, h⟩ := lt_inv h
      refine g_V0s (v1 := .inl w5.1) (σ1 := w5.2) a10_falls_18 cv10_100 (by rw [← hw5]; exact E10_refuseBad _ _) rfl (fun o6 => ?_)
      have h := Option.some.inj h
      subst h
      exact g_retE a10_falls_21 trivial rfl rfl
theorem a10_septembers_0 : At cX10_septembers 0 (.iload_n 1) 1 1 := ⟨by decide +kernel, rfl⟩
theorem a10_septembers_1 : At cX10_septembers 1 (.iconst 0) 1 2 := ⟨by decide +kernel, rfl⟩
theorem a10_septembers_2 : At cX10_septembers 2 (.ldc_w 303) 3 5 := ⟨by decide +kernel, rfl⟩
theorem a10_septembers_5 : At cX10_septembers 5 (.invokestatic 96) 3 8 := ⟨by decide +kernel, rfl⟩
theorem a10_septembers_8 : At cX10_septembers 8 (.ifCond .eq 13) 3 11 := ⟨by decide +kernel, rfl⟩
theorem a10_septembers_11 : At cX10_septembers 11 (.iload_n 2) 1 12 := ⟨by decide +kernel, rfl⟩
theorem a10_septembers_12 : At cX10_septembers 12 (.iconst 0) 1 13 := ⟨by decide +kernel, rfl⟩
theorem a10_septembers_13 : At cX10_septembers 13 (.bipush 60) 2 15 := ⟨by decide +kernel, rfl⟩
theorem a10_septembers_15 : At cX10_septembers 15 (.invokestatic 96) 3 18 := ⟨by decide +kernel, rfl⟩
theorem a10_septembers_18 : At cX10_septembers 18 (.ifCond .ne 8) 3 21 := ⟨by decide +kernel, rfl⟩
theorem a10_septembers_21 : At cX10_septembers 21 (.aload_n 0) 1 22 := ⟨by decide +kernel, rfl⟩
theorem a10_septembers_22 : At cX10_septembers 22 (.invokevirtual 100) 3 25 := ⟨by decide +kernel, rfl⟩
theorem a10_septembers_25 : At cX10_septembers 25 (.ireturn) 1 26 := ⟨by decide +kernel, rfl⟩
theorem a10_septembers_26 : At cX10_septembers 26 (.aload_n 0) 1 27 := ⟨by decide +kernel, rfl⟩
theorem a10_septembers_27 : At cX10_septembers 27 (.getfield 28) 3 30 := ⟨by decide +kernel, rfl⟩
theorem a10_septembers_30 : At cX10_septembers 30 (.aload_n 0) 1 31 := ⟨by decide +kernel, rfl⟩
theorem a10_septembers_31 : At cX10_septembers 31 (.getfield 10) 3 34 := ⟨by decide +kernel, rfl⟩
theorem a10_septembers_34 : At cX10_septembers 34 (.getfield 159) 3 37 := ⟨by decide +kernel, rfl⟩
theorem a10_septembers_37 : At cX10_septembers 37 (.invokevirtual 206) 3 40 := ⟨by decide +kernel, rfl⟩
theorem a10_septembers_40 : At cX10_septembers 40 (.iload_n 1) 1 41 := ⟨by decide +kernel, rfl⟩
theorem a10_septembers_41 : At cX10_septembers 41 (.i2l) 1 42 := ⟨by decide +kernel, rfl⟩
theorem a10_septembers_42 : At cX10_septembers 42 (.lstore_n 3) 1 43 := ⟨by decide +kernel, rfl⟩
theorem a10_septembers_43 : At cX10_septembers 43 (.iconst 0) 1 44 := ⟨by decide +kernel, rfl⟩
theorem a10_septembers_44 : At cX10_septembers 44 (.istore 5) 2 46 := ⟨by decide +kernel, rfl⟩
theorem a10_septembers_46 : At cX10_septembers 46 (.iload 5) 2 48 := ⟨by decide +kernel, rfl⟩
theorem a10_septembers_48 : At cX10_septembers 48 (.iload_n 2) 1 49 := ⟨by decide +kernel, rfl⟩
theorem a10_septembers_49 : At cX10_septembers 49 (.if_icmp .ge 54) 3 52 := ⟨by decide +kernel, rfl⟩
theorem a10_septembers_52 : At cX10_septembers 52 (.lload_n 3) 1 53 := ⟨by decide +kernel, rfl⟩
theorem a10_septembers_53 : At cX10_septembers 53 (.ldc2_w 304) 3 56 := ⟨by decide +kernel, rfl⟩
theorem a10_septembers_56 : At cX10_septembers 56 (.lmul) 1 57 := ⟨by decide +kernel, rfl⟩
theorem a10_septembers_57 : At cX10_septembers 57 (.ldc2_w 306) 3 60 := ⟨by decide +kernel, rfl⟩
theorem a10_septembers_60 : At cX10_septembers 60 (.ladd) 1 61 := ⟨by decide +kernel, rfl⟩
theorem a10_septembers_61 : At cX10_septembers 61 (.ldc2_w 308) 3 64 := ⟨by decide +kernel, rfl⟩
theorem a10_septembers_64 : At cX10_septembers 64 (.lrem) 1 65 := ⟨by decide +kernel, rfl⟩
theorem a10_septembers_65 : At cX10_septembers 65 (.lstore_n 3) 1 66 := ⟨by decide +kernel, rfl⟩
theorem a10_septembers_66 : At cX10_septembers 66 (.aload_n 0) 1 67 := ⟨by decide +kernel, rfl⟩
theorem a10_septembers_67 : At cX10_septembers 67 (.getfield 10) 3 70 := ⟨by decide +kernel, rfl⟩
theorem a10_septembers_70 : At cX10_septembers 70 (.aload_n 0) 1 71 := ⟨by decide +kernel, rfl⟩
theorem a10_septembers_71 : At cX10_septembers 71 (.getfield 28) 3 74 := ⟨by decide +kernel, rfl⟩
theorem a10_septembers_74 : At cX10_septembers 74 (.lload_n 3) 1 75 := ⟨by decide +kernel, rfl⟩
theorem a10_septembers_75 : At cX10_septembers 75 (.ldc2_w 310) 3 78 := ⟨by decide +kernel, rfl⟩
theorem a10_septembers_78 : At cX10_septembers 78 (.ldiv) 1 79 := ⟨by decide +kernel, rfl⟩
theorem a10_septembers_79 : At cX10_septembers 79 (.ldc2_w 312) 3 82 := ⟨by decide +kernel, rfl⟩
theorem a10_septembers_82 : At cX10_septembers 82 (.lrem) 1 83 := ⟨by decide +kernel, rfl⟩
theorem a10_septembers_83 : At cX10_septembers 83 (.l2i) 1 84 := ⟨by decide +kernel, rfl⟩
theorem a10_septembers_84 : At cX10_septembers 84 (.lload_n 3) 1 85 := ⟨by decide +kernel, rfl⟩
theorem a10_septembers_85 : At cX10_septembers 85 (.ldc2_w 314) 3 88 := ⟨by decide +kernel, rfl⟩
theorem a10_septembers_88 : At cX10_septembers 88 (.ldiv) 1 89 := ⟨by decide +kernel, rfl⟩
theorem a10_septembers_89 : At cX10_septembers 89 (.ldc2_w 301) 3 92 := ⟨by decide +kernel, rfl⟩
theorem a10_septembers_92 : At cX10_septembers 92 (.lrem) 1 93 := ⟨by decide +kernel, rfl⟩
theorem a10_septembers_93 : At cX10_septembers 93 (.l2i) 1 94 := ⟨by decide +kernel, rfl⟩
theorem a10_septembers_94 : At cX10_septembers 94 (.invokevirtual 316) 3 97 := ⟨by decide +kernel, rfl⟩
theorem a10_septembers_97 : At cX10_septembers 97 (.iinc 5 1) 3 100 := ⟨by decide +kernel, rfl⟩
theorem a10_septembers_100 : At cX10_septembers 100 (.goto (-54)) 3 103 := ⟨by decide +kernel, rfl⟩
theorem a10_septembers_103 : At cX10_septembers 103 (.aload_n 0) 1 104 := ⟨by decide +kernel, rfl⟩
theorem a10_septembers_104 : At cX10_septembers 104 (.getfield 28) 3 107 := ⟨by decide +kernel, rfl⟩
theorem a10_septembers_107 : At cX10_septembers 107 (.invokevirtual 166) 3 110 := ⟨by decide +kernel, rfl⟩
theorem a10_septembers_110 : At cX10_septembers 110 (.ireturn) 1 111 := ⟨by decide +kernel, rfl⟩
def l10_septembers_46 (k0 : Nat) (x2 : Int32) : Nat → Int64 → Int32 → Mem → Option (Int64 × Int32 × Mem)
  | 0, _, _, _ => none
  | n + 1, x3, x5, σ =>
  if x2 ≤ x5 then
  (some (x3, x5, σ))
  else
  (lt ((((x3 * 1103515245) + 12345) - ((x3 * 1103515245) + 12345) / 2147483648 * 2147483648) : Int64) fun y9 =>
  bnd (f9_pass 0 4 ((((y9 / 65536) - (y9 / 65536) / 12 * 12) : Int64).toInt32) ((((y9 / 1048576) - (y9 / 1048576) / 10 * 10) : Int64).toInt32) σ) fun w10 =>
  l10_septembers_46 k0 x2 n y9 (x5 + 1) w10)
theorem lE10_septembers_46 {V : Option AV} {S : Mem} (k0 : Nat) (x2 : Int32) : ∀ (n : Nat) (x3 : Int64) (x5 : Int32) (σ : Mem) {w : Int64 × Int32 × Mem}, l10_septembers_46 k0 x2 n x3 x5 σ = some w → (Go m10_septembers 103 [some (.inr (.inr (10, k0))), none, some (.inl x2), some (.inr (.inl w.1)), none, some (.inl w.2.1)] [] w.2.2 V S) → Go m10_septembers 46 [some (.inr (.inr (10, k0))), none, some (.inl x2), some (.inr (.inl x3)), none, some (.inl x5)] [] σ V S
  | 0, x3, x5, σ, w, h, K1 => by cases h
  | n + 1, x3, x5, σ, w, h, K1 => by
    rw [l10_septembers_46] at h
    refine g_iload a10_septembers_46 rfl ?_
    refine g_iload_n a10_septembers_48 rfl ?_
    refine g_icmp_ge (tgt := 103) a10_septembers_49 rfl (fun c12 => ?_) (fun c12 => ?_)
    · have h := (if_pos c12).symm.trans h
      have h := Option.some.inj h
      subst h
      exact g_weak K1 ⟨rfl, rfl, rfl, rfl, trivial⟩
    · have h := (if_neg c12).symm.trans h
      refine g_lload_n a10_septembers_52 rfl ?_
      refine g_ldc2 (v := 1103515245) a10_septembers_53 wl10_304 ?_
      refine g_lmul a10_septembers_56 ?_
      refine g_ldc2 (v := 12345) a10_septembers_57 wl10_306 ?_
      refine g_ladd a10_septembers_60 ?_
      refine g_ldc2 (v := 2147483648) a10_septembers_61 wl10_308 ?_
      refine g_lrem a10_septembers_64 (by decide) ?_
      obtain ⟨y9, ey9, h⟩ := lt_inv h
      rw [ey9]
      refine g_lstore_n (L' := [some (.inr (.inr (10, k0))), none, some (.inl x2), some (.inr (.inl y9)), none, some (.inl x5)]) a10_septembers_65 (Nat.le_of_ble_eq_true rfl) rfl rfl ?_
      refine g_aload_n a10_septembers_66 rfl ?_
      refine g_getf (v := .inr (.inr (9, 0))) a10_septembers_67 fs10_10 rfl ?_
      refine g_aload_n a10_septembers_70 rfl ?_
      refine g_getf (v := .inr (.inr (4, 4))) a10_septembers_71 fs10_28 rfl ?_
      refine g_lload_n a10_septembers_74 rfl ?_
      refine g_ldc2 (v := 65536) a10_septembers_75 wl10_310 ?_
      refine g_ldiv a10_septembers_78 (by decide) ?_
      refine g_ldc2 (v := 12) a10_septembers_79 wl10_312 ?_
      refine g_lrem a10_septembers_82 (by decide) ?_
      refine g_l2i a10_septembers_83 ?_
      refine g_lload_n a10_septembers_84 rfl ?_
      refine g_ldc2 (v := 1048576) a10_septembers_85 wl10_314 ?_
      refine g_ldiv a10_septembers_88 (by decide) ?_
      refine g_ldc2 (v := 10) a10_septembers_89 wl10_301 ?_
      refine g_lrem a10_septembers_92 (by decide) ?_
      refine g_l2i a10_septembers_93 ?_
      obtain ⟨w10, hw10, h⟩ := bnd_inv h
      refine g_V3n (σ1 := w10) a10_septembers_94 cv10_316 (E9_pass hw10) rfl (fun o11 => ?_)
      refine g_iinc (v := (x5 + 1)) (L' := [some (.inr (.inr (10, k0))), none, some (.inl x2), some (.inr (.inl y9)), none, some (.inl (x5 + 1))]) a10_septembers_97 rfl rfl (Nat.le_of_ble_eq_true rfl) rfl rfl ?_
      refine g_goto (tgt := 46) a10_septembers_100 rfl ?_
      exact g_weak (lE10_septembers_46 (V := V) (S := S)  k0 x2 n _ _ _ h K1) ⟨rfl, rfl, rfl, rfl, trivial⟩
def f10_septembers (k0 : Nat) (x1 : Int32) (x2 : Int32) (σ : Mem) : Option (Int32 × Mem) :=
  if (f10_within x1 0 999999) = 0 then
  (lt (f10_refuseBad k0 σ) fun w2 =>
  some (w2.1, w2.2))
  else
  (if (f10_within x2 0 60) = 0 then
  (lt (f10_refuseBad k0 σ) fun w5 =>
  some (w5.1, w5.2))
  else
  (lt (f4_takeFrom 4 0 σ) fun w7 =>
  bnd (l10_septembers_46 k0 x2 2000 (x1.toInt64) 0 w7) fun w13 =>
  some ((f4_partsThere 4 w13.2.2), w13.2.2)))
theorem E10_septembers {k0 : Nat} {x1 : Int32} {x2 : Int32} {σ : Mem} {w : Int32 × Mem} (h : f10_septembers k0 x1 x2 σ = some w) : Ev m10_septembers [.inr (.inr (10, k0)), .inl x1, .inl x2] σ (some (.inl w.1) : Option AV) w.2 := by
  unfold f10_septembers at h
  show Go m10_septembers 0 [some (.inr (.inr (10, k0))), some (.inl x1), some (.inl x2), none, none, none] [] σ (some (.inl w.1) : Option AV) w.2
  refine g_iload_n a10_septembers_0 rfl ?_
  refine g_iconst (v := 0) a10_septembers_1 rfl ?_
  refine g_ldcw (v := 999999) a10_septembers_2 wc10_303 ?_
  refine g_S3s (v1 := .inl (f10_within x1 0 999999)) (σ1 := σ) a10_septembers_5 cs10_96 (E10_within _ _ _ _) rfl (fun o1 => ?_)
  refine g_if_eq (tgt := 21) a10_septembers_8 rfl (fun c16 => ?_) (fun c16 => ?_)
  · have h := (if_pos c16).symm.trans h
    refine g_aload_n a10_septembers_21 rfl ?_
    obtain ⟨w2, hw2, h⟩ := lt_inv h
    refine g_V0s (v1 := .inl w2.1) (σ1 := w2.2) a10_septembers_22 cv10_100 (by rw [← hw2]; exact E10_refuseBad _ _) rfl (fun o3 => ?_)
    have h := Option.some.inj h
    subst h
    exact g_retE a10_septembers_25 trivial rfl rfl
  · have h := (if_neg c16).symm.trans h
    refine g_iload_n a10_septembers_11 rfl ?_
    refine g_iconst (v := 0) a10_septembers_12 rfl ?_
    refine g_bipush (v := 60) a10_septembers_13 rfl ?_
    refine g_S3s (v1 := .inl (f10_within x2 0 60)) (σ1 := σ) a10_septembers_15 cs10_96 (E10_within _ _ _ _) rfl (fun o4 => ?_)
    refine g_if_ne (tgt := 26) a10_septembers_18 rfl (fun c15 => ?_) (fun c15 => ?_)
    · have h := (if_neg c15).symm.trans h
      refine g_aload_n a10_septembers_26 rfl ?_
      refine g_getf (v := .inr (.inr (4, 4))) a10_septembers_27 fs10_28 rfl ?_
      refine g_aload_n a10_septembers_30 rfl ?_
      refine g_getf (v := .inr (.inr (9, 0))) a10_septembers_31 fs10_10 rfl ?_
      refine g_getf (v := .inr (.inr (4, 0))) a10_septembers_34 fs10_159 rfl ?_
      obtain ⟨w7, hw7, h⟩ := lt_inv h
      refine g_V1n (σ1 := w7) a10_septembers_37 cv10_206 (by rw [← hw7]; exact E4_takeFrom _ _ _) rfl (fun o8 => ?_)
      refine g_iload_n a10_septembers_40 rfl ?_
      refine g_i2l a10_septembers_41 ?_
      refine g_lstore_n (L' := [some (.inr (.inr (10, k0))), some (.inl x1), some (.inl x2), some (.inr (.inl (x1.toInt64))), none, none]) a10_septembers_42 (Nat.le_of_ble_eq_true rfl) rfl rfl ?_
      refine g_iconst (v := 0) a10_septembers_43 rfl ?_
      refine g_istore (L' := [some (.inr (.inr (10, k0))), some (.inl x1), some (.inl x2), some (.inr (.inl (x1.toInt64))), none, some (.inl 0)]) a10_septembers_44 (Nat.le_of_ble_eq_true rfl) rfl rfl ?_
      obtain ⟨w13, hw13, h⟩ := bnd_inv h
      refine g_weak (lE10_septembers_46 k0 x2 2000 _ _ _ hw13 ?_) ⟨rfl, rfl, rfl, rfl, trivial⟩
      refine g_aload_n a10_septembers_103 rfl ?_
      refine g_getf (v := .inr (.inr (4, 4))) a10_septembers_104 fs10_28 rfl ?_
      refine g_V0s (v1 := .inl (f4_partsThere 4 w13.2.2)) (σ1 := w13.2.2) a10_septembers_107 cv10_166 (E4_partsThere _ _) rfl (fun o14 => ?_)
      have h := Option.some.inj h
      subst h
      exact g_retE a10_septembers_110 trivial rfl rfl
    · have h := (if_pos c15).symm.trans h
      refine g_aload_n a10_septembers_21 rfl ?_
      obtain ⟨w5, hw5, h⟩ := lt_inv h
      refine g_V0s (v1 := .inl w5.1) (σ1 := w5.2) a10_septembers_22 cv10_100 (by rw [← hw5]; exact E10_refuseBad _ _) rfl (fun o6 => ?_)
      have h := Option.some.inj h
      subst h
      exact g_retE a10_septembers_25 trivial rfl rfl
theorem a1_above_0 : At cX1_above 0 (.aload_n 0) 1 1 := ⟨by decide +kernel, rfl⟩
theorem a1_above_1 : At cX1_above 1 (.getfield 7) 3 4 := ⟨by decide +kernel, rfl⟩
theorem a1_above_4 : At cX1_above 4 (.lreturn) 1 5 := ⟨by decide +kernel, rfl⟩
def f1_above (k0 : Nat) (σ : Mem) : Int64 :=
  (σ.2 1 k0 0)
theorem E1_above (k0 : Nat) (σ : Mem) : Ev m1_above [.inr (.inr (1, k0))] σ (some (.inr (.inl (f1_above k0 σ))) : Option AV) σ := by
  obtain ⟨w, h⟩ : ∃ w, f1_above k0 σ = w := ⟨_, rfl⟩
  rw [h]
  unfold f1_above at h
  show Go m1_above 0 [some (.inr (.inr (1, k0)))] [] σ (some (.inr (.inl w)) : Option AV) σ
  refine g_aload_n a1_above_0 rfl ?_
  refine g_getf (v := .inr (.inl (σ.2 1 k0 0))) a1_above_1 fs1_7 rfl ?_
  subst h
  exact g_retE a1_above_4 trivial rfl rfl
theorem a1_below_0 : At cX1_below 0 (.aload_n 0) 1 1 := ⟨by decide +kernel, rfl⟩
theorem a1_below_1 : At cX1_below 1 (.getfield 13) 3 4 := ⟨by decide +kernel, rfl⟩
theorem a1_below_4 : At cX1_below 4 (.lreturn) 1 5 := ⟨by decide +kernel, rfl⟩
def f1_below (k0 : Nat) (σ : Mem) : Int64 :=
  (σ.2 1 k0 1)
theorem E1_below (k0 : Nat) (σ : Mem) : Ev m1_below [.inr (.inr (1, k0))] σ (some (.inr (.inl (f1_below k0 σ))) : Option AV) σ := by
  obtain ⟨w, h⟩ : ∃ w, f1_below k0 σ = w := ⟨_, rfl⟩
  rw [h]
  unfold f1_below at h
  show Go m1_below 0 [some (.inr (.inr (1, k0)))] [] σ (some (.inr (.inl w)) : Option AV) σ
  refine g_aload_n a1_below_0 rfl ?_
  refine g_getf (v := .inr (.inl (σ.2 1 k0 1))) a1_below_1 fs1_13 rfl ?_
  subst h
  exact g_retE a1_below_4 trivial rfl rfl
theorem a10_part_0 : At cX10_part 0 (.iload_n 1) 1 1 := ⟨by decide +kernel, rfl⟩
theorem a10_part_1 : At cX10_part 1 (.iconst 0) 1 2 := ⟨by decide +kernel, rfl⟩
theorem a10_part_2 : At cX10_part 2 (.iconst 1) 1 3 := ⟨by decide +kernel, rfl⟩
theorem a10_part_3 : At cX10_part 3 (.invokestatic 96) 3 6 := ⟨by decide +kernel, rfl⟩
theorem a10_part_6 : At cX10_part 6 (.ifCond .ne 9) 3 9 := ⟨by decide +kernel, rfl⟩
theorem a10_part_9 : At cX10_part 9 (.aload_n 0) 1 10 := ⟨by decide +kernel, rfl⟩
theorem a10_part_10 : At cX10_part 10 (.invokevirtual 100) 3 13 := ⟨by decide +kernel, rfl⟩
theorem a10_part_13 : At cX10_part 13 (.i2l) 1 14 := ⟨by decide +kernel, rfl⟩
theorem a10_part_14 : At cX10_part 14 (.lreturn) 1 15 := ⟨by decide +kernel, rfl⟩
theorem a10_part_15 : At cX10_part 15 (.iload_n 1) 1 16 := ⟨by decide +kernel, rfl⟩
theorem a10_part_16 : At cX10_part 16 (.ifCond .ne 13) 3 19 := ⟨by decide +kernel, rfl⟩
theorem a10_part_19 : At cX10_part 19 (.aload_n 0) 1 20 := ⟨by decide +kernel, rfl⟩
theorem a10_part_20 : At cX10_part 20 (.getfield 51) 3 23 := ⟨by decide +kernel, rfl⟩
theorem a10_part_23 : At cX10_part 23 (.invokevirtual 319) 3 26 := ⟨by decide +kernel, rfl⟩
theorem a10_part_26 : At cX10_part 26 (.goto 10) 3 29 := ⟨by decide +kernel, rfl⟩
theorem a10_part_29 : At cX10_part 29 (.aload_n 0) 1 30 := ⟨by decide +kernel, rfl⟩
theorem a10_part_30 : At cX10_part 30 (.getfield 51) 3 33 := ⟨by decide +kernel, rfl⟩
theorem a10_part_33 : At cX10_part 33 (.invokevirtual 323) 3 36 := ⟨by decide +kernel, rfl⟩
theorem a10_part_36 : At cX10_part 36 (.lreturn) 1 37 := ⟨by decide +kernel, rfl⟩
def f10_part (k0 : Nat) (x1 : Int32) (σ : Mem) : Int64 × Mem :=
  if (f10_within x1 0 1) = 0 then
  (lt (f10_refuseBad k0 σ) fun w2 =>
  ((w2.1.toInt64), w2.2))
  else
  (if x1 = 0 then
  (((f1_above 0 σ), σ))
  else
  (((f1_below 0 σ), σ)))
theorem E10_part (k0 : Nat) (x1 : Int32) (σ : Mem) : Ev m10_part [.inr (.inr (10, k0)), .inl x1] σ (some (.inr (.inl ((f10_part k0 x1 σ).1))) : Option AV) (f10_part k0 x1 σ).2 := by
  obtain ⟨w, h⟩ : ∃ w, f10_part k0 x1 σ = w := ⟨_, rfl⟩
  rw [h]
  unfold f10_part at h
  show Go m10_part 0 [some (.inr (.inr (10, k0))), some (.inl x1)] [] σ (some (.inr (.inl w.1)) : Option AV) w.2
  refine g_iload_n a10_part_0 rfl ?_
  refine g_iconst (v := 0) a10_part_1 rfl ?_
  refine g_iconst (v := 1) a10_part_2 rfl ?_
  refine g_S3s (v1 := .inl (f10_within x1 0 1)) (σ1 := σ) a10_part_3 cs10_96 (E10_within _ _ _ _) rfl (fun o1 => ?_)
  refine g_if_ne (tgt := 15) a10_part_6 rfl (fun c7 => ?_) (fun c7 => ?_)
  · have h := (if_neg c7).symm.trans h
    refine g_iload_n a10_part_15 rfl ?_
    refine g_if_ne (tgt := 29) a10_part_16 rfl (fun c6 => ?_) (fun c6 => ?_)
    · have h := (if_neg c6).symm.trans h
      refine g_aload_n a10_part_29 rfl ?_
      refine g_getf (v := .inr (.inr (1, 0))) a10_part_30 fs10_51 rfl ?_
      refine g_V0s (v1 := .inr (.inl (f1_below 0 σ))) (σ1 := σ) a10_part_33 cv10_323 (E1_below _ _) rfl (fun o5 => ?_)
      subst h
      exact g_retE a10_part_36 trivial rfl rfl
    · have h := (if_pos c6).symm.trans h
      refine g_aload_n a10_part_19 rfl ?_
      refine g_getf (v := .inr (.inr (1, 0))) a10_part_20 fs10_51 rfl ?_
      refine g_V0s (v1 := .inr (.inl (f1_above 0 σ))) (σ1 := σ) a10_part_23 cv10_319 (E1_above _ _) rfl (fun o4 => ?_)
      refine g_goto (tgt := 36) a10_part_26 rfl ?_
      subst h
      exact g_retE a10_part_36 trivial rfl rfl
  · have h := (if_pos c7).symm.trans h
    refine g_aload_n a10_part_9 rfl ?_
    obtain ⟨w2, hw2, h⟩ := lt_inv h
    refine g_V0s (v1 := .inl w2.1) (σ1 := w2.2) a10_part_10 cv10_100 (by rw [← hw2]; exact E10_refuseBad _ _) rfl (fun o3 => ?_)
    refine g_i2l a10_part_13 ?_
    subst h
    exact g_retE a10_part_14 trivial rfl rfl
theorem a10_imageAt_0 : At cX10_imageAt 0 (.iload_n 1) 1 1 := ⟨by decide +kernel, rfl⟩
theorem a10_imageAt_1 : At cX10_imageAt 1 (.ifCond .ne 10) 3 4 := ⟨by decide +kernel, rfl⟩
theorem a10_imageAt_4 : At cX10_imageAt 4 (.aload_n 0) 1 5 := ⟨by decide +kernel, rfl⟩
theorem a10_imageAt_5 : At cX10_imageAt 5 (.getfield 19) 3 8 := ⟨by decide +kernel, rfl⟩
theorem a10_imageAt_8 : At cX10_imageAt 8 (.goto 7) 3 11 := ⟨by decide +kernel, rfl⟩
theorem a10_imageAt_11 : At cX10_imageAt 11 (.aload_n 0) 1 12 := ⟨by decide +kernel, rfl⟩
theorem a10_imageAt_12 : At cX10_imageAt 12 (.getfield 22) 3 15 := ⟨by decide +kernel, rfl⟩
theorem a10_imageAt_15 : At cX10_imageAt 15 (.areturn) 1 16 := ⟨by decide +kernel, rfl⟩
def f10_imageAt (k0 : Nat) (x1 : Int32) (σ : Mem) : Nat :=
  if x1 = 0 then
  (2)
  else
  (3)
theorem E10_imageAt (k0 : Nat) (x1 : Int32) (σ : Mem) : Ev m10_imageAt [.inr (.inr (10, k0)), .inl x1] σ (some (.inr (.inr (9, (f10_imageAt k0 x1 σ)))) : Option AV) σ := by
  obtain ⟨w, h⟩ : ∃ w, f10_imageAt k0 x1 σ = w := ⟨_, rfl⟩
  rw [h]
  unfold f10_imageAt at h
  show Go m10_imageAt 0 [some (.inr (.inr (10, k0))), some (.inl x1)] [] σ (some (.inr (.inr (9, w))) : Option AV) σ
  refine g_iload_n a10_imageAt_0 rfl ?_
  refine g_if_ne (tgt := 11) a10_imageAt_1 rfl (fun c1 => ?_) (fun c1 => ?_)
  · have h := (if_neg c1).symm.trans h
    refine g_aload_n a10_imageAt_11 rfl ?_
    refine g_getf (v := .inr (.inr (9, 3))) a10_imageAt_12 fs10_22 rfl ?_
    subst h
    exact g_retE a10_imageAt_15 trivial rfl rfl
  · have h := (if_pos c1).symm.trans h
    refine g_aload_n a10_imageAt_4 rfl ?_
    refine g_getf (v := .inr (.inr (9, 2))) a10_imageAt_5 fs10_19 rfl ?_
    refine g_goto (tgt := 15) a10_imageAt_8 rfl ?_
    subst h
    exact g_retE a10_imageAt_15 trivial rfl rfl
