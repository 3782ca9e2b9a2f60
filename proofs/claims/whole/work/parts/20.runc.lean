theorem a7_empty_0 : At cX7_empty 0 (.aload_n 0) 1 1 := ⟨by decide +kernel, rfl⟩
theorem a7_empty_1 : At cX7_empty 1 (.iconst 0) 1 2 := ⟨by decide +kernel, rfl⟩
theorem a7_empty_2 : At cX7_empty 2 (.putfield 26) 3 5 := ⟨by decide +kernel, rfl⟩
theorem a7_empty_5 : At cX7_empty 5 (.return_) 1 6 := ⟨by decide +kernel, rfl⟩
def f7_empty (k0 : Nat) (σ : Mem) : Mem :=
  lt (sI σ 7 k0 3 0) fun σ1 =>
  σ1
theorem E7_empty (k0 : Nat) (σ : Mem) : Ev m7_empty [.inr (.inr (7, k0))] σ none (f7_empty k0 σ) := by
  obtain ⟨w, h⟩ : ∃ w, f7_empty k0 σ = w := ⟨_, rfl⟩
  rw [h]
  unfold f7_empty at h
  show Go m7_empty 0 [some (.inr (.inr (7, k0)))] [] σ none w
  refine g_aload_n a7_empty_0 rfl ?_
  refine g_iconst (v := 0) a7_empty_1 rfl ?_
  obtain ⟨σ1, eσ1, h⟩ := lt_inv h
  refine g_puti a7_empty_2 fs7_26 ps7_3 (fun _ _ _ => rfl) ?_
  rw [eσ1]
  subst h
  exact g_retE a7_empty_5 trivial rfl rfl
theorem a7_isFull_0 : At cX7_isFull 0 (.aload_n 0) 1 1 := ⟨by decide +kernel, rfl⟩
theorem a7_isFull_1 : At cX7_isFull 1 (.getfield 26) 3 4 := ⟨by decide +kernel, rfl⟩
theorem a7_isFull_4 : At cX7_isFull 4 (.aload_n 0) 1 5 := ⟨by decide +kernel, rfl⟩
theorem a7_isFull_5 : At cX7_isFull 5 (.getfield 7) 3 8 := ⟨by decide +kernel, rfl⟩
theorem a7_isFull_8 : At cX7_isFull 8 (.if_icmp .lt 7) 3 11 := ⟨by decide +kernel, rfl⟩
theorem a7_isFull_11 : At cX7_isFull 11 (.iconst 1) 1 12 := ⟨by decide +kernel, rfl⟩
theorem a7_isFull_12 : At cX7_isFull 12 (.goto 4) 3 15 := ⟨by decide +kernel, rfl⟩
theorem a7_isFull_15 : At cX7_isFull 15 (.iconst 0) 1 16 := ⟨by decide +kernel, rfl⟩
theorem a7_isFull_16 : At cX7_isFull 16 (.ireturn) 1 17 := ⟨by decide +kernel, rfl⟩
def f7_isFull (k0 : Nat) (σ : Mem) : Int32 :=
  if (σ.1 7 k0 3) < (σ.1 7 k0 0) then
  (0)
  else
  (1)
theorem E7_isFull (k0 : Nat) (σ : Mem) : Ev m7_isFull [.inr (.inr (7, k0))] σ (some (.inl (f7_isFull k0 σ)) : Option AV) σ := by
  obtain ⟨w, h⟩ : ∃ w, f7_isFull k0 σ = w := ⟨_, rfl⟩
  rw [h]
  unfold f7_isFull at h
  show Go m7_isFull 0 [some (.inr (.inr (7, k0)))] [] σ (some (.inl w) : Option AV) σ
  refine g_aload_n a7_isFull_0 rfl ?_
  refine g_getf (v := .inl (σ.1 7 k0 3)) a7_isFull_1 fs7_26 rfl ?_
  refine g_aload_n a7_isFull_4 rfl ?_
  refine g_getf (v := .inl (σ.1 7 k0 0)) a7_isFull_5 fs7_7 rfl ?_
  refine g_icmp_lt (tgt := 15) a7_isFull_8 rfl (fun c1 => ?_) (fun c1 => ?_)
  · have h := (if_pos c1).symm.trans h
    refine g_iconst (v := 0) a7_isFull_15 rfl ?_
    subst h
    exact g_retE a7_isFull_16 (Or.inl rfl) rfl rfl
  · have h := (if_neg c1).symm.trans h
    refine g_iconst (v := 1) a7_isFull_11 rfl ?_
    refine g_goto (tgt := 16) a7_isFull_12 rfl ?_
    subst h
    exact g_retE a7_isFull_16 (Or.inr rfl) rfl rfl
theorem a7_put_0 : At cX7_put 0 (.iload_n 1) 1 1 := ⟨by decide +kernel, rfl⟩
theorem a7_put_1 : At cX7_put 1 (.aload_n 0) 1 2 := ⟨by decide +kernel, rfl⟩
theorem a7_put_2 : At cX7_put 2 (.getfield 13) 3 5 := ⟨by decide +kernel, rfl⟩
theorem a7_put_5 : At cX7_put 5 (.imul) 1 6 := ⟨by decide +kernel, rfl⟩
theorem a7_put_6 : At cX7_put 6 (.iload_n 2) 1 7 := ⟨by decide +kernel, rfl⟩
theorem a7_put_7 : At cX7_put 7 (.iadd) 1 8 := ⟨by decide +kernel, rfl⟩
theorem a7_put_8 : At cX7_put 8 (.istore 4) 2 10 := ⟨by decide +kernel, rfl⟩
theorem a7_put_10 : At cX7_put 10 (.iload_n 1) 1 11 := ⟨by decide +kernel, rfl⟩
theorem a7_put_11 : At cX7_put 11 (.ifCond .lt 27) 3 14 := ⟨by decide +kernel, rfl⟩
theorem a7_put_14 : At cX7_put 14 (.iload_n 1) 1 15 := ⟨by decide +kernel, rfl⟩
theorem a7_put_15 : At cX7_put 15 (.aload_n 0) 1 16 := ⟨by decide +kernel, rfl⟩
theorem a7_put_16 : At cX7_put 16 (.getfield 26) 3 19 := ⟨by decide +kernel, rfl⟩
theorem a7_put_19 : At cX7_put 19 (.if_icmp .ge 19) 3 22 := ⟨by decide +kernel, rfl⟩
theorem a7_put_22 : At cX7_put 22 (.iload_n 2) 1 23 := ⟨by decide +kernel, rfl⟩
theorem a7_put_23 : At cX7_put 23 (.ifCond .lt 15) 3 26 := ⟨by decide +kernel, rfl⟩
theorem a7_put_26 : At cX7_put 26 (.iload_n 2) 1 27 := ⟨by decide +kernel, rfl⟩
theorem a7_put_27 : At cX7_put 27 (.aload_n 0) 1 28 := ⟨by decide +kernel, rfl⟩
theorem a7_put_28 : At cX7_put 28 (.getfield 13) 3 31 := ⟨by decide +kernel, rfl⟩
theorem a7_put_31 : At cX7_put 31 (.if_icmp .ge 7) 3 34 := ⟨by decide +kernel, rfl⟩
theorem a7_put_34 : At cX7_put 34 (.iconst 1) 1 35 := ⟨by decide +kernel, rfl⟩
theorem a7_put_35 : At cX7_put 35 (.goto 4) 3 38 := ⟨by decide +kernel, rfl⟩
theorem a7_put_38 : At cX7_put 38 (.iconst 0) 1 39 := ⟨by decide +kernel, rfl⟩
theorem a7_put_39 : At cX7_put 39 (.istore 5) 2 41 := ⟨by decide +kernel, rfl⟩
theorem a7_put_41 : At cX7_put 41 (.iload 5) 2 43 := ⟨by decide +kernel, rfl⟩
theorem a7_put_43 : At cX7_put 43 (.ifCond .eq 26) 3 46 := ⟨by decide +kernel, rfl⟩
theorem a7_put_46 : At cX7_put 46 (.iload 4) 2 48 := ⟨by decide +kernel, rfl⟩
theorem a7_put_48 : At cX7_put 48 (.ifCond .lt 21) 3 51 := ⟨by decide +kernel, rfl⟩
theorem a7_put_51 : At cX7_put 51 (.iload 4) 2 53 := ⟨by decide +kernel, rfl⟩
theorem a7_put_53 : At cX7_put 53 (.aload_n 0) 1 54 := ⟨by decide +kernel, rfl⟩
theorem a7_put_54 : At cX7_put 54 (.getfield 22) 3 57 := ⟨by decide +kernel, rfl⟩
theorem a7_put_57 : At cX7_put 57 (.arraylength) 1 58 := ⟨by decide +kernel, rfl⟩
theorem a7_put_58 : At cX7_put 58 (.if_icmp .ge 11) 3 61 := ⟨by decide +kernel, rfl⟩
theorem a7_put_61 : At cX7_put 61 (.aload_n 0) 1 62 := ⟨by decide +kernel, rfl⟩
theorem a7_put_62 : At cX7_put 62 (.getfield 22) 3 65 := ⟨by decide +kernel, rfl⟩
theorem a7_put_65 : At cX7_put 65 (.iload 4) 2 67 := ⟨by decide +kernel, rfl⟩
theorem a7_put_67 : At cX7_put 67 (.iload_n 3) 1 68 := ⟨by decide +kernel, rfl⟩
theorem a7_put_68 : At cX7_put 68 (.iastore) 1 69 := ⟨by decide +kernel, rfl⟩
theorem a7_put_69 : At cX7_put 69 (.return_) 1 70 := ⟨by decide +kernel, rfl⟩
def f7_put (k0 : Nat) (x1 : Int32) (x2 : Int32) (x3 : Int32) (σ : Mem) : Option (Mem) :=
  lt (if x1 < 0 then
  (0)
  else
  (if (σ.1 7 k0 3) ≤ x1 then
  (0)
  else
  (if x2 < 0 then
  (0)
  else
  (if (σ.1 7 k0 1) ≤ x2 then
  (0)
  else
  (1)))) : Int32) fun w1 =>
  if w1 = 0 then
  (some σ)
  else
  (if ((x1 * (σ.1 7 k0 1)) + x2) < 0 then
  (some σ)
  else
  (if (Int32.ofNat (alen 20 k0)) ≤ ((x1 * (σ.1 7 k0 1)) + x2) then
  (some σ)
  else
  (ck (inb ((x1 * (σ.1 7 k0 1)) + x2) (alen 20 k0)) <|
  lt (sI σ 20 k0 (((x1 * (σ.1 7 k0 1)) + x2) : Int32).toNatClampNeg x3) fun σ9 =>
  some σ9)))
theorem E7_put {k0 : Nat} {x1 : Int32} {x2 : Int32} {x3 : Int32} {σ : Mem} {w : Mem} (h : f7_put k0 x1 x2 x3 σ = some w) : Ev m7_put [.inr (.inr (7, k0)), .inl x1, .inl x2, .inl x3] σ none w := by
  unfold f7_put at h
  show Go m7_put 0 [some (.inr (.inr (7, k0))), some (.inl x1), some (.inl x2), some (.inl x3), none, none] [] σ none w
  refine g_iload_n a7_put_0 rfl ?_
  refine g_aload_n a7_put_1 rfl ?_
  refine g_getf (v := .inl (σ.1 7 k0 1)) a7_put_2 fs7_13 rfl ?_
  refine g_imul a7_put_5 ?_
  refine g_iload_n a7_put_6 rfl ?_
  refine g_iadd a7_put_7 ?_
  refine g_istore (L' := [some (.inr (.inr (7, k0))), some (.inl x1), some (.inl x2), some (.inl x3), some (.inl ((x1 * (σ.1 7 k0 1)) + x2)), none]) a7_put_8 (Nat.le_of_ble_eq_true rfl) rfl rfl ?_
  refine g_iload_n a7_put_10 rfl ?_
  obtain ⟨w1, hw1, h⟩ := lt_inv h
  have b7 : w1 = 0 ∨ w1 = 1 := by rw [← hw1]; repeat (first | exact Or.inl rfl | exact Or.inr rfl | split)
  have J2 : Go m7_put 39 [some (.inr (.inr (7, k0))), none, none, some (.inl x3), some (.inl ((x1 * (σ.1 7 k0 1)) + x2)), none] [.inl w1] σ none w := by
    refine g_istore (L' := [some (.inr (.inr (7, k0))), none, none, some (.inl x3), some (.inl ((x1 * (σ.1 7 k0 1)) + x2)), some (.inl w1)]) a7_put_39 (Nat.le_of_ble_eq_true rfl) rfl rfl ?_
    refine g_iload a7_put_41 rfl ?_
    refine g_if_eq (tgt := 69) a7_put_43 rfl (fun c12 => ?_) (fun c12 => ?_)
    · have h := (if_pos c12).symm.trans h
      have h := Option.some.inj h
      subst h
      exact g_retE a7_put_69 trivial rfl rfl
    · have h := (if_neg c12).symm.trans h
      refine g_iload a7_put_46 rfl ?_
      refine g_if_lt (tgt := 69) a7_put_48 rfl (fun c11 => ?_) (fun c11 => ?_)
      · have h := (if_pos c11).symm.trans h
        have h := Option.some.inj h
        subst h
        exact g_retE a7_put_69 trivial rfl rfl
      · have h := (if_neg c11).symm.trans h
        refine g_iload a7_put_51 rfl ?_
        refine g_aload_n a7_put_53 rfl ?_
        refine g_getf (v := .inr (.inr (20, k0))) a7_put_54 fs7_22 rfl ?_
        refine g_alen (x := (Int32.ofNat (alen 20 k0))) a7_put_57 (rI20 _) rfl ?_
        refine g_icmp_ge (tgt := 69) a7_put_58 rfl (fun c10 => ?_) (fun c10 => ?_)
        · have h := (if_pos c10).symm.trans h
          have h := Option.some.inj h
          subst h
          exact g_retE a7_put_69 trivial rfl rfl
        · have h := (if_neg c10).symm.trans h
          refine g_aload_n a7_put_61 rfl ?_
          refine g_getf (v := .inr (.inr (20, k0))) a7_put_62 fs7_22 rfl ?_
          refine g_iload a7_put_65 rfl ?_
          refine g_iload_n a7_put_67 rfl ?_
          obtain ⟨q8, h⟩ := ck_inv h
          obtain ⟨σ9, eσ9, h⟩ := lt_inv h
          refine g_iast (j := (((x1 * (σ.1 7 k0 1)) + x2) : Int32).toNatClampNeg) a7_put_68 (rI20 _) (inb_ok q8) rfl ?_
          rw [eσ9]
          have h := Option.some.inj h
          subst h
          exact g_retE a7_put_69 trivial rfl rfl
  clear h
  refine g_if_lt (tgt := 38) a7_put_11 rfl (fun c6 => ?_) (fun c6 => ?_)
  · have hw1 := (if_pos c6).symm.trans hw1
    refine g_iconst (v := 0) a7_put_38 rfl ?_
    subst hw1
    exact g_weak J2 ⟨rfl, rfl, rfl, trivial⟩
  · have hw1 := (if_neg c6).symm.trans hw1
    refine g_iload_n a7_put_14 rfl ?_
    refine g_aload_n a7_put_15 rfl ?_
    refine g_getf (v := .inl (σ.1 7 k0 3)) a7_put_16 fs7_26 rfl ?_
    refine g_icmp_ge (tgt := 38) a7_put_19 rfl (fun c5 => ?_) (fun c5 => ?_)
    · have hw1 := (if_pos c5).symm.trans hw1
      refine g_iconst (v := 0) a7_put_38 rfl ?_
      subst hw1
      exact g_weak J2 ⟨rfl, rfl, rfl, trivial⟩
    · have hw1 := (if_neg c5).symm.trans hw1
      refine g_iload_n a7_put_22 rfl ?_
      refine g_if_lt (tgt := 38) a7_put_23 rfl (fun c4 => ?_) (fun c4 => ?_)
      · have hw1 := (if_pos c4).symm.trans hw1
        refine g_iconst (v := 0) a7_put_38 rfl ?_
        subst hw1
        exact g_weak J2 ⟨rfl, rfl, rfl, trivial⟩
      · have hw1 := (if_neg c4).symm.trans hw1
        refine g_iload_n a7_put_26 rfl ?_
        refine g_aload_n a7_put_27 rfl ?_
        refine g_getf (v := .inl (σ.1 7 k0 1)) a7_put_28 fs7_13 rfl ?_
        refine g_icmp_ge (tgt := 38) a7_put_31 rfl (fun c3 => ?_) (fun c3 => ?_)
        · have hw1 := (if_pos c3).symm.trans hw1
          refine g_iconst (v := 0) a7_put_38 rfl ?_
          subst hw1
          exact g_weak J2 ⟨rfl, rfl, rfl, trivial⟩
        · have hw1 := (if_neg c3).symm.trans hw1
          refine g_iconst (v := 1) a7_put_34 rfl ?_
          refine g_goto (tgt := 39) a7_put_35 rfl ?_
          subst hw1
          exact g_weak J2 ⟨rfl, rfl, rfl, trivial⟩
theorem a7_add_0 : At cX7_add 0 (.aload_n 0) 1 1 := ⟨by decide +kernel, rfl⟩
theorem a7_add_1 : At cX7_add 1 (.invokevirtual 29) 3 4 := ⟨by decide +kernel, rfl⟩
theorem a7_add_4 : At cX7_add 4 (.ifCond .eq 4) 3 7 := ⟨by decide +kernel, rfl⟩
theorem a7_add_7 : At cX7_add 7 (.return_) 1 8 := ⟨by decide +kernel, rfl⟩
theorem a7_add_8 : At cX7_add 8 (.aload_n 0) 1 9 := ⟨by decide +kernel, rfl⟩
theorem a7_add_9 : At cX7_add 9 (.getfield 26) 3 12 := ⟨by decide +kernel, rfl⟩
theorem a7_add_12 : At cX7_add 12 (.istore 6) 2 14 := ⟨by decide +kernel, rfl⟩
theorem a7_add_14 : At cX7_add 14 (.aload_n 0) 1 15 := ⟨by decide +kernel, rfl⟩
theorem a7_add_15 : At cX7_add 15 (.dup) 1 16 := ⟨by decide +kernel, rfl⟩
theorem a7_add_16 : At cX7_add 16 (.getfield 26) 3 19 := ⟨by decide +kernel, rfl⟩
theorem a7_add_19 : At cX7_add 19 (.iconst 1) 1 20 := ⟨by decide +kernel, rfl⟩
theorem a7_add_20 : At cX7_add 20 (.iadd) 1 21 := ⟨by decide +kernel, rfl⟩
theorem a7_add_21 : At cX7_add 21 (.putfield 26) 3 24 := ⟨by decide +kernel, rfl⟩
theorem a7_add_24 : At cX7_add 24 (.aload_n 0) 1 25 := ⟨by decide +kernel, rfl⟩
theorem a7_add_25 : At cX7_add 25 (.iload 6) 2 27 := ⟨by decide +kernel, rfl⟩
theorem a7_add_27 : At cX7_add 27 (.iconst 0) 1 28 := ⟨by decide +kernel, rfl⟩
theorem a7_add_28 : At cX7_add 28 (.iload_n 1) 1 29 := ⟨by decide +kernel, rfl⟩
theorem a7_add_29 : At cX7_add 29 (.invokevirtual 33) 3 32 := ⟨by decide +kernel, rfl⟩
theorem a7_add_32 : At cX7_add 32 (.aload_n 0) 1 33 := ⟨by decide +kernel, rfl⟩
theorem a7_add_33 : At cX7_add 33 (.iload 6) 2 35 := ⟨by decide +kernel, rfl⟩
theorem a7_add_35 : At cX7_add 35 (.iconst 1) 1 36 := ⟨by decide +kernel, rfl⟩
theorem a7_add_36 : At cX7_add 36 (.iload_n 2) 1 37 := ⟨by decide +kernel, rfl⟩
theorem a7_add_37 : At cX7_add 37 (.invokevirtual 33) 3 40 := ⟨by decide +kernel, rfl⟩
theorem a7_add_40 : At cX7_add 40 (.aload_n 0) 1 41 := ⟨by decide +kernel, rfl⟩
theorem a7_add_41 : At cX7_add 41 (.iload 6) 2 43 := ⟨by decide +kernel, rfl⟩
theorem a7_add_43 : At cX7_add 43 (.iconst 2) 1 44 := ⟨by decide +kernel, rfl⟩
theorem a7_add_44 : At cX7_add 44 (.iload_n 3) 1 45 := ⟨by decide +kernel, rfl⟩
theorem a7_add_45 : At cX7_add 45 (.invokevirtual 33) 3 48 := ⟨by decide +kernel, rfl⟩
theorem a7_add_48 : At cX7_add 48 (.aload_n 0) 1 49 := ⟨by decide +kernel, rfl⟩
theorem a7_add_49 : At cX7_add 49 (.iload 6) 2 51 := ⟨by decide +kernel, rfl⟩
theorem a7_add_51 : At cX7_add 51 (.iconst 3) 1 52 := ⟨by decide +kernel, rfl⟩
theorem a7_add_52 : At cX7_add 52 (.iload 4) 2 54 := ⟨by decide +kernel, rfl⟩
theorem a7_add_54 : At cX7_add 54 (.invokevirtual 33) 3 57 := ⟨by decide +kernel, rfl⟩
theorem a7_add_57 : At cX7_add 57 (.aload_n 0) 1 58 := ⟨by decide +kernel, rfl⟩
theorem a7_add_58 : At cX7_add 58 (.iload 6) 2 60 := ⟨by decide +kernel, rfl⟩
theorem a7_add_60 : At cX7_add 60 (.iconst 4) 1 61 := ⟨by decide +kernel, rfl⟩
theorem a7_add_61 : At cX7_add 61 (.iload 5) 2 63 := ⟨by decide +kernel, rfl⟩
theorem a7_add_63 : At cX7_add 63 (.invokevirtual 33) 3 66 := ⟨by decide +kernel, rfl⟩
theorem a7_add_66 : At cX7_add 66 (.return_) 1 67 := ⟨by decide +kernel, rfl⟩
def f7_add (k0 : Nat) (x1 : Int32) (x2 : Int32) (x3 : Int32) (x4 : Int32) (x5 : Int32) (σ : Mem) : Option (Mem) :=
  if (f7_isFull k0 σ) = 0 then
  (lt (sI σ 7 k0 3 ((σ.1 7 k0 3) + 1)) fun σ2 =>
  bnd (f7_put k0 (σ.1 7 k0 3) 0 x1 σ2) fun w3 =>
  bnd (f7_put k0 (σ.1 7 k0 3) 1 x2 w3) fun w5 =>
  bnd (f7_put k0 (σ.1 7 k0 3) 2 x3 w5) fun w7 =>
  bnd (f7_put k0 (σ.1 7 k0 3) 3 x4 w7) fun w9 =>
  bnd (f7_put k0 (σ.1 7 k0 3) 4 x5 w9) fun w11 =>
  some w11)
  else
  (some σ)
theorem E7_add {k0 : Nat} {x1 : Int32} {x2 : Int32} {x3 : Int32} {x4 : Int32} {x5 : Int32} {σ : Mem} {w : Mem} (h : f7_add k0 x1 x2 x3 x4 x5 σ = some w) : Ev m7_add [.inr (.inr (7, k0)), .inl x1, .inl x2, .inl x3, .inl x4, .inl x5] σ none w := by
  unfold f7_add at h
  show Go m7_add 0 [some (.inr (.inr (7, k0))), some (.inl x1), some (.inl x2), some (.inl x3), some (.inl x4), some (.inl x5), none] [] σ none w
  refine g_aload_n a7_add_0 rfl ?_
  refine g_V0s (v1 := .inl (f7_isFull k0 σ)) (σ1 := σ) a7_add_1 cv7_29 (E7_isFull _ _) rfl (fun o1 => ?_)
  refine g_if_eq (tgt := 8) a7_add_4 rfl (fun c13 => ?_) (fun c13 => ?_)
  · have h := (if_pos c13).symm.trans h
    refine g_aload_n a7_add_8 rfl ?_
    refine g_getf (v := .inl (σ.1 7 k0 3)) a7_add_9 fs7_26 rfl ?_
    refine g_istore (L' := [some (.inr (.inr (7, k0))), some (.inl x1), some (.inl x2), some (.inl x3), some (.inl x4), some (.inl x5), some (.inl (σ.1 7 k0 3))]) a7_add_12 (Nat.le_of_ble_eq_true rfl) rfl rfl ?_
    refine g_aload_n a7_add_14 rfl ?_
    refine g_dup a7_add_15 (fun _ => rfl) ?_
    refine g_getf (v := .inl (σ.1 7 k0 3)) a7_add_16 fs7_26 rfl ?_
    refine g_iconst (v := 1) a7_add_19 rfl ?_
    refine g_iadd a7_add_20 ?_
    obtain ⟨σ2, eσ2, h⟩ := lt_inv h
    refine g_puti a7_add_21 fs7_26 ps7_3 (fun _ _ _ => rfl) ?_
    rw [eσ2]
    refine g_aload_n a7_add_24 rfl ?_
    refine g_iload a7_add_25 rfl ?_
    refine g_iconst (v := 0) a7_add_27 rfl ?_
    refine g_iload_n a7_add_28 rfl ?_
    obtain ⟨w3, hw3, h⟩ := bnd_inv h
    refine g_V3n (σ1 := w3) a7_add_29 cv7_33 (E7_put hw3) rfl (fun o4 => ?_)
    refine g_aload_n a7_add_32 rfl ?_
    refine g_iload a7_add_33 rfl ?_
    refine g_iconst (v := 1) a7_add_35 rfl ?_
    refine g_iload_n a7_add_36 rfl ?_
    obtain ⟨w5, hw5, h⟩ := bnd_inv h
    refine g_V3n (σ1 := w5) a7_add_37 cv7_33 (E7_put hw5) rfl (fun o6 => ?_)
    refine g_aload_n a7_add_40 rfl ?_
    refine g_iload a7_add_41 rfl ?_
    refine g_iconst (v := 2) a7_add_43 rfl ?_
    refine g_iload_n a7_add_44 rfl ?_
    obtain ⟨w7, hw7, h⟩ := bnd_inv h
    refine g_V3n (σ1 := w7) a7_add_45 cv7_33 (E7_put hw7) rfl (fun o8 => ?_)
    refine g_aload_n a7_add_48 rfl ?_
    refine g_iload a7_add_49 rfl ?_
    refine g_iconst (v := 3) a7_add_51 rfl ?_
    refine g_iload a7_add_52 rfl ?_
    obtain ⟨w9, hw9, h⟩ := bnd_inv h
    refine g_V3n (σ1 := w9) a7_add_54 cv7_33 (E7_put hw9) rfl (fun o10 => ?_)
    refine g_aload_n a7_add_57 rfl ?_
    refine g_iload a7_add_58 rfl ?_
    refine g_iconst (v := 4) a7_add_60 rfl ?_
    refine g_iload a7_add_61 rfl ?_
    obtain ⟨w11, hw11, h⟩ := bnd_inv h
    refine g_V3n (σ1 := w11) a7_add_63 cv7_33 (E7_put hw11) rfl (fun o12 => ?_)
    have h := Option.some.inj h
    subst h
    exact g_retE a7_add_66 trivial rfl rfl
  · have h := (if_neg c13).symm.trans h
    have h := Option.some.inj h
    subst h
    exact g_retE a7_add_7 trivial rfl rfl
theorem a4_set_0 : At cX4_set 0 (.aload_n 0) 1 1 := ⟨by decide +kernel, rfl⟩
theorem a4_set_1 : At cX4_set 1 (.iload_n 1) 1 2 := ⟨by decide +kernel, rfl⟩
theorem a4_set_2 : At cX4_set 2 (.putfield 7) 3 5 := ⟨by decide +kernel, rfl⟩
theorem a4_set_5 : At cX4_set 5 (.aload_n 0) 1 6 := ⟨by decide +kernel, rfl⟩
theorem a4_set_6 : At cX4_set 6 (.iload_n 2) 1 7 := ⟨by decide +kernel, rfl⟩
theorem a4_set_7 : At cX4_set 7 (.putfield 13) 3 10 := ⟨by decide +kernel, rfl⟩
theorem a4_set_10 : At cX4_set 10 (.aload_n 0) 1 11 := ⟨by decide +kernel, rfl⟩
theorem a4_set_11 : At cX4_set 11 (.iload_n 3) 1 12 := ⟨by decide +kernel, rfl⟩
theorem a4_set_12 : At cX4_set 12 (.putfield 16) 3 15 := ⟨by decide +kernel, rfl⟩
theorem a4_set_15 : At cX4_set 15 (.aload_n 0) 1 16 := ⟨by decide +kernel, rfl⟩
theorem a4_set_16 : At cX4_set 16 (.iload 4) 2 18 := ⟨by decide +kernel, rfl⟩
theorem a4_set_18 : At cX4_set 18 (.putfield 19) 3 21 := ⟨by decide +kernel, rfl⟩
theorem a4_set_21 : At cX4_set 21 (.return_) 1 22 := ⟨by decide +kernel, rfl⟩
def f4_set (k0 : Nat) (x1 : Int32) (x2 : Int32) (x3 : Int32) (x4 : Int32) (σ : Mem) : Mem :=
  lt (sI σ 4 k0 0 x1) fun σ1 =>
  lt (sI σ1 4 k0 1 x2) fun σ2 =>
  lt (sI σ2 4 k0 2 x3) fun σ3 =>
  lt (sI σ3 4 k0 3 x4) fun σ4 =>
  σ4
theorem E4_set (k0 : Nat) (x1 : Int32) (x2 : Int32) (x3 : Int32) (x4 : Int32) (σ : Mem) : Ev m4_set [.inr (.inr (4, k0)), .inl x1, .inl x2, .inl x3, .inl x4] σ none (f4_set k0 x1 x2 x3 x4 σ) := by
  obtain ⟨w, h⟩ : ∃ w, f4_set k0 x1 x2 x3 x4 σ = w := ⟨_, rfl⟩
  rw [h]
  unfold f4_set at h
  show Go m4_set 0 [some (.inr (.inr (4, k0))), some (.inl x1), some (.inl x2), some (.inl x3), some (.inl x4)] [] σ none w
  refine g_aload_n a4_set_0 rfl ?_
  refine g_iload_n a4_set_1 rfl ?_
  obtain ⟨σ1, eσ1, h⟩ := lt_inv h
  refine g_puti a4_set_2 fs4_7 ps4_0 (fun _ _ _ => rfl) ?_
  rw [eσ1]
  refine g_aload_n a4_set_5 rfl ?_
  refine g_iload_n a4_set_6 rfl ?_
  obtain ⟨σ2, eσ2, h⟩ := lt_inv h
  refine g_puti a4_set_7 fs4_13 ps4_1 (fun _ _ _ => rfl) ?_
  rw [eσ2]
  refine g_aload_n a4_set_10 rfl ?_
  refine g_iload_n a4_set_11 rfl ?_
  obtain ⟨σ3, eσ3, h⟩ := lt_inv h
  refine g_puti a4_set_12 fs4_16 ps4_2 (fun _ _ _ => rfl) ?_
  rw [eσ3]
  refine g_aload_n a4_set_15 rfl ?_
  refine g_iload a4_set_16 rfl ?_
  obtain ⟨σ4, eσ4, h⟩ := lt_inv h
  refine g_puti a4_set_18 fs4_19 ps4_3 (fun _ _ _ => rfl) ?_
  rw [eσ4]
  subst h
  exact g_retE a4_set_21 trivial rfl rfl
theorem a9_begin_0 : At cX9_begin 0 (.aload_n 0) 1 1 := ⟨by decide +kernel, rfl⟩
theorem a9_begin_1 : At cX9_begin 1 (.getfield 14) 3 4 := ⟨by decide +kernel, rfl⟩
theorem a9_begin_4 : At cX9_begin 4 (.invokevirtual 48) 3 7 := ⟨by decide +kernel, rfl⟩
theorem a9_begin_7 : At cX9_begin 7 (.iconst 0) 1 8 := ⟨by decide +kernel, rfl⟩
theorem a9_begin_8 : At cX9_begin 8 (.istore_n 1) 1 9 := ⟨by decide +kernel, rfl⟩
theorem a9_begin_9 : At cX9_begin 9 (.iload_n 1) 1 10 := ⟨by decide +kernel, rfl⟩
theorem a9_begin_10 : At cX9_begin 10 (.bipush 6) 2 12 := ⟨by decide +kernel, rfl⟩
theorem a9_begin_12 : At cX9_begin 12 (.if_icmp .ge 21) 3 15 := ⟨by decide +kernel, rfl⟩
theorem a9_begin_15 : At cX9_begin 15 (.aload_n 0) 1 16 := ⟨by decide +kernel, rfl⟩
theorem a9_begin_16 : At cX9_begin 16 (.getfield 14) 3 19 := ⟨by decide +kernel, rfl⟩
theorem a9_begin_19 : At cX9_begin 19 (.iconst 0) 1 20 := ⟨by decide +kernel, rfl⟩
theorem a9_begin_20 : At cX9_begin 20 (.iconst 0) 1 21 := ⟨by decide +kernel, rfl⟩
theorem a9_begin_21 : At cX9_begin 21 (.iconst 0) 1 22 := ⟨by decide +kernel, rfl⟩
theorem a9_begin_22 : At cX9_begin 22 (.iconst 0) 1 23 := ⟨by decide +kernel, rfl⟩
theorem a9_begin_23 : At cX9_begin 23 (.iconst 0) 1 24 := ⟨by decide +kernel, rfl⟩
theorem a9_begin_24 : At cX9_begin 24 (.invokevirtual 51) 3 27 := ⟨by decide +kernel, rfl⟩
theorem a9_begin_27 : At cX9_begin 27 (.iinc 1 1) 3 30 := ⟨by decide +kernel, rfl⟩
theorem a9_begin_30 : At cX9_begin 30 (.goto (-21)) 3 33 := ⟨by decide +kernel, rfl⟩
theorem a9_begin_33 : At cX9_begin 33 (.aload_n 0) 1 34 := ⟨by decide +kernel, rfl⟩
theorem a9_begin_34 : At cX9_begin 34 (.getfield 20) 3 37 := ⟨by decide +kernel, rfl⟩
theorem a9_begin_37 : At cX9_begin 37 (.invokevirtual 48) 3 40 := ⟨by decide +kernel, rfl⟩
theorem a9_begin_40 : At cX9_begin 40 (.aload_n 0) 1 41 := ⟨by decide +kernel, rfl⟩
theorem a9_begin_41 : At cX9_begin 41 (.getfield 23) 3 44 := ⟨by decide +kernel, rfl⟩
theorem a9_begin_44 : At cX9_begin 44 (.invokevirtual 48) 3 47 := ⟨by decide +kernel, rfl⟩
theorem a9_begin_47 : At cX9_begin 47 (.aload_n 0) 1 48 := ⟨by decide +kernel, rfl⟩
theorem a9_begin_48 : At cX9_begin 48 (.getfield 26) 3 51 := ⟨by decide +kernel, rfl⟩
theorem a9_begin_51 : At cX9_begin 51 (.invokevirtual 48) 3 54 := ⟨by decide +kernel, rfl⟩
theorem a9_begin_54 : At cX9_begin 54 (.aload_n 0) 1 55 := ⟨by decide +kernel, rfl⟩
theorem a9_begin_55 : At cX9_begin 55 (.getfield 29) 3 58 := ⟨by decide +kernel, rfl⟩
theorem a9_begin_58 : At cX9_begin 58 (.invokevirtual 48) 3 61 := ⟨by decide +kernel, rfl⟩
theorem a9_begin_61 : At cX9_begin 61 (.aload_n 0) 1 62 := ⟨by decide +kernel, rfl⟩
theorem a9_begin_62 : At cX9_begin 62 (.getfield 32) 3 65 := ⟨by decide +kernel, rfl⟩
theorem a9_begin_65 : At cX9_begin 65 (.invokevirtual 48) 3 68 := ⟨by decide +kernel, rfl⟩
theorem a9_begin_68 : At cX9_begin 68 (.aload_n 0) 1 69 := ⟨by decide +kernel, rfl⟩
theorem a9_begin_69 : At cX9_begin 69 (.getfield 35) 3 72 := ⟨by decide +kernel, rfl⟩
theorem a9_begin_72 : At cX9_begin 72 (.invokevirtual 48) 3 75 := ⟨by decide +kernel, rfl⟩
theorem a9_begin_75 : At cX9_begin 75 (.aload_n 0) 1 76 := ⟨by decide +kernel, rfl⟩
theorem a9_begin_76 : At cX9_begin 76 (.getfield 41) 3 79 := ⟨by decide +kernel, rfl⟩
theorem a9_begin_79 : At cX9_begin 79 (.iconst 0) 1 80 := ⟨by decide +kernel, rfl⟩
theorem a9_begin_80 : At cX9_begin 80 (.iconst 0) 1 81 := ⟨by decide +kernel, rfl⟩
theorem a9_begin_81 : At cX9_begin 81 (.iconst 0) 1 82 := ⟨by decide +kernel, rfl⟩
theorem a9_begin_82 : At cX9_begin 82 (.iconst 0) 1 83 := ⟨by decide +kernel, rfl⟩
theorem a9_begin_83 : At cX9_begin 83 (.invokevirtual 55) 3 86 := ⟨by decide +kernel, rfl⟩
theorem a9_begin_86 : At cX9_begin 86 (.return_) 1 87 := ⟨by decide +kernel, rfl⟩
def l9_begin_9 (k0 : Nat) : Nat → Int32 → Mem → Option (Int32 × Mem)
  | 0, _, _ => none
  | n + 1, x1, σ =>
  if 6 ≤ x1 then
  (some (x1, σ))
  else
  (bnd (f7_add (7 * k0) 0 0 0 0 0 σ) fun w3 =>
  l9_begin_9 k0 n (x1 + 1) w3)
theorem lE9_begin_9 {V : Option AV} {S : Mem} (k0 : Nat) : ∀ (n : Nat) (x1 : Int32) (σ : Mem) {w : Int32 × Mem}, l9_begin_9 k0 n x1 σ = some w → (Go m9_begin 33 [some (.inr (.inr (9, k0))), some (.inl w.1)] [] w.2 V S) → Go m9_begin 9 [some (.inr (.inr (9, k0))), some (.inl x1)] [] σ V S
  | 0, x1, σ, w, h, K1 => by cases h
  | n + 1, x1, σ, w, h, K1 => by
    rw [l9_begin_9] at h
    refine g_iload_n a9_begin_9 rfl ?_
    refine g_bipush (v := 6) a9_begin_10 rfl ?_
    refine g_icmp_ge (tgt := 33) a9_begin_12 rfl (fun c5 => ?_) (fun c5 => ?_)
    · have h := (if_pos c5).symm.trans h
      have h := Option.some.inj h
      subst h
      exact g_weak K1 ⟨rfl, rfl, trivial⟩
    · have h := (if_neg c5).symm.trans h
      refine g_aload_n a9_begin_15 rfl ?_
      refine g_getf (v := .inr (.inr (7, (7 * k0)))) a9_begin_16 fs9_14 rfl ?_
      refine g_iconst (v := 0) a9_begin_19 rfl ?_
      refine g_iconst (v := 0) a9_begin_20 rfl ?_
      refine g_iconst (v := 0) a9_begin_21 rfl ?_
      refine g_iconst (v := 0) a9_begin_22 rfl ?_
      refine g_iconst (v := 0) a9_begin_23 rfl ?_
      obtain ⟨w3, hw3, h⟩ := bnd_inv h
      refine g_V5n (σ1 := w3) a9_begin_24 cv9_51 (E7_add hw3) rfl (fun o4 => ?_)
      refine g_iinc (v := (x1 + 1)) (L' := [some (.inr (.inr (9, k0))), some (.inl (x1 + 1))]) a9_begin_27 rfl rfl (Nat.le_of_ble_eq_true rfl) rfl rfl ?_
      refine g_goto (tgt := 9) a9_begin_30 rfl ?_
      exact g_weak (lE9_begin_9 (V := V) (S := S)  k0 n _ _ h K1) ⟨rfl, rfl, trivial⟩
def f9_begin (k0 : Nat) (σ : Mem) : Option (Mem) :=
  lt (f7_empty (7 * k0) σ) fun w1 =>
  bnd (l9_begin_9 k0 2000 0 w1) fun w6 =>
  lt (f7_empty (7 * k0 + 1) w6.2) fun w7 =>
  lt (f7_empty (7 * k0 + 2) w7) fun w9 =>
  lt (f7_empty (7 * k0 + 3) w9) fun w11 =>
  lt (f7_empty (7 * k0 + 4) w11) fun w13 =>
  lt (f7_empty (7 * k0 + 5) w13) fun w15 =>
  lt (f7_empty (7 * k0 + 6) w15) fun w17 =>
  lt (f4_set k0 0 0 0 0 w17) fun w19 =>
  some w19
theorem E9_begin {k0 : Nat} {σ : Mem} {w : Mem} (h : f9_begin k0 σ = some w) : Ev m9_begin [.inr (.inr (9, k0))] σ none w := by
  unfold f9_begin at h
  show Go m9_begin 0 [some (.inr (.inr (9, k0))), none] [] σ none w
  refine g_aload_n a9_begin_0 rfl ?_
  refine g_getf (v := .inr (.inr (7, (7 * k0)))) a9_begin_1 fs9_14 rfl ?_
  obtain ⟨w1, hw1, h⟩ := lt_inv h
  refine g_V0n (σ1 := w1) a9_begin_4 cv9_48 (by rw [← hw1]; exact E7_empty _ _) rfl (fun o2 => ?_)
  refine g_iconst (v := 0) a9_begin_7 rfl ?_
  refine g_istore_n (L' := [some (.inr (.inr (9, k0))), some (.inl 0)]) a9_begin_8 (Nat.le_of_ble_eq_true rfl) rfl rfl ?_
  obtain ⟨w6, hw6, h⟩ := bnd_inv h
  refine g_weak (lE9_begin_9 k0 2000 _ _ hw6 ?_) ⟨rfl, rfl, trivial⟩
  refine g_aload_n a9_begin_33 rfl ?_
  refine g_getf (v := .inr (.inr (7, (7 * k0 + 1)))) a9_begin_34 fs9_20 rfl ?_
  obtain ⟨w7, hw7, h⟩ := lt_inv h
  refine g_V0n (σ1 := w7) a9_begin_37 cv9_48 (by rw [← hw7]; exact E7_empty _ _) rfl (fun o8 => ?_)
  refine g_aload_n a9_begin_40 rfl ?_
  refine g_getf (v := .inr (.inr (7, (7 * k0 + 2)))) a9_begin_41 fs9_23 rfl ?_
  obtain ⟨w9, hw9, h⟩ := lt_inv h
  refine g_V0n (σ1 := w9) a9_begin_44 cv9_48 (by rw [← hw9]; exact E7_empty _ _) rfl (fun o10 => ?_)
  refine g_aload_n a9_begin_47 rfl ?_
  refine g_getf (v := .inr (.inr (7, (7 * k0 + 3)))) a9_begin_48 fs9_26 rfl ?_
  obtain ⟨w11, hw11, h⟩ := lt_inv h
  refine g_V0n (σ1 := w11) a9_begin_51 cv9_48 (by rw [← hw11]; exact E7_empty _ _) rfl (fun o12 => ?_)
  refine g_aload_n a9_begin_54 rfl ?_
  refine g_getf (v := .inr (.inr (7, (7 * k0 + 4)))) a9_begin_55 fs9_29 rfl ?_
  obtain ⟨w13, hw13, h⟩ := lt_inv h
  refine g_V0n (σ1 := w13) a9_begin_58 cv9_48 (by rw [← hw13]; exact E7_empty _ _) rfl (fun o14 => ?_)
  refine g_aload_n a9_begin_61 rfl ?_
  refine g_getf (v := .inr (.inr (7, (7 * k0 + 5)))) a9_begin_62 fs9_32 rfl ?_
  obtain ⟨w15, hw15, h⟩ := lt_inv h
  refine g_V0n (σ1 := w15) a9_begin_65 cv9_48 (by rw [← hw15]; exact E7_empty _ _) rfl (fun o16 => ?_)
  refine g_aload_n a9_begin_68 rfl ?_
  refine g_getf (v := .inr (.inr (7, (7 * k0 + 6)))) a9_begin_69 fs9_35 rfl ?_
  obtain ⟨w17, hw17, h⟩ := lt_inv h
  refine g_V0n (σ1 := w17) a9_begin_72 cv9_48 (by rw [← hw17]; exact E7_empty _ _) rfl (fun o18 => ?_)
  refine g_aload_n a9_begin_75 rfl ?_
  refine g_getf (v := .inr (.inr (4, k0))) a9_begin_76 fs9_41 rfl ?_
  refine g_iconst (v := 0) a9_begin_79 rfl ?_
  refine g_iconst (v := 0) a9_begin_80 rfl ?_
  refine g_iconst (v := 0) a9_begin_81 rfl ?_
  refine g_iconst (v := 0) a9_begin_82 rfl ?_
  obtain ⟨w19, hw19, h⟩ := lt_inv h
  refine g_V4n (σ1 := w19) a9_begin_83 cv9_55 (by rw [← hw19]; exact E4_set _ _ _ _ _ _) rfl (fun o20 => ?_)
  have h := Option.some.inj h
  subst h
  exact g_retE a9_begin_86 trivial rfl rfl
theorem a7_size_0 : At cX7_size 0 (.aload_n 0) 1 1 := ⟨by decide +kernel, rfl⟩
theorem a7_size_1 : At cX7_size 1 (.getfield 26) 3 4 := ⟨by decide +kernel, rfl⟩
theorem a7_size_4 : At cX7_size 4 (.ireturn) 1 5 := ⟨by decide +kernel, rfl⟩
def f7_size (k0 : Nat) (σ : Mem) : Int32 :=
  (σ.1 7 k0 3)
theorem E7_size (k0 : Nat) (σ : Mem) : Ev m7_size [.inr (.inr (7, k0))] σ (some (.inl (f7_size k0 σ)) : Option AV) σ := by
  obtain ⟨w, h⟩ : ∃ w, f7_size k0 σ = w := ⟨_, rfl⟩
  rw [h]
  unfold f7_size at h
  show Go m7_size 0 [some (.inr (.inr (7, k0)))] [] σ (some (.inl w) : Option AV) σ
  refine g_aload_n a7_size_0 rfl ?_
  refine g_getf (v := .inl (σ.1 7 k0 3)) a7_size_1 fs7_26 rfl ?_
  subst h
  exact g_retE a7_size_4 trivial rfl rfl
theorem a10_village_0 : At cX10_village 0 (.aload_n 0) 1 1 := ⟨by decide +kernel, rfl⟩
theorem a10_village_1 : At cX10_village 1 (.getfield 10) 3 4 := ⟨by decide +kernel, rfl⟩
theorem a10_village_4 : At cX10_village 4 (.getfield 76) 3 7 := ⟨by decide +kernel, rfl⟩
theorem a10_village_7 : At cX10_village 7 (.invokevirtual 80) 3 10 := ⟨by decide +kernel, rfl⟩
theorem a10_village_10 : At cX10_village 10 (.istore_n 1) 1 11 := ⟨by decide +kernel, rfl⟩
theorem a10_village_11 : At cX10_village 11 (.aload_n 0) 1 12 := ⟨by decide +kernel, rfl⟩
theorem a10_village_12 : At cX10_village 12 (.getfield 10) 3 15 := ⟨by decide +kernel, rfl⟩
theorem a10_village_15 : At cX10_village 15 (.invokevirtual 86) 3 18 := ⟨by decide +kernel, rfl⟩
theorem a10_village_18 : At cX10_village 18 (.iload_n 1) 1 19 := ⟨by decide +kernel, rfl⟩
theorem a10_village_19 : At cX10_village 19 (.ireturn) 1 20 := ⟨by decide +kernel, rfl⟩
def f10_village (k0 : Nat) (σ : Mem) : Option (Int32 × Mem) :=
  bnd (f9_begin 0 σ) fun w2 =>
  some ((f7_size 1 σ), w2)
theorem E10_village {k0 : Nat} {σ : Mem} {w : Int32 × Mem} (h : f10_village k0 σ = some w) : Ev m10_village [.inr (.inr (10, k0))] σ (some (.inl w.1) : Option AV) w.2 := by
  unfold f10_village at h
  show Go m10_village 0 [some (.inr (.inr (10, k0))), none] [] σ (some (.inl w.1) : Option AV) w.2
  refine g_aload_n a10_village_0 rfl ?_
  refine g_getf (v := .inr (.inr (9, 0))) a10_village_1 fs10_10 rfl ?_
  refine g_getf (v := .inr (.inr (7, 1))) a10_village_4 fs10_76 rfl ?_
  refine g_V0s (v1 := .inl (f7_size 1 σ)) (σ1 := σ) a10_village_7 cv10_80 (E7_size _ _) rfl (fun o1 => ?_)
  refine g_istore_n (L' := [some (.inr (.inr (10, k0))), some (.inl (f7_size 1 σ))]) a10_village_10 (Nat.le_of_ble_eq_true rfl) rfl rfl ?_
  refine g_aload_n a10_village_11 rfl ?_
  refine g_getf (v := .inr (.inr (9, 0))) a10_village_12 fs10_10 rfl ?_
  obtain ⟨w2, hw2, h⟩ := bnd_inv h
  refine g_V0n (σ1 := w2) a10_village_15 cv10_86 (E9_begin hw2) rfl (fun o3 => ?_)
  refine g_iload_n a10_village_18 rfl ?_
  have h := Option.some.inj h
  subst h
  exact g_retE a10_village_19 trivial rfl rfl
theorem a10_within_0 : At cX10_within 0 (.iload_n 0) 1 1 := ⟨by decide +kernel, rfl⟩
theorem a10_within_1 : At cX10_within 1 (.iload_n 1) 1 2 := ⟨by decide +kernel, rfl⟩
theorem a10_within_2 : At cX10_within 2 (.if_icmp .lt 12) 3 5 := ⟨by decide +kernel, rfl⟩
theorem a10_within_5 : At cX10_within 5 (.iload_n 0) 1 6 := ⟨by decide +kernel, rfl⟩
theorem a10_within_6 : At cX10_within 6 (.iload_n 2) 1 7 := ⟨by decide +kernel, rfl⟩
theorem a10_within_7 : At cX10_within 7 (.if_icmp .gt 7) 3 10 := ⟨by decide +kernel, rfl⟩
theorem a10_within_10 : At cX10_within 10 (.iconst 1) 1 11 := ⟨by decide +kernel, rfl⟩
theorem a10_within_11 : At cX10_within 11 (.goto 4) 3 14 := ⟨by decide +kernel, rfl⟩
theorem a10_within_14 : At cX10_within 14 (.iconst 0) 1 15 := ⟨by decide +kernel, rfl⟩
theorem a10_within_15 : At cX10_within 15 (.ireturn) 1 16 := ⟨by decide +kernel, rfl⟩
def f10_within (x0 : Int32) (x1 : Int32) (x2 : Int32) : Int32 :=
  if x0 < x1 then
  (0)
  else
  (if x2 < x0 then
  (0)
  else
  (1))
theorem E10_within (x0 : Int32) (x1 : Int32) (x2 : Int32) (σ : Mem) : Ev m10_within [.inl x0, .inl x1, .inl x2] σ (some (.inl (f10_within x0 x1 x2)) : Option AV) σ := by
  obtain ⟨w, h⟩ : ∃ w, f10_within x0 x1 x2 = w := ⟨_, rfl⟩
  rw [h]
  unfold f10_within at h
  show Go m10_within 0 [some (.inl x0), some (.inl x1), some (.inl x2)] [] σ (some (.inl w) : Option AV) σ
  refine g_iload_n a10_within_0 rfl ?_
  refine g_iload_n a10_within_1 rfl ?_
  refine g_icmp_lt (tgt := 14) a10_within_2 rfl (fun c2 => ?_) (fun c2 => ?_)
  · have h := (if_pos c2).symm.trans h
    refine g_iconst (v := 0) a10_within_14 rfl ?_
    subst h
    exact g_retE a10_within_15 (Or.inl rfl) rfl rfl
  · have h := (if_neg c2).symm.trans h
    refine g_iload_n a10_within_5 rfl ?_
    refine g_iload_n a10_within_6 rfl ?_
    refine g_icmp_gt (tgt := 14) a10_within_7 rfl (fun c1 => ?_) (fun c1 => ?_)
    · have h := (if_pos c1).symm.trans h
      refine g_iconst (v := 0) a10_within_14 rfl ?_
      subst h
      exact g_retE a10_within_15 (Or.inl rfl) rfl rfl
    · have h := (if_neg c1).symm.trans h
      refine g_iconst (v := 1) a10_within_10 rfl ?_
      refine g_goto (tgt := 15) a10_within_11 rfl ?_
      subst h
      exact g_retE a10_within_15 (Or.inr rfl) rfl rfl
theorem a10_isStorm_0 : At cX10_isStorm 0 (.iload_n 0) 1 1 := ⟨by decide +kernel, rfl⟩
theorem a10_isStorm_1 : At cX10_isStorm 1 (.iconst 0) 1 2 := ⟨by decide +kernel, rfl⟩
theorem a10_isStorm_2 : At cX10_isStorm 2 (.iconst 5) 1 3 := ⟨by decide +kernel, rfl⟩
theorem a10_isStorm_3 : At cX10_isStorm 3 (.invokestatic 96) 3 6 := ⟨by decide +kernel, rfl⟩
theorem a10_isStorm_6 : At cX10_isStorm 6 (.ireturn) 1 7 := ⟨by decide +kernel, rfl⟩
def f10_isStorm (x0 : Int32) : Int32 :=
  (f10_within x0 0 5)
theorem E10_isStorm (x0 : Int32) (σ : Mem) : Ev m10_isStorm [.inl x0] σ (some (.inl (f10_isStorm x0)) : Option AV) σ := by
  obtain ⟨w, h⟩ : ∃ w, f10_isStorm x0 = w := ⟨_, rfl⟩
  rw [h]
  unfold f10_isStorm at h
  show Go m10_isStorm 0 [some (.inl x0)] [] σ (some (.inl w) : Option AV) σ
  refine g_iload_n a10_isStorm_0 rfl ?_
  refine g_iconst (v := 0) a10_isStorm_1 rfl ?_
  refine g_iconst (v := 5) a10_isStorm_2 rfl ?_
  refine g_S3s (v1 := .inl (f10_within x0 0 5)) (σ1 := σ) a10_isStorm_3 cs10_96 (E10_within _ _ _ _) rfl (fun o1 => ?_)
  subst h
  exact g_retE a10_isStorm_6 o1 rfl rfl
theorem a10_isCell_0 : At cX10_isCell 0 (.iload_n 0) 1 1 := ⟨by decide +kernel, rfl⟩
theorem a10_isCell_1 : At cX10_isCell 1 (.iconst 0) 1 2 := ⟨by decide +kernel, rfl⟩
theorem a10_isCell_2 : At cX10_isCell 2 (.bipush 11) 2 4 := ⟨by decide +kernel, rfl⟩
theorem a10_isCell_4 : At cX10_isCell 4 (.invokestatic 96) 3 7 := ⟨by decide +kernel, rfl⟩
theorem a10_isCell_7 : At cX10_isCell 7 (.ireturn) 1 8 := ⟨by decide +kernel, rfl⟩
def f10_isCell (x0 : Int32) : Int32 :=
  (f10_within x0 0 11)
theorem E10_isCell (x0 : Int32) (σ : Mem) : Ev m10_isCell [.inl x0] σ (some (.inl (f10_isCell x0)) : Option AV) σ := by
  obtain ⟨w, h⟩ : ∃ w, f10_isCell x0 = w := ⟨_, rfl⟩
  rw [h]
  unfold f10_isCell at h
  show Go m10_isCell 0 [some (.inl x0)] [] σ (some (.inl w) : Option AV) σ
  refine g_iload_n a10_isCell_0 rfl ?_
  refine g_iconst (v := 0) a10_isCell_1 rfl ?_
  refine g_bipush (v := 11) a10_isCell_2 rfl ?_
  refine g_S3s (v1 := .inl (f10_within x0 0 11)) (σ1 := σ) a10_isCell_4 cs10_96 (E10_within _ _ _ _) rfl (fun o1 => ?_)
  subst h
  exact g_retE a10_isCell_7 o1 rfl rfl
theorem a10_refuseBad_0 : At cX10_refuseBad 0 (.aload_n 0) 1 1 := ⟨by decide +kernel, rfl⟩
theorem a10_refuseBad_1 : At cX10_refuseBad 1 (.dup) 1 2 := ⟨by decide +kernel, rfl⟩
theorem a10_refuseBad_2 : At cX10_refuseBad 2 (.getfield 337) 3 5 := ⟨by decide +kernel, rfl⟩
theorem a10_refuseBad_5 : At cX10_refuseBad 5 (.iconst 1) 1 6 := ⟨by decide +kernel, rfl⟩
theorem a10_refuseBad_6 : At cX10_refuseBad 6 (.iadd) 1 7 := ⟨by decide +kernel, rfl⟩
theorem a10_refuseBad_7 : At cX10_refuseBad 7 (.putfield 337) 3 10 := ⟨by decide +kernel, rfl⟩
theorem a10_refuseBad_10 : At cX10_refuseBad 10 (.bipush (-2)) 2 12 := ⟨by decide +kernel, rfl⟩
theorem a10_refuseBad_12 : At cX10_refuseBad 12 (.ireturn) 1 13 := ⟨by decide +kernel, rfl⟩
def f10_refuseBad (k0 : Nat) (σ : Mem) : Int32 × Mem :=
  lt (sI σ 10 k0 13 ((σ.1 10 k0 13) + 1)) fun σ1 =>
  ((-2), σ1)
theorem E10_refuseBad (k0 : Nat) (σ : Mem) : Ev m10_refuseBad [.inr (.inr (10, k0))] σ (some (.inl ((f10_refuseBad k0 σ).1)) : Option AV) (f10_refuseBad k0 σ).2 := by
  obtain ⟨w, h⟩ : ∃ w, f10_refuseBad k0 σ = w := ⟨_, rfl⟩
  rw [h]
  unfold f10_refuseBad at h
  show Go m10_refuseBad 0 [some (.inr (.inr (10, k0)))] [] σ (some (.inl w.1) : Option AV) w.2
  refine g_aload_n a10_refuseBad_0 rfl ?_
  refine g_dup a10_refuseBad_1 (fun _ => rfl) ?_
  refine g_getf (v := .inl (σ.1 10 k0 13)) a10_refuseBad_2 fs10_337 rfl ?_
  refine g_iconst (v := 1) a10_refuseBad_5 rfl ?_
  refine g_iadd a10_refuseBad_6 ?_
  obtain ⟨σ1, eσ1, h⟩ := lt_inv h
  refine g_puti a10_refuseBad_7 fs10_337 ps10_13 (fun _ _ _ => rfl) ?_
  rw [eσ1]
  refine g_bipush (v := (-2)) a10_refuseBad_10 rfl ?_
  subst h
  exact g_retE a10_refuseBad_12 trivial rfl rfl
theorem a7_at_0 : At cX7_at 0 (.iload_n 1) 1 1 := ⟨by decide +kernel, rfl⟩
theorem a7_at_1 : At cX7_at 1 (.aload_n 0) 1 2 := ⟨by decide +kernel, rfl⟩
theorem a7_at_2 : At cX7_at 2 (.getfield 13) 3 5 := ⟨by decide +kernel, rfl⟩
theorem a7_at_5 : At cX7_at 5 (.imul) 1 6 := ⟨by decide +kernel, rfl⟩
theorem a7_at_6 : At cX7_at 6 (.iload_n 2) 1 7 := ⟨by decide +kernel, rfl⟩
theorem a7_at_7 : At cX7_at 7 (.iadd) 1 8 := ⟨by decide +kernel, rfl⟩
theorem a7_at_8 : At cX7_at 8 (.istore_n 3) 1 9 := ⟨by decide +kernel, rfl⟩
theorem a7_at_9 : At cX7_at 9 (.iload_n 1) 1 10 := ⟨by decide +kernel, rfl⟩
theorem a7_at_10 : At cX7_at 10 (.ifCond .lt 27) 3 13 := ⟨by decide +kernel, rfl⟩
theorem a7_at_13 : At cX7_at 13 (.iload_n 1) 1 14 := ⟨by decide +kernel, rfl⟩
theorem a7_at_14 : At cX7_at 14 (.aload_n 0) 1 15 := ⟨by decide +kernel, rfl⟩
theorem a7_at_15 : At cX7_at 15 (.getfield 26) 3 18 := ⟨by decide +kernel, rfl⟩
theorem a7_at_18 : At cX7_at 18 (.if_icmp .ge 19) 3 21 := ⟨by decide +kernel, rfl⟩
theorem a7_at_21 : At cX7_at 21 (.iload_n 2) 1 22 := ⟨by decide +kernel, rfl⟩
theorem a7_at_22 : At cX7_at 22 (.ifCond .lt 15) 3 25 := ⟨by decide +kernel, rfl⟩
theorem a7_at_25 : At cX7_at 25 (.iload_n 2) 1 26 := ⟨by decide +kernel, rfl⟩
theorem a7_at_26 : At cX7_at 26 (.aload_n 0) 1 27 := ⟨by decide +kernel, rfl⟩
theorem a7_at_27 : At cX7_at 27 (.getfield 13) 3 30 := ⟨by decide +kernel, rfl⟩
theorem a7_at_30 : At cX7_at 30 (.if_icmp .ge 7) 3 33 := ⟨by decide +kernel, rfl⟩
theorem a7_at_33 : At cX7_at 33 (.iconst 1) 1 34 := ⟨by decide +kernel, rfl⟩
theorem a7_at_34 : At cX7_at 34 (.goto 4) 3 37 := ⟨by decide +kernel, rfl⟩
theorem a7_at_37 : At cX7_at 37 (.iconst 0) 1 38 := ⟨by decide +kernel, rfl⟩
theorem a7_at_38 : At cX7_at 38 (.istore 4) 2 40 := ⟨by decide +kernel, rfl⟩
theorem a7_at_40 : At cX7_at 40 (.iload 4) 2 42 := ⟨by decide +kernel, rfl⟩
theorem a7_at_42 : At cX7_at 42 (.ifCond .eq 25) 3 45 := ⟨by decide +kernel, rfl⟩
theorem a7_at_45 : At cX7_at 45 (.iload_n 3) 1 46 := ⟨by decide +kernel, rfl⟩
theorem a7_at_46 : At cX7_at 46 (.ifCond .lt 21) 3 49 := ⟨by decide +kernel, rfl⟩
theorem a7_at_49 : At cX7_at 49 (.iload_n 3) 1 50 := ⟨by decide +kernel, rfl⟩
theorem a7_at_50 : At cX7_at 50 (.aload_n 0) 1 51 := ⟨by decide +kernel, rfl⟩
theorem a7_at_51 : At cX7_at 51 (.getfield 22) 3 54 := ⟨by decide +kernel, rfl⟩
theorem a7_at_54 : At cX7_at 54 (.arraylength) 1 55 := ⟨by decide +kernel, rfl⟩
theorem a7_at_55 : At cX7_at 55 (.if_icmp .ge 12) 3 58 := ⟨by decide +kernel, rfl⟩
theorem a7_at_58 : At cX7_at 58 (.aload_n 0) 1 59 := ⟨by decide +kernel, rfl⟩
theorem a7_at_59 : At cX7_at 59 (.getfield 22) 3 62 := ⟨by decide +kernel, rfl⟩
theorem a7_at_62 : At cX7_at 62 (.iload_n 3) 1 63 := ⟨by decide +kernel, rfl⟩
theorem a7_at_63 : At cX7_at 63 (.iaload) 1 64 := ⟨by decide +kernel, rfl⟩
theorem a7_at_64 : At cX7_at 64 (.goto 4) 3 67 := ⟨by decide +kernel, rfl⟩
theorem a7_at_67 : At cX7_at 67 (.iconst 0) 1 68 := ⟨by decide +kernel, rfl⟩
theorem a7_at_68 : At cX7_at 68 (.ireturn) 1 69 := ⟨by decide +kernel, rfl⟩
def f7_at (k0 : Nat) (x1 : Int32) (x2 : Int32) (σ : Mem) : Option (Int32) :=
  lt (if x1 < 0 then
  (0)
  else
  (if (σ.1 7 k0 3) ≤ x1 then
  (0)
  else
  (if x2 < 0 then
  (0)
  else
  (if (σ.1 7 k0 1) ≤ x2 then
  (0)
  else
  (1)))) : Int32) fun w1 =>
  if w1 = 0 then
  (some 0)
  else
  (if ((x1 * (σ.1 7 k0 1)) + x2) < 0 then
  (some 0)
  else
  (if (Int32.ofNat (alen 20 k0)) ≤ ((x1 * (σ.1 7 k0 1)) + x2) then
  (some 0)
  else
  (ck (inb ((x1 * (σ.1 7 k0 1)) + x2) (alen 20 k0)) <|
  some (σ.1 20 k0 (((x1 * (σ.1 7 k0 1)) + x2) : Int32).toNatClampNeg))))
theorem E7_at {k0 : Nat} {x1 : Int32} {x2 : Int32} {σ : Mem} {w : Int32} (h : f7_at k0 x1 x2 σ = some w) : Ev m7_at [.inr (.inr (7, k0)), .inl x1, .inl x2] σ (some (.inl w) : Option AV) σ := by
  unfold f7_at at h
  show Go m7_at 0 [some (.inr (.inr (7, k0))), some (.inl x1), some (.inl x2), none, none] [] σ (some (.inl w) : Option AV) σ
  refine g_iload_n a7_at_0 rfl ?_
  refine g_aload_n a7_at_1 rfl ?_
  refine g_getf (v := .inl (σ.1 7 k0 1)) a7_at_2 fs7_13 rfl ?_
  refine g_imul a7_at_5 ?_
  refine g_iload_n a7_at_6 rfl ?_
  refine g_iadd a7_at_7 ?_
  refine g_istore_n (L' := [some (.inr (.inr (7, k0))), some (.inl x1), some (.inl x2), some (.inl ((x1 * (σ.1 7 k0 1)) + x2)), none]) a7_at_8 (Nat.le_of_ble_eq_true rfl) rfl rfl ?_
  refine g_iload_n a7_at_9 rfl ?_
  obtain ⟨w1, hw1, h⟩ := lt_inv h
  have b7 : w1 = 0 ∨ w1 = 1 := by rw [← hw1]; repeat (first | exact Or.inl rfl | exact Or.inr rfl | split)
  have J2 : Go m7_at 38 [some (.inr (.inr (7, k0))), none, none, some (.inl ((x1 * (σ.1 7 k0 1)) + x2)), none] [.inl w1] σ (some (.inl w) : Option AV) σ := by
    refine g_istore (L' := [some (.inr (.inr (7, k0))), none, none, some (.inl ((x1 * (σ.1 7 k0 1)) + x2)), some (.inl w1)]) a7_at_38 (Nat.le_of_ble_eq_true rfl) rfl rfl ?_
    refine g_iload a7_at_40 rfl ?_
    refine g_if_eq (tgt := 67) a7_at_42 rfl (fun c11 => ?_) (fun c11 => ?_)
    · have h := (if_pos c11).symm.trans h
      refine g_iconst (v := 0) a7_at_67 rfl ?_
      have h := Option.some.inj h
      subst h
      exact g_retE a7_at_68 trivial rfl rfl
    · have h := (if_neg c11).symm.trans h
      refine g_iload_n a7_at_45 rfl ?_
      refine g_if_lt (tgt := 67) a7_at_46 rfl (fun c10 => ?_) (fun c10 => ?_)
      · have h := (if_pos c10).symm.trans h
        refine g_iconst (v := 0) a7_at_67 rfl ?_
        have h := Option.some.inj h
        subst h
        exact g_retE a7_at_68 trivial rfl rfl
      · have h := (if_neg c10).symm.trans h
        refine g_iload_n a7_at_49 rfl ?_
        refine g_aload_n a7_at_50 rfl ?_
        refine g_getf (v := .inr (.inr (20, k0))) a7_at_51 fs7_22 rfl ?_
        refine g_alen (x := (Int32.ofNat (alen 20 k0))) a7_at_54 (rI20 _) rfl ?_
        refine g_icmp_ge (tgt := 67) a7_at_55 rfl (fun c9 => ?_) (fun c9 => ?_)
        · have h := (if_pos c9).symm.trans h
          refine g_iconst (v := 0) a7_at_67 rfl ?_
          have h := Option.some.inj h
          subst h
          exact g_retE a7_at_68 trivial rfl rfl
        · have h := (if_neg c9).symm.trans h
          refine g_aload_n a7_at_58 rfl ?_
          refine g_getf (v := .inr (.inr (20, k0))) a7_at_59 fs7_22 rfl ?_
          refine g_iload_n a7_at_62 rfl ?_
          obtain ⟨q8, h⟩ := ck_inv h
          refine g_iald (x := (σ.1 20 k0 (((x1 * (σ.1 7 k0 1)) + x2) : Int32).toNatClampNeg)) a7_at_63 (rI20 _) (inb_ok q8) rfl ?_
          refine g_goto (tgt := 68) a7_at_64 rfl ?_
          have h := Option.some.inj h
          subst h
          exact g_retE a7_at_68 trivial rfl rfl
  clear h
  refine g_if_lt (tgt := 37) a7_at_10 rfl (fun c6 => ?_) (fun c6 => ?_)
  · have hw1 := (if_pos c6).symm.trans hw1
    refine g_iconst (v := 0) a7_at_37 rfl ?_
    subst hw1
    exact g_weak J2 ⟨rfl, rfl, trivial⟩
  · have hw1 := (if_neg c6).symm.trans hw1
    refine g_iload_n a7_at_13 rfl ?_
    refine g_aload_n a7_at_14 rfl ?_
    refine g_getf (v := .inl (σ.1 7 k0 3)) a7_at_15 fs7_26 rfl ?_
    refine g_icmp_ge (tgt := 37) a7_at_18 rfl (fun c5 => ?_) (fun c5 => ?_)
    · have hw1 := (if_pos c5).symm.trans hw1
      refine g_iconst (v := 0) a7_at_37 rfl ?_
      subst hw1
      exact g_weak J2 ⟨rfl, rfl, trivial⟩
    · have hw1 := (if_neg c5).symm.trans hw1
      refine g_iload_n a7_at_21 rfl ?_
      refine g_if_lt (tgt := 37) a7_at_22 rfl (fun c4 => ?_) (fun c4 => ?_)
      · have hw1 := (if_pos c4).symm.trans hw1
        refine g_iconst (v := 0) a7_at_37 rfl ?_
        subst hw1
        exact g_weak J2 ⟨rfl, rfl, trivial⟩
      · have hw1 := (if_neg c4).symm.trans hw1
        refine g_iload_n a7_at_25 rfl ?_
        refine g_aload_n a7_at_26 rfl ?_
        refine g_getf (v := .inl (σ.1 7 k0 1)) a7_at_27 fs7_13 rfl ?_
        refine g_icmp_ge (tgt := 37) a7_at_30 rfl (fun c3 => ?_) (fun c3 => ?_)
        · have hw1 := (if_pos c3).symm.trans hw1
          refine g_iconst (v := 0) a7_at_37 rfl ?_
          subst hw1
          exact g_weak J2 ⟨rfl, rfl, trivial⟩
        · have hw1 := (if_neg c3).symm.trans hw1
          refine g_iconst (v := 1) a7_at_33 rfl ?_
          refine g_goto (tgt := 38) a7_at_34 rfl ?_
          subst hw1
          exact g_weak J2 ⟨rfl, rfl, trivial⟩
theorem a9_tellStorm_0 : At cX9_tellStorm 0 (.aload_n 0) 1 1 := ⟨by decide +kernel, rfl⟩
theorem a9_tellStorm_1 : At cX9_tellStorm 1 (.getfield 14) 3 4 := ⟨by decide +kernel, rfl⟩
theorem a9_tellStorm_4 : At cX9_tellStorm 4 (.iload_n 1) 1 5 := ⟨by decide +kernel, rfl⟩
theorem a9_tellStorm_5 : At cX9_tellStorm 5 (.iconst 0) 1 6 := ⟨by decide +kernel, rfl⟩
theorem a9_tellStorm_6 : At cX9_tellStorm 6 (.iload_n 2) 1 7 := ⟨by decide +kernel, rfl⟩
theorem a9_tellStorm_7 : At cX9_tellStorm 7 (.invokevirtual 66) 3 10 := ⟨by decide +kernel, rfl⟩
theorem a9_tellStorm_10 : At cX9_tellStorm 10 (.aload_n 0) 1 11 := ⟨by decide +kernel, rfl⟩
theorem a9_tellStorm_11 : At cX9_tellStorm 11 (.getfield 14) 3 14 := ⟨by decide +kernel, rfl⟩
theorem a9_tellStorm_14 : At cX9_tellStorm 14 (.iload_n 1) 1 15 := ⟨by decide +kernel, rfl⟩
theorem a9_tellStorm_15 : At cX9_tellStorm 15 (.iconst 1) 1 16 := ⟨by decide +kernel, rfl⟩
theorem a9_tellStorm_16 : At cX9_tellStorm 16 (.iload_n 3) 1 17 := ⟨by decide +kernel, rfl⟩
theorem a9_tellStorm_17 : At cX9_tellStorm 17 (.invokevirtual 66) 3 20 := ⟨by decide +kernel, rfl⟩
theorem a9_tellStorm_20 : At cX9_tellStorm 20 (.aload_n 0) 1 21 := ⟨by decide +kernel, rfl⟩
theorem a9_tellStorm_21 : At cX9_tellStorm 21 (.getfield 35) 3 24 := ⟨by decide +kernel, rfl⟩
theorem a9_tellStorm_24 : At cX9_tellStorm 24 (.invokevirtual 48) 3 27 := ⟨by decide +kernel, rfl⟩
theorem a9_tellStorm_27 : At cX9_tellStorm 27 (.return_) 1 28 := ⟨by decide +kernel, rfl⟩
def f9_tellStorm (k0 : Nat) (x1 : Int32) (x2 : Int32) (x3 : Int32) (σ : Mem) : Option (Mem) :=
  bnd (f7_put (7 * k0) x1 0 x2 σ) fun w1 =>
  bnd (f7_put (7 * k0) x1 1 x3 w1) fun w3 =>
  lt (f7_empty (7 * k0 + 6) w3) fun w5 =>
  some w5
theorem E9_tellStorm {k0 : Nat} {x1 : Int32} {x2 : Int32} {x3 : Int32} {σ : Mem} {w : Mem} (h : f9_tellStorm k0 x1 x2 x3 σ = some w) : Ev m9_tellStorm [.inr (.inr (9, k0)), .inl x1, .inl x2, .inl x3] σ none w := by
  unfold f9_tellStorm at h
  show Go m9_tellStorm 0 [some (.inr (.inr (9, k0))), some (.inl x1), some (.inl x2), some (.inl x3)] [] σ none w
  refine g_aload_n a9_tellStorm_0 rfl ?_
  refine g_getf (v := .inr (.inr (7, (7 * k0)))) a9_tellStorm_1 fs9_14 rfl ?_
  refine g_iload_n a9_tellStorm_4 rfl ?_
  refine g_iconst (v := 0) a9_tellStorm_5 rfl ?_
  refine g_iload_n a9_tellStorm_6 rfl ?_
  obtain ⟨w1, hw1, h⟩ := bnd_inv h
  refine g_V3n (σ1 := w1) a9_tellStorm_7 cv9_66 (E7_put hw1) rfl (fun o2 => ?_)
  refine g_aload_n a9_tellStorm_10 rfl ?_
  refine g_getf (v := .inr (.inr (7, (7 * k0)))) a9_tellStorm_11 fs9_14 rfl ?_
  refine g_iload_n a9_tellStorm_14 rfl ?_
  refine g_iconst (v := 1) a9_tellStorm_15 rfl ?_
  refine g_iload_n a9_tellStorm_16 rfl ?_
  obtain ⟨w3, hw3, h⟩ := bnd_inv h
  refine g_V3n (σ1 := w3) a9_tellStorm_17 cv9_66 (E7_put hw3) rfl (fun o4 => ?_)
  refine g_aload_n a9_tellStorm_20 rfl ?_
  refine g_getf (v := .inr (.inr (7, (7 * k0 + 6)))) a9_tellStorm_21 fs9_35 rfl ?_
  obtain ⟨w5, hw5, h⟩ := lt_inv h
  refine g_V0n (σ1 := w5) a9_tellStorm_24 cv9_48 (by rw [← hw5]; exact E7_empty _ _) rfl (fun o6 => ?_)
  have h := Option.some.inj h
  subst h
  exact g_retE a9_tellStorm_27 trivial rfl rfl
theorem a10_storm_0 : At cX10_storm 0 (.iload_n 1) 1 1 := ⟨by decide +kernel, rfl⟩
theorem a10_storm_1 : At cX10_storm 1 (.invokestatic 89) 3 4 := ⟨by decide +kernel, rfl⟩
theorem a10_storm_4 : At cX10_storm 4 (.ifCond .eq 20) 3 7 := ⟨by decide +kernel, rfl⟩
theorem a10_storm_7 : At cX10_storm 7 (.iload_n 2) 1 8 := ⟨by decide +kernel, rfl⟩
theorem a10_storm_8 : At cX10_storm 8 (.invokestatic 93) 3 11 := ⟨by decide +kernel, rfl⟩
theorem a10_storm_11 : At cX10_storm 11 (.ifCond .eq 13) 3 14 := ⟨by decide +kernel, rfl⟩
theorem a10_storm_14 : At cX10_storm 14 (.iload_n 3) 1 15 := ⟨by decide +kernel, rfl⟩
theorem a10_storm_15 : At cX10_storm 15 (.iconst 0) 1 16 := ⟨by decide +kernel, rfl⟩
theorem a10_storm_16 : At cX10_storm 16 (.bipush 9) 2 18 := ⟨by decide +kernel, rfl⟩
theorem a10_storm_18 : At cX10_storm 18 (.invokestatic 96) 3 21 := ⟨by decide +kernel, rfl⟩
theorem a10_storm_21 : At cX10_storm 21 (.ifCond .ne 8) 3 24 := ⟨by decide +kernel, rfl⟩
theorem a10_storm_24 : At cX10_storm 24 (.aload_n 0) 1 25 := ⟨by decide +kernel, rfl⟩
theorem a10_storm_25 : At cX10_storm 25 (.invokevirtual 100) 3 28 := ⟨by decide +kernel, rfl⟩
theorem a10_storm_28 : At cX10_storm 28 (.ireturn) 1 29 := ⟨by decide +kernel, rfl⟩
theorem a10_storm_29 : At cX10_storm 29 (.aload_n 0) 1 30 := ⟨by decide +kernel, rfl⟩
theorem a10_storm_30 : At cX10_storm 30 (.getfield 10) 3 33 := ⟨by decide +kernel, rfl⟩
theorem a10_storm_33 : At cX10_storm 33 (.getfield 103) 3 36 := ⟨by decide +kernel, rfl⟩
theorem a10_storm_36 : At cX10_storm 36 (.iload_n 1) 1 37 := ⟨by decide +kernel, rfl⟩
theorem a10_storm_37 : At cX10_storm 37 (.iconst 1) 1 38 := ⟨by decide +kernel, rfl⟩
theorem a10_storm_38 : At cX10_storm 38 (.invokevirtual 106) 3 41 := ⟨by decide +kernel, rfl⟩
theorem a10_storm_41 : At cX10_storm 41 (.istore 4) 2 43 := ⟨by decide +kernel, rfl⟩
theorem a10_storm_43 : At cX10_storm 43 (.aload_n 0) 1 44 := ⟨by decide +kernel, rfl⟩
theorem a10_storm_44 : At cX10_storm 44 (.getfield 10) 3 47 := ⟨by decide +kernel, rfl⟩
theorem a10_storm_47 : At cX10_storm 47 (.iload_n 1) 1 48 := ⟨by decide +kernel, rfl⟩
theorem a10_storm_48 : At cX10_storm 48 (.iload_n 2) 1 49 := ⟨by decide +kernel, rfl⟩
theorem a10_storm_49 : At cX10_storm 49 (.iload_n 3) 1 50 := ⟨by decide +kernel, rfl⟩
theorem a10_storm_50 : At cX10_storm 50 (.invokevirtual 110) 3 53 := ⟨by decide +kernel, rfl⟩
theorem a10_storm_53 : At cX10_storm 53 (.iload 4) 2 55 := ⟨by decide +kernel, rfl⟩
theorem a10_storm_55 : At cX10_storm 55 (.ireturn) 1 56 := ⟨by decide +kernel, rfl⟩
def f10_storm (k0 : Nat) (x1 : Int32) (x2 : Int32) (x3 : Int32) (σ : Mem) : Option (Int32 × Mem) :=
  if (f10_isStorm x1) = 0 then
  (lt (f10_refuseBad k0 σ) fun w2 =>
  some (w2.1, w2.2))
  else
  (if (f10_isCell x2) = 0 then
  (lt (f10_refuseBad k0 σ) fun w5 =>
  some (w5.1, w5.2))
  else
  (if (f10_within x3 0 9) = 0 then
  (lt (f10_refuseBad k0 σ) fun w8 =>
  some (w8.1, w8.2))
  else
  (bnd (f7_at 0 x1 1 σ) fun w10 =>
  bnd (f9_tellStorm 0 x1 x2 x3 σ) fun w12 =>
  some (w10, w12))))
theorem E10_storm {k0 : Nat} {x1 : Int32} {x2 : Int32} {x3 : Int32} {σ : Mem} {w : Int32 × Mem} (h : f10_storm k0 x1 x2 x3 σ = some w) : Ev m10_storm [.inr (.inr (10, k0)), .inl x1, .inl x2, .inl x3] σ (some (.inl w.1) : Option AV) w.2 := by
  unfold f10_storm at h
  show Go m10_storm 0 [some (.inr (.inr (10, k0))), some (.inl x1), some (.inl x2), some (.inl x3), none] [] σ (some (.inl w.1) : Option AV) w.2
  refine g_iload_n a10_storm_0 rfl ?_
  refine g_S1s (v1 := .inl (f10_isStorm x1)) (σ1 := σ) a10_storm_1 cs10_89 (E10_isStorm _ _) rfl (fun o1 => ?_)
  refine g_if_eq (tgt := 24) a10_storm_4 rfl (fun c16 => ?_) (fun c16 => ?_)
  · have h := (if_pos c16).symm.trans h
    refine g_aload_n a10_storm_24 rfl ?_
    obtain ⟨w2, hw2, h⟩ := lt_inv h
    refine g_V0s (v1 := .inl w2.1) (σ1 := w2.2) a10_storm_25 cv10_100 (by rw [← hw2]; exact E10_refuseBad _ _) rfl (fun o3 => ?_)
    have h := Option.some.inj h
    subst h
    exact g_retE a10_storm_28 trivial rfl rfl
  · have h := (if_neg c16).symm.trans h
    refine g_iload_n a10_storm_7 rfl ?_
    refine g_S1s (v1 := .inl (f10_isCell x2)) (σ1 := σ) a10_storm_8 cs10_93 (E10_isCell _ _) rfl (fun o4 => ?_)
    refine g_if_eq (tgt := 24) a10_storm_11 rfl (fun c15 => ?_) (fun c15 => ?_)
    · have h := (if_pos c15).symm.trans h
      refine g_aload_n a10_storm_24 rfl ?_
      obtain ⟨w5, hw5, h⟩ := lt_inv h
      refine g_V0s (v1 := .inl w5.1) (σ1 := w5.2) a10_storm_25 cv10_100 (by rw [← hw5]; exact E10_refuseBad _ _) rfl (fun o6 => ?_)
      have h := Option.some.inj h
      subst h
      exact g_retE a10_storm_28 trivial rfl rfl
    · have h := (if_neg c15).symm.trans h
      refine g_iload_n a10_storm_14 rfl ?_
      refine g_iconst (v := 0) a10_storm_15 rfl ?_
      refine g_bipush (v := 9) a10_storm_16 rfl ?_
      refine g_S3s (v1 := .inl (f10_within x3 0 9)) (σ1 := σ) a10_storm_18 cs10_96 (E10_within _ _ _ _) rfl (fun o7 => ?_)
      refine g_if_ne (tgt := 29) a10_storm_21 rfl (fun c14 => ?_) (fun c14 => ?_)
      · have h := (if_neg c14).symm.trans h
        refine g_aload_n a10_storm_29 rfl ?_
        refine g_getf (v := .inr (.inr (9, 0))) a10_storm_30 fs10_10 rfl ?_
        refine g_getf (v := .inr (.inr (7, 0))) a10_storm_33 fs10_103 rfl ?_
        refine g_iload_n a10_storm_36 rfl ?_
        refine g_iconst (v := 1) a10_storm_37 rfl ?_
        obtain ⟨w10, hw10, h⟩ := bnd_inv h
        refine g_V2s (v1 := .inl w10) (σ1 := σ) a10_storm_38 cv10_106 (E7_at hw10) rfl (fun o11 => ?_)
        refine g_istore (L' := [some (.inr (.inr (10, k0))), some (.inl x1), some (.inl x2), some (.inl x3), some (.inl w10)]) a10_storm_41 (Nat.le_of_ble_eq_true rfl) rfl rfl ?_
        refine g_aload_n a10_storm_43 rfl ?_
        refine g_getf (v := .inr (.inr (9, 0))) a10_storm_44 fs10_10 rfl ?_
        refine g_iload_n a10_storm_47 rfl ?_
        refine g_iload_n a10_storm_48 rfl ?_
        refine g_iload_n a10_storm_49 rfl ?_
        obtain ⟨w12, hw12, h⟩ := bnd_inv h
        refine g_V3n (σ1 := w12) a10_storm_50 cv10_110 (E9_tellStorm hw12) rfl (fun o13 => ?_)
        refine g_iload a10_storm_53 rfl ?_
        have h := Option.some.inj h
        subst h
        exact g_retE a10_storm_55 trivial rfl rfl
      · have h := (if_pos c14).symm.trans h
        refine g_aload_n a10_storm_24 rfl ?_
        obtain ⟨w8, hw8, h⟩ := lt_inv h
        refine g_V0s (v1 := .inl w8.1) (σ1 := w8.2) a10_storm_25 cv10_100 (by rw [← hw8]; exact E10_refuseBad _ _) rfl (fun o9 => ?_)
        have h := Option.some.inj h
        subst h
        exact g_retE a10_storm_28 trivial rfl rfl
theorem a10_isKind_0 : At cX10_isKind 0 (.iload_n 0) 1 1 := ⟨by decide +kernel, rfl⟩
theorem a10_isKind_1 : At cX10_isKind 1 (.iconst 0) 1 2 := ⟨by decide +kernel, rfl⟩
theorem a10_isKind_2 : At cX10_isKind 2 (.iconst 5) 1 3 := ⟨by decide +kernel, rfl⟩
theorem a10_isKind_3 : At cX10_isKind 3 (.invokestatic 96) 3 6 := ⟨by decide +kernel, rfl⟩
theorem a10_isKind_6 : At cX10_isKind 6 (.ireturn) 1 7 := ⟨by decide +kernel, rfl⟩
def f10_isKind (x0 : Int32) : Int32 :=
  (f10_within x0 0 5)
theorem E10_isKind (x0 : Int32) (σ : Mem) : Ev m10_isKind [.inl x0] σ (some (.inl (f10_isKind x0)) : Option AV) σ := by
  obtain ⟨w, h⟩ : ∃ w, f10_isKind x0 = w := ⟨_, rfl⟩
  rw [h]
  unfold f10_isKind at h
  show Go m10_isKind 0 [some (.inl x0)] [] σ (some (.inl w) : Option AV) σ
  refine g_iload_n a10_isKind_0 rfl ?_
  refine g_iconst (v := 0) a10_isKind_1 rfl ?_
  refine g_iconst (v := 5) a10_isKind_2 rfl ?_
  refine g_S3s (v1 := .inl (f10_within x0 0 5)) (σ1 := σ) a10_isKind_3 cs10_96 (E10_within _ _ _ _) rfl (fun o1 => ?_)
  subst h
  exact g_retE a10_isKind_6 o1 rfl rfl
theorem a10_isHeight_0 : At cX10_isHeight 0 (.iload_n 0) 1 1 := ⟨by decide +kernel, rfl⟩
theorem a10_isHeight_1 : At cX10_isHeight 1 (.iconst 1) 1 2 := ⟨by decide +kernel, rfl⟩
theorem a10_isHeight_2 : At cX10_isHeight 2 (.bipush 30) 2 4 := ⟨by decide +kernel, rfl⟩
theorem a10_isHeight_4 : At cX10_isHeight 4 (.invokestatic 96) 3 7 := ⟨by decide +kernel, rfl⟩
theorem a10_isHeight_7 : At cX10_isHeight 7 (.ireturn) 1 8 := ⟨by decide +kernel, rfl⟩
def f10_isHeight (x0 : Int32) : Int32 :=
  (f10_within x0 1 30)
theorem E10_isHeight (x0 : Int32) (σ : Mem) : Ev m10_isHeight [.inl x0] σ (some (.inl (f10_isHeight x0)) : Option AV) σ := by
  obtain ⟨w, h⟩ : ∃ w, f10_isHeight x0 = w := ⟨_, rfl⟩
  rw [h]
  unfold f10_isHeight at h
  show Go m10_isHeight 0 [some (.inl x0)] [] σ (some (.inl w) : Option AV) σ
  refine g_iload_n a10_isHeight_0 rfl ?_
  refine g_iconst (v := 1) a10_isHeight_1 rfl ?_
  refine g_bipush (v := 30) a10_isHeight_2 rfl ?_
  refine g_S3s (v1 := .inl (f10_within x0 1 30)) (σ1 := σ) a10_isHeight_4 cs10_96 (E10_within _ _ _ _) rfl (fun o1 => ?_)
  subst h
  exact g_retE a10_isHeight_7 o1 rfl rfl
theorem a10_refuseFull_0 : At cX10_refuseFull 0 (.aload_n 0) 1 1 := ⟨by decide +kernel, rfl⟩
theorem a10_refuseFull_1 : At cX10_refuseFull 1 (.dup) 1 2 := ⟨by decide +kernel, rfl⟩
theorem a10_refuseFull_2 : At cX10_refuseFull 2 (.getfield 343) 3 5 := ⟨by decide +kernel, rfl⟩
theorem a10_refuseFull_5 : At cX10_refuseFull 5 (.iconst 1) 1 6 := ⟨by decide +kernel, rfl⟩
theorem a10_refuseFull_6 : At cX10_refuseFull 6 (.iadd) 1 7 := ⟨by decide +kernel, rfl⟩
theorem a10_refuseFull_7 : At cX10_refuseFull 7 (.putfield 343) 3 10 := ⟨by decide +kernel, rfl⟩
theorem a10_refuseFull_10 : At cX10_refuseFull 10 (.bipush (-4)) 2 12 := ⟨by decide +kernel, rfl⟩
theorem a10_refuseFull_12 : At cX10_refuseFull 12 (.ireturn) 1 13 := ⟨by decide +kernel, rfl⟩
def f10_refuseFull (k0 : Nat) (σ : Mem) : Int32 × Mem :=
  lt (sI σ 10 k0 15 ((σ.1 10 k0 15) + 1)) fun σ1 =>
  ((-4), σ1)
theorem E10_refuseFull (k0 : Nat) (σ : Mem) : Ev m10_refuseFull [.inr (.inr (10, k0))] σ (some (.inl ((f10_refuseFull k0 σ).1)) : Option AV) (f10_refuseFull k0 σ).2 := by
  obtain ⟨w, h⟩ : ∃ w, f10_refuseFull k0 σ = w := ⟨_, rfl⟩
  rw [h]
  unfold f10_refuseFull at h
  show Go m10_refuseFull 0 [some (.inr (.inr (10, k0)))] [] σ (some (.inl w.1) : Option AV) w.2
  refine g_aload_n a10_refuseFull_0 rfl ?_
  refine g_dup a10_refuseFull_1 (fun _ => rfl) ?_
  refine g_getf (v := .inl (σ.1 10 k0 15)) a10_refuseFull_2 fs10_343 rfl ?_
  refine g_iconst (v := 1) a10_refuseFull_5 rfl ?_
  refine g_iadd a10_refuseFull_6 ?_
  obtain ⟨σ1, eσ1, h⟩ := lt_inv h
  refine g_puti a10_refuseFull_7 fs10_343 ps10_15 (fun _ _ _ => rfl) ?_
  rw [eσ1]
  refine g_bipush (v := (-4)) a10_refuseFull_10 rfl ?_
  subst h
  exact g_retE a10_refuseFull_12 trivial rfl rfl
theorem a9_addThing_0 : At cX9_addThing 0 (.aload_n 0) 1 1 := ⟨by decide +kernel, rfl⟩
theorem a9_addThing_1 : At cX9_addThing 1 (.getfield 20) 3 4 := ⟨by decide +kernel, rfl⟩
theorem a9_addThing_4 : At cX9_addThing 4 (.invokevirtual 70) 3 7 := ⟨by decide +kernel, rfl⟩
theorem a9_addThing_7 : At cX9_addThing 7 (.istore 4) 2 9 := ⟨by decide +kernel, rfl⟩
theorem a9_addThing_9 : At cX9_addThing 9 (.aload_n 0) 1 10 := ⟨by decide +kernel, rfl⟩
theorem a9_addThing_10 : At cX9_addThing 10 (.getfield 20) 3 13 := ⟨by decide +kernel, rfl⟩
theorem a9_addThing_13 : At cX9_addThing 13 (.iload_n 1) 1 14 := ⟨by decide +kernel, rfl⟩
theorem a9_addThing_14 : At cX9_addThing 14 (.iload_n 2) 1 15 := ⟨by decide +kernel, rfl⟩
theorem a9_addThing_15 : At cX9_addThing 15 (.iload_n 3) 1 16 := ⟨by decide +kernel, rfl⟩
theorem a9_addThing_16 : At cX9_addThing 16 (.iconst 0) 1 17 := ⟨by decide +kernel, rfl⟩
theorem a9_addThing_17 : At cX9_addThing 17 (.iconst 0) 1 18 := ⟨by decide +kernel, rfl⟩
theorem a9_addThing_18 : At cX9_addThing 18 (.invokevirtual 51) 3 21 := ⟨by decide +kernel, rfl⟩
theorem a9_addThing_21 : At cX9_addThing 21 (.aload_n 0) 1 22 := ⟨by decide +kernel, rfl⟩
theorem a9_addThing_22 : At cX9_addThing 22 (.getfield 41) 3 25 := ⟨by decide +kernel, rfl⟩
theorem a9_addThing_25 : At cX9_addThing 25 (.dup) 1 26 := ⟨by decide +kernel, rfl⟩
theorem a9_addThing_26 : At cX9_addThing 26 (.getfield 74) 3 29 := ⟨by decide +kernel, rfl⟩
theorem a9_addThing_29 : At cX9_addThing 29 (.iconst 1) 1 30 := ⟨by decide +kernel, rfl⟩
theorem a9_addThing_30 : At cX9_addThing 30 (.iload 4) 2 32 := ⟨by decide +kernel, rfl⟩
theorem a9_addThing_32 : At cX9_addThing 32 (.ishl) 1 33 := ⟨by decide +kernel, rfl⟩
theorem a9_addThing_33 : At cX9_addThing 33 (.ior) 1 34 := ⟨by decide +kernel, rfl⟩
theorem a9_addThing_34 : At cX9_addThing 34 (.putfield 74) 3 37 := ⟨by decide +kernel, rfl⟩
theorem a9_addThing_37 : At cX9_addThing 37 (.aload_n 0) 1 38 := ⟨by decide +kernel, rfl⟩
theorem a9_addThing_38 : At cX9_addThing 38 (.getfield 35) 3 41 := ⟨by decide +kernel, rfl⟩
theorem a9_addThing_41 : At cX9_addThing 41 (.invokevirtual 48) 3 44 := ⟨by decide +kernel, rfl⟩
theorem a9_addThing_44 : At cX9_addThing 44 (.iload 4) 2 46 := ⟨by decide +kernel, rfl⟩
theorem a9_addThing_46 : At cX9_addThing 46 (.ireturn) 1 47 := ⟨by decide +kernel, rfl⟩
def f9_addThing (k0 : Nat) (x1 : Int32) (x2 : Int32) (x3 : Int32) (σ : Mem) : Option (Int32 × Mem) :=
  bnd (f7_add (7 * k0 + 1) x1 x2 x3 0 0 σ) fun w2 =>
  lt (sI w2 4 k0 0 ((w2.1 4 k0 0) ||| (1 <<< ((f7_size (7 * k0 + 1) σ) &&& 31)))) fun σ4 =>
  lt (f7_empty (7 * k0 + 6) σ4) fun w5 =>
  some ((f7_size (7 * k0 + 1) σ), w5)
theorem E9_addThing {k0 : Nat} {x1 : Int32} {x2 : Int32} {x3 : Int32} {σ : Mem} {w : Int32 × Mem} (h : f9_addThing k0 x1 x2 x3 σ = some w) : Ev m9_addThing [.inr (.inr (9, k0)), .inl x1, .inl x2, .inl x3] σ (some (.inl w.1) : Option AV) w.2 := by
  unfold f9_addThing at h
  show Go m9_addThing 0 [some (.inr (.inr (9, k0))), some (.inl x1), some (.inl x2), some (.inl x3), none] [] σ (some (.inl w.1) : Option AV) w.2
  refine g_aload_n a9_addThing_0 rfl ?_
  refine g_getf (v := .inr (.inr (7, (7 * k0 + 1)))) a9_addThing_1 fs9_20 rfl ?_
  refine g_V0s (v1 := .inl (f7_size (7 * k0 + 1) σ)) (σ1 := σ) a9_addThing_4 cv9_70 (E7_size _ _) rfl (fun o1 => ?_)
  refine g_istore (L' := [some (.inr (.inr (9, k0))), some (.inl x1), some (.inl x2), some (.inl x3), some (.inl (f7_size (7 * k0 + 1) σ))]) a9_addThing_7 (Nat.le_of_ble_eq_true rfl) rfl rfl ?_
  refine g_aload_n a9_addThing_9 rfl ?_
  refine g_getf (v := .inr (.inr (7, (7 * k0 + 1)))) a9_addThing_10 fs9_20 rfl ?_
  refine g_iload_n a9_addThing_13 rfl ?_
  refine g_iload_n a9_addThing_14 rfl ?_
  refine g_iload_n a9_addThing_15 rfl ?_
  refine g_iconst (v := 0) a9_addThing_16 rfl ?_
  refine g_iconst (v := 0) a9_addThing_17 rfl ?_
  obtain ⟨w2, hw2, h⟩ := bnd_inv h
  refine g_V5n (σ1 := w2) a9_addThing_18 cv9_51 (E7_add hw2) rfl (fun o3 => ?_)
  refine g_aload_n a9_addThing_21 rfl ?_
  refine g_getf (v := .inr (.inr (4, k0))) a9_addThing_22 fs9_41 rfl ?_
  refine g_dup a9_addThing_25 (fun _ => rfl) ?_
  refine g_getf (v := .inl (w2.1 4 k0 0)) a9_addThing_26 fs9_74 rfl ?_
  refine g_iconst (v := 1) a9_addThing_29 rfl ?_
  refine g_iload a9_addThing_30 rfl ?_
  refine g_ishl a9_addThing_32 ?_
  refine g_ior a9_addThing_33 ?_
  obtain ⟨σ4, eσ4, h⟩ := lt_inv h
  refine g_puti a9_addThing_34 fs9_74 ps4_0 (fun _ _ _ => rfl) ?_
  rw [eσ4]
  refine g_aload_n a9_addThing_37 rfl ?_
  refine g_getf (v := .inr (.inr (7, (7 * k0 + 6)))) a9_addThing_38 fs9_35 rfl ?_
  obtain ⟨w5, hw5, h⟩ := lt_inv h
  refine g_V0n (σ1 := w5) a9_addThing_41 cv9_48 (by rw [← hw5]; exact E7_empty _ _) rfl (fun o6 => ?_)
  refine g_iload a9_addThing_44 rfl ?_
  have h := Option.some.inj h
  subst h
  exact g_retE a9_addThing_46 trivial rfl rfl
theorem a10_thing_0 : At cX10_thing 0 (.iload_n 1) 1 1 := ⟨by decide +kernel, rfl⟩
theorem a10_thing_1 : At cX10_thing 1 (.invokestatic 114) 3 4 := ⟨by decide +kernel, rfl⟩
theorem a10_thing_4 : At cX10_thing 4 (.ifCond .eq 17) 3 7 := ⟨by decide +kernel, rfl⟩
theorem a10_thing_7 : At cX10_thing 7 (.iload_n 2) 1 8 := ⟨by decide +kernel, rfl⟩
theorem a10_thing_8 : At cX10_thing 8 (.invokestatic 117) 3 11 := ⟨by decide +kernel, rfl⟩
theorem a10_thing_11 : At cX10_thing 11 (.ifCond .eq 10) 3 14 := ⟨by decide +kernel, rfl⟩
theorem a10_thing_14 : At cX10_thing 14 (.iload_n 3) 1 15 := ⟨by decide +kernel, rfl⟩
theorem a10_thing_15 : At cX10_thing 15 (.invokestatic 93) 3 18 := ⟨by decide +kernel, rfl⟩
theorem a10_thing_18 : At cX10_thing 18 (.ifCond .ne 8) 3 21 := ⟨by decide +kernel, rfl⟩
theorem a10_thing_21 : At cX10_thing 21 (.aload_n 0) 1 22 := ⟨by decide +kernel, rfl⟩
theorem a10_thing_22 : At cX10_thing 22 (.invokevirtual 100) 3 25 := ⟨by decide +kernel, rfl⟩
theorem a10_thing_25 : At cX10_thing 25 (.ireturn) 1 26 := ⟨by decide +kernel, rfl⟩
theorem a10_thing_26 : At cX10_thing 26 (.aload_n 0) 1 27 := ⟨by decide +kernel, rfl⟩
theorem a10_thing_27 : At cX10_thing 27 (.getfield 10) 3 30 := ⟨by decide +kernel, rfl⟩
theorem a10_thing_30 : At cX10_thing 30 (.getfield 76) 3 33 := ⟨by decide +kernel, rfl⟩
theorem a10_thing_33 : At cX10_thing 33 (.invokevirtual 120) 3 36 := ⟨by decide +kernel, rfl⟩
theorem a10_thing_36 : At cX10_thing 36 (.ifCond .eq 8) 3 39 := ⟨by decide +kernel, rfl⟩
theorem a10_thing_39 : At cX10_thing 39 (.aload_n 0) 1 40 := ⟨by decide +kernel, rfl⟩
theorem a10_thing_40 : At cX10_thing 40 (.invokevirtual 124) 3 43 := ⟨by decide +kernel, rfl⟩
theorem a10_thing_43 : At cX10_thing 43 (.ireturn) 1 44 := ⟨by decide +kernel, rfl⟩
theorem a10_thing_44 : At cX10_thing 44 (.aload_n 0) 1 45 := ⟨by decide +kernel, rfl⟩
theorem a10_thing_45 : At cX10_thing 45 (.getfield 10) 3 48 := ⟨by decide +kernel, rfl⟩
theorem a10_thing_48 : At cX10_thing 48 (.iload_n 1) 1 49 := ⟨by decide +kernel, rfl⟩
theorem a10_thing_49 : At cX10_thing 49 (.iload_n 2) 1 50 := ⟨by decide +kernel, rfl⟩
theorem a10_thing_50 : At cX10_thing 50 (.iload_n 3) 1 51 := ⟨by decide +kernel, rfl⟩
theorem a10_thing_51 : At cX10_thing 51 (.invokevirtual 127) 3 54 := ⟨by decide +kernel, rfl⟩
theorem a10_thing_54 : At cX10_thing 54 (.ireturn) 1 55 := ⟨by decide +kernel, rfl⟩
def f10_thing (k0 : Nat) (x1 : Int32) (x2 : Int32) (x3 : Int32) (σ : Mem) : Option (Int32 × Mem) :=
  if (f10_isKind x1) = 0 then
  (lt (f10_refuseBad k0 σ) fun w2 =>
  some (w2.1, w2.2))
  else
  (if (f10_isHeight x2) = 0 then
  (lt (f10_refuseBad k0 σ) fun w5 =>
  some (w5.1, w5.2))
  else
  (if (f10_isCell x3) = 0 then
  (lt (f10_refuseBad k0 σ) fun w8 =>
  some (w8.1, w8.2))
  else
  (if (f7_isFull 1 σ) = 0 then
  (bnd (f9_addThing 0 x1 x2 x3 σ) fun w11 =>
  some (w11.1, w11.2))
  else
  (lt (f10_refuseFull k0 σ) fun w13 =>
  some (w13.1, w13.2)))))
theorem E10_thing {k0 : Nat} {x1 : Int32} {x2 : Int32} {x3 : Int32} {σ : Mem} {w : Int32 × Mem} (h : f10_thing k0 x1 x2 x3 σ = some w) : Ev m10_thing [.inr (.inr (10, k0)), .inl x1, .inl x2, .inl x3] σ (some (.inl w.1) : Option AV) w.2 := by
  unfold f10_thing at h
  show Go m10_thing 0 [some (.inr (.inr (10, k0))), some (.inl x1), some (.inl x2), some (.inl x3)] [] σ (some (.inl w.1) : Option AV) w.2
  refine g_iload_n a10_thing_0 rfl ?_
  refine g_S1s (v1 := .inl (f10_isKind x1)) (σ1 := σ) a10_thing_1 cs10_114 (E10_isKind _ _) rfl (fun o1 => ?_)
  refine g_if_eq (tgt := 21) a10_thing_4 rfl (fun c18 => ?_) (fun c18 => ?_)
  · have h := (if_pos c18).symm.trans h
    refine g_aload_n a10_thing_21 rfl ?_
    obtain ⟨w2, hw2, h⟩ := lt_inv h
    refine g_V0s (v1 := .inl w2.1) (σ1 := w2.2) a10_thing_22 cv10_100 (by rw [← hw2]; exact E10_refuseBad _ _) rfl (fun o3 => ?_)
    have h := Option.some.inj h
    subst h
    exact g_retE a10_thing_25 trivial rfl rfl
  · have h := (if_neg c18).symm.trans h
    refine g_iload_n a10_thing_7 rfl ?_
    refine g_S1s (v1 := .inl (f10_isHeight x2)) (σ1 := σ) a10_thing_8 cs10_117 (E10_isHeight _ _) rfl (fun o4 => ?_)
    refine g_if_eq (tgt := 21) a10_thing_11 rfl (fun c17 => ?_) (fun c17 => ?_)
    · have h := (if_pos c17).symm.trans h
      refine g_aload_n a10_thing_21 rfl ?_
      obtain ⟨w5, hw5, h⟩ := lt_inv h
      refine g_V0s (v1 := .inl w5.1) (σ1 := w5.2) a10_thing_22 cv10_100 (by rw [← hw5]; exact E10_refuseBad _ _) rfl (fun o6 => ?_)
      have h := Option.some.inj h
      subst h
      exact g_retE a10_thing_25 trivial rfl rfl
    · have h := (if_neg c17).symm.trans h
      refine g_iload_n a10_thing_14 rfl ?_
      refine g_S1s (v1 := .inl (f10_isCell x3)) (σ1 := σ) a10_thing_15 cs10_93 (E10_isCell _ _) rfl (fun o7 => ?_)
      refine g_if_ne (tgt := 26) a10_thing_18 rfl (fun c16 => ?_) (fun c16 => ?_)
      · have h := (if_neg c16).symm.trans h
        refine g_aload_n a10_thing_26 rfl ?_
        refine g_getf (v := .inr (.inr (9, 0))) a10_thing_27 fs10_10 rfl ?_
        refine g_getf (v := .inr (.inr (7, 1))) a10_thing_30 fs10_76 rfl ?_
        refine g_V0s (v1 := .inl (f7_isFull 1 σ)) (σ1 := σ) a10_thing_33 cv10_120 (E7_isFull _ _) rfl (fun o10 => ?_)
        refine g_if_eq (tgt := 44) a10_thing_36 rfl (fun c15 => ?_) (fun c15 => ?_)
        · have h := (if_pos c15).symm.trans h
          refine g_aload_n a10_thing_44 rfl ?_
          refine g_getf (v := .inr (.inr (9, 0))) a10_thing_45 fs10_10 rfl ?_
          refine g_iload_n a10_thing_48 rfl ?_
          refine g_iload_n a10_thing_49 rfl ?_
          refine g_iload_n a10_thing_50 rfl ?_
          obtain ⟨w11, hw11, h⟩ := bnd_inv h
          refine g_V3s (v1 := .inl w11.1) (σ1 := w11.2) a10_thing_51 cv10_127 (E9_addThing hw11) rfl (fun o12 => ?_)
          have h := Option.some.inj h
          subst h
          exact g_retE a10_thing_54 trivial rfl rfl
        · have h := (if_neg c15).symm.trans h
          refine g_aload_n a10_thing_39 rfl ?_
          obtain ⟨w13, hw13, h⟩ := lt_inv h
          refine g_V0s (v1 := .inl w13.1) (σ1 := w13.2) a10_thing_40 cv10_124 (by rw [← hw13]; exact E10_refuseFull _ _) rfl (fun o14 => ?_)
          have h := Option.some.inj h
          subst h
          exact g_retE a10_thing_43 trivial rfl rfl
      · have h := (if_pos c16).symm.trans h
        refine g_aload_n a10_thing_21 rfl ?_
        obtain ⟨w8, hw8, h⟩ := lt_inv h
        refine g_V0s (v1 := .inl w8.1) (σ1 := w8.2) a10_thing_22 cv10_100 (by rw [← hw8]; exact E10_refuseBad _ _) rfl (fun o9 => ?_)
        have h := Option.some.inj h
        subst h
        exact g_retE a10_thing_25 trivial rfl rfl
theorem a9_addPart_0 : At cX9_addPart 0 (.aload_n 0) 1 1 := ⟨by decide +kernel, rfl⟩
theorem a9_addPart_1 : At cX9_addPart 1 (.getfield 23) 3 4 := ⟨by decide +kernel, rfl⟩
theorem a9_addPart_4 : At cX9_addPart 4 (.invokevirtual 70) 3 7 := ⟨by decide +kernel, rfl⟩
theorem a9_addPart_7 : At cX9_addPart 7 (.istore_n 2) 1 8 := ⟨by decide +kernel, rfl⟩
theorem a9_addPart_8 : At cX9_addPart 8 (.aload_n 0) 1 9 := ⟨by decide +kernel, rfl⟩
theorem a9_addPart_9 : At cX9_addPart 9 (.getfield 23) 3 12 := ⟨by decide +kernel, rfl⟩
theorem a9_addPart_12 : At cX9_addPart 12 (.iload_n 1) 1 13 := ⟨by decide +kernel, rfl⟩
theorem a9_addPart_13 : At cX9_addPart 13 (.iconst 0) 1 14 := ⟨by decide +kernel, rfl⟩
theorem a9_addPart_14 : At cX9_addPart 14 (.iconst 0) 1 15 := ⟨by decide +kernel, rfl⟩
theorem a9_addPart_15 : At cX9_addPart 15 (.iconst 0) 1 16 := ⟨by decide +kernel, rfl⟩
theorem a9_addPart_16 : At cX9_addPart 16 (.iconst 0) 1 17 := ⟨by decide +kernel, rfl⟩
theorem a9_addPart_17 : At cX9_addPart 17 (.invokevirtual 51) 3 20 := ⟨by decide +kernel, rfl⟩
theorem a9_addPart_20 : At cX9_addPart 20 (.aload_n 0) 1 21 := ⟨by decide +kernel, rfl⟩
theorem a9_addPart_21 : At cX9_addPart 21 (.getfield 35) 3 24 := ⟨by decide +kernel, rfl⟩
theorem a9_addPart_24 : At cX9_addPart 24 (.invokevirtual 48) 3 27 := ⟨by decide +kernel, rfl⟩
theorem a9_addPart_27 : At cX9_addPart 27 (.iload_n 2) 1 28 := ⟨by decide +kernel, rfl⟩
theorem a9_addPart_28 : At cX9_addPart 28 (.ireturn) 1 29 := ⟨by decide +kernel, rfl⟩
def f9_addPart (k0 : Nat) (x1 : Int32) (σ : Mem) : Option (Int32 × Mem) :=
  bnd (f7_add (7 * k0 + 2) x1 0 0 0 0 σ) fun w2 =>
  lt (f7_empty (7 * k0 + 6) w2) fun w4 =>
  some ((f7_size (7 * k0 + 2) σ), w4)
theorem E9_addPart {k0 : Nat} {x1 : Int32} {σ : Mem} {w : Int32 × Mem} (h : f9_addPart k0 x1 σ = some w) : Ev m9_addPart [.inr (.inr (9, k0)), .inl x1] σ (some (.inl w.1) : Option AV) w.2 := by
  unfold f9_addPart at h
  show Go m9_addPart 0 [some (.inr (.inr (9, k0))), some (.inl x1), none] [] σ (some (.inl w.1) : Option AV) w.2
  refine g_aload_n a9_addPart_0 rfl ?_
  refine g_getf (v := .inr (.inr (7, (7 * k0 + 2)))) a9_addPart_1 fs9_23 rfl ?_
  refine g_V0s (v1 := .inl (f7_size (7 * k0 + 2) σ)) (σ1 := σ) a9_addPart_4 cv9_70 (E7_size _ _) rfl (fun o1 => ?_)
  refine g_istore_n (L' := [some (.inr (.inr (9, k0))), some (.inl x1), some (.inl (f7_size (7 * k0 + 2) σ))]) a9_addPart_7 (Nat.le_of_ble_eq_true rfl) rfl rfl ?_
  refine g_aload_n a9_addPart_8 rfl ?_
  refine g_getf (v := .inr (.inr (7, (7 * k0 + 2)))) a9_addPart_9 fs9_23 rfl ?_
  refine g_iload_n a9_addPart_12 rfl ?_
  refine g_iconst (v := 0) a9_addPart_13 rfl ?_
  refine g_iconst (v := 0) a9_addPart_14 rfl ?_
  refine g_iconst (v := 0) a9_addPart_15 rfl ?_
  refine g_iconst (v := 0) a9_addPart_16 rfl ?_
  obtain ⟨w2, hw2, h⟩ := bnd_inv h
  refine g_V5n (σ1 := w2) a9_addPart_17 cv9_51 (E7_add hw2) rfl (fun o3 => ?_)
  refine g_aload_n a9_addPart_20 rfl ?_
  refine g_getf (v := .inr (.inr (7, (7 * k0 + 6)))) a9_addPart_21 fs9_35 rfl ?_
  obtain ⟨w4, hw4, h⟩ := lt_inv h
  refine g_V0n (σ1 := w4) a9_addPart_24 cv9_48 (by rw [← hw4]; exact E7_empty _ _) rfl (fun o5 => ?_)
  refine g_iload_n a9_addPart_27 rfl ?_
  have h := Option.some.inj h
  subst h
  exact g_retE a9_addPart_28 trivial rfl rfl
theorem a10_body_0 : At cX10_body 0 (.iload_n 1) 1 1 := ⟨by decide +kernel, rfl⟩
theorem a10_body_1 : At cX10_body 1 (.invokestatic 114) 3 4 := ⟨by decide +kernel, rfl⟩
theorem a10_body_4 : At cX10_body 4 (.ifCond .ne 8) 3 7 := ⟨by decide +kernel, rfl⟩
theorem a10_body_7 : At cX10_body 7 (.aload_n 0) 1 8 := ⟨by decide +kernel, rfl⟩
theorem a10_body_8 : At cX10_body 8 (.invokevirtual 100) 3 11 := ⟨by decide +kernel, rfl⟩
theorem a10_body_11 : At cX10_body 11 (.ireturn) 1 12 := ⟨by decide +kernel, rfl⟩
theorem a10_body_12 : At cX10_body 12 (.aload_n 0) 1 13 := ⟨by decide +kernel, rfl⟩
theorem a10_body_13 : At cX10_body 13 (.getfield 10) 3 16 := ⟨by decide +kernel, rfl⟩
theorem a10_body_16 : At cX10_body 16 (.getfield 131) 3 19 := ⟨by decide +kernel, rfl⟩
theorem a10_body_19 : At cX10_body 19 (.invokevirtual 120) 3 22 := ⟨by decide +kernel, rfl⟩
theorem a10_body_22 : At cX10_body 22 (.ifCond .eq 8) 3 25 := ⟨by decide +kernel, rfl⟩
theorem a10_body_25 : At cX10_body 25 (.aload_n 0) 1 26 := ⟨by decide +kernel, rfl⟩
theorem a10_body_26 : At cX10_body 26 (.invokevirtual 124) 3 29 := ⟨by decide +kernel, rfl⟩
theorem a10_body_29 : At cX10_body 29 (.ireturn) 1 30 := ⟨by decide +kernel, rfl⟩
theorem a10_body_30 : At cX10_body 30 (.aload_n 0) 1 31 := ⟨by decide +kernel, rfl⟩
theorem a10_body_31 : At cX10_body 31 (.getfield 10) 3 34 := ⟨by decide +kernel, rfl⟩
theorem a10_body_34 : At cX10_body 34 (.iload_n 1) 1 35 := ⟨by decide +kernel, rfl⟩
theorem a10_body_35 : At cX10_body 35 (.invokevirtual 134) 3 38 := ⟨by decide +kernel, rfl⟩
theorem a10_body_38 : At cX10_body 38 (.ireturn) 1 39 := ⟨by decide +kernel, rfl⟩
def f10_body (k0 : Nat) (x1 : Int32) (σ : Mem) : Option (Int32 × Mem) :=
  if (f10_isKind x1) = 0 then
  (lt (f10_refuseBad k0 σ) fun w2 =>
  some (w2.1, w2.2))
  else
  (if (f7_isFull 2 σ) = 0 then
  (bnd (f9_addPart 0 x1 σ) fun w5 =>
  some (w5.1, w5.2))
  else
  (lt (f10_refuseFull k0 σ) fun w7 =>
  some (w7.1, w7.2)))
theorem E10_body {k0 : Nat} {x1 : Int32} {σ : Mem} {w : Int32 × Mem} (h : f10_body k0 x1 σ = some w) : Ev m10_body [.inr (.inr (10, k0)), .inl x1] σ (some (.inl w.1) : Option AV) w.2 := by
  unfold f10_body at h
  show Go m10_body 0 [some (.inr (.inr (10, k0))), some (.inl x1)] [] σ (some (.inl w.1) : Option AV) w.2
  refine g_iload_n a10_body_0 rfl ?_
  refine g_S1s (v1 := .inl (f10_isKind x1)) (σ1 := σ) a10_body_1 cs10_114 (E10_isKind _ _) rfl (fun o1 => ?_)
  refine g_if_ne (tgt := 12) a10_body_4 rfl (fun c10 => ?_) (fun c10 => ?_)
  · have h := (if_neg c10).symm.trans h
    refine g_aload_n a10_body_12 rfl ?_
    refine g_getf (v := .inr (.inr (9, 0))) a10_body_13 fs10_10 rfl ?_
    refine g_getf (v := .inr (.inr (7, 2))) a10_body_16 fs10_131 rfl ?_
    refine g_V0s (v1 := .inl (f7_isFull 2 σ)) (σ1 := σ) a10_body_19 cv10_120 (E7_isFull _ _) rfl (fun o4 => ?_)
    refine g_if_eq (tgt := 30) a10_body_22 rfl (fun c9 => ?_) (fun c9 => ?_)
    · have h := (if_pos c9).symm.trans h
      refine g_aload_n a10_body_30 rfl ?_
      refine g_getf (v := .inr (.inr (9, 0))) a10_body_31 fs10_10 rfl ?_
      refine g_iload_n a10_body_34 rfl ?_
      obtain ⟨w5, hw5, h⟩ := bnd_inv h
      refine g_V1s (v1 := .inl w5.1) (σ1 := w5.2) a10_body_35 cv10_134 (E9_addPart hw5) rfl (fun o6 => ?_)
      have h := Option.some.inj h
      subst h
      exact g_retE a10_body_38 trivial rfl rfl
    · have h := (if_neg c9).symm.trans h
      refine g_aload_n a10_body_25 rfl ?_
      obtain ⟨w7, hw7, h⟩ := lt_inv h
      refine g_V0s (v1 := .inl w7.1) (σ1 := w7.2) a10_body_26 cv10_124 (by rw [← hw7]; exact E10_refuseFull _ _) rfl (fun o8 => ?_)
      have h := Option.some.inj h
      subst h
      exact g_retE a10_body_29 trivial rfl rfl
  · have h := (if_pos c10).symm.trans h
    refine g_aload_n a10_body_7 rfl ?_
    obtain ⟨w2, hw2, h⟩ := lt_inv h
    refine g_V0s (v1 := .inl w2.1) (σ1 := w2.2) a10_body_8 cv10_100 (by rw [← hw2]; exact E10_refuseBad _ _) rfl (fun o3 => ?_)
    have h := Option.some.inj h
    subst h
    exact g_retE a10_body_11 trivial rfl rfl
theorem a8_isFull_0 : At cX8_isFull 0 (.aload_n 0) 1 1 := ⟨by decide +kernel, rfl⟩
theorem a8_isFull_1 : At cX8_isFull 1 (.getfield 23) 3 4 := ⟨by decide +kernel, rfl⟩
theorem a8_isFull_4 : At cX8_isFull 4 (.sipush 150) 3 7 := ⟨by decide +kernel, rfl⟩
theorem a8_isFull_7 : At cX8_isFull 7 (.if_icmp .lt 7) 3 10 := ⟨by decide +kernel, rfl⟩
theorem a8_isFull_10 : At cX8_isFull 10 (.iconst 1) 1 11 := ⟨by decide +kernel, rfl⟩
theorem a8_isFull_11 : At cX8_isFull 11 (.goto 4) 3 14 := ⟨by decide +kernel, rfl⟩
theorem a8_isFull_14 : At cX8_isFull 14 (.iconst 0) 1 15 := ⟨by decide +kernel, rfl⟩
theorem a8_isFull_15 : At cX8_isFull 15 (.ireturn) 1 16 := ⟨by decide +kernel, rfl⟩
def f8_isFull (k0 : Nat) (σ : Mem) : Int32 :=
  if (σ.1 8 k0 2) < 150 then
  (0)
  else
  (1)
theorem E8_isFull (k0 : Nat) (σ : Mem) : Ev m8_isFull [.inr (.inr (8, k0))] σ (some (.inl (f8_isFull k0 σ)) : Option AV) σ := by
  obtain ⟨w, h⟩ : ∃ w, f8_isFull k0 σ = w := ⟨_, rfl⟩
  rw [h]
  unfold f8_isFull at h
  show Go m8_isFull 0 [some (.inr (.inr (8, k0)))] [] σ (some (.inl w) : Option AV) σ
  refine g_aload_n a8_isFull_0 rfl ?_
  refine g_getf (v := .inl (σ.1 8 k0 2)) a8_isFull_1 fs8_23 rfl ?_
  refine g_sipush (v := 150) a8_isFull_4 rfl ?_
  refine g_icmp_lt (tgt := 14) a8_isFull_7 rfl (fun c1 => ?_) (fun c1 => ?_)
  · have h := (if_pos c1).symm.trans h
    refine g_iconst (v := 0) a8_isFull_14 rfl ?_
    subst h
    exact g_retE a8_isFull_15 (Or.inl rfl) rfl rfl
  · have h := (if_neg c1).symm.trans h
    refine g_iconst (v := 1) a8_isFull_10 rfl ?_
    refine g_goto (tgt := 15) a8_isFull_11 rfl ?_
    subst h
    exact g_retE a8_isFull_15 (Or.inr rfl) rfl rfl
theorem a6_put_0 : At cX6_put 0 (.iload_n 1) 1 1 := ⟨by decide +kernel, rfl⟩
theorem a6_put_1 : At cX6_put 1 (.ifCond .lt 19) 3 4 := ⟨by decide +kernel, rfl⟩
theorem a6_put_4 : At cX6_put 4 (.iload_n 1) 1 5 := ⟨by decide +kernel, rfl⟩
theorem a6_put_5 : At cX6_put 5 (.aload_n 0) 1 6 := ⟨by decide +kernel, rfl⟩
theorem a6_put_6 : At cX6_put 6 (.getfield 13) 3 9 := ⟨by decide +kernel, rfl⟩
theorem a6_put_9 : At cX6_put 9 (.arraylength) 1 10 := ⟨by decide +kernel, rfl⟩
theorem a6_put_10 : At cX6_put 10 (.if_icmp .ge 10) 3 13 := ⟨by decide +kernel, rfl⟩
theorem a6_put_13 : At cX6_put 13 (.aload_n 0) 1 14 := ⟨by decide +kernel, rfl⟩
theorem a6_put_14 : At cX6_put 14 (.getfield 13) 3 17 := ⟨by decide +kernel, rfl⟩
theorem a6_put_17 : At cX6_put 17 (.iload_n 1) 1 18 := ⟨by decide +kernel, rfl⟩
theorem a6_put_18 : At cX6_put 18 (.iload_n 2) 1 19 := ⟨by decide +kernel, rfl⟩
theorem a6_put_19 : At cX6_put 19 (.iastore) 1 20 := ⟨by decide +kernel, rfl⟩
theorem a6_put_20 : At cX6_put 20 (.return_) 1 21 := ⟨by decide +kernel, rfl⟩
def f6_put (k0 : Nat) (x1 : Int32) (x2 : Int32) (σ : Mem) : Option (Mem) :=
  if x1 < 0 then
  (some σ)
  else
  (if (Int32.ofNat (alen 21 k0)) ≤ x1 then
  (some σ)
  else
  (ck (inb x1 (alen 21 k0)) <|
  lt (sI σ 21 k0 (x1 : Int32).toNatClampNeg x2) fun σ2 =>
  some σ2))
theorem E6_put {k0 : Nat} {x1 : Int32} {x2 : Int32} {σ : Mem} {w : Mem} (h : f6_put k0 x1 x2 σ = some w) : Ev m6_put [.inr (.inr (6, k0)), .inl x1, .inl x2] σ none w := by
  unfold f6_put at h
  show Go m6_put 0 [some (.inr (.inr (6, k0))), some (.inl x1), some (.inl x2)] [] σ none w
  refine g_iload_n a6_put_0 rfl ?_
  refine g_if_lt (tgt := 20) a6_put_1 rfl (fun c4 => ?_) (fun c4 => ?_)
  · have h := (if_pos c4).symm.trans h
    have h := Option.some.inj h
    subst h
    exact g_retE a6_put_20 trivial rfl rfl
  · have h := (if_neg c4).symm.trans h
    refine g_iload_n a6_put_4 rfl ?_
    refine g_aload_n a6_put_5 rfl ?_
    refine g_getf (v := .inr (.inr (21, k0))) a6_put_6 fs6_13 rfl ?_
    refine g_alen (x := (Int32.ofNat (alen 21 k0))) a6_put_9 (rI21 _) rfl ?_
    refine g_icmp_ge (tgt := 20) a6_put_10 rfl (fun c3 => ?_) (fun c3 => ?_)
    · have h := (if_pos c3).symm.trans h
      have h := Option.some.inj h
      subst h
      exact g_retE a6_put_20 trivial rfl rfl
    · have h := (if_neg c3).symm.trans h
      refine g_aload_n a6_put_13 rfl ?_
      refine g_getf (v := .inr (.inr (21, k0))) a6_put_14 fs6_13 rfl ?_
      refine g_iload_n a6_put_17 rfl ?_
      refine g_iload_n a6_put_18 rfl ?_
      obtain ⟨q1, h⟩ := ck_inv h
      obtain ⟨σ2, eσ2, h⟩ := lt_inv h
      refine g_iast (j := (x1 : Int32).toNatClampNeg) a6_put_19 (rI21 _) (inb_ok q1) rfl ?_
      rw [eσ2]
      have h := Option.some.inj h
      subst h
      exact g_retE a6_put_20 trivial rfl rfl
theorem a8_add_0 : At cX8_add 0 (.aload_n 0) 1 1 := ⟨by decide +kernel, rfl⟩
theorem a8_add_1 : At cX8_add 1 (.getfield 16) 3 4 := ⟨by decide +kernel, rfl⟩
theorem a8_add_4 : At cX8_add 4 (.aload_n 0) 1 5 := ⟨by decide +kernel, rfl⟩
theorem a8_add_5 : At cX8_add 5 (.getfield 23) 3 8 := ⟨by decide +kernel, rfl⟩
theorem a8_add_8 : At cX8_add 8 (.iload_n 1) 1 9 := ⟨by decide +kernel, rfl⟩
theorem a8_add_9 : At cX8_add 9 (.invokevirtual 27) 3 12 := ⟨by decide +kernel, rfl⟩
theorem a8_add_12 : At cX8_add 12 (.aload_n 0) 1 13 := ⟨by decide +kernel, rfl⟩
theorem a8_add_13 : At cX8_add 13 (.dup) 1 14 := ⟨by decide +kernel, rfl⟩
theorem a8_add_14 : At cX8_add 14 (.getfield 23) 3 17 := ⟨by decide +kernel, rfl⟩
theorem a8_add_17 : At cX8_add 17 (.iconst 1) 1 18 := ⟨by decide +kernel, rfl⟩
theorem a8_add_18 : At cX8_add 18 (.iadd) 1 19 := ⟨by decide +kernel, rfl⟩
theorem a8_add_19 : At cX8_add 19 (.putfield 23) 3 22 := ⟨by decide +kernel, rfl⟩
theorem a8_add_22 : At cX8_add 22 (.return_) 1 23 := ⟨by decide +kernel, rfl⟩
def f8_add (k0 : Nat) (x1 : Int32) (σ : Mem) : Option (Mem) :=
  bnd (f6_put 1 (σ.1 8 k0 2) x1 σ) fun w1 =>
  lt (sI w1 8 k0 2 ((w1.1 8 k0 2) + 1)) fun σ3 =>
  some σ3
theorem E8_add {k0 : Nat} {x1 : Int32} {σ : Mem} {w : Mem} (h : f8_add k0 x1 σ = some w) : Ev m8_add [.inr (.inr (8, k0)), .inl x1] σ none w := by
  unfold f8_add at h
  show Go m8_add 0 [some (.inr (.inr (8, k0))), some (.inl x1)] [] σ none w
  refine g_aload_n a8_add_0 rfl ?_
  refine g_getf (v := .inr (.inr (6, 1))) a8_add_1 fs8_16 rfl ?_
  refine g_aload_n a8_add_4 rfl ?_
  refine g_getf (v := .inl (σ.1 8 k0 2)) a8_add_5 fs8_23 rfl ?_
  refine g_iload_n a8_add_8 rfl ?_
  obtain ⟨w1, hw1, h⟩ := bnd_inv h
  refine g_V2n (σ1 := w1) a8_add_9 cv8_27 (E6_put hw1) rfl (fun o2 => ?_)
  refine g_aload_n a8_add_12 rfl ?_
  refine g_dup a8_add_13 (fun _ => rfl) ?_
  refine g_getf (v := .inl (w1.1 8 k0 2)) a8_add_14 fs8_23 rfl ?_
  refine g_iconst (v := 1) a8_add_17 rfl ?_
  refine g_iadd a8_add_18 ?_
  obtain ⟨σ3, eσ3, h⟩ := lt_inv h
  refine g_puti a8_add_19 fs8_23 ps8_2 (fun _ _ _ => rfl) ?_
  rw [eσ3]
  have h := Option.some.inj h
  subst h
  exact g_retE a8_add_22 trivial rfl rfl
theorem a8_length_0 : At cX8_length 0 (.aload_n 0) 1 1 := ⟨by decide +kernel, rfl⟩
theorem a8_length_1 : At cX8_length 1 (.getfield 23) 3 4 := ⟨by decide +kernel, rfl⟩
theorem a8_length_4 : At cX8_length 4 (.ireturn) 1 5 := ⟨by decide +kernel, rfl⟩
def f8_length (k0 : Nat) (σ : Mem) : Int32 :=
  (σ.1 8 k0 2)
theorem E8_length (k0 : Nat) (σ : Mem) : Ev m8_length [.inr (.inr (8, k0))] σ (some (.inl (f8_length k0 σ)) : Option AV) σ := by
  obtain ⟨w, h⟩ : ∃ w, f8_length k0 σ = w := ⟨_, rfl⟩
  rw [h]
  unfold f8_length at h
  show Go m8_length 0 [some (.inr (.inr (8, k0)))] [] σ (some (.inl w) : Option AV) σ
  refine g_aload_n a8_length_0 rfl ?_
  refine g_getf (v := .inl (σ.1 8 k0 2)) a8_length_1 fs8_23 rfl ?_
  subst h
  exact g_retE a8_length_4 trivial rfl rfl
theorem a10_type_0 : At cX10_type 0 (.iload_n 1) 1 1 := ⟨by decide +kernel, rfl⟩
theorem a10_type_1 : At cX10_type 1 (.iconst 0) 1 2 := ⟨by decide +kernel, rfl⟩
theorem a10_type_2 : At cX10_type 2 (.bipush 127) 2 4 := ⟨by decide +kernel, rfl⟩
theorem a10_type_4 : At cX10_type 4 (.invokestatic 96) 3 7 := ⟨by decide +kernel, rfl⟩
theorem a10_type_7 : At cX10_type 7 (.ifCond .ne 8) 3 10 := ⟨by decide +kernel, rfl⟩
theorem a10_type_10 : At cX10_type 10 (.aload_n 0) 1 11 := ⟨by decide +kernel, rfl⟩
theorem a10_type_11 : At cX10_type 11 (.invokevirtual 100) 3 14 := ⟨by decide +kernel, rfl⟩
theorem a10_type_14 : At cX10_type 14 (.ireturn) 1 15 := ⟨by decide +kernel, rfl⟩
theorem a10_type_15 : At cX10_type 15 (.aload_n 0) 1 16 := ⟨by decide +kernel, rfl⟩
theorem a10_type_16 : At cX10_type 16 (.getfield 44) 3 19 := ⟨by decide +kernel, rfl⟩
theorem a10_type_19 : At cX10_type 19 (.invokevirtual 138) 3 22 := ⟨by decide +kernel, rfl⟩
theorem a10_type_22 : At cX10_type 22 (.ifCond .eq 8) 3 25 := ⟨by decide +kernel, rfl⟩
theorem a10_type_25 : At cX10_type 25 (.aload_n 0) 1 26 := ⟨by decide +kernel, rfl⟩
theorem a10_type_26 : At cX10_type 26 (.invokevirtual 124) 3 29 := ⟨by decide +kernel, rfl⟩
theorem a10_type_29 : At cX10_type 29 (.ireturn) 1 30 := ⟨by decide +kernel, rfl⟩
theorem a10_type_30 : At cX10_type 30 (.aload_n 0) 1 31 := ⟨by decide +kernel, rfl⟩
theorem a10_type_31 : At cX10_type 31 (.getfield 44) 3 34 := ⟨by decide +kernel, rfl⟩
theorem a10_type_34 : At cX10_type 34 (.iload_n 1) 1 35 := ⟨by decide +kernel, rfl⟩
theorem a10_type_35 : At cX10_type 35 (.invokevirtual 139) 3 38 := ⟨by decide +kernel, rfl⟩
theorem a10_type_38 : At cX10_type 38 (.aload_n 0) 1 39 := ⟨by decide +kernel, rfl⟩
theorem a10_type_39 : At cX10_type 39 (.getfield 44) 3 42 := ⟨by decide +kernel, rfl⟩
theorem a10_type_42 : At cX10_type 42 (.invokevirtual 142) 3 45 := ⟨by decide +kernel, rfl⟩
theorem a10_type_45 : At cX10_type 45 (.ireturn) 1 46 := ⟨by decide +kernel, rfl⟩
def f10_type (k0 : Nat) (x1 : Int32) (σ : Mem) : Option (Int32 × Mem) :=
  if (f10_within x1 0 127) = 0 then
  (lt (f10_refuseBad k0 σ) fun w2 =>
  some (w2.1, w2.2))
  else
  (if (f8_isFull 0 σ) = 0 then
  (bnd (f8_add 0 x1 σ) fun w5 =>
  some ((f8_length 0 w5), w5))
  else
  (lt (f10_refuseFull k0 σ) fun w8 =>
  some (w8.1, w8.2)))
theorem E10_type {k0 : Nat} {x1 : Int32} {σ : Mem} {w : Int32 × Mem} (h : f10_type k0 x1 σ = some w) : Ev m10_type [.inr (.inr (10, k0)), .inl x1] σ (some (.inl w.1) : Option AV) w.2 := by
  unfold f10_type at h
  show Go m10_type 0 [some (.inr (.inr (10, k0))), some (.inl x1)] [] σ (some (.inl w.1) : Option AV) w.2
  refine g_iload_n a10_type_0 rfl ?_
  refine g_iconst (v := 0) a10_type_1 rfl ?_
  refine g_bipush (v := 127) a10_type_2 rfl ?_
  refine g_S3s (v1 := .inl (f10_within x1 0 127)) (σ1 := σ) a10_type_4 cs10_96 (E10_within _ _ _ _) rfl (fun o1 => ?_)
  refine g_if_ne (tgt := 15) a10_type_7 rfl (fun c11 => ?_) (fun c11 => ?_)
  · have h := (if_neg c11).symm.trans h
    refine g_aload_n a10_type_15 rfl ?_
    refine g_getf (v := .inr (.inr (8, 0))) a10_type_16 fs10_44 rfl ?_
    refine g_V0s (v1 := .inl (f8_isFull 0 σ)) (σ1 := σ) a10_type_19 cv10_138 (E8_isFull _ _) rfl (fun o4 => ?_)
    refine g_if_eq (tgt := 30) a10_type_22 rfl (fun c10 => ?_) (fun c10 => ?_)
    · have h := (if_pos c10).symm.trans h
      refine g_aload_n a10_type_30 rfl ?_
      refine g_getf (v := .inr (.inr (8, 0))) a10_type_31 fs10_44 rfl ?_
      refine g_iload_n a10_type_34 rfl ?_
      obtain ⟨w5, hw5, h⟩ := bnd_inv h
      refine g_V1n (σ1 := w5) a10_type_35 cv10_139 (E8_add hw5) rfl (fun o6 => ?_)
      refine g_aload_n a10_type_38 rfl ?_
      refine g_getf (v := .inr (.inr (8, 0))) a10_type_39 fs10_44 rfl ?_
      refine g_V0s (v1 := .inl (f8_length 0 w5)) (σ1 := w5) a10_type_42 cv10_142 (E8_length _ _) rfl (fun o7 => ?_)
      have h := Option.some.inj h
      subst h
      exact g_retE a10_type_45 trivial rfl rfl
    · have h := (if_neg c10).symm.trans h
      refine g_aload_n a10_type_25 rfl ?_
      obtain ⟨w8, hw8, h⟩ := lt_inv h
      refine g_V0s (v1 := .inl w8.1) (σ1 := w8.2) a10_type_26 cv10_124 (by rw [← hw8]; exact E10_refuseFull _ _) rfl (fun o9 => ?_)
      have h := Option.some.inj h
      subst h
      exact g_retE a10_type_29 trivial rfl rfl
  · have h := (if_pos c11).symm.trans h
    refine g_aload_n a10_type_10 rfl ?_
    obtain ⟨w2, hw2, h⟩ := lt_inv h
    refine g_V0s (v1 := .inl w2.1) (σ1 := w2.2) a10_type_11 cv10_100 (by rw [← hw2]; exact E10_refuseBad _ _) rfl (fun o3 => ?_)
    have h := Option.some.inj h
    subst h
    exact g_retE a10_type_14 trivial rfl rfl
theorem a8_empty_0 : At cX8_empty 0 (.aload_n 0) 1 1 := ⟨by decide +kernel, rfl⟩
theorem a8_empty_1 : At cX8_empty 1 (.iconst 0) 1 2 := ⟨by decide +kernel, rfl⟩
theorem a8_empty_2 : At cX8_empty 2 (.putfield 23) 3 5 := ⟨by decide +kernel, rfl⟩
theorem a8_empty_5 : At cX8_empty 5 (.return_) 1 6 := ⟨by decide +kernel, rfl⟩
def f8_empty (k0 : Nat) (σ : Mem) : Mem :=
  lt (sI σ 8 k0 2 0) fun σ1 =>
  σ1
theorem E8_empty (k0 : Nat) (σ : Mem) : Ev m8_empty [.inr (.inr (8, k0))] σ none (f8_empty k0 σ) := by
  obtain ⟨w, h⟩ : ∃ w, f8_empty k0 σ = w := ⟨_, rfl⟩
  rw [h]
  unfold f8_empty at h
  show Go m8_empty 0 [some (.inr (.inr (8, k0)))] [] σ none w
  refine g_aload_n a8_empty_0 rfl ?_
  refine g_iconst (v := 0) a8_empty_1 rfl ?_
  obtain ⟨σ1, eσ1, h⟩ := lt_inv h
  refine g_puti a8_empty_2 fs8_23 ps8_2 (fun _ _ _ => rfl) ?_
  rw [eσ1]
  subst h
  exact g_retE a8_empty_5 trivial rfl rfl
theorem a10_clear_0 : At cX10_clear 0 (.aload_n 0) 1 1 := ⟨by decide +kernel, rfl⟩
theorem a10_clear_1 : At cX10_clear 1 (.getfield 44) 3 4 := ⟨by decide +kernel, rfl⟩
theorem a10_clear_4 : At cX10_clear 4 (.invokevirtual 142) 3 7 := ⟨by decide +kernel, rfl⟩
theorem a10_clear_7 : At cX10_clear 7 (.istore_n 1) 1 8 := ⟨by decide +kernel, rfl⟩
theorem a10_clear_8 : At cX10_clear 8 (.aload_n 0) 1 9 := ⟨by decide +kernel, rfl⟩
theorem a10_clear_9 : At cX10_clear 9 (.getfield 44) 3 12 := ⟨by decide +kernel, rfl⟩
theorem a10_clear_12 : At cX10_clear 12 (.invokevirtual 145) 3 15 := ⟨by decide +kernel, rfl⟩
theorem a10_clear_15 : At cX10_clear 15 (.iload_n 1) 1 16 := ⟨by decide +kernel, rfl⟩
theorem a10_clear_16 : At cX10_clear 16 (.ireturn) 1 17 := ⟨by decide +kernel, rfl⟩
def f10_clear (k0 : Nat) (σ : Mem) : Int32 × Mem :=
  lt (f8_empty 0 σ) fun w2 =>
  ((f8_length 0 σ), w2)
theorem E10_clear (k0 : Nat) (σ : Mem) : Ev m10_clear [.inr (.inr (10, k0))] σ (some (.inl ((f10_clear k0 σ).1)) : Option AV) (f10_clear k0 σ).2 := by
  obtain ⟨w, h⟩ : ∃ w, f10_clear k0 σ = w := ⟨_, rfl⟩
  rw [h]
  unfold f10_clear at h
  show Go m10_clear 0 [some (.inr (.inr (10, k0))), none] [] σ (some (.inl w.1) : Option AV) w.2
  refine g_aload_n a10_clear_0 rfl ?_
  refine g_getf (v := .inr (.inr (8, 0))) a10_clear_1 fs10_44 rfl ?_
  refine g_V0s (v1 := .inl (f8_length 0 σ)) (σ1 := σ) a10_clear_4 cv10_142 (E8_length _ _) rfl (fun o1 => ?_)
  refine g_istore_n (L' := [some (.inr (.inr (10, k0))), some (.inl (f8_length 0 σ))]) a10_clear_7 (Nat.le_of_ble_eq_true rfl) rfl rfl ?_
  refine g_aload_n a10_clear_8 rfl ?_
  refine g_getf (v := .inr (.inr (8, 0))) a10_clear_9 fs10_44 rfl ?_
  obtain ⟨w2, hw2, h⟩ := lt_inv h
  refine g_V0n (σ1 := w2) a10_clear_12 cv10_145 (by rw [← hw2]; exact E8_empty _ _) rfl (fun o3 => ?_)
  refine g_iload_n a10_clear_15 rfl ?_
  subst h
  exact g_retE a10_clear_16 trivial rfl rfl
theorem a6_at_0 : At cX6_at 0 (.iload_n 1) 1 1 := ⟨by decide +kernel, rfl⟩
theorem a6_at_1 : At cX6_at 1 (.ifCond .lt 21) 3 4 := ⟨by decide +kernel, rfl⟩
theorem a6_at_4 : At cX6_at 4 (.iload_n 1) 1 5 := ⟨by decide +kernel, rfl⟩
theorem a6_at_5 : At cX6_at 5 (.aload_n 0) 1 6 := ⟨by decide +kernel, rfl⟩
theorem a6_at_6 : At cX6_at 6 (.getfield 13) 3 9 := ⟨by decide +kernel, rfl⟩
theorem a6_at_9 : At cX6_at 9 (.arraylength) 1 10 := ⟨by decide +kernel, rfl⟩
theorem a6_at_10 : At cX6_at 10 (.if_icmp .ge 12) 3 13 := ⟨by decide +kernel, rfl⟩
theorem a6_at_13 : At cX6_at 13 (.aload_n 0) 1 14 := ⟨by decide +kernel, rfl⟩
theorem a6_at_14 : At cX6_at 14 (.getfield 13) 3 17 := ⟨by decide +kernel, rfl⟩
theorem a6_at_17 : At cX6_at 17 (.iload_n 1) 1 18 := ⟨by decide +kernel, rfl⟩
theorem a6_at_18 : At cX6_at 18 (.iaload) 1 19 := ⟨by decide +kernel, rfl⟩
theorem a6_at_19 : At cX6_at 19 (.goto 4) 3 22 := ⟨by decide +kernel, rfl⟩
theorem a6_at_22 : At cX6_at 22 (.iconst 0) 1 23 := ⟨by decide +kernel, rfl⟩
theorem a6_at_23 : At cX6_at 23 (.ireturn) 1 24 := ⟨by decide +kernel, rfl⟩
def f6_at (k0 : Nat) (x1 : Int32) (σ : Mem) : Option (Int32) :=
  if x1 < 0 then
  (some 0)
  else
  (if (Int32.ofNat (alen 21 k0)) ≤ x1 then
  (some 0)
  else
  (ck (inb x1 (alen 21 k0)) <|
  some (σ.1 21 k0 (x1 : Int32).toNatClampNeg)))
theorem E6_at {k0 : Nat} {x1 : Int32} {σ : Mem} {w : Int32} (h : f6_at k0 x1 σ = some w) : Ev m6_at [.inr (.inr (6, k0)), .inl x1] σ (some (.inl w) : Option AV) σ := by
  unfold f6_at at h
  show Go m6_at 0 [some (.inr (.inr (6, k0))), some (.inl x1)] [] σ (some (.inl w) : Option AV) σ
  refine g_iload_n a6_at_0 rfl ?_
  refine g_if_lt (tgt := 22) a6_at_1 rfl (fun c3 => ?_) (fun c3 => ?_)
  · have h := (if_pos c3).symm.trans h
    refine g_iconst (v := 0) a6_at_22 rfl ?_
    have h := Option.some.inj h
    subst h
    exact g_retE a6_at_23 trivial rfl rfl
  · have h := (if_neg c3).symm.trans h
    refine g_iload_n a6_at_4 rfl ?_
    refine g_aload_n a6_at_5 rfl ?_
    refine g_getf (v := .inr (.inr (21, k0))) a6_at_6 fs6_13 rfl ?_
    refine g_alen (x := (Int32.ofNat (alen 21 k0))) a6_at_9 (rI21 _) rfl ?_
    refine g_icmp_ge (tgt := 22) a6_at_10 rfl (fun c2 => ?_) (fun c2 => ?_)
    · have h := (if_pos c2).symm.trans h
      refine g_iconst (v := 0) a6_at_22 rfl ?_
      have h := Option.some.inj h
      subst h
      exact g_retE a6_at_23 trivial rfl rfl
    · have h := (if_neg c2).symm.trans h
      refine g_aload_n a6_at_13 rfl ?_
      refine g_getf (v := .inr (.inr (21, k0))) a6_at_14 fs6_13 rfl ?_
      refine g_iload_n a6_at_17 rfl ?_
      obtain ⟨q1, h⟩ := ck_inv h
      refine g_iald (x := (σ.1 21 k0 (x1 : Int32).toNatClampNeg)) a6_at_18 (rI21 _) (inb_ok q1) rfl ?_
      refine g_goto (tgt := 23) a6_at_19 rfl ?_
      have h := Option.some.inj h
      subst h
      exact g_retE a6_at_23 trivial rfl rfl
theorem a8_runEnd_0 : At cX8_runEnd 0 (.iload_n 1) 1 1 := ⟨by decide +kernel, rfl⟩
theorem a8_runEnd_1 : At cX8_runEnd 1 (.istore 4) 2 3 := ⟨by decide +kernel, rfl⟩
theorem a8_runEnd_3 : At cX8_runEnd 3 (.iload 4) 2 5 := ⟨by decide +kernel, rfl⟩
theorem a8_runEnd_5 : At cX8_runEnd 5 (.aload_n 0) 1 6 := ⟨by decide +kernel, rfl⟩
theorem a8_runEnd_6 : At cX8_runEnd 6 (.getfield 23) 3 9 := ⟨by decide +kernel, rfl⟩
theorem a8_runEnd_9 : At cX8_runEnd 9 (.if_icmp .ge 26) 3 12 := ⟨by decide +kernel, rfl⟩
theorem a8_runEnd_12 : At cX8_runEnd 12 (.aload_n 0) 1 13 := ⟨by decide +kernel, rfl⟩
theorem a8_runEnd_13 : At cX8_runEnd 13 (.getfield 16) 3 16 := ⟨by decide +kernel, rfl⟩
theorem a8_runEnd_16 : At cX8_runEnd 16 (.iload 4) 2 18 := ⟨by decide +kernel, rfl⟩
theorem a8_runEnd_18 : At cX8_runEnd 18 (.invokevirtual 96) 3 21 := ⟨by decide +kernel, rfl⟩
theorem a8_runEnd_21 : At cX8_runEnd 21 (.iload_n 2) 1 22 := ⟨by decide +kernel, rfl⟩
theorem a8_runEnd_22 : At cX8_runEnd 22 (.iload_n 3) 1 23 := ⟨by decide +kernel, rfl⟩
theorem a8_runEnd_23 : At cX8_runEnd 23 (.invokestatic 88) 3 26 := ⟨by decide +kernel, rfl⟩
theorem a8_runEnd_26 : At cX8_runEnd 26 (.ifCond .eq 9) 3 29 := ⟨by decide +kernel, rfl⟩
theorem a8_runEnd_29 : At cX8_runEnd 29 (.iinc 4 1) 3 32 := ⟨by decide +kernel, rfl⟩
theorem a8_runEnd_32 : At cX8_runEnd 32 (.goto (-29)) 3 35 := ⟨by decide +kernel, rfl⟩
theorem a8_runEnd_35 : At cX8_runEnd 35 (.iload 4) 2 37 := ⟨by decide +kernel, rfl⟩
theorem a8_runEnd_37 : At cX8_runEnd 37 (.ireturn) 1 38 := ⟨by decide +kernel, rfl⟩
def l8_runEnd_3 (k0 : Nat) (x2 : Int32) (x3 : Int32) (σ : Mem) : Nat → Int32 → Option (Int32)
  | 0, _ => none
  | n + 1, x4 =>
  if (σ.1 8 k0 2) ≤ x4 then
  (some x4)
  else
  (bnd (f6_at 1 x4 σ) fun w1 =>
  if (f10_within w1 x2 x3) = 0 then
  (some x4)
  else
  (l8_runEnd_3 k0 x2 x3 σ n (x4 + 1)))
theorem lE8_runEnd_3 {V : Option AV} {S : Mem} (k0 : Nat) (x2 : Int32) (x3 : Int32) (σ : Mem) : ∀ (n : Nat) (x4 : Int32) {w : Int32}, l8_runEnd_3 k0 x2 x3 σ n x4 = some w → (Go m8_runEnd 35 [some (.inr (.inr (8, k0))), none, some (.inl x2), some (.inl x3), some (.inl w)] [] σ V S) → Go m8_runEnd 3 [some (.inr (.inr (8, k0))), none, some (.inl x2), some (.inl x3), some (.inl x4)] [] σ V S
  | 0, x4, w, h, K1 => by cases h
  | n + 1, x4, w, h, K1 => by
    rw [l8_runEnd_3] at h
    refine g_iload a8_runEnd_3 rfl ?_
    refine g_aload_n a8_runEnd_5 rfl ?_
    refine g_getf (v := .inl (σ.1 8 k0 2)) a8_runEnd_6 fs8_23 rfl ?_
    refine g_icmp_ge (tgt := 35) a8_runEnd_9 rfl (fun c5 => ?_) (fun c5 => ?_)
    · have h := (if_pos c5).symm.trans h
      have h := Option.some.inj h
      subst h
      exact g_weak K1 ⟨rfl, rfl, rfl, rfl, trivial⟩
    · have h := (if_neg c5).symm.trans h
      refine g_aload_n a8_runEnd_12 rfl ?_
      refine g_getf (v := .inr (.inr (6, 1))) a8_runEnd_13 fs8_16 rfl ?_
      refine g_iload a8_runEnd_16 rfl ?_
      obtain ⟨w1, hw1, h⟩ := bnd_inv h
      refine g_V1s (v1 := .inl w1) (σ1 := σ) a8_runEnd_18 cv8_96 (E6_at hw1) rfl (fun o2 => ?_)
      refine g_iload_n a8_runEnd_21 rfl ?_
      refine g_iload_n a8_runEnd_22 rfl ?_
      refine g_W3s (v1 := .inl (f10_within w1 x2 x3)) (σ1 := σ) rfl a8_runEnd_23 rfl mok10_within wstwithin (E10_within _ _ _ _) rfl (fun o3 => ?_)
      refine g_if_eq (tgt := 35) a8_runEnd_26 rfl (fun c4 => ?_) (fun c4 => ?_)
      · have h := (if_pos c4).symm.trans h
        have h := Option.some.inj h
        subst h
        exact g_weak K1 ⟨rfl, rfl, rfl, rfl, trivial⟩
      · have h := (if_neg c4).symm.trans h
        refine g_iinc (v := (x4 + 1)) (L' := [some (.inr (.inr (8, k0))), none, some (.inl x2), some (.inl x3), some (.inl (x4 + 1))]) a8_runEnd_29 rfl rfl (Nat.le_of_ble_eq_true rfl) rfl rfl ?_
        refine g_goto (tgt := 3) a8_runEnd_32 rfl ?_
        exact g_weak (lE8_runEnd_3 (V := V) (S := S)  k0 x2 x3 σ n _ h K1) ⟨rfl, rfl, rfl, rfl, trivial⟩
def f8_runEnd (k0 : Nat) (x1 : Int32) (x2 : Int32) (x3 : Int32) (σ : Mem) : Option (Int32) :=
  bnd (l8_runEnd_3 k0 x2 x3 σ 2000 x1) fun w6 =>
  some w6
theorem E8_runEnd {k0 : Nat} {x1 : Int32} {x2 : Int32} {x3 : Int32} {σ : Mem} {w : Int32} (h : f8_runEnd k0 x1 x2 x3 σ = some w) : Ev m8_runEnd [.inr (.inr (8, k0)), .inl x1, .inl x2, .inl x3] σ (some (.inl w) : Option AV) σ := by
  unfold f8_runEnd at h
  show Go m8_runEnd 0 [some (.inr (.inr (8, k0))), some (.inl x1), some (.inl x2), some (.inl x3), none] [] σ (some (.inl w) : Option AV) σ
  refine g_iload_n a8_runEnd_0 rfl ?_
  refine g_istore (L' := [some (.inr (.inr (8, k0))), some (.inl x1), some (.inl x2), some (.inl x3), some (.inl x1)]) a8_runEnd_1 (Nat.le_of_ble_eq_true rfl) rfl rfl ?_
  obtain ⟨w6, hw6, h⟩ := bnd_inv h
  refine g_weak (lE8_runEnd_3 k0 x2 x3 σ 2000 _ hw6 ?_) ⟨rfl, rfl, rfl, rfl, trivial⟩
  refine g_iload a8_runEnd_35 rfl ?_
  have h := Option.some.inj h
  subst h
  exact g_retE a8_runEnd_37 trivial rfl rfl
theorem a8_wordOf_0 : At cX8_wordOf 0 (.iload_n 0) 1 1 := ⟨by decide +kernel, rfl⟩
theorem a8_wordOf_1 : At cX8_wordOf 1 (.tableswitch 50 4 8 #[35, 38, 41, 44, 47]) 35 36 := ⟨by decide +kernel, rfl⟩
theorem a8_wordOf_36 : At cX8_wordOf 36 (.ldc 138) 2 38 := ⟨by decide +kernel, rfl⟩
theorem a8_wordOf_38 : At cX8_wordOf 38 (.areturn) 1 39 := ⟨by decide +kernel, rfl⟩
theorem a8_wordOf_39 : At cX8_wordOf 39 (.ldc 140) 2 41 := ⟨by decide +kernel, rfl⟩
theorem a8_wordOf_41 : At cX8_wordOf 41 (.areturn) 1 42 := ⟨by decide +kernel, rfl⟩
theorem a8_wordOf_42 : At cX8_wordOf 42 (.ldc 142) 2 44 := ⟨by decide +kernel, rfl⟩
theorem a8_wordOf_44 : At cX8_wordOf 44 (.areturn) 1 45 := ⟨by decide +kernel, rfl⟩
theorem a8_wordOf_45 : At cX8_wordOf 45 (.ldc 144) 2 47 := ⟨by decide +kernel, rfl⟩
theorem a8_wordOf_47 : At cX8_wordOf 47 (.areturn) 1 48 := ⟨by decide +kernel, rfl⟩
theorem a8_wordOf_48 : At cX8_wordOf 48 (.ldc 146) 2 50 := ⟨by decide +kernel, rfl⟩
theorem a8_wordOf_50 : At cX8_wordOf 50 (.areturn) 1 51 := ⟨by decide +kernel, rfl⟩
theorem a8_wordOf_51 : At cX8_wordOf 51 (.ldc 148) 2 53 := ⟨by decide +kernel, rfl⟩
theorem a8_wordOf_53 : At cX8_wordOf 53 (.areturn) 1 54 := ⟨by decide +kernel, rfl⟩
def f8_wordOf (x0 : Int32) : Nat :=
  if x0 = 4 then
  (0)
  else if x0 = 5 then
  (1)
  else if x0 = 6 then
  (2)
  else if x0 = 7 then
  (3)
  else if x0 = 8 then
  (4)
  else 
  (5)
theorem E8_wordOf (x0 : Int32) (σ : Mem) : Ev m8_wordOf [.inl x0] σ (some (.inr (.inr (12, (f8_wordOf x0)))) : Option AV) σ := by
  obtain ⟨w, h⟩ : ∃ w, f8_wordOf x0 = w := ⟨_, rfl⟩
  rw [h]
  unfold f8_wordOf at h
  show Go m8_wordOf 0 [some (.inl x0)] [] σ (some (.inr (.inr (12, w))) : Option AV) σ
  refine g_iload_n a8_wordOf_0 rfl ?_
  rcases Decidable.em (x0 = 4) with c1 | c1
  · have h := (if_pos c1).symm.trans h
    refine g_tsIn (tgt := 36) (off := 35) a8_wordOf_1 (by rw [c1]; decide) (by rw [c1]; decide) (by rw [c1]; rfl) rfl ?_
    refine g_ldcS (q := 0) rfl a8_wordOf_36 (by decide) ?_
    subst h
    exact g_retE a8_wordOf_38 trivial rfl rfl
  have h := (if_neg c1).symm.trans h
  rcases Decidable.em (x0 = 5) with c2 | c2
  · have h := (if_pos c2).symm.trans h
    refine g_tsIn (tgt := 39) (off := 38) a8_wordOf_1 (by rw [c2]; decide) (by rw [c2]; decide) (by rw [c2]; rfl) rfl ?_
    refine g_ldcS (q := 1) rfl a8_wordOf_39 (by decide) ?_
    subst h
    exact g_retE a8_wordOf_41 trivial rfl rfl
  have h := (if_neg c2).symm.trans h
  rcases Decidable.em (x0 = 6) with c3 | c3
  · have h := (if_pos c3).symm.trans h
    refine g_tsIn (tgt := 42) (off := 41) a8_wordOf_1 (by rw [c3]; decide) (by rw [c3]; decide) (by rw [c3]; rfl) rfl ?_
    refine g_ldcS (q := 2) rfl a8_wordOf_42 (by decide) ?_
    subst h
    exact g_retE a8_wordOf_44 trivial rfl rfl
  have h := (if_neg c3).symm.trans h
  rcases Decidable.em (x0 = 7) with c4 | c4
  · have h := (if_pos c4).symm.trans h
    refine g_tsIn (tgt := 45) (off := 44) a8_wordOf_1 (by rw [c4]; decide) (by rw [c4]; decide) (by rw [c4]; rfl) rfl ?_
    refine g_ldcS (q := 3) rfl a8_wordOf_45 (by decide) ?_
    subst h
    exact g_retE a8_wordOf_47 trivial rfl rfl
  have h := (if_neg c4).symm.trans h
  rcases Decidable.em (x0 = 8) with c5 | c5
  · have h := (if_pos c5).symm.trans h
    refine g_tsIn (tgt := 48) (off := 47) a8_wordOf_1 (by rw [c5]; decide) (by rw [c5]; decide) (by rw [c5]; rfl) rfl ?_
    refine g_ldcS (q := 4) rfl a8_wordOf_48 (by decide) ?_
    subst h
    exact g_retE a8_wordOf_50 trivial rfl rfl
  have h := (if_neg c5).symm.trans h
  have tc1 := lv_neT c1 (a := 4) rfl
  have tc2 := lv_neT c2 (a := 5) rfl
  have tc3 := lv_neT c3 (a := 6) rfl
  have tc4 := lv_neT c4 (a := 7) rfl
  have tc5 := lv_neT c5 (a := 8) rfl
  refine g_tsOut (tgt := 51) a8_wordOf_1 (by omega) rfl ?_
  refine g_ldcS (q := 5) rfl a8_wordOf_51 (by decide) ?_
  subst h
  exact g_retE a8_wordOf_53 trivial rfl rfl
theorem a8_spells_0 : At cX8_spells 0 (.aload_n 1) 1 1 := ⟨by decide +kernel, rfl⟩
theorem a8_spells_1 : At cX8_spells 1 (.invokevirtual 150) 3 4 := ⟨by decide +kernel, rfl⟩
theorem a8_spells_4 : At cX8_spells 4 (.aload_n 0) 1 5 := ⟨by decide +kernel, rfl⟩
theorem a8_spells_5 : At cX8_spells 5 (.getfield 31) 3 8 := ⟨by decide +kernel, rfl⟩
theorem a8_spells_8 : At cX8_spells 8 (.aload_n 0) 1 9 := ⟨by decide +kernel, rfl⟩
theorem a8_spells_9 : At cX8_spells 9 (.getfield 52) 3 12 := ⟨by decide +kernel, rfl⟩
theorem a8_spells_12 : At cX8_spells 12 (.isub) 1 13 := ⟨by decide +kernel, rfl⟩
theorem a8_spells_13 : At cX8_spells 13 (.if_icmp .eq 5) 3 16 := ⟨by decide +kernel, rfl⟩
theorem a8_spells_16 : At cX8_spells 16 (.iconst 0) 1 17 := ⟨by decide +kernel, rfl⟩
theorem a8_spells_17 : At cX8_spells 17 (.ireturn) 1 18 := ⟨by decide +kernel, rfl⟩
theorem a8_spells_18 : At cX8_spells 18 (.iconst 0) 1 19 := ⟨by decide +kernel, rfl⟩
theorem a8_spells_19 : At cX8_spells 19 (.istore_n 2) 1 20 := ⟨by decide +kernel, rfl⟩
theorem a8_spells_20 : At cX8_spells 20 (.iload_n 2) 1 21 := ⟨by decide +kernel, rfl⟩
theorem a8_spells_21 : At cX8_spells 21 (.aload_n 1) 1 22 := ⟨by decide +kernel, rfl⟩
theorem a8_spells_22 : At cX8_spells 22 (.invokevirtual 150) 3 25 := ⟨by decide +kernel, rfl⟩
theorem a8_spells_25 : At cX8_spells 25 (.if_icmp .ge 32) 3 28 := ⟨by decide +kernel, rfl⟩
theorem a8_spells_28 : At cX8_spells 28 (.aload_n 1) 1 29 := ⟨by decide +kernel, rfl⟩
theorem a8_spells_29 : At cX8_spells 29 (.iload_n 2) 1 30 := ⟨by decide +kernel, rfl⟩
theorem a8_spells_30 : At cX8_spells 30 (.invokevirtual 154) 3 33 := ⟨by decide +kernel, rfl⟩
theorem a8_spells_33 : At cX8_spells 33 (.aload_n 0) 1 34 := ⟨by decide +kernel, rfl⟩
theorem a8_spells_34 : At cX8_spells 34 (.getfield 16) 3 37 := ⟨by decide +kernel, rfl⟩
theorem a8_spells_37 : At cX8_spells 37 (.aload_n 0) 1 38 := ⟨by decide +kernel, rfl⟩
theorem a8_spells_38 : At cX8_spells 38 (.getfield 52) 3 41 := ⟨by decide +kernel, rfl⟩
theorem a8_spells_41 : At cX8_spells 41 (.iload_n 2) 1 42 := ⟨by decide +kernel, rfl⟩
theorem a8_spells_42 : At cX8_spells 42 (.iadd) 1 43 := ⟨by decide +kernel, rfl⟩
theorem a8_spells_43 : At cX8_spells 43 (.invokevirtual 96) 3 46 := ⟨by decide +kernel, rfl⟩
theorem a8_spells_46 : At cX8_spells 46 (.if_icmp .eq 5) 3 49 := ⟨by decide +kernel, rfl⟩
theorem a8_spells_49 : At cX8_spells 49 (.iconst 0) 1 50 := ⟨by decide +kernel, rfl⟩
theorem a8_spells_50 : At cX8_spells 50 (.ireturn) 1 51 := ⟨by decide +kernel, rfl⟩
theorem a8_spells_51 : At cX8_spells 51 (.iinc 2 1) 3 54 := ⟨by decide +kernel, rfl⟩
theorem a8_spells_54 : At cX8_spells 54 (.goto (-34)) 3 57 := ⟨by decide +kernel, rfl⟩
theorem a8_spells_57 : At cX8_spells 57 (.iconst 1) 1 58 := ⟨by decide +kernel, rfl⟩
theorem a8_spells_58 : At cX8_spells 58 (.ireturn) 1 59 := ⟨by decide +kernel, rfl⟩
def l8_spells_20 (k0 : Nat) (k1 : Nat) (σ : Mem) : Nat → Int32 → Option ((Int32) ⊕ (Int32))
  | 0, _ => none
  | n + 1, x2 =>
  if (sLen k1) ≤ x2 then
  (some (.inl x2))
  else
  (bnd (sAt k1 x2) fun w3 =>
  bnd (f6_at 1 ((σ.1 8 k0 4) + x2) σ) fun w5 =>
  if w3 = w5 then
  (l8_spells_20 k0 k1 σ n (x2 + 1))
  else
  (some (.inr 0)))
theorem lE8_spells_20 {V : Option AV} {S : Mem} (k0 : Nat) (k1 : Nat) (σ : Mem) : ∀ (n : Nat) (x2 : Int32) {w : (Int32) ⊕ (Int32)}, l8_spells_20 k0 k1 σ n x2 = some w → (∀ u, w = .inl u → Go m8_spells 57 [some (.inr (.inr (8, k0))), some (.inr (.inr (12, k1))), some (.inl u)] [] σ V S) → (∀ u, w = .inr u → (some (.inl u) : Option AV) = V ∧ σ = S) → Go m8_spells 20 [some (.inr (.inr (8, k0))), some (.inr (.inr (12, k1))), some (.inl x2)] [] σ V S
  | 0, x2, w, h, K1, K2 => by cases h
  | n + 1, x2, w, h, K1, K2 => by
    rw [l8_spells_20] at h
    refine g_iload_n a8_spells_20 rfl ?_
    refine g_aload_n a8_spells_21 rfl ?_
    refine g_T0s (v1 := .inl (sLen k1)) (σ1 := σ) a8_spells_22 cv8_150 (EJ0_length _ _) rfl (fun o2 => ?_)
    refine g_icmp_ge (tgt := 57) a8_spells_25 rfl (fun c8 => ?_) (fun c8 => ?_)
    · have h := (if_pos c8).symm.trans h
      have h := Option.some.inj h
      subst h
      exact g_weak (K1 _ rfl) ⟨rfl, rfl, rfl, trivial⟩
    · have h := (if_neg c8).symm.trans h
      refine g_aload_n a8_spells_28 rfl ?_
      refine g_iload_n a8_spells_29 rfl ?_
      obtain ⟨w3, hw3, h⟩ := bnd_inv h
      refine g_T1s (v1 := .inl w3) (σ1 := σ) a8_spells_30 cv8_154 (EJ0_charAt hw3) rfl (fun o4 => ?_)
      refine g_aload_n a8_spells_33 rfl ?_
      refine g_getf (v := .inr (.inr (6, 1))) a8_spells_34 fs8_16 rfl ?_
      refine g_aload_n a8_spells_37 rfl ?_
      refine g_getf (v := .inl (σ.1 8 k0 4)) a8_spells_38 fs8_52 rfl ?_
      refine g_iload_n a8_spells_41 rfl ?_
      refine g_iadd a8_spells_42 ?_
      obtain ⟨w5, hw5, h⟩ := bnd_inv h
      refine g_V1s (v1 := .inl w5) (σ1 := σ) a8_spells_43 cv8_96 (E6_at hw5) rfl (fun o6 => ?_)
      refine g_icmp_eq (tgt := 51) a8_spells_46 rfl (fun c7 => ?_) (fun c7 => ?_)
      · have h := (if_pos c7).symm.trans h
        refine g_iinc (v := (x2 + 1)) (L' := [some (.inr (.inr (8, k0))), some (.inr (.inr (12, k1))), some (.inl (x2 + 1))]) a8_spells_51 rfl rfl (Nat.le_of_ble_eq_true rfl) rfl rfl ?_
        refine g_goto (tgt := 20) a8_spells_54 rfl ?_
        exact g_weak (lE8_spells_20 (V := V) (S := S)  k0 k1 σ n _ h K1 K2) ⟨rfl, rfl, rfl, trivial⟩
      · have h := (if_neg c7).symm.trans h
        refine g_iconst (v := 0) a8_spells_49 rfl ?_
        have h := Option.some.inj h
        subst h
        obtain ⟨hV, hS⟩ := K2 _ rfl
        subst hV; subst hS
        exact g_retE a8_spells_50 (Or.inl rfl) rfl rfl
def f8_spells (k0 : Nat) (k1 : Nat) (σ : Mem) : Option (Int32) :=
  if (sLen k1) = ((σ.1 8 k0 5) - (σ.1 8 k0 4)) then
  (bnd (l8_spells_20 k0 k1 σ 2000 0) fun w9 =>
  sm w9 (fun u10 =>
  some 1) (fun u10 => some u10))
  else
  (some 0)
theorem E8_spells {k0 : Nat} {k1 : Nat} {σ : Mem} {w : Int32} (h : f8_spells k0 k1 σ = some w) : Ev m8_spells [.inr (.inr (8, k0)), .inr (.inr (12, k1))] σ (some (.inl w) : Option AV) σ := by
  unfold f8_spells at h
  show Go m8_spells 0 [some (.inr (.inr (8, k0))), some (.inr (.inr (12, k1))), none] [] σ (some (.inl w) : Option AV) σ
  refine g_aload_n a8_spells_0 rfl ?_
  refine g_T0s (v1 := .inl (sLen k1)) (σ1 := σ) a8_spells_1 cv8_150 (EJ0_length _ _) rfl (fun o1 => ?_)
  refine g_aload_n a8_spells_4 rfl ?_
  refine g_getf (v := .inl (σ.1 8 k0 5)) a8_spells_5 fs8_31 rfl ?_
  refine g_aload_n a8_spells_8 rfl ?_
  refine g_getf (v := .inl (σ.1 8 k0 4)) a8_spells_9 fs8_52 rfl ?_
  refine g_isub a8_spells_12 ?_
  refine g_icmp_eq (tgt := 18) a8_spells_13 rfl (fun c11 => ?_) (fun c11 => ?_)
  · have h := (if_pos c11).symm.trans h
    refine g_iconst (v := 0) a8_spells_18 rfl ?_
    refine g_istore_n (L' := [some (.inr (.inr (8, k0))), some (.inr (.inr (12, k1))), some (.inl 0)]) a8_spells_19 (Nat.le_of_ble_eq_true rfl) rfl rfl ?_
    obtain ⟨w9, hw9, h⟩ := bnd_inv h
    rcases w9 with u10 | u10
    · have h := sm_l h
      refine g_weak (lE8_spells_20 k0 k1 σ 2000 _ hw9 (fun _ e => ?_) (fun _ e => by cases e)) ⟨rfl, rfl, rfl, trivial⟩
      cases e
      refine g_iconst (v := 1) a8_spells_57 rfl ?_
      have h := Option.some.inj h
      subst h
      exact g_retE a8_spells_58 (Or.inr rfl) rfl rfl
    · have h := sm_r h
      have h := Option.some.inj h
      subst h
      exact g_weak (lE8_spells_20 k0 k1 σ 2000 _ hw9 (fun _ e => by cases e) (fun _ e => by cases e; exact ⟨rfl, rfl⟩)) ⟨rfl, rfl, rfl, trivial⟩
  · have h := (if_neg c11).symm.trans h
    refine g_iconst (v := 0) a8_spells_16 rfl ?_
    have h := Option.some.inj h
    subst h
    exact g_retE a8_spells_17 (Or.inl rfl) rfl rfl
theorem a8_wordToken_0 : At cX8_wordToken 0 (.iconst 4) 1 1 := ⟨by decide +kernel, rfl⟩
theorem a8_wordToken_1 : At cX8_wordToken 1 (.istore_n 1) 1 2 := ⟨by decide +kernel, rfl⟩
theorem a8_wordToken_2 : At cX8_wordToken 2 (.iload_n 1) 1 3 := ⟨by decide +kernel, rfl⟩
theorem a8_wordToken_3 : At cX8_wordToken 3 (.bipush 9) 2 5 := ⟨by decide +kernel, rfl⟩
theorem a8_wordToken_5 : At cX8_wordToken 5 (.if_icmp .gt 22) 3 8 := ⟨by decide +kernel, rfl⟩
theorem a8_wordToken_8 : At cX8_wordToken 8 (.aload_n 0) 1 9 := ⟨by decide +kernel, rfl⟩
theorem a8_wordToken_9 : At cX8_wordToken 9 (.iload_n 1) 1 10 := ⟨by decide +kernel, rfl⟩
theorem a8_wordToken_10 : At cX8_wordToken 10 (.invokestatic 130) 3 13 := ⟨by decide +kernel, rfl⟩
theorem a8_wordToken_13 : At cX8_wordToken 13 (.invokevirtual 134) 3 16 := ⟨by decide +kernel, rfl⟩
theorem a8_wordToken_16 : At cX8_wordToken 16 (.ifCond .eq 5) 3 19 := ⟨by decide +kernel, rfl⟩
theorem a8_wordToken_19 : At cX8_wordToken 19 (.iload_n 1) 1 20 := ⟨by decide +kernel, rfl⟩
theorem a8_wordToken_20 : At cX8_wordToken 20 (.ireturn) 1 21 := ⟨by decide +kernel, rfl⟩
theorem a8_wordToken_21 : At cX8_wordToken 21 (.iinc 1 1) 3 24 := ⟨by decide +kernel, rfl⟩
theorem a8_wordToken_24 : At cX8_wordToken 24 (.goto (-22)) 3 27 := ⟨by decide +kernel, rfl⟩
theorem a8_wordToken_27 : At cX8_wordToken 27 (.iconst 1) 1 28 := ⟨by decide +kernel, rfl⟩
theorem a8_wordToken_28 : At cX8_wordToken 28 (.ireturn) 1 29 := ⟨by decide +kernel, rfl⟩
def l8_wordToken_2 (k0 : Nat) (σ : Mem) : Nat → Int32 → Option ((Int32) ⊕ (Int32))
  | 0, _ => none
  | n + 1, x1 =>
  if 9 < x1 then
  (some (.inl x1))
  else
  (bnd (f8_spells k0 (f8_wordOf x1) σ) fun w2 =>
  if w2 = 0 then
  (l8_wordToken_2 k0 σ n (x1 + 1))
  else
  (some (.inr x1)))
theorem lE8_wordToken_2 {V : Option AV} {S : Mem} (k0 : Nat) (σ : Mem) : ∀ (n : Nat) (x1 : Int32) {w : (Int32) ⊕ (Int32)}, l8_wordToken_2 k0 σ n x1 = some w → (∀ u, w = .inl u → Go m8_wordToken 27 [some (.inr (.inr (8, k0))), some (.inl u)] [] σ V S) → (∀ u, w = .inr u → (some (.inl u) : Option AV) = V ∧ σ = S) → Go m8_wordToken 2 [some (.inr (.inr (8, k0))), some (.inl x1)] [] σ V S
  | 0, x1, w, h, K1, K2 => by cases h
  | n + 1, x1, w, h, K1, K2 => by
    rw [l8_wordToken_2] at h
    refine g_iload_n a8_wordToken_2 rfl ?_
    refine g_bipush (v := 9) a8_wordToken_3 rfl ?_
    refine g_icmp_gt (tgt := 27) a8_wordToken_5 rfl (fun c5 => ?_) (fun c5 => ?_)
    · have h := (if_pos c5).symm.trans h
      have h := Option.some.inj h
      subst h
      exact g_weak (K1 _ rfl) ⟨rfl, rfl, trivial⟩
    · have h := (if_neg c5).symm.trans h
      refine g_aload_n a8_wordToken_8 rfl ?_
      refine g_iload_n a8_wordToken_9 rfl ?_
      refine g_S1s (v1 := .inr (.inr (12, (f8_wordOf x1)))) (σ1 := σ) a8_wordToken_10 cs8_130 (E8_wordOf _ _) rfl (fun o1 => ?_)
      obtain ⟨w2, hw2, h⟩ := bnd_inv h
      refine g_V1s (v1 := .inl w2) (σ1 := σ) a8_wordToken_13 cv8_134 (E8_spells hw2) rfl (fun o3 => ?_)
      refine g_if_eq (tgt := 21) a8_wordToken_16 rfl (fun c4 => ?_) (fun c4 => ?_)
      · have h := (if_pos c4).symm.trans h
        refine g_iinc (v := (x1 + 1)) (L' := [some (.inr (.inr (8, k0))), some (.inl (x1 + 1))]) a8_wordToken_21 rfl rfl (Nat.le_of_ble_eq_true rfl) rfl rfl ?_
        refine g_goto (tgt := 2) a8_wordToken_24 rfl ?_
        exact g_weak (lE8_wordToken_2 (V := V) (S := S)  k0 σ n _ h K1 K2) ⟨rfl, rfl, trivial⟩
      · have h := (if_neg c4).symm.trans h
        refine g_iload_n a8_wordToken_19 rfl ?_
        have h := Option.some.inj h
        subst h
        obtain ⟨hV, hS⟩ := K2 _ rfl
        subst hV; subst hS
        exact g_retE a8_wordToken_20 trivial rfl rfl
def f8_wordToken (k0 : Nat) (σ : Mem) : Option (Int32) :=
  bnd (l8_wordToken_2 k0 σ 2000 4) fun w6 =>
  sm w6 (fun u7 =>
  some 1) (fun u7 => some u7)
theorem E8_wordToken {k0 : Nat} {σ : Mem} {w : Int32} (h : f8_wordToken k0 σ = some w) : Ev m8_wordToken [.inr (.inr (8, k0))] σ (some (.inl w) : Option AV) σ := by
  unfold f8_wordToken at h
  show Go m8_wordToken 0 [some (.inr (.inr (8, k0))), none] [] σ (some (.inl w) : Option AV) σ
  refine g_iconst (v := 4) a8_wordToken_0 rfl ?_
  refine g_istore_n (L' := [some (.inr (.inr (8, k0))), some (.inl 4)]) a8_wordToken_1 (Nat.le_of_ble_eq_true rfl) rfl rfl ?_
  obtain ⟨w6, hw6, h⟩ := bnd_inv h
  rcases w6 with u7 | u7
  · have h := sm_l h
    refine g_weak (lE8_wordToken_2 k0 σ 2000 _ hw6 (fun _ e => ?_) (fun _ e => by cases e)) ⟨rfl, rfl, trivial⟩
    cases e
    refine g_iconst (v := 1) a8_wordToken_27 rfl ?_
    have h := Option.some.inj h
    subst h
    exact g_retE a8_wordToken_28 trivial rfl rfl
  · have h := sm_r h
    have h := Option.some.inj h
    subst h
    exact g_weak (lE8_wordToken_2 k0 σ 2000 _ hw6 (fun _ e => by cases e) (fun _ e => by cases e; exact ⟨rfl, rfl⟩)) ⟨rfl, rfl, trivial⟩
theorem a8_numberToken_0 : At cX8_numberToken 0 (.aload_n 0) 1 1 := ⟨by decide +kernel, rfl⟩
theorem a8_numberToken_1 : At cX8_numberToken 1 (.iconst 0) 1 2 := ⟨by decide +kernel, rfl⟩
theorem a8_numberToken_2 : At cX8_numberToken 2 (.putfield 77) 3 5 := ⟨by decide +kernel, rfl⟩
theorem a8_numberToken_5 : At cX8_numberToken 5 (.aload_n 0) 1 6 := ⟨by decide +kernel, rfl⟩
theorem a8_numberToken_6 : At cX8_numberToken 6 (.getfield 31) 3 9 := ⟨by decide +kernel, rfl⟩
theorem a8_numberToken_9 : At cX8_numberToken 9 (.aload_n 0) 1 10 := ⟨by decide +kernel, rfl⟩
theorem a8_numberToken_10 : At cX8_numberToken 10 (.getfield 52) 3 13 := ⟨by decide +kernel, rfl⟩
theorem a8_numberToken_13 : At cX8_numberToken 13 (.isub) 1 14 := ⟨by decide +kernel, rfl⟩
theorem a8_numberToken_14 : At cX8_numberToken 14 (.iconst 2) 1 15 := ⟨by decide +kernel, rfl⟩
theorem a8_numberToken_15 : At cX8_numberToken 15 (.if_icmp .le 5) 3 18 := ⟨by decide +kernel, rfl⟩
theorem a8_numberToken_18 : At cX8_numberToken 18 (.iconst 1) 1 19 := ⟨by decide +kernel, rfl⟩
theorem a8_numberToken_19 : At cX8_numberToken 19 (.ireturn) 1 20 := ⟨by decide +kernel, rfl⟩
theorem a8_numberToken_20 : At cX8_numberToken 20 (.aload_n 0) 1 21 := ⟨by decide +kernel, rfl⟩
theorem a8_numberToken_21 : At cX8_numberToken 21 (.getfield 52) 3 24 := ⟨by decide +kernel, rfl⟩
theorem a8_numberToken_24 : At cX8_numberToken 24 (.istore_n 1) 1 25 := ⟨by decide +kernel, rfl⟩
theorem a8_numberToken_25 : At cX8_numberToken 25 (.iload_n 1) 1 26 := ⟨by decide +kernel, rfl⟩
theorem a8_numberToken_26 : At cX8_numberToken 26 (.aload_n 0) 1 27 := ⟨by decide +kernel, rfl⟩
theorem a8_numberToken_27 : At cX8_numberToken 27 (.getfield 31) 3 30 := ⟨by decide +kernel, rfl⟩
theorem a8_numberToken_30 : At cX8_numberToken 30 (.if_icmp .ge 32) 3 33 := ⟨by decide +kernel, rfl⟩
theorem a8_numberToken_33 : At cX8_numberToken 33 (.aload_n 0) 1 34 := ⟨by decide +kernel, rfl⟩
theorem a8_numberToken_34 : At cX8_numberToken 34 (.bipush 10) 2 36 := ⟨by decide +kernel, rfl⟩
theorem a8_numberToken_36 : At cX8_numberToken 36 (.aload_n 0) 1 37 := ⟨by decide +kernel, rfl⟩
theorem a8_numberToken_37 : At cX8_numberToken 37 (.getfield 77) 3 40 := ⟨by decide +kernel, rfl⟩
theorem a8_numberToken_40 : At cX8_numberToken 40 (.imul) 1 41 := ⟨by decide +kernel, rfl⟩
theorem a8_numberToken_41 : At cX8_numberToken 41 (.aload_n 0) 1 42 := ⟨by decide +kernel, rfl⟩
theorem a8_numberToken_42 : At cX8_numberToken 42 (.getfield 16) 3 45 := ⟨by decide +kernel, rfl⟩
theorem a8_numberToken_45 : At cX8_numberToken 45 (.iload_n 1) 1 46 := ⟨by decide +kernel, rfl⟩
theorem a8_numberToken_46 : At cX8_numberToken 46 (.invokevirtual 96) 3 49 := ⟨by decide +kernel, rfl⟩
theorem a8_numberToken_49 : At cX8_numberToken 49 (.iadd) 1 50 := ⟨by decide +kernel, rfl⟩
theorem a8_numberToken_50 : At cX8_numberToken 50 (.bipush 48) 2 52 := ⟨by decide +kernel, rfl⟩
theorem a8_numberToken_52 : At cX8_numberToken 52 (.isub) 1 53 := ⟨by decide +kernel, rfl⟩
theorem a8_numberToken_53 : At cX8_numberToken 53 (.putfield 77) 3 56 := ⟨by decide +kernel, rfl⟩
theorem a8_numberToken_56 : At cX8_numberToken 56 (.iinc 1 1) 3 59 := ⟨by decide +kernel, rfl⟩
theorem a8_numberToken_59 : At cX8_numberToken 59 (.goto (-34)) 3 62 := ⟨by decide +kernel, rfl⟩
theorem a8_numberToken_62 : At cX8_numberToken 62 (.iconst 3) 1 63 := ⟨by decide +kernel, rfl⟩
theorem a8_numberToken_63 : At cX8_numberToken 63 (.ireturn) 1 64 := ⟨by decide +kernel, rfl⟩
def l8_numberToken_25 (k0 : Nat) : Nat → Int32 → Mem → Option (Int32 × Mem)
  | 0, _, _ => none
  | n + 1, x1, σ =>
  if (σ.1 8 k0 5) ≤ x1 then
  (some (x1, σ))
  else
  (bnd (f6_at 1 x1 σ) fun w2 =>
  lt (sI σ 8 k0 6 (((10 * (σ.1 8 k0 6)) + w2) - 48)) fun σ4 =>
  l8_numberToken_25 k0 n (x1 + 1) σ4)
theorem lE8_numberToken_25 {V : Option AV} {S : Mem} (k0 : Nat) : ∀ (n : Nat) (x1 : Int32) (σ : Mem) {w : Int32 × Mem}, l8_numberToken_25 k0 n x1 σ = some w → (Go m8_numberToken 62 [some (.inr (.inr (8, k0))), some (.inl w.1)] [] w.2 V S) → Go m8_numberToken 25 [some (.inr (.inr (8, k0))), some (.inl x1)] [] σ V S
  | 0, x1, σ, w, h, K1 => by cases h
  | n + 1, x1, σ, w, h, K1 => by
    rw [l8_numberToken_25] at h
    refine g_iload_n a8_numberToken_25 rfl ?_
    refine g_aload_n a8_numberToken_26 rfl ?_
    refine g_getf (v := .inl (σ.1 8 k0 5)) a8_numberToken_27 fs8_31 rfl ?_
    refine g_icmp_ge (tgt := 62) a8_numberToken_30 rfl (fun c5 => ?_) (fun c5 => ?_)
    · have h := (if_pos c5).symm.trans h
      have h := Option.some.inj h
      subst h
      exact g_weak K1 ⟨rfl, rfl, trivial⟩
    · have h := (if_neg c5).symm.trans h
      refine g_aload_n a8_numberToken_33 rfl ?_
      refine g_bipush (v := 10) a8_numberToken_34 rfl ?_
      refine g_aload_n a8_numberToken_36 rfl ?_
      refine g_getf (v := .inl (σ.1 8 k0 6)) a8_numberToken_37 fs8_77 rfl ?_
      refine g_imul a8_numberToken_40 ?_
      refine g_aload_n a8_numberToken_41 rfl ?_
      refine g_getf (v := .inr (.inr (6, 1))) a8_numberToken_42 fs8_16 rfl ?_
      refine g_iload_n a8_numberToken_45 rfl ?_
      obtain ⟨w2, hw2, h⟩ := bnd_inv h
      refine g_V1s (v1 := .inl w2) (σ1 := σ) a8_numberToken_46 cv8_96 (E6_at hw2) rfl (fun o3 => ?_)
      refine g_iadd a8_numberToken_49 ?_
      refine g_bipush (v := 48) a8_numberToken_50 rfl ?_
      refine g_isub a8_numberToken_52 ?_
      obtain ⟨σ4, eσ4, h⟩ := lt_inv h
      refine g_puti a8_numberToken_53 fs8_77 ps8_6 (fun _ _ _ => rfl) ?_
      rw [eσ4]
      refine g_iinc (v := (x1 + 1)) (L' := [some (.inr (.inr (8, k0))), some (.inl (x1 + 1))]) a8_numberToken_56 rfl rfl (Nat.le_of_ble_eq_true rfl) rfl rfl ?_
      refine g_goto (tgt := 25) a8_numberToken_59 rfl ?_
      exact g_weak (lE8_numberToken_25 (V := V) (S := S)  k0 n _ _ h K1) ⟨rfl, rfl, trivial⟩
def f8_numberToken (k0 : Nat) (σ : Mem) : Option (Int32 × Mem) :=
  lt (sI σ 8 k0 6 0) fun σ1 =>
  if ((σ1.1 8 k0 5) - (σ1.1 8 k0 4)) ≤ 2 then
  (bnd (l8_numberToken_25 k0 2000 (σ1.1 8 k0 4) σ1) fun w6 =>
  some (3, w6.2))
  else
  (some (1, σ1))
theorem E8_numberToken {k0 : Nat} {σ : Mem} {w : Int32 × Mem} (h : f8_numberToken k0 σ = some w) : Ev m8_numberToken [.inr (.inr (8, k0))] σ (some (.inl w.1) : Option AV) w.2 := by
  unfold f8_numberToken at h
  show Go m8_numberToken 0 [some (.inr (.inr (8, k0))), none] [] σ (some (.inl w.1) : Option AV) w.2
  refine g_aload_n a8_numberToken_0 rfl ?_
  refine g_iconst (v := 0) a8_numberToken_1 rfl ?_
  obtain ⟨σ1, eσ1, h⟩ := lt_inv h
  refine g_puti a8_numberToken_2 fs8_77 ps8_6 (fun _ _ _ => rfl) ?_
  rw [eσ1]
  refine g_aload_n a8_numberToken_5 rfl ?_
  refine g_getf (v := .inl (σ1.1 8 k0 5)) a8_numberToken_6 fs8_31 rfl ?_
  refine g_aload_n a8_numberToken_9 rfl ?_
  refine g_getf (v := .inl (σ1.1 8 k0 4)) a8_numberToken_10 fs8_52 rfl ?_
  refine g_isub a8_numberToken_13 ?_
  refine g_iconst (v := 2) a8_numberToken_14 rfl ?_
  refine g_icmp_le (tgt := 20) a8_numberToken_15 rfl (fun c7 => ?_) (fun c7 => ?_)
  · have h := (if_pos c7).symm.trans h
    refine g_aload_n a8_numberToken_20 rfl ?_
    refine g_getf (v := .inl (σ1.1 8 k0 4)) a8_numberToken_21 fs8_52 rfl ?_
    refine g_istore_n (L' := [some (.inr (.inr (8, k0))), some (.inl (σ1.1 8 k0 4))]) a8_numberToken_24 (Nat.le_of_ble_eq_true rfl) rfl rfl ?_
    obtain ⟨w6, hw6, h⟩ := bnd_inv h
    refine g_weak (lE8_numberToken_25 k0 2000 _ _ hw6 ?_) ⟨rfl, rfl, trivial⟩
    refine g_iconst (v := 3) a8_numberToken_62 rfl ?_
    have h := Option.some.inj h
    subst h
    exact g_retE a8_numberToken_63 trivial rfl rfl
  · have h := (if_neg c7).symm.trans h
    refine g_iconst (v := 1) a8_numberToken_18 rfl ?_
    have h := Option.some.inj h
    subst h
    exact g_retE a8_numberToken_19 trivial rfl rfl
theorem a8_nextToken_0 : At cX8_nextToken 0 (.aload_n 0) 1 1 := ⟨by decide +kernel, rfl⟩
theorem a8_nextToken_1 : At cX8_nextToken 1 (.aload_n 0) 1 2 := ⟨by decide +kernel, rfl⟩
theorem a8_nextToken_2 : At cX8_nextToken 2 (.aload_n 0) 1 3 := ⟨by decide +kernel, rfl⟩
theorem a8_nextToken_3 : At cX8_nextToken 3 (.getfield 31) 3 6 := ⟨by decide +kernel, rfl⟩
theorem a8_nextToken_6 : At cX8_nextToken 6 (.bipush 32) 2 8 := ⟨by decide +kernel, rfl⟩
theorem a8_nextToken_8 : At cX8_nextToken 8 (.bipush 32) 2 10 := ⟨by decide +kernel, rfl⟩
theorem a8_nextToken_10 : At cX8_nextToken 10 (.invokevirtual 121) 3 13 := ⟨by decide +kernel, rfl⟩
theorem a8_nextToken_13 : At cX8_nextToken 13 (.putfield 52) 3 16 := ⟨by decide +kernel, rfl⟩
theorem a8_nextToken_16 : At cX8_nextToken 16 (.aload_n 0) 1 17 := ⟨by decide +kernel, rfl⟩
theorem a8_nextToken_17 : At cX8_nextToken 17 (.getfield 16) 3 20 := ⟨by decide +kernel, rfl⟩
theorem a8_nextToken_20 : At cX8_nextToken 20 (.aload_n 0) 1 21 := ⟨by decide +kernel, rfl⟩
theorem a8_nextToken_21 : At cX8_nextToken 21 (.getfield 52) 3 24 := ⟨by decide +kernel, rfl⟩
theorem a8_nextToken_24 : At cX8_nextToken 24 (.invokevirtual 96) 3 27 := ⟨by decide +kernel, rfl⟩
theorem a8_nextToken_27 : At cX8_nextToken 27 (.istore_n 1) 1 28 := ⟨by decide +kernel, rfl⟩
theorem a8_nextToken_28 : At cX8_nextToken 28 (.aload_n 0) 1 29 := ⟨by decide +kernel, rfl⟩
theorem a8_nextToken_29 : At cX8_nextToken 29 (.getfield 52) 3 32 := ⟨by decide +kernel, rfl⟩
theorem a8_nextToken_32 : At cX8_nextToken 32 (.aload_n 0) 1 33 := ⟨by decide +kernel, rfl⟩
theorem a8_nextToken_33 : At cX8_nextToken 33 (.getfield 23) 3 36 := ⟨by decide +kernel, rfl⟩
theorem a8_nextToken_36 : At cX8_nextToken 36 (.if_icmp .lt 19) 3 39 := ⟨by decide +kernel, rfl⟩
theorem a8_nextToken_39 : At cX8_nextToken 39 (.aload_n 0) 1 40 := ⟨by decide +kernel, rfl⟩
theorem a8_nextToken_40 : At cX8_nextToken 40 (.aload_n 0) 1 41 := ⟨by decide +kernel, rfl⟩
theorem a8_nextToken_41 : At cX8_nextToken 41 (.getfield 52) 3 44 := ⟨by decide +kernel, rfl⟩
theorem a8_nextToken_44 : At cX8_nextToken 44 (.putfield 31) 3 47 := ⟨by decide +kernel, rfl⟩
theorem a8_nextToken_47 : At cX8_nextToken 47 (.aload_n 0) 1 48 := ⟨by decide +kernel, rfl⟩
theorem a8_nextToken_48 : At cX8_nextToken 48 (.iconst 0) 1 49 := ⟨by decide +kernel, rfl⟩
theorem a8_nextToken_49 : At cX8_nextToken 49 (.putfield 37) 3 52 := ⟨by decide +kernel, rfl⟩
theorem a8_nextToken_52 : At cX8_nextToken 52 (.goto 104) 3 55 := ⟨by decide +kernel, rfl⟩
theorem a8_nextToken_55 : At cX8_nextToken 55 (.iload_n 1) 1 56 := ⟨by decide +kernel, rfl⟩
theorem a8_nextToken_56 : At cX8_nextToken 56 (.bipush 97) 2 58 := ⟨by decide +kernel, rfl⟩
theorem a8_nextToken_58 : At cX8_nextToken 58 (.bipush 122) 2 60 := ⟨by decide +kernel, rfl⟩
theorem a8_nextToken_60 : At cX8_nextToken 60 (.invokestatic 88) 3 63 := ⟨by decide +kernel, rfl⟩
theorem a8_nextToken_63 : At cX8_nextToken 63 (.ifCond .eq 30) 3 66 := ⟨by decide +kernel, rfl⟩
theorem a8_nextToken_66 : At cX8_nextToken 66 (.aload_n 0) 1 67 := ⟨by decide +kernel, rfl⟩
theorem a8_nextToken_67 : At cX8_nextToken 67 (.aload_n 0) 1 68 := ⟨by decide +kernel, rfl⟩
theorem a8_nextToken_68 : At cX8_nextToken 68 (.aload_n 0) 1 69 := ⟨by decide +kernel, rfl⟩
theorem a8_nextToken_69 : At cX8_nextToken 69 (.getfield 52) 3 72 := ⟨by decide +kernel, rfl⟩
theorem a8_nextToken_72 : At cX8_nextToken 72 (.bipush 97) 2 74 := ⟨by decide +kernel, rfl⟩
theorem a8_nextToken_74 : At cX8_nextToken 74 (.bipush 122) 2 76 := ⟨by decide +kernel, rfl⟩
theorem a8_nextToken_76 : At cX8_nextToken 76 (.invokevirtual 121) 3 79 := ⟨by decide +kernel, rfl⟩
theorem a8_nextToken_79 : At cX8_nextToken 79 (.putfield 31) 3 82 := ⟨by decide +kernel, rfl⟩
theorem a8_nextToken_82 : At cX8_nextToken 82 (.aload_n 0) 1 83 := ⟨by decide +kernel, rfl⟩
theorem a8_nextToken_83 : At cX8_nextToken 83 (.aload_n 0) 1 84 := ⟨by decide +kernel, rfl⟩
theorem a8_nextToken_84 : At cX8_nextToken 84 (.invokevirtual 124) 3 87 := ⟨by decide +kernel, rfl⟩
theorem a8_nextToken_87 : At cX8_nextToken 87 (.putfield 37) 3 90 := ⟨by decide +kernel, rfl⟩
theorem a8_nextToken_90 : At cX8_nextToken 90 (.goto 66) 3 93 := ⟨by decide +kernel, rfl⟩
theorem a8_nextToken_93 : At cX8_nextToken 93 (.iload_n 1) 1 94 := ⟨by decide +kernel, rfl⟩
theorem a8_nextToken_94 : At cX8_nextToken 94 (.bipush 48) 2 96 := ⟨by decide +kernel, rfl⟩
theorem a8_nextToken_96 : At cX8_nextToken 96 (.bipush 57) 2 98 := ⟨by decide +kernel, rfl⟩
theorem a8_nextToken_98 : At cX8_nextToken 98 (.invokestatic 88) 3 101 := ⟨by decide +kernel, rfl⟩
theorem a8_nextToken_101 : At cX8_nextToken 101 (.ifCond .eq 30) 3 104 := ⟨by decide +kernel, rfl⟩
theorem a8_nextToken_104 : At cX8_nextToken 104 (.aload_n 0) 1 105 := ⟨by decide +kernel, rfl⟩
theorem a8_nextToken_105 : At cX8_nextToken 105 (.aload_n 0) 1 106 := ⟨by decide +kernel, rfl⟩
theorem a8_nextToken_106 : At cX8_nextToken 106 (.aload_n 0) 1 107 := ⟨by decide +kernel, rfl⟩
theorem a8_nextToken_107 : At cX8_nextToken 107 (.getfield 52) 3 110 := ⟨by decide +kernel, rfl⟩
theorem a8_nextToken_110 : At cX8_nextToken 110 (.bipush 48) 2 112 := ⟨by decide +kernel, rfl⟩
theorem a8_nextToken_112 : At cX8_nextToken 112 (.bipush 57) 2 114 := ⟨by decide +kernel, rfl⟩
theorem a8_nextToken_114 : At cX8_nextToken 114 (.invokevirtual 121) 3 117 := ⟨by decide +kernel, rfl⟩
theorem a8_nextToken_117 : At cX8_nextToken 117 (.putfield 31) 3 120 := ⟨by decide +kernel, rfl⟩
theorem a8_nextToken_120 : At cX8_nextToken 120 (.aload_n 0) 1 121 := ⟨by decide +kernel, rfl⟩
theorem a8_nextToken_121 : At cX8_nextToken 121 (.aload_n 0) 1 122 := ⟨by decide +kernel, rfl⟩
theorem a8_nextToken_122 : At cX8_nextToken 122 (.invokevirtual 127) 3 125 := ⟨by decide +kernel, rfl⟩
theorem a8_nextToken_125 : At cX8_nextToken 125 (.putfield 37) 3 128 := ⟨by decide +kernel, rfl⟩
theorem a8_nextToken_128 : At cX8_nextToken 128 (.goto 28) 3 131 := ⟨by decide +kernel, rfl⟩
theorem a8_nextToken_131 : At cX8_nextToken 131 (.aload_n 0) 1 132 := ⟨by decide +kernel, rfl⟩
theorem a8_nextToken_132 : At cX8_nextToken 132 (.aload_n 0) 1 133 := ⟨by decide +kernel, rfl⟩
theorem a8_nextToken_133 : At cX8_nextToken 133 (.getfield 52) 3 136 := ⟨by decide +kernel, rfl⟩
theorem a8_nextToken_136 : At cX8_nextToken 136 (.iconst 1) 1 137 := ⟨by decide +kernel, rfl⟩
theorem a8_nextToken_137 : At cX8_nextToken 137 (.iadd) 1 138 := ⟨by decide +kernel, rfl⟩
theorem a8_nextToken_138 : At cX8_nextToken 138 (.putfield 31) 3 141 := ⟨by decide +kernel, rfl⟩
theorem a8_nextToken_141 : At cX8_nextToken 141 (.aload_n 0) 1 142 := ⟨by decide +kernel, rfl⟩
theorem a8_nextToken_142 : At cX8_nextToken 142 (.iload_n 1) 1 143 := ⟨by decide +kernel, rfl⟩
theorem a8_nextToken_143 : At cX8_nextToken 143 (.bipush 59) 2 145 := ⟨by decide +kernel, rfl⟩
theorem a8_nextToken_145 : At cX8_nextToken 145 (.if_icmp .ne 7) 3 148 := ⟨by decide +kernel, rfl⟩
theorem a8_nextToken_148 : At cX8_nextToken 148 (.iconst 2) 1 149 := ⟨by decide +kernel, rfl⟩
theorem a8_nextToken_149 : At cX8_nextToken 149 (.goto 4) 3 152 := ⟨by decide +kernel, rfl⟩
theorem a8_nextToken_152 : At cX8_nextToken 152 (.iconst 1) 1 153 := ⟨by decide +kernel, rfl⟩
theorem a8_nextToken_153 : At cX8_nextToken 153 (.putfield 37) 3 156 := ⟨by decide +kernel, rfl⟩
theorem a8_nextToken_156 : At cX8_nextToken 156 (.return_) 1 157 := ⟨by decide +kernel, rfl⟩
def f8_nextToken (k0 : Nat) (σ : Mem) : Option (Mem) :=
  bnd (f8_runEnd k0 (σ.1 8 k0 5) 32 32 σ) fun w1 =>
  lt (sI σ 8 k0 4 w1) fun σ3 =>
  bnd (f6_at 1 (σ3.1 8 k0 4) σ3) fun w4 =>
  if (σ3.1 8 k0 4) < (σ3.1 8 k0 2) then
  (if (f10_within w4 97 122) = 0 then
  (if (f10_within w4 48 57) = 0 then
  (lt (sI σ3 8 k0 5 ((σ3.1 8 k0 4) + 1)) fun σ8 =>
  lt (if w4 = 59 then
  (2)
  else
  (1) : Int32) fun w9 =>
  lt (sI σ8 8 k0 3 w9) fun σ12 =>
  some σ12)
  else
  (bnd (f8_runEnd k0 (σ3.1 8 k0 4) 48 57 σ3) fun w13 =>
  lt (sI σ3 8 k0 5 w13) fun σ15 =>
  bnd (f8_numberToken k0 σ15) fun w16 =>
  lt (sI w16.2 8 k0 3 w16.1) fun σ18 =>
  some σ18))
  else
  (bnd (f8_runEnd k0 (σ3.1 8 k0 4) 97 122 σ3) fun w20 =>
  lt (sI σ3 8 k0 5 w20) fun σ22 =>
  bnd (f8_wordToken k0 σ22) fun w23 =>
  lt (sI σ22 8 k0 3 w23) fun σ25 =>
  some σ25))
  else
  (lt (sI σ3 8 k0 5 (σ3.1 8 k0 4)) fun σ27 =>
  lt (sI σ27 8 k0 3 0) fun σ28 =>
  some σ28)
theorem E8_nextToken {k0 : Nat} {σ : Mem} {w : Mem} (h : f8_nextToken k0 σ = some w) : Ev m8_nextToken [.inr (.inr (8, k0))] σ none w := by
  unfold f8_nextToken at h
  show Go m8_nextToken 0 [some (.inr (.inr (8, k0))), none] [] σ none w
  refine g_aload_n a8_nextToken_0 rfl ?_
  refine g_aload_n a8_nextToken_1 rfl ?_
  refine g_aload_n a8_nextToken_2 rfl ?_
  refine g_getf (v := .inl (σ.1 8 k0 5)) a8_nextToken_3 fs8_31 rfl ?_
  refine g_bipush (v := 32) a8_nextToken_6 rfl ?_
  refine g_bipush (v := 32) a8_nextToken_8 rfl ?_
  obtain ⟨w1, hw1, h⟩ := bnd_inv h
  refine g_V3s (v1 := .inl w1) (σ1 := σ) a8_nextToken_10 cv8_121 (E8_runEnd hw1) rfl (fun o2 => ?_)
  obtain ⟨σ3, eσ3, h⟩ := lt_inv h
  refine g_puti a8_nextToken_13 fs8_52 ps8_4 (fun _ _ _ => rfl) ?_
  rw [eσ3]
  refine g_aload_n a8_nextToken_16 rfl ?_
  refine g_getf (v := .inr (.inr (6, 1))) a8_nextToken_17 fs8_16 rfl ?_
  refine g_aload_n a8_nextToken_20 rfl ?_
  refine g_getf (v := .inl (σ3.1 8 k0 4)) a8_nextToken_21 fs8_52 rfl ?_
  obtain ⟨w4, hw4, h⟩ := bnd_inv h
  refine g_V1s (v1 := .inl w4) (σ1 := σ3) a8_nextToken_24 cv8_96 (E6_at hw4) rfl (fun o5 => ?_)
  refine g_istore_n (L' := [some (.inr (.inr (8, k0))), some (.inl w4)]) a8_nextToken_27 (Nat.le_of_ble_eq_true rfl) rfl rfl ?_
  refine g_aload_n a8_nextToken_28 rfl ?_
  refine g_getf (v := .inl (σ3.1 8 k0 4)) a8_nextToken_29 fs8_52 rfl ?_
  refine g_aload_n a8_nextToken_32 rfl ?_
  refine g_getf (v := .inl (σ3.1 8 k0 2)) a8_nextToken_33 fs8_23 rfl ?_
  refine g_icmp_lt (tgt := 55) a8_nextToken_36 rfl (fun c29 => ?_) (fun c29 => ?_)
  · have h := (if_pos c29).symm.trans h
    refine g_iload_n a8_nextToken_55 rfl ?_
    refine g_bipush (v := 97) a8_nextToken_56 rfl ?_
    refine g_bipush (v := 122) a8_nextToken_58 rfl ?_
    refine g_W3s (v1 := .inl (f10_within w4 97 122)) (σ1 := σ3) rfl a8_nextToken_60 rfl mok10_within wstwithin (E10_within _ _ _ _) rfl (fun o6 => ?_)
    refine g_if_eq (tgt := 93) a8_nextToken_63 rfl (fun c26 => ?_) (fun c26 => ?_)
    · have h := (if_pos c26).symm.trans h
      refine g_iload_n a8_nextToken_93 rfl ?_
      refine g_bipush (v := 48) a8_nextToken_94 rfl ?_
      refine g_bipush (v := 57) a8_nextToken_96 rfl ?_
      refine g_W3s (v1 := .inl (f10_within w4 48 57)) (σ1 := σ3) rfl a8_nextToken_98 rfl mok10_within wstwithin (E10_within _ _ _ _) rfl (fun o7 => ?_)
      refine g_if_eq (tgt := 131) a8_nextToken_101 rfl (fun c19 => ?_) (fun c19 => ?_)
      · have h := (if_pos c19).symm.trans h
        refine g_aload_n a8_nextToken_131 rfl ?_
        refine g_aload_n a8_nextToken_132 rfl ?_
        refine g_getf (v := .inl (σ3.1 8 k0 4)) a8_nextToken_133 fs8_52 rfl ?_
        refine g_iconst (v := 1) a8_nextToken_136 rfl ?_
        refine g_iadd a8_nextToken_137 ?_
        obtain ⟨σ8, eσ8, h⟩ := lt_inv h
        refine g_puti a8_nextToken_138 fs8_31 ps8_5 (fun _ _ _ => rfl) ?_
        rw [eσ8]
        refine g_aload_n a8_nextToken_141 rfl ?_
        refine g_iload_n a8_nextToken_142 rfl ?_
        refine g_bipush (v := 59) a8_nextToken_143 rfl ?_
        obtain ⟨w9, hw9, h⟩ := lt_inv h
        have J10 : Go m8_nextToken 153 [none, none] [.inl w9, .inr (.inr (8, k0))] σ8 none w := by
          obtain ⟨σ12, eσ12, h⟩ := lt_inv h
          refine g_puti a8_nextToken_153 fs8_37 ps8_3 (fun _ _ _ => rfl) ?_
          rw [eσ12]
          have h := Option.some.inj h
          subst h
          exact g_retE a8_nextToken_156 trivial rfl rfl
        clear h
        refine g_icmp_ne (tgt := 152) a8_nextToken_145 rfl (fun c11 => ?_) (fun c11 => ?_)
        · have hw9 := (if_neg c11).symm.trans hw9
          refine g_iconst (v := 1) a8_nextToken_152 rfl ?_
          subst hw9
          exact g_weak J10 trivial
        · have hw9 := (if_pos c11).symm.trans hw9
          refine g_iconst (v := 2) a8_nextToken_148 rfl ?_
          refine g_goto (tgt := 153) a8_nextToken_149 rfl ?_
          subst hw9
          exact g_weak J10 trivial
      · have h := (if_neg c19).symm.trans h
        refine g_aload_n a8_nextToken_104 rfl ?_
        refine g_aload_n a8_nextToken_105 rfl ?_
        refine g_aload_n a8_nextToken_106 rfl ?_
        refine g_getf (v := .inl (σ3.1 8 k0 4)) a8_nextToken_107 fs8_52 rfl ?_
        refine g_bipush (v := 48) a8_nextToken_110 rfl ?_
        refine g_bipush (v := 57) a8_nextToken_112 rfl ?_
        obtain ⟨w13, hw13, h⟩ := bnd_inv h
        refine g_V3s (v1 := .inl w13) (σ1 := σ3) a8_nextToken_114 cv8_121 (E8_runEnd hw13) rfl (fun o14 => ?_)
        obtain ⟨σ15, eσ15, h⟩ := lt_inv h
        refine g_puti a8_nextToken_117 fs8_31 ps8_5 (fun _ _ _ => rfl) ?_
        rw [eσ15]
        refine g_aload_n a8_nextToken_120 rfl ?_
        refine g_aload_n a8_nextToken_121 rfl ?_
        obtain ⟨w16, hw16, h⟩ := bnd_inv h
        refine g_V0s (v1 := .inl w16.1) (σ1 := w16.2) a8_nextToken_122 cv8_127 (E8_numberToken hw16) rfl (fun o17 => ?_)
        obtain ⟨σ18, eσ18, h⟩ := lt_inv h
        refine g_puti a8_nextToken_125 fs8_37 ps8_3 (fun _ _ _ => rfl) ?_
        rw [eσ18]
        refine g_goto (tgt := 156) a8_nextToken_128 rfl ?_
        have h := Option.some.inj h
        subst h
        exact g_retE a8_nextToken_156 trivial rfl rfl
    · have h := (if_neg c26).symm.trans h
      refine g_aload_n a8_nextToken_66 rfl ?_
      refine g_aload_n a8_nextToken_67 rfl ?_
      refine g_aload_n a8_nextToken_68 rfl ?_
      refine g_getf (v := .inl (σ3.1 8 k0 4)) a8_nextToken_69 fs8_52 rfl ?_
      refine g_bipush (v := 97) a8_nextToken_72 rfl ?_
      refine g_bipush (v := 122) a8_nextToken_74 rfl ?_
      obtain ⟨w20, hw20, h⟩ := bnd_inv h
      refine g_V3s (v1 := .inl w20) (σ1 := σ3) a8_nextToken_76 cv8_121 (E8_runEnd hw20) rfl (fun o21 => ?_)
      obtain ⟨σ22, eσ22, h⟩ := lt_inv h
      refine g_puti a8_nextToken_79 fs8_31 ps8_5 (fun _ _ _ => rfl) ?_
      rw [eσ22]
      refine g_aload_n a8_nextToken_82 rfl ?_
      refine g_aload_n a8_nextToken_83 rfl ?_
      obtain ⟨w23, hw23, h⟩ := bnd_inv h
      refine g_V0s (v1 := .inl w23) (σ1 := σ22) a8_nextToken_84 cv8_124 (E8_wordToken hw23) rfl (fun o24 => ?_)
      obtain ⟨σ25, eσ25, h⟩ := lt_inv h
      refine g_puti a8_nextToken_87 fs8_37 ps8_3 (fun _ _ _ => rfl) ?_
      rw [eσ25]
      refine g_goto (tgt := 156) a8_nextToken_90 rfl ?_
      have h := Option.some.inj h
      subst h
      exact g_retE a8_nextToken_156 trivial rfl rfl
  · have h := (if_neg c29).symm.trans h
    refine g_aload_n a8_nextToken_39 rfl ?_
    refine g_aload_n a8_nextToken_40 rfl ?_
    refine g_getf (v := .inl (σ3.1 8 k0 4)) a8_nextToken_41 fs8_52 rfl ?_
    obtain ⟨σ27, eσ27, h⟩ := lt_inv h
    refine g_puti a8_nextToken_44 fs8_31 ps8_5 (fun _ _ _ => rfl) ?_
    rw [eσ27]
    refine g_aload_n a8_nextToken_47 rfl ?_
    refine g_iconst (v := 0) a8_nextToken_48 rfl ?_
    obtain ⟨σ28, eσ28, h⟩ := lt_inv h
    refine g_puti a8_nextToken_49 fs8_37 ps8_3 (fun _ _ _ => rfl) ?_
    rw [eσ28]
    refine g_goto (tgt := 156) a8_nextToken_52 rfl ?_
    have h := Option.some.inj h
    subst h
    exact g_retE a8_nextToken_156 trivial rfl rfl
theorem a8_mayStand_0 : At cX8_mayStand 0 (.iload_n 2) 1 1 := ⟨by decide +kernel, rfl⟩
theorem a8_mayStand_1 : At cX8_mayStand 1 (.ifCond .eq 14) 3 4 := ⟨by decide +kernel, rfl⟩
theorem a8_mayStand_4 : At cX8_mayStand 4 (.iload_n 0) 1 5 := ⟨by decide +kernel, rfl⟩
theorem a8_mayStand_5 : At cX8_mayStand 5 (.iconst 4) 1 6 := ⟨by decide +kernel, rfl⟩
theorem a8_mayStand_6 : At cX8_mayStand 6 (.if_icmp .ne 7) 3 9 := ⟨by decide +kernel, rfl⟩
theorem a8_mayStand_9 : At cX8_mayStand 9 (.iconst 1) 1 10 := ⟨by decide +kernel, rfl⟩
theorem a8_mayStand_10 : At cX8_mayStand 10 (.goto 4) 3 13 := ⟨by decide +kernel, rfl⟩
theorem a8_mayStand_13 : At cX8_mayStand 13 (.iconst 0) 1 14 := ⟨by decide +kernel, rfl⟩
theorem a8_mayStand_14 : At cX8_mayStand 14 (.ireturn) 1 15 := ⟨by decide +kernel, rfl⟩
theorem a8_mayStand_15 : At cX8_mayStand 15 (.iload_n 0) 1 16 := ⟨by decide +kernel, rfl⟩
theorem a8_mayStand_16 : At cX8_mayStand 16 (.tableswitch 70 5 9 #[68, 36, 52, 68, 68]) 36 52 := ⟨by decide +kernel, rfl⟩
theorem a8_mayStand_52 : At cX8_mayStand 52 (.aload_n 1) 1 53 := ⟨by decide +kernel, rfl⟩
theorem a8_mayStand_53 : At cX8_mayStand 53 (.getfield 59) 3 56 := ⟨by decide +kernel, rfl⟩
theorem a8_mayStand_56 : At cX8_mayStand 56 (.invokevirtual 65) 3 59 := ⟨by decide +kernel, rfl⟩
theorem a8_mayStand_59 : At cX8_mayStand 59 (.ifCond .ne 7) 3 62 := ⟨by decide +kernel, rfl⟩
theorem a8_mayStand_62 : At cX8_mayStand 62 (.iconst 1) 1 63 := ⟨by decide +kernel, rfl⟩
theorem a8_mayStand_63 : At cX8_mayStand 63 (.goto 4) 3 66 := ⟨by decide +kernel, rfl⟩
theorem a8_mayStand_66 : At cX8_mayStand 66 (.iconst 0) 1 67 := ⟨by decide +kernel, rfl⟩
theorem a8_mayStand_67 : At cX8_mayStand 67 (.ireturn) 1 68 := ⟨by decide +kernel, rfl⟩
theorem a8_mayStand_68 : At cX8_mayStand 68 (.aload_n 1) 1 69 := ⟨by decide +kernel, rfl⟩
theorem a8_mayStand_69 : At cX8_mayStand 69 (.getfield 70) 3 72 := ⟨by decide +kernel, rfl⟩
theorem a8_mayStand_72 : At cX8_mayStand 72 (.invokevirtual 65) 3 75 := ⟨by decide +kernel, rfl⟩
theorem a8_mayStand_75 : At cX8_mayStand 75 (.ifCond .ne 7) 3 78 := ⟨by decide +kernel, rfl⟩
theorem a8_mayStand_78 : At cX8_mayStand 78 (.iconst 1) 1 79 := ⟨by decide +kernel, rfl⟩
theorem a8_mayStand_79 : At cX8_mayStand 79 (.goto 4) 3 82 := ⟨by decide +kernel, rfl⟩
theorem a8_mayStand_82 : At cX8_mayStand 82 (.iconst 0) 1 83 := ⟨by decide +kernel, rfl⟩
theorem a8_mayStand_83 : At cX8_mayStand 83 (.ireturn) 1 84 := ⟨by decide +kernel, rfl⟩
theorem a8_mayStand_84 : At cX8_mayStand 84 (.iconst 1) 1 85 := ⟨by decide +kernel, rfl⟩
theorem a8_mayStand_85 : At cX8_mayStand 85 (.ireturn) 1 86 := ⟨by decide +kernel, rfl⟩
theorem a8_mayStand_86 : At cX8_mayStand 86 (.iconst 0) 1 87 := ⟨by decide +kernel, rfl⟩
theorem a8_mayStand_87 : At cX8_mayStand 87 (.ireturn) 1 88 := ⟨by decide +kernel, rfl⟩
def f8_mayStand (x0 : Int32) (k1 : Nat) (x2 : Int32) (σ : Mem) : Int32 :=
  if x2 = 0 then
  (if x0 = 5 then
  (1)
  else if x0 = 6 then
  (if (f7_isFull (7 * k1 + 1) σ) = 0 then
  (1)
  else
  (0))
  else if x0 = 7 then
  (if (f7_isFull (7 * k1 + 2) σ) = 0 then
  (1)
  else
  (0))
  else if x0 = 8 then
  (1)
  else if x0 = 9 then
  (1)
  else 
  (0))
  else
  (if x0 = 4 then
  (1)
  else
  (0))
theorem E8_mayStand (x0 : Int32) (k1 : Nat) (x2 : Int32) (σ : Mem) : Ev m8_mayStand [.inl x0, .inr (.inr (9, k1)), .inl x2] σ (some (.inl (f8_mayStand x0 k1 x2 σ)) : Option AV) σ := by
  obtain ⟨w, h⟩ : ∃ w, f8_mayStand x0 k1 x2 σ = w := ⟨_, rfl⟩
  rw [h]
  unfold f8_mayStand at h
  show Go m8_mayStand 0 [some (.inl x0), some (.inr (.inr (9, k1))), some (.inl x2)] [] σ (some (.inl w) : Option AV) σ
  refine g_iload_n a8_mayStand_0 rfl ?_
  refine g_if_eq (tgt := 15) a8_mayStand_1 rfl (fun c11 => ?_) (fun c11 => ?_)
  · have h := (if_pos c11).symm.trans h
    refine g_iload_n a8_mayStand_15 rfl ?_
    rcases Decidable.em (x0 = 5) with c5 | c5
    · have h := (if_pos c5).symm.trans h
      refine g_tsIn (tgt := 84) (off := 68) a8_mayStand_16 (by rw [c5]; decide) (by rw [c5]; decide) (by rw [c5]; rfl) rfl ?_
      refine g_iconst (v := 1) a8_mayStand_84 rfl ?_
      subst h
      exact g_retE a8_mayStand_85 (Or.inr rfl) rfl rfl
    have h := (if_neg c5).symm.trans h
    rcases Decidable.em (x0 = 6) with c6 | c6
    · have h := (if_pos c6).symm.trans h
      refine g_tsIn (tgt := 52) (off := 36) a8_mayStand_16 (by rw [c6]; decide) (by rw [c6]; decide) (by rw [c6]; rfl) rfl ?_
      refine g_aload_n a8_mayStand_52 rfl ?_
      refine g_getf (v := .inr (.inr (7, (7 * k1 + 1)))) a8_mayStand_53 fs8_59 rfl ?_
      refine g_V0s (v1 := .inl (f7_isFull (7 * k1 + 1) σ)) (σ1 := σ) a8_mayStand_56 cv8_65 (E7_isFull _ _) rfl (fun o1 => ?_)
      refine g_if_ne (tgt := 66) a8_mayStand_59 rfl (fun c2 => ?_) (fun c2 => ?_)
      · have h := (if_neg c2).symm.trans h
        refine g_iconst (v := 0) a8_mayStand_66 rfl ?_
        subst h
        exact g_retE a8_mayStand_67 (Or.inl rfl) rfl rfl
      · have h := (if_pos c2).symm.trans h
        refine g_iconst (v := 1) a8_mayStand_62 rfl ?_
        refine g_goto (tgt := 67) a8_mayStand_63 rfl ?_
        subst h
        exact g_retE a8_mayStand_67 (Or.inr rfl) rfl rfl
    have h := (if_neg c6).symm.trans h
    rcases Decidable.em (x0 = 7) with c7 | c7
    · have h := (if_pos c7).symm.trans h
      refine g_tsIn (tgt := 68) (off := 52) a8_mayStand_16 (by rw [c7]; decide) (by rw [c7]; decide) (by rw [c7]; rfl) rfl ?_
      refine g_aload_n a8_mayStand_68 rfl ?_
      refine g_getf (v := .inr (.inr (7, (7 * k1 + 2)))) a8_mayStand_69 fs8_70 rfl ?_
      refine g_V0s (v1 := .inl (f7_isFull (7 * k1 + 2) σ)) (σ1 := σ) a8_mayStand_72 cv8_65 (E7_isFull _ _) rfl (fun o3 => ?_)
      refine g_if_ne (tgt := 82) a8_mayStand_75 rfl (fun c4 => ?_) (fun c4 => ?_)
      · have h := (if_neg c4).symm.trans h
        refine g_iconst (v := 0) a8_mayStand_82 rfl ?_
        subst h
        exact g_retE a8_mayStand_83 (Or.inl rfl) rfl rfl
      · have h := (if_pos c4).symm.trans h
        refine g_iconst (v := 1) a8_mayStand_78 rfl ?_
        refine g_goto (tgt := 83) a8_mayStand_79 rfl ?_
        subst h
        exact g_retE a8_mayStand_83 (Or.inr rfl) rfl rfl
    have h := (if_neg c7).symm.trans h
    rcases Decidable.em (x0 = 8) with c8 | c8
    · have h := (if_pos c8).symm.trans h
      refine g_tsIn (tgt := 84) (off := 68) a8_mayStand_16 (by rw [c8]; decide) (by rw [c8]; decide) (by rw [c8]; rfl) rfl ?_
      refine g_iconst (v := 1) a8_mayStand_84 rfl ?_
      subst h
      exact g_retE a8_mayStand_85 (Or.inr rfl) rfl rfl
    have h := (if_neg c8).symm.trans h
    rcases Decidable.em (x0 = 9) with c9 | c9
    · have h := (if_pos c9).symm.trans h
      refine g_tsIn (tgt := 84) (off := 68) a8_mayStand_16 (by rw [c9]; decide) (by rw [c9]; decide) (by rw [c9]; rfl) rfl ?_
      refine g_iconst (v := 1) a8_mayStand_84 rfl ?_
      subst h
      exact g_retE a8_mayStand_85 (Or.inr rfl) rfl rfl
    have h := (if_neg c9).symm.trans h
    have tc5 := lv_neT c5 (a := 5) rfl
    have tc6 := lv_neT c6 (a := 6) rfl
    have tc7 := lv_neT c7 (a := 7) rfl
    have tc8 := lv_neT c8 (a := 8) rfl
    have tc9 := lv_neT c9 (a := 9) rfl
    refine g_tsOut (tgt := 86) a8_mayStand_16 (by omega) rfl ?_
    refine g_iconst (v := 0) a8_mayStand_86 rfl ?_
    subst h
    exact g_retE a8_mayStand_87 (Or.inl rfl) rfl rfl
  · have h := (if_neg c11).symm.trans h
    refine g_iload_n a8_mayStand_4 rfl ?_
    refine g_iconst (v := 4) a8_mayStand_5 rfl ?_
    refine g_icmp_ne (tgt := 13) a8_mayStand_6 rfl (fun c10 => ?_) (fun c10 => ?_)
    · have h := (if_neg c10).symm.trans h
      refine g_iconst (v := 0) a8_mayStand_13 rfl ?_
      subst h
      exact g_retE a8_mayStand_14 (Or.inl rfl) rfl rfl
    · have h := (if_pos c10).symm.trans h
      refine g_iconst (v := 1) a8_mayStand_9 rfl ?_
      refine g_goto (tgt := 14) a8_mayStand_10 rfl ?_
      subst h
      exact g_retE a8_mayStand_14 (Or.inr rfl) rfl rfl
