theorem a8_numbersOf_0 : At cX8_numbersOf 0 (.iload_n 0) 1 1 := ⟨by decide +kernel, rfl⟩
theorem a8_numbersOf_1 : At cX8_numbersOf 1 (.tableswitch 39 5 9 #[35, 35, 37, 37, 37]) 35 36 := ⟨by decide +kernel, rfl⟩
theorem a8_numbersOf_36 : At cX8_numbersOf 36 (.iconst 3) 1 37 := ⟨by decide +kernel, rfl⟩
theorem a8_numbersOf_37 : At cX8_numbersOf 37 (.ireturn) 1 38 := ⟨by decide +kernel, rfl⟩
theorem a8_numbersOf_38 : At cX8_numbersOf 38 (.iconst 1) 1 39 := ⟨by decide +kernel, rfl⟩
theorem a8_numbersOf_39 : At cX8_numbersOf 39 (.ireturn) 1 40 := ⟨by decide +kernel, rfl⟩
theorem a8_numbersOf_40 : At cX8_numbersOf 40 (.iconst 0) 1 41 := ⟨by decide +kernel, rfl⟩
theorem a8_numbersOf_41 : At cX8_numbersOf 41 (.ireturn) 1 42 := ⟨by decide +kernel, rfl⟩
def f8_numbersOf (x0 : Int32) : Int32 :=
  if x0 = 5 then
  (3)
  else if x0 = 6 then
  (3)
  else if x0 = 7 then
  (1)
  else if x0 = 8 then
  (1)
  else if x0 = 9 then
  (1)
  else 
  (0)
theorem E8_numbersOf (x0 : Int32) (σ : Mem) : Ev m8_numbersOf [.inl x0] σ (some (.inl (f8_numbersOf x0)) : Option AV) σ := by
  obtain ⟨w, h⟩ : ∃ w, f8_numbersOf x0 = w := ⟨_, rfl⟩
  rw [h]
  unfold f8_numbersOf at h
  show Go m8_numbersOf 0 [some (.inl x0)] [] σ (some (.inl w) : Option AV) σ
  refine g_iload_n a8_numbersOf_0 rfl ?_
  rcases Decidable.em (x0 = 5) with c1 | c1
  · have h := (if_pos c1).symm.trans h
    refine g_tsIn (tgt := 36) (off := 35) a8_numbersOf_1 (by rw [c1]; decide) (by rw [c1]; decide) (by rw [c1]; rfl) rfl ?_
    refine g_iconst (v := 3) a8_numbersOf_36 rfl ?_
    subst h
    exact g_retE a8_numbersOf_37 trivial rfl rfl
  have h := (if_neg c1).symm.trans h
  rcases Decidable.em (x0 = 6) with c2 | c2
  · have h := (if_pos c2).symm.trans h
    refine g_tsIn (tgt := 36) (off := 35) a8_numbersOf_1 (by rw [c2]; decide) (by rw [c2]; decide) (by rw [c2]; rfl) rfl ?_
    refine g_iconst (v := 3) a8_numbersOf_36 rfl ?_
    subst h
    exact g_retE a8_numbersOf_37 trivial rfl rfl
  have h := (if_neg c2).symm.trans h
  rcases Decidable.em (x0 = 7) with c3 | c3
  · have h := (if_pos c3).symm.trans h
    refine g_tsIn (tgt := 38) (off := 37) a8_numbersOf_1 (by rw [c3]; decide) (by rw [c3]; decide) (by rw [c3]; rfl) rfl ?_
    refine g_iconst (v := 1) a8_numbersOf_38 rfl ?_
    subst h
    exact g_retE a8_numbersOf_39 trivial rfl rfl
  have h := (if_neg c3).symm.trans h
  rcases Decidable.em (x0 = 8) with c4 | c4
  · have h := (if_pos c4).symm.trans h
    refine g_tsIn (tgt := 38) (off := 37) a8_numbersOf_1 (by rw [c4]; decide) (by rw [c4]; decide) (by rw [c4]; rfl) rfl ?_
    refine g_iconst (v := 1) a8_numbersOf_38 rfl ?_
    subst h
    exact g_retE a8_numbersOf_39 trivial rfl rfl
  have h := (if_neg c4).symm.trans h
  rcases Decidable.em (x0 = 9) with c5 | c5
  · have h := (if_pos c5).symm.trans h
    refine g_tsIn (tgt := 38) (off := 37) a8_numbersOf_1 (by rw [c5]; decide) (by rw [c5]; decide) (by rw [c5]; rfl) rfl ?_
    refine g_iconst (v := 1) a8_numbersOf_38 rfl ?_
    subst h
    exact g_retE a8_numbersOf_39 trivial rfl rfl
  have h := (if_neg c5).symm.trans h
  have tc1 := lv_neT c1 (a := 5) rfl
  have tc2 := lv_neT c2 (a := 6) rfl
  have tc3 := lv_neT c3 (a := 7) rfl
  have tc4 := lv_neT c4 (a := 8) rfl
  have tc5 := lv_neT c5 (a := 9) rfl
  refine g_tsOut (tgt := 40) a8_numbersOf_1 (by omega) rfl ?_
  refine g_iconst (v := 0) a8_numbersOf_40 rfl ?_
  subst h
  exact g_retE a8_numbersOf_41 trivial rfl rfl
theorem a8_leastOf_0 : At cX8_leastOf 0 (.iload_n 0) 1 1 := ⟨by decide +kernel, rfl⟩
theorem a8_leastOf_1 : At cX8_leastOf 1 (.bipush 9) 2 3 := ⟨by decide +kernel, rfl⟩
theorem a8_leastOf_3 : At cX8_leastOf 3 (.if_icmp .eq 14) 3 6 := ⟨by decide +kernel, rfl⟩
theorem a8_leastOf_6 : At cX8_leastOf 6 (.iload_n 0) 1 7 := ⟨by decide +kernel, rfl⟩
theorem a8_leastOf_7 : At cX8_leastOf 7 (.bipush 6) 2 9 := ⟨by decide +kernel, rfl⟩
theorem a8_leastOf_9 : At cX8_leastOf 9 (.if_icmp .ne 12) 3 12 := ⟨by decide +kernel, rfl⟩
theorem a8_leastOf_12 : At cX8_leastOf 12 (.iload_n 1) 1 13 := ⟨by decide +kernel, rfl⟩
theorem a8_leastOf_13 : At cX8_leastOf 13 (.iconst 1) 1 14 := ⟨by decide +kernel, rfl⟩
theorem a8_leastOf_14 : At cX8_leastOf 14 (.if_icmp .ne 7) 3 17 := ⟨by decide +kernel, rfl⟩
theorem a8_leastOf_17 : At cX8_leastOf 17 (.iconst 1) 1 18 := ⟨by decide +kernel, rfl⟩
theorem a8_leastOf_18 : At cX8_leastOf 18 (.goto 4) 3 21 := ⟨by decide +kernel, rfl⟩
theorem a8_leastOf_21 : At cX8_leastOf 21 (.iconst 0) 1 22 := ⟨by decide +kernel, rfl⟩
theorem a8_leastOf_22 : At cX8_leastOf 22 (.istore_n 2) 1 23 := ⟨by decide +kernel, rfl⟩
theorem a8_leastOf_23 : At cX8_leastOf 23 (.iload_n 2) 1 24 := ⟨by decide +kernel, rfl⟩
theorem a8_leastOf_24 : At cX8_leastOf 24 (.ifCond .eq 7) 3 27 := ⟨by decide +kernel, rfl⟩
theorem a8_leastOf_27 : At cX8_leastOf 27 (.iconst 1) 1 28 := ⟨by decide +kernel, rfl⟩
theorem a8_leastOf_28 : At cX8_leastOf 28 (.goto 4) 3 31 := ⟨by decide +kernel, rfl⟩
theorem a8_leastOf_31 : At cX8_leastOf 31 (.iconst 0) 1 32 := ⟨by decide +kernel, rfl⟩
theorem a8_leastOf_32 : At cX8_leastOf 32 (.ireturn) 1 33 := ⟨by decide +kernel, rfl⟩
def f8_leastOf (x0 : Int32) (x1 : Int32) : Int32 :=
  lt (if x0 = 9 then
  (1)
  else
  (if x0 = 6 then
  (if x1 = 1 then
  (1)
  else
  (0))
  else
  (0)) : Int32) fun w1 =>
  if w1 = 0 then
  (0)
  else
  (1)
theorem E8_leastOf (x0 : Int32) (x1 : Int32) (σ : Mem) : Ev m8_leastOf [.inl x0, .inl x1] σ (some (.inl (f8_leastOf x0 x1)) : Option AV) σ := by
  obtain ⟨w, h⟩ : ∃ w, f8_leastOf x0 x1 = w := ⟨_, rfl⟩
  rw [h]
  unfold f8_leastOf at h
  show Go m8_leastOf 0 [some (.inl x0), some (.inl x1), none] [] σ (some (.inl w) : Option AV) σ
  refine g_iload_n a8_leastOf_0 rfl ?_
  refine g_bipush (v := 9) a8_leastOf_1 rfl ?_
  obtain ⟨w1, hw1, h⟩ := lt_inv h
  have b6 : w1 = 0 ∨ w1 = 1 := by rw [← hw1]; repeat (first | exact Or.inl rfl | exact Or.inr rfl | split)
  have J2 : Go m8_leastOf 22 [none, none, none] [.inl w1] σ (some (.inl w) : Option AV) σ := by
    refine g_istore_n (L' := [none, none, some (.inl w1)]) a8_leastOf_22 (Nat.le_of_ble_eq_true rfl) rfl rfl ?_
    refine g_iload_n a8_leastOf_23 rfl ?_
    refine g_if_eq (tgt := 31) a8_leastOf_24 rfl (fun c7 => ?_) (fun c7 => ?_)
    · have h := (if_pos c7).symm.trans h
      refine g_iconst (v := 0) a8_leastOf_31 rfl ?_
      subst h
      exact g_retE a8_leastOf_32 trivial rfl rfl
    · have h := (if_neg c7).symm.trans h
      refine g_iconst (v := 1) a8_leastOf_27 rfl ?_
      refine g_goto (tgt := 32) a8_leastOf_28 rfl ?_
      subst h
      exact g_retE a8_leastOf_32 trivial rfl rfl
  clear h
  refine g_icmp_eq (tgt := 17) a8_leastOf_3 rfl (fun c5 => ?_) (fun c5 => ?_)
  · have hw1 := (if_pos c5).symm.trans hw1
    refine g_iconst (v := 1) a8_leastOf_17 rfl ?_
    refine g_goto (tgt := 22) a8_leastOf_18 rfl ?_
    subst hw1
    exact g_weak J2 trivial
  · have hw1 := (if_neg c5).symm.trans hw1
    refine g_iload_n a8_leastOf_6 rfl ?_
    refine g_bipush (v := 6) a8_leastOf_7 rfl ?_
    refine g_icmp_ne (tgt := 21) a8_leastOf_9 rfl (fun c4 => ?_) (fun c4 => ?_)
    · have hw1 := (if_neg c4).symm.trans hw1
      refine g_iconst (v := 0) a8_leastOf_21 rfl ?_
      subst hw1
      exact g_weak J2 trivial
    · have hw1 := (if_pos c4).symm.trans hw1
      refine g_iload_n a8_leastOf_12 rfl ?_
      refine g_iconst (v := 1) a8_leastOf_13 rfl ?_
      refine g_icmp_ne (tgt := 21) a8_leastOf_14 rfl (fun c3 => ?_) (fun c3 => ?_)
      · have hw1 := (if_neg c3).symm.trans hw1
        refine g_iconst (v := 0) a8_leastOf_21 rfl ?_
        subst hw1
        exact g_weak J2 trivial
      · have hw1 := (if_pos c3).symm.trans hw1
        refine g_iconst (v := 1) a8_leastOf_17 rfl ?_
        refine g_goto (tgt := 22) a8_leastOf_18 rfl ?_
        subst hw1
        exact g_weak J2 trivial
theorem a8_mostOf_0 : At cX8_mostOf 0 (.iload_n 0) 1 1 := ⟨by decide +kernel, rfl⟩
theorem a8_mostOf_1 : At cX8_mostOf 1 (.tableswitch 85 5 8 #[31, 52, 73, 75]) 31 32 := ⟨by decide +kernel, rfl⟩
theorem a8_mostOf_32 : At cX8_mostOf 32 (.iload_n 1) 1 33 := ⟨by decide +kernel, rfl⟩
theorem a8_mostOf_33 : At cX8_mostOf 33 (.ifCond .ne 7) 3 36 := ⟨by decide +kernel, rfl⟩
theorem a8_mostOf_36 : At cX8_mostOf 36 (.iconst 5) 1 37 := ⟨by decide +kernel, rfl⟩
theorem a8_mostOf_37 : At cX8_mostOf 37 (.goto 15) 3 40 := ⟨by decide +kernel, rfl⟩
theorem a8_mostOf_40 : At cX8_mostOf 40 (.iload_n 1) 1 41 := ⟨by decide +kernel, rfl⟩
theorem a8_mostOf_41 : At cX8_mostOf 41 (.iconst 1) 1 42 := ⟨by decide +kernel, rfl⟩
theorem a8_mostOf_42 : At cX8_mostOf 42 (.if_icmp .ne 8) 3 45 := ⟨by decide +kernel, rfl⟩
theorem a8_mostOf_45 : At cX8_mostOf 45 (.bipush 11) 2 47 := ⟨by decide +kernel, rfl⟩
theorem a8_mostOf_47 : At cX8_mostOf 47 (.goto 5) 3 50 := ⟨by decide +kernel, rfl⟩
theorem a8_mostOf_50 : At cX8_mostOf 50 (.bipush 9) 2 52 := ⟨by decide +kernel, rfl⟩
theorem a8_mostOf_52 : At cX8_mostOf 52 (.ireturn) 1 53 := ⟨by decide +kernel, rfl⟩
theorem a8_mostOf_53 : At cX8_mostOf 53 (.iload_n 1) 1 54 := ⟨by decide +kernel, rfl⟩
theorem a8_mostOf_54 : At cX8_mostOf 54 (.ifCond .ne 7) 3 57 := ⟨by decide +kernel, rfl⟩
theorem a8_mostOf_57 : At cX8_mostOf 57 (.iconst 5) 1 58 := ⟨by decide +kernel, rfl⟩
theorem a8_mostOf_58 : At cX8_mostOf 58 (.goto 15) 3 61 := ⟨by decide +kernel, rfl⟩
theorem a8_mostOf_61 : At cX8_mostOf 61 (.iload_n 1) 1 62 := ⟨by decide +kernel, rfl⟩
theorem a8_mostOf_62 : At cX8_mostOf 62 (.iconst 1) 1 63 := ⟨by decide +kernel, rfl⟩
theorem a8_mostOf_63 : At cX8_mostOf 63 (.if_icmp .ne 8) 3 66 := ⟨by decide +kernel, rfl⟩
theorem a8_mostOf_66 : At cX8_mostOf 66 (.bipush 30) 2 68 := ⟨by decide +kernel, rfl⟩
theorem a8_mostOf_68 : At cX8_mostOf 68 (.goto 5) 3 71 := ⟨by decide +kernel, rfl⟩
theorem a8_mostOf_71 : At cX8_mostOf 71 (.bipush 11) 2 73 := ⟨by decide +kernel, rfl⟩
theorem a8_mostOf_73 : At cX8_mostOf 73 (.ireturn) 1 74 := ⟨by decide +kernel, rfl⟩
theorem a8_mostOf_74 : At cX8_mostOf 74 (.iconst 5) 1 75 := ⟨by decide +kernel, rfl⟩
theorem a8_mostOf_75 : At cX8_mostOf 75 (.ireturn) 1 76 := ⟨by decide +kernel, rfl⟩
theorem a8_mostOf_76 : At cX8_mostOf 76 (.aload_n 2) 1 77 := ⟨by decide +kernel, rfl⟩
theorem a8_mostOf_77 : At cX8_mostOf 77 (.getfield 59) 3 80 := ⟨by decide +kernel, rfl⟩
theorem a8_mostOf_80 : At cX8_mostOf 80 (.invokevirtual 92) 3 83 := ⟨by decide +kernel, rfl⟩
theorem a8_mostOf_83 : At cX8_mostOf 83 (.iconst 1) 1 84 := ⟨by decide +kernel, rfl⟩
theorem a8_mostOf_84 : At cX8_mostOf 84 (.isub) 1 85 := ⟨by decide +kernel, rfl⟩
theorem a8_mostOf_85 : At cX8_mostOf 85 (.ireturn) 1 86 := ⟨by decide +kernel, rfl⟩
theorem a8_mostOf_86 : At cX8_mostOf 86 (.bipush 99) 2 88 := ⟨by decide +kernel, rfl⟩
theorem a8_mostOf_88 : At cX8_mostOf 88 (.ireturn) 1 89 := ⟨by decide +kernel, rfl⟩
def f8_mostOf (x0 : Int32) (x1 : Int32) (k2 : Nat) (σ : Mem) : Int32 :=
  if x0 = 5 then
  (if x1 = 0 then
  (5)
  else
  (if x1 = 1 then
  (11)
  else
  (9)))
  else if x0 = 6 then
  (if x1 = 0 then
  (5)
  else
  (if x1 = 1 then
  (30)
  else
  (11)))
  else if x0 = 7 then
  (5)
  else if x0 = 8 then
  (((f7_size (7 * k2 + 1) σ) - 1))
  else 
  (99)
theorem E8_mostOf (x0 : Int32) (x1 : Int32) (k2 : Nat) (σ : Mem) : Ev m8_mostOf [.inl x0, .inl x1, .inr (.inr (9, k2))] σ (some (.inl (f8_mostOf x0 x1 k2 σ)) : Option AV) σ := by
  obtain ⟨w, h⟩ : ∃ w, f8_mostOf x0 x1 k2 σ = w := ⟨_, rfl⟩
  rw [h]
  unfold f8_mostOf at h
  show Go m8_mostOf 0 [some (.inl x0), some (.inl x1), some (.inr (.inr (9, k2)))] [] σ (some (.inl w) : Option AV) σ
  refine g_iload_n a8_mostOf_0 rfl ?_
  rcases Decidable.em (x0 = 5) with c6 | c6
  · have h := (if_pos c6).symm.trans h
    refine g_tsIn (tgt := 32) (off := 31) a8_mostOf_1 (by rw [c6]; decide) (by rw [c6]; decide) (by rw [c6]; rfl) rfl ?_
    refine g_iload_n a8_mostOf_32 rfl ?_
    refine g_if_ne (tgt := 40) a8_mostOf_33 rfl (fun c2 => ?_) (fun c2 => ?_)
    · have h := (if_neg c2).symm.trans h
      refine g_iload_n a8_mostOf_40 rfl ?_
      refine g_iconst (v := 1) a8_mostOf_41 rfl ?_
      refine g_icmp_ne (tgt := 50) a8_mostOf_42 rfl (fun c1 => ?_) (fun c1 => ?_)
      · have h := (if_neg c1).symm.trans h
        refine g_bipush (v := 9) a8_mostOf_50 rfl ?_
        subst h
        exact g_retE a8_mostOf_52 trivial rfl rfl
      · have h := (if_pos c1).symm.trans h
        refine g_bipush (v := 11) a8_mostOf_45 rfl ?_
        refine g_goto (tgt := 52) a8_mostOf_47 rfl ?_
        subst h
        exact g_retE a8_mostOf_52 trivial rfl rfl
    · have h := (if_pos c2).symm.trans h
      refine g_iconst (v := 5) a8_mostOf_36 rfl ?_
      refine g_goto (tgt := 52) a8_mostOf_37 rfl ?_
      subst h
      exact g_retE a8_mostOf_52 trivial rfl rfl
  have h := (if_neg c6).symm.trans h
  rcases Decidable.em (x0 = 6) with c7 | c7
  · have h := (if_pos c7).symm.trans h
    refine g_tsIn (tgt := 53) (off := 52) a8_mostOf_1 (by rw [c7]; decide) (by rw [c7]; decide) (by rw [c7]; rfl) rfl ?_
    refine g_iload_n a8_mostOf_53 rfl ?_
    refine g_if_ne (tgt := 61) a8_mostOf_54 rfl (fun c4 => ?_) (fun c4 => ?_)
    · have h := (if_neg c4).symm.trans h
      refine g_iload_n a8_mostOf_61 rfl ?_
      refine g_iconst (v := 1) a8_mostOf_62 rfl ?_
      refine g_icmp_ne (tgt := 71) a8_mostOf_63 rfl (fun c3 => ?_) (fun c3 => ?_)
      · have h := (if_neg c3).symm.trans h
        refine g_bipush (v := 11) a8_mostOf_71 rfl ?_
        subst h
        exact g_retE a8_mostOf_73 trivial rfl rfl
      · have h := (if_pos c3).symm.trans h
        refine g_bipush (v := 30) a8_mostOf_66 rfl ?_
        refine g_goto (tgt := 73) a8_mostOf_68 rfl ?_
        subst h
        exact g_retE a8_mostOf_73 trivial rfl rfl
    · have h := (if_pos c4).symm.trans h
      refine g_iconst (v := 5) a8_mostOf_57 rfl ?_
      refine g_goto (tgt := 73) a8_mostOf_58 rfl ?_
      subst h
      exact g_retE a8_mostOf_73 trivial rfl rfl
  have h := (if_neg c7).symm.trans h
  rcases Decidable.em (x0 = 7) with c8 | c8
  · have h := (if_pos c8).symm.trans h
    refine g_tsIn (tgt := 74) (off := 73) a8_mostOf_1 (by rw [c8]; decide) (by rw [c8]; decide) (by rw [c8]; rfl) rfl ?_
    refine g_iconst (v := 5) a8_mostOf_74 rfl ?_
    subst h
    exact g_retE a8_mostOf_75 trivial rfl rfl
  have h := (if_neg c8).symm.trans h
  rcases Decidable.em (x0 = 8) with c9 | c9
  · have h := (if_pos c9).symm.trans h
    refine g_tsIn (tgt := 76) (off := 75) a8_mostOf_1 (by rw [c9]; decide) (by rw [c9]; decide) (by rw [c9]; rfl) rfl ?_
    refine g_aload_n a8_mostOf_76 rfl ?_
    refine g_getf (v := .inr (.inr (7, (7 * k2 + 1)))) a8_mostOf_77 fs8_59 rfl ?_
    refine g_V0s (v1 := .inl (f7_size (7 * k2 + 1) σ)) (σ1 := σ) a8_mostOf_80 cv8_92 (E7_size _ _) rfl (fun o5 => ?_)
    refine g_iconst (v := 1) a8_mostOf_83 rfl ?_
    refine g_isub a8_mostOf_84 ?_
    subst h
    exact g_retE a8_mostOf_85 trivial rfl rfl
  have h := (if_neg c9).symm.trans h
  have tc6 := lv_neT c6 (a := 5) rfl
  have tc7 := lv_neT c7 (a := 6) rfl
  have tc8 := lv_neT c8 (a := 7) rfl
  have tc9 := lv_neT c9 (a := 8) rfl
  refine g_tsOut (tgt := 86) a8_mostOf_1 (by omega) rfl ?_
  refine g_bipush (v := 99) a8_mostOf_86 rfl ?_
  subst h
  exact g_retE a8_mostOf_88 trivial rfl rfl
theorem a8_readNumbers_0 : At cX8_readNumbers 0 (.iload_n 1) 1 1 := ⟨by decide +kernel, rfl⟩
theorem a8_readNumbers_1 : At cX8_readNumbers 1 (.invokestatic 73) 3 4 := ⟨by decide +kernel, rfl⟩
theorem a8_readNumbers_4 : At cX8_readNumbers 4 (.istore_n 3) 1 5 := ⟨by decide +kernel, rfl⟩
theorem a8_readNumbers_5 : At cX8_readNumbers 5 (.iconst 0) 1 6 := ⟨by decide +kernel, rfl⟩
theorem a8_readNumbers_6 : At cX8_readNumbers 6 (.istore 4) 2 8 := ⟨by decide +kernel, rfl⟩
theorem a8_readNumbers_8 : At cX8_readNumbers 8 (.iload 4) 2 10 := ⟨by decide +kernel, rfl⟩
theorem a8_readNumbers_10 : At cX8_readNumbers 10 (.iload_n 3) 1 11 := ⟨by decide +kernel, rfl⟩
theorem a8_readNumbers_11 : At cX8_readNumbers 11 (.if_icmp .ge 63) 3 14 := ⟨by decide +kernel, rfl⟩
theorem a8_readNumbers_14 : At cX8_readNumbers 14 (.aload_n 0) 1 15 := ⟨by decide +kernel, rfl⟩
theorem a8_readNumbers_15 : At cX8_readNumbers 15 (.invokevirtual 34) 3 18 := ⟨by decide +kernel, rfl⟩
theorem a8_readNumbers_18 : At cX8_readNumbers 18 (.aload_n 0) 1 19 := ⟨by decide +kernel, rfl⟩
theorem a8_readNumbers_19 : At cX8_readNumbers 19 (.getfield 77) 3 22 := ⟨by decide +kernel, rfl⟩
theorem a8_readNumbers_22 : At cX8_readNumbers 22 (.iload_n 1) 1 23 := ⟨by decide +kernel, rfl⟩
theorem a8_readNumbers_23 : At cX8_readNumbers 23 (.iload 4) 2 25 := ⟨by decide +kernel, rfl⟩
theorem a8_readNumbers_25 : At cX8_readNumbers 25 (.invokestatic 80) 3 28 := ⟨by decide +kernel, rfl⟩
theorem a8_readNumbers_28 : At cX8_readNumbers 28 (.iload_n 1) 1 29 := ⟨by decide +kernel, rfl⟩
theorem a8_readNumbers_29 : At cX8_readNumbers 29 (.iload 4) 2 31 := ⟨by decide +kernel, rfl⟩
theorem a8_readNumbers_31 : At cX8_readNumbers 31 (.aload_n 2) 1 32 := ⟨by decide +kernel, rfl⟩
theorem a8_readNumbers_32 : At cX8_readNumbers 32 (.invokestatic 84) 3 35 := ⟨by decide +kernel, rfl⟩
theorem a8_readNumbers_35 : At cX8_readNumbers 35 (.invokestatic 88) 3 38 := ⟨by decide +kernel, rfl⟩
theorem a8_readNumbers_38 : At cX8_readNumbers 38 (.istore 5) 2 40 := ⟨by decide +kernel, rfl⟩
theorem a8_readNumbers_40 : At cX8_readNumbers 40 (.aload_n 0) 1 41 := ⟨by decide +kernel, rfl⟩
theorem a8_readNumbers_41 : At cX8_readNumbers 41 (.getfield 37) 3 44 := ⟨by decide +kernel, rfl⟩
theorem a8_readNumbers_44 : At cX8_readNumbers 44 (.iconst 3) 1 45 := ⟨by decide +kernel, rfl⟩
theorem a8_readNumbers_45 : At cX8_readNumbers 45 (.if_icmp .ne 8) 3 48 := ⟨by decide +kernel, rfl⟩
theorem a8_readNumbers_48 : At cX8_readNumbers 48 (.iload 5) 2 50 := ⟨by decide +kernel, rfl⟩
theorem a8_readNumbers_50 : At cX8_readNumbers 50 (.ifCond .ne 5) 3 53 := ⟨by decide +kernel, rfl⟩
theorem a8_readNumbers_53 : At cX8_readNumbers 53 (.iconst 0) 1 54 := ⟨by decide +kernel, rfl⟩
theorem a8_readNumbers_54 : At cX8_readNumbers 54 (.ireturn) 1 55 := ⟨by decide +kernel, rfl⟩
theorem a8_readNumbers_55 : At cX8_readNumbers 55 (.aload_n 0) 1 56 := ⟨by decide +kernel, rfl⟩
theorem a8_readNumbers_56 : At cX8_readNumbers 56 (.getfield 20) 3 59 := ⟨by decide +kernel, rfl⟩
theorem a8_readNumbers_59 : At cX8_readNumbers 59 (.iload 4) 2 61 := ⟨by decide +kernel, rfl⟩
theorem a8_readNumbers_61 : At cX8_readNumbers 61 (.aload_n 0) 1 62 := ⟨by decide +kernel, rfl⟩
theorem a8_readNumbers_62 : At cX8_readNumbers 62 (.getfield 77) 3 65 := ⟨by decide +kernel, rfl⟩
theorem a8_readNumbers_65 : At cX8_readNumbers 65 (.invokevirtual 27) 3 68 := ⟨by decide +kernel, rfl⟩
theorem a8_readNumbers_68 : At cX8_readNumbers 68 (.iinc 4 1) 3 71 := ⟨by decide +kernel, rfl⟩
theorem a8_readNumbers_71 : At cX8_readNumbers 71 (.goto (-63)) 3 74 := ⟨by decide +kernel, rfl⟩
theorem a8_readNumbers_74 : At cX8_readNumbers 74 (.iconst 1) 1 75 := ⟨by decide +kernel, rfl⟩
theorem a8_readNumbers_75 : At cX8_readNumbers 75 (.ireturn) 1 76 := ⟨by decide +kernel, rfl⟩
def l8_readNumbers_8 (k0 : Nat) (x1 : Int32) (k2 : Nat) (x3 : Int32) : Nat → Int32 → Mem → Option ((Int32 × Mem) ⊕ (Int32 × Mem))
  | 0, _, _ => none
  | n + 1, x4, σ =>
  if x3 ≤ x4 then
  (some (.inl (x4, σ)))
  else
  (bnd (f8_nextToken k0 σ) fun w2 =>
  lt ((f10_within (w2.1 8 k0 6) (f8_leastOf x1 x4) (f8_mostOf x1 x4 k2 w2)) : Int32) fun y7 =>
  if (w2.1 8 k0 3) = 3 then
  (if y7 = 0 then
  (some (.inr (0, w2)))
  else
  (bnd (f6_put 2 x4 (w2.1 8 k0 6) w2) fun w8 =>
  l8_readNumbers_8 k0 x1 k2 x3 n (x4 + 1) w8))
  else
  (some (.inr (0, w2))))
theorem lE8_readNumbers_8 {V : Option AV} {S : Mem} (k0 : Nat) (x1 : Int32) (k2 : Nat) (x3 : Int32) : ∀ (n : Nat) (x4 : Int32) (σ : Mem) {w : (Int32 × Mem) ⊕ (Int32 × Mem)}, l8_readNumbers_8 k0 x1 k2 x3 n x4 σ = some w → (∀ u, w = .inl u → Go m8_readNumbers 74 [some (.inr (.inr (8, k0))), some (.inl x1), some (.inr (.inr (9, k2))), some (.inl x3), some (.inl u.1), none] [] u.2 V S) → (∀ u, w = .inr u → (some (.inl u.1) : Option AV) = V ∧ u.2 = S) → Go m8_readNumbers 8 [some (.inr (.inr (8, k0))), some (.inl x1), some (.inr (.inr (9, k2))), some (.inl x3), some (.inl x4), none] [] σ V S
  | 0, x4, σ, w, h, K1, K2 => by cases h
  | n + 1, x4, σ, w, h, K1, K2 => by
    rw [l8_readNumbers_8] at h
    refine g_iload a8_readNumbers_8 rfl ?_
    refine g_iload_n a8_readNumbers_10 rfl ?_
    refine g_icmp_ge (tgt := 74) a8_readNumbers_11 rfl (fun c12 => ?_) (fun c12 => ?_)
    · have h := (if_pos c12).symm.trans h
      have h := Option.some.inj h
      subst h
      exact g_weak (K1 _ rfl) ⟨rfl, rfl, rfl, rfl, rfl, trivial⟩
    · have h := (if_neg c12).symm.trans h
      refine g_aload_n a8_readNumbers_14 rfl ?_
      obtain ⟨w2, hw2, h⟩ := bnd_inv h
      refine g_V0n (σ1 := w2) a8_readNumbers_15 cv8_34 (E8_nextToken hw2) rfl (fun o3 => ?_)
      refine g_aload_n a8_readNumbers_18 rfl ?_
      refine g_getf (v := .inl (w2.1 8 k0 6)) a8_readNumbers_19 fs8_77 rfl ?_
      refine g_iload_n a8_readNumbers_22 rfl ?_
      refine g_iload a8_readNumbers_23 rfl ?_
      refine g_S2s (v1 := .inl (f8_leastOf x1 x4)) (σ1 := w2) a8_readNumbers_25 cs8_80 (E8_leastOf _ _ _) rfl (fun o4 => ?_)
      refine g_iload_n a8_readNumbers_28 rfl ?_
      refine g_iload a8_readNumbers_29 rfl ?_
      refine g_aload_n a8_readNumbers_31 rfl ?_
      refine g_S3s (v1 := .inl (f8_mostOf x1 x4 k2 w2)) (σ1 := w2) a8_readNumbers_32 cs8_84 (E8_mostOf _ _ _ _) rfl (fun o5 => ?_)
      refine g_W3s (v1 := .inl (f10_within (w2.1 8 k0 6) (f8_leastOf x1 x4) (f8_mostOf x1 x4 k2 w2))) (σ1 := w2) rfl a8_readNumbers_35 rfl mok10_within wstwithin (E10_within _ _ _ _) rfl (fun o6 => ?_)
      obtain ⟨y7, ey7, h⟩ := lt_inv h
      rw [ey7]
      refine g_istore (L' := [some (.inr (.inr (8, k0))), some (.inl x1), some (.inr (.inr (9, k2))), some (.inl x3), some (.inl x4), some (.inl y7)]) a8_readNumbers_38 (Nat.le_of_ble_eq_true rfl) rfl rfl ?_
      refine g_aload_n a8_readNumbers_40 rfl ?_
      refine g_getf (v := .inl (w2.1 8 k0 3)) a8_readNumbers_41 fs8_37 rfl ?_
      refine g_iconst (v := 3) a8_readNumbers_44 rfl ?_
      refine g_icmp_ne (tgt := 53) a8_readNumbers_45 rfl (fun c11 => ?_) (fun c11 => ?_)
      · have h := (if_neg c11).symm.trans h
        refine g_iconst (v := 0) a8_readNumbers_53 rfl ?_
        have h := Option.some.inj h
        subst h
        obtain ⟨hV, hS⟩ := K2 _ rfl
        subst hV; subst hS
        exact g_retE a8_readNumbers_54 (Or.inl rfl) rfl rfl
      · have h := (if_pos c11).symm.trans h
        refine g_iload a8_readNumbers_48 rfl ?_
        refine g_if_ne (tgt := 55) a8_readNumbers_50 rfl (fun c10 => ?_) (fun c10 => ?_)
        · have h := (if_neg c10).symm.trans h
          refine g_aload_n a8_readNumbers_55 rfl ?_
          refine g_getf (v := .inr (.inr (6, 2))) a8_readNumbers_56 fs8_20 rfl ?_
          refine g_iload a8_readNumbers_59 rfl ?_
          refine g_aload_n a8_readNumbers_61 rfl ?_
          refine g_getf (v := .inl (w2.1 8 k0 6)) a8_readNumbers_62 fs8_77 rfl ?_
          obtain ⟨w8, hw8, h⟩ := bnd_inv h
          refine g_V2n (σ1 := w8) a8_readNumbers_65 cv8_27 (E6_put hw8) rfl (fun o9 => ?_)
          refine g_iinc (v := (x4 + 1)) (L' := [some (.inr (.inr (8, k0))), some (.inl x1), some (.inr (.inr (9, k2))), some (.inl x3), some (.inl (x4 + 1)), some (.inl y7)]) a8_readNumbers_68 rfl rfl (Nat.le_of_ble_eq_true rfl) rfl rfl ?_
          refine g_goto (tgt := 8) a8_readNumbers_71 rfl ?_
          exact g_weak (lE8_readNumbers_8 (V := V) (S := S)  k0 x1 k2 x3 n _ _ h K1 K2) ⟨rfl, rfl, rfl, rfl, rfl, trivial⟩
        · have h := (if_pos c10).symm.trans h
          refine g_iconst (v := 0) a8_readNumbers_53 rfl ?_
          have h := Option.some.inj h
          subst h
          obtain ⟨hV, hS⟩ := K2 _ rfl
          subst hV; subst hS
          exact g_retE a8_readNumbers_54 (Or.inl rfl) rfl rfl
def f8_readNumbers (k0 : Nat) (x1 : Int32) (k2 : Nat) (σ : Mem) : Option (Int32 × Mem) :=
  bnd (l8_readNumbers_8 k0 x1 k2 (f8_numbersOf x1) 2000 0 σ) fun w13 =>
  sm w13 (fun u14 =>
  some (1, u14.2)) (fun u14 => some u14)
theorem E8_readNumbers {k0 : Nat} {x1 : Int32} {k2 : Nat} {σ : Mem} {w : Int32 × Mem} (h : f8_readNumbers k0 x1 k2 σ = some w) : Ev m8_readNumbers [.inr (.inr (8, k0)), .inl x1, .inr (.inr (9, k2))] σ (some (.inl w.1) : Option AV) w.2 := by
  unfold f8_readNumbers at h
  show Go m8_readNumbers 0 [some (.inr (.inr (8, k0))), some (.inl x1), some (.inr (.inr (9, k2))), none, none, none] [] σ (some (.inl w.1) : Option AV) w.2
  refine g_iload_n a8_readNumbers_0 rfl ?_
  refine g_S1s (v1 := .inl (f8_numbersOf x1)) (σ1 := σ) a8_readNumbers_1 cs8_73 (E8_numbersOf _ _) rfl (fun o1 => ?_)
  refine g_istore_n (L' := [some (.inr (.inr (8, k0))), some (.inl x1), some (.inr (.inr (9, k2))), some (.inl (f8_numbersOf x1)), none, none]) a8_readNumbers_4 (Nat.le_of_ble_eq_true rfl) rfl rfl ?_
  refine g_iconst (v := 0) a8_readNumbers_5 rfl ?_
  refine g_istore (L' := [some (.inr (.inr (8, k0))), some (.inl x1), some (.inr (.inr (9, k2))), some (.inl (f8_numbersOf x1)), some (.inl 0), none]) a8_readNumbers_6 (Nat.le_of_ble_eq_true rfl) rfl rfl ?_
  obtain ⟨w13, hw13, h⟩ := bnd_inv h
  rcases w13 with u14 | u14
  · have h := sm_l h
    refine g_weak (lE8_readNumbers_8 k0 x1 k2 (f8_numbersOf x1) 2000 _ _ hw13 (fun _ e => ?_) (fun _ e => by cases e)) ⟨rfl, rfl, rfl, rfl, rfl, trivial⟩
    cases e
    refine g_iconst (v := 1) a8_readNumbers_74 rfl ?_
    have h := Option.some.inj h
    subst h
    exact g_retE a8_readNumbers_75 (Or.inr rfl) rfl rfl
  · have h := sm_r h
    have h := Option.some.inj h
    subst h
    exact g_weak (lE8_readNumbers_8 k0 x1 k2 (f8_numbersOf x1) 2000 _ _ hw13 (fun _ e => by cases e) (fun _ e => by cases e; exact ⟨rfl, rfl⟩)) ⟨rfl, rfl, rfl, rfl, rfl, trivial⟩
theorem a8_readStop_0 : At cX8_readStop 0 (.aload_n 0) 1 1 := ⟨by decide +kernel, rfl⟩
theorem a8_readStop_1 : At cX8_readStop 1 (.invokevirtual 34) 3 4 := ⟨by decide +kernel, rfl⟩
theorem a8_readStop_4 : At cX8_readStop 4 (.aload_n 0) 1 5 := ⟨by decide +kernel, rfl⟩
theorem a8_readStop_5 : At cX8_readStop 5 (.getfield 37) 3 8 := ⟨by decide +kernel, rfl⟩
theorem a8_readStop_8 : At cX8_readStop 8 (.iconst 2) 1 9 := ⟨by decide +kernel, rfl⟩
theorem a8_readStop_9 : At cX8_readStop 9 (.if_icmp .ne 7) 3 12 := ⟨by decide +kernel, rfl⟩
theorem a8_readStop_12 : At cX8_readStop 12 (.iconst 1) 1 13 := ⟨by decide +kernel, rfl⟩
theorem a8_readStop_13 : At cX8_readStop 13 (.goto 4) 3 16 := ⟨by decide +kernel, rfl⟩
theorem a8_readStop_16 : At cX8_readStop 16 (.iconst 0) 1 17 := ⟨by decide +kernel, rfl⟩
theorem a8_readStop_17 : At cX8_readStop 17 (.ireturn) 1 18 := ⟨by decide +kernel, rfl⟩
def f8_readStop (k0 : Nat) (σ : Mem) : Option (Int32 × Mem) :=
  bnd (f8_nextToken k0 σ) fun w1 =>
  if (w1.1 8 k0 3) = 2 then
  (some (1, w1))
  else
  (some (0, w1))
theorem E8_readStop {k0 : Nat} {σ : Mem} {w : Int32 × Mem} (h : f8_readStop k0 σ = some w) : Ev m8_readStop [.inr (.inr (8, k0))] σ (some (.inl w.1) : Option AV) w.2 := by
  unfold f8_readStop at h
  show Go m8_readStop 0 [some (.inr (.inr (8, k0)))] [] σ (some (.inl w.1) : Option AV) w.2
  refine g_aload_n a8_readStop_0 rfl ?_
  obtain ⟨w1, hw1, h⟩ := bnd_inv h
  refine g_V0n (σ1 := w1) a8_readStop_1 cv8_34 (E8_nextToken hw1) rfl (fun o2 => ?_)
  refine g_aload_n a8_readStop_4 rfl ?_
  refine g_getf (v := .inl (w1.1 8 k0 3)) a8_readStop_5 fs8_37 rfl ?_
  refine g_iconst (v := 2) a8_readStop_8 rfl ?_
  refine g_icmp_ne (tgt := 16) a8_readStop_9 rfl (fun c3 => ?_) (fun c3 => ?_)
  · have h := (if_neg c3).symm.trans h
    refine g_iconst (v := 0) a8_readStop_16 rfl ?_
    have h := Option.some.inj h
    subst h
    exact g_retE a8_readStop_17 (Or.inl rfl) rfl rfl
  · have h := (if_pos c3).symm.trans h
    refine g_iconst (v := 1) a8_readStop_12 rfl ?_
    refine g_goto (tgt := 17) a8_readStop_13 rfl ?_
    have h := Option.some.inj h
    subst h
    exact g_retE a8_readStop_17 (Or.inr rfl) rfl rfl
theorem a9_turn_0 : At cX9_turn 0 (.aload_n 0) 1 1 := ⟨by decide +kernel, rfl⟩
theorem a9_turn_1 : At cX9_turn 1 (.getfield 41) 3 4 := ⟨by decide +kernel, rfl⟩
theorem a9_turn_4 : At cX9_turn 4 (.dup) 1 5 := ⟨by decide +kernel, rfl⟩
theorem a9_turn_5 : At cX9_turn 5 (.getfield 74) 3 8 := ⟨by decide +kernel, rfl⟩
theorem a9_turn_8 : At cX9_turn 8 (.iconst 1) 1 9 := ⟨by decide +kernel, rfl⟩
theorem a9_turn_9 : At cX9_turn 9 (.iload_n 1) 1 10 := ⟨by decide +kernel, rfl⟩
theorem a9_turn_10 : At cX9_turn 10 (.ishl) 1 11 := ⟨by decide +kernel, rfl⟩
theorem a9_turn_11 : At cX9_turn 11 (.ixor) 1 12 := ⟨by decide +kernel, rfl⟩
theorem a9_turn_12 : At cX9_turn 12 (.putfield 74) 3 15 := ⟨by decide +kernel, rfl⟩
theorem a9_turn_15 : At cX9_turn 15 (.return_) 1 16 := ⟨by decide +kernel, rfl⟩
def f9_turn (k0 : Nat) (x1 : Int32) (σ : Mem) : Mem :=
  lt (sI σ 4 k0 0 ((σ.1 4 k0 0) ^^^ (1 <<< (x1 &&& 31)))) fun σ1 =>
  σ1
theorem E9_turn (k0 : Nat) (x1 : Int32) (σ : Mem) : Ev m9_turn [.inr (.inr (9, k0)), .inl x1] σ none (f9_turn k0 x1 σ) := by
  obtain ⟨w, h⟩ : ∃ w, f9_turn k0 x1 σ = w := ⟨_, rfl⟩
  rw [h]
  unfold f9_turn at h
  show Go m9_turn 0 [some (.inr (.inr (9, k0))), some (.inl x1)] [] σ none w
  refine g_aload_n a9_turn_0 rfl ?_
  refine g_getf (v := .inr (.inr (4, k0))) a9_turn_1 fs9_41 rfl ?_
  refine g_dup a9_turn_4 (fun _ => rfl) ?_
  refine g_getf (v := .inl (σ.1 4 k0 0)) a9_turn_5 fs9_74 rfl ?_
  refine g_iconst (v := 1) a9_turn_8 rfl ?_
  refine g_iload_n a9_turn_9 rfl ?_
  refine g_ishl a9_turn_10 ?_
  refine g_ixor a9_turn_11 ?_
  obtain ⟨σ1, eσ1, h⟩ := lt_inv h
  refine g_puti a9_turn_12 fs9_74 ps4_0 (fun _ _ _ => rfl) ?_
  rw [eσ1]
  subst h
  exact g_retE a9_turn_15 trivial rfl rfl
theorem a3_draw_0 : At cX3_draw 0 (.iload_n 1) 1 1 := ⟨by decide +kernel, rfl⟩
theorem a3_draw_1 : At cX3_draw 1 (.iload_n 2) 1 2 := ⟨by decide +kernel, rfl⟩
theorem a3_draw_2 : At cX3_draw 2 (.if_icmp .le 9) 3 5 := ⟨by decide +kernel, rfl⟩
theorem a3_draw_5 : At cX3_draw 5 (.iload_n 1) 1 6 := ⟨by decide +kernel, rfl⟩
theorem a3_draw_6 : At cX3_draw 6 (.iload_n 2) 1 7 := ⟨by decide +kernel, rfl⟩
theorem a3_draw_7 : At cX3_draw 7 (.isub) 1 8 := ⟨by decide +kernel, rfl⟩
theorem a3_draw_8 : At cX3_draw 8 (.goto 4) 3 11 := ⟨by decide +kernel, rfl⟩
theorem a3_draw_11 : At cX3_draw 11 (.iconst 0) 1 12 := ⟨by decide +kernel, rfl⟩
theorem a3_draw_12 : At cX3_draw 12 (.istore 4) 2 14 := ⟨by decide +kernel, rfl⟩
theorem a3_draw_14 : At cX3_draw 14 (.iload 4) 2 16 := ⟨by decide +kernel, rfl⟩
theorem a3_draw_16 : At cX3_draw 16 (.iconst 5) 1 17 := ⟨by decide +kernel, rfl⟩
theorem a3_draw_17 : At cX3_draw 17 (.iadd) 1 18 := ⟨by decide +kernel, rfl⟩
theorem a3_draw_18 : At cX3_draw 18 (.istore 5) 2 20 := ⟨by decide +kernel, rfl⟩
theorem a3_draw_20 : At cX3_draw 20 (.iconst 2) 1 21 := ⟨by decide +kernel, rfl⟩
theorem a3_draw_21 : At cX3_draw 21 (.iload 4) 2 23 := ⟨by decide +kernel, rfl⟩
theorem a3_draw_23 : At cX3_draw 23 (.imul) 1 24 := ⟨by decide +kernel, rfl⟩
theorem a3_draw_24 : At cX3_draw 24 (.istore 6) 2 26 := ⟨by decide +kernel, rfl⟩
theorem a3_draw_26 : At cX3_draw 26 (.iload_n 0) 1 27 := ⟨by decide +kernel, rfl⟩
theorem a3_draw_27 : At cX3_draw 27 (.tableswitch 92 0 5 #[37, 40, 43, 46, 59, 75]) 37 64 := ⟨by decide +kernel, rfl⟩
theorem a3_draw_64 : At cX3_draw 64 (.iload 4) 2 66 := ⟨by decide +kernel, rfl⟩
theorem a3_draw_66 : At cX3_draw 66 (.ireturn) 1 67 := ⟨by decide +kernel, rfl⟩
theorem a3_draw_67 : At cX3_draw 67 (.iload 5) 2 69 := ⟨by decide +kernel, rfl⟩
theorem a3_draw_69 : At cX3_draw 69 (.ireturn) 1 70 := ⟨by decide +kernel, rfl⟩
theorem a3_draw_70 : At cX3_draw 70 (.iload 6) 2 72 := ⟨by decide +kernel, rfl⟩
theorem a3_draw_72 : At cX3_draw 72 (.ireturn) 1 73 := ⟨by decide +kernel, rfl⟩
theorem a3_draw_73 : At cX3_draw 73 (.iload_n 3) 1 74 := ⟨by decide +kernel, rfl⟩
theorem a3_draw_74 : At cX3_draw 74 (.iconst 2) 1 75 := ⟨by decide +kernel, rfl⟩
theorem a3_draw_75 : At cX3_draw 75 (.irem) 1 76 := ⟨by decide +kernel, rfl⟩
theorem a3_draw_76 : At cX3_draw 76 (.ifCond .ne 8) 3 79 := ⟨by decide +kernel, rfl⟩
theorem a3_draw_79 : At cX3_draw 79 (.iload 6) 2 81 := ⟨by decide +kernel, rfl⟩
theorem a3_draw_81 : At cX3_draw 81 (.goto 4) 3 84 := ⟨by decide +kernel, rfl⟩
theorem a3_draw_84 : At cX3_draw 84 (.iconst 0) 1 85 := ⟨by decide +kernel, rfl⟩
theorem a3_draw_85 : At cX3_draw 85 (.ireturn) 1 86 := ⟨by decide +kernel, rfl⟩
theorem a3_draw_86 : At cX3_draw 86 (.iload_n 2) 1 87 := ⟨by decide +kernel, rfl⟩
theorem a3_draw_87 : At cX3_draw 87 (.iconst 1) 1 88 := ⟨by decide +kernel, rfl⟩
theorem a3_draw_88 : At cX3_draw 88 (.if_icmp .gt 11) 3 91 := ⟨by decide +kernel, rfl⟩
theorem a3_draw_91 : At cX3_draw 91 (.iload 4) 2 93 := ⟨by decide +kernel, rfl⟩
theorem a3_draw_93 : At cX3_draw 93 (.bipush 9) 2 95 := ⟨by decide +kernel, rfl⟩
theorem a3_draw_95 : At cX3_draw 95 (.iadd) 1 96 := ⟨by decide +kernel, rfl⟩
theorem a3_draw_96 : At cX3_draw 96 (.goto 5) 3 99 := ⟨by decide +kernel, rfl⟩
theorem a3_draw_99 : At cX3_draw 99 (.iload 4) 2 101 := ⟨by decide +kernel, rfl⟩
theorem a3_draw_101 : At cX3_draw 101 (.ireturn) 1 102 := ⟨by decide +kernel, rfl⟩
theorem a3_draw_102 : At cX3_draw 102 (.iload_n 3) 1 103 := ⟨by decide +kernel, rfl⟩
theorem a3_draw_103 : At cX3_draw 103 (.iconst 5) 1 104 := ⟨by decide +kernel, rfl⟩
theorem a3_draw_104 : At cX3_draw 104 (.if_icmp .ge 10) 3 107 := ⟨by decide +kernel, rfl⟩
theorem a3_draw_107 : At cX3_draw 107 (.iload 5) 2 109 := ⟨by decide +kernel, rfl⟩
theorem a3_draw_109 : At cX3_draw 109 (.iload_n 3) 1 110 := ⟨by decide +kernel, rfl⟩
theorem a3_draw_110 : At cX3_draw 110 (.iadd) 1 111 := ⟨by decide +kernel, rfl⟩
theorem a3_draw_111 : At cX3_draw 111 (.goto 7) 3 114 := ⟨by decide +kernel, rfl⟩
theorem a3_draw_114 : At cX3_draw 114 (.iload 5) 2 116 := ⟨by decide +kernel, rfl⟩
theorem a3_draw_116 : At cX3_draw 116 (.iconst 5) 1 117 := ⟨by decide +kernel, rfl⟩
theorem a3_draw_117 : At cX3_draw 117 (.iadd) 1 118 := ⟨by decide +kernel, rfl⟩
theorem a3_draw_118 : At cX3_draw 118 (.ireturn) 1 119 := ⟨by decide +kernel, rfl⟩
theorem a3_draw_119 : At cX3_draw 119 (.iconst 0) 1 120 := ⟨by decide +kernel, rfl⟩
theorem a3_draw_120 : At cX3_draw 120 (.ireturn) 1 121 := ⟨by decide +kernel, rfl⟩
def f3_draw (x0 : Int32) (x1 : Int32) (x2 : Int32) (x3 : Int32) : Int32 :=
  lt (if x1 ≤ x2 then
  (0)
  else
  ((x1 - x2)) : Int32) fun w1 =>
  if x0 = 0 then
  (w1)
  else if x0 = 1 then
  ((w1 + 5))
  else if x0 = 2 then
  ((2 * w1))
  else if x0 = 3 then
  (if (x3 - x3 / 2 * 2) = 0 then
  ((2 * w1))
  else
  (0))
  else if x0 = 4 then
  (if 1 < x2 then
  (w1)
  else
  ((w1 + 9)))
  else if x0 = 5 then
  (if 5 ≤ x3 then
  (((w1 + 5) + 5))
  else
  (((w1 + 5) + x3)))
  else 
  (0)
theorem E3_draw (x0 : Int32) (x1 : Int32) (x2 : Int32) (x3 : Int32) (σ : Mem) : Ev m3_draw [.inl x0, .inl x1, .inl x2, .inl x3] σ (some (.inl (f3_draw x0 x1 x2 x3)) : Option AV) σ := by
  obtain ⟨w, h⟩ : ∃ w, f3_draw x0 x1 x2 x3 = w := ⟨_, rfl⟩
  rw [h]
  unfold f3_draw at h
  show Go m3_draw 0 [some (.inl x0), some (.inl x1), some (.inl x2), some (.inl x3), none, none, none] [] σ (some (.inl w) : Option AV) σ
  refine g_iload_n a3_draw_0 rfl ?_
  refine g_iload_n a3_draw_1 rfl ?_
  obtain ⟨w1, hw1, h⟩ := lt_inv h
  have J2 : Go m3_draw 12 [some (.inl x0), none, some (.inl x2), some (.inl x3), none, none, none] [.inl w1] σ (some (.inl w) : Option AV) σ := by
    refine g_istore (L' := [some (.inl x0), none, some (.inl x2), some (.inl x3), some (.inl w1), none, none]) a3_draw_12 (Nat.le_of_ble_eq_true rfl) rfl rfl ?_
    refine g_iload a3_draw_14 rfl ?_
    refine g_iconst (v := 5) a3_draw_16 rfl ?_
    refine g_iadd a3_draw_17 ?_
    refine g_istore (L' := [some (.inl x0), none, some (.inl x2), some (.inl x3), some (.inl w1), some (.inl (w1 + 5)), none]) a3_draw_18 (Nat.le_of_ble_eq_true rfl) rfl rfl ?_
    refine g_iconst (v := 2) a3_draw_20 rfl ?_
    refine g_iload a3_draw_21 rfl ?_
    refine g_imul a3_draw_23 ?_
    refine g_istore (L' := [some (.inl x0), none, some (.inl x2), some (.inl x3), some (.inl w1), some (.inl (w1 + 5)), some (.inl (2 * w1))]) a3_draw_24 (Nat.le_of_ble_eq_true rfl) rfl rfl ?_
    refine g_iload_n a3_draw_26 rfl ?_
    rcases Decidable.em (x0 = 0) with c7 | c7
    · have h := (if_pos c7).symm.trans h
      refine g_tsIn (tgt := 64) (off := 37) a3_draw_27 (by rw [c7]; decide) (by rw [c7]; decide) (by rw [c7]; rfl) rfl ?_
      refine g_iload a3_draw_64 rfl ?_
      subst h
      exact g_retE a3_draw_66 trivial rfl rfl
    have h := (if_neg c7).symm.trans h
    rcases Decidable.em (x0 = 1) with c8 | c8
    · have h := (if_pos c8).symm.trans h
      refine g_tsIn (tgt := 67) (off := 40) a3_draw_27 (by rw [c8]; decide) (by rw [c8]; decide) (by rw [c8]; rfl) rfl ?_
      refine g_iload a3_draw_67 rfl ?_
      subst h
      exact g_retE a3_draw_69 trivial rfl rfl
    have h := (if_neg c8).symm.trans h
    rcases Decidable.em (x0 = 2) with c9 | c9
    · have h := (if_pos c9).symm.trans h
      refine g_tsIn (tgt := 70) (off := 43) a3_draw_27 (by rw [c9]; decide) (by rw [c9]; decide) (by rw [c9]; rfl) rfl ?_
      refine g_iload a3_draw_70 rfl ?_
      subst h
      exact g_retE a3_draw_72 trivial rfl rfl
    have h := (if_neg c9).symm.trans h
    rcases Decidable.em (x0 = 3) with c10 | c10
    · have h := (if_pos c10).symm.trans h
      refine g_tsIn (tgt := 73) (off := 46) a3_draw_27 (by rw [c10]; decide) (by rw [c10]; decide) (by rw [c10]; rfl) rfl ?_
      refine g_iload_n a3_draw_73 rfl ?_
      refine g_iconst (v := 2) a3_draw_74 rfl ?_
      refine g_irem a3_draw_75 (by decide) ?_
      refine g_if_ne (tgt := 84) a3_draw_76 rfl (fun c4 => ?_) (fun c4 => ?_)
      · have h := (if_neg c4).symm.trans h
        refine g_iconst (v := 0) a3_draw_84 rfl ?_
        subst h
        exact g_retE a3_draw_85 trivial rfl rfl
      · have h := (if_pos c4).symm.trans h
        refine g_iload a3_draw_79 rfl ?_
        refine g_goto (tgt := 85) a3_draw_81 rfl ?_
        subst h
        exact g_retE a3_draw_85 trivial rfl rfl
    have h := (if_neg c10).symm.trans h
    rcases Decidable.em (x0 = 4) with c11 | c11
    · have h := (if_pos c11).symm.trans h
      refine g_tsIn (tgt := 86) (off := 59) a3_draw_27 (by rw [c11]; decide) (by rw [c11]; decide) (by rw [c11]; rfl) rfl ?_
      refine g_iload_n a3_draw_86 rfl ?_
      refine g_iconst (v := 1) a3_draw_87 rfl ?_
      refine g_icmp_gt (tgt := 99) a3_draw_88 rfl (fun c5 => ?_) (fun c5 => ?_)
      · have h := (if_pos c5).symm.trans h
        refine g_iload a3_draw_99 rfl ?_
        subst h
        exact g_retE a3_draw_101 trivial rfl rfl
      · have h := (if_neg c5).symm.trans h
        refine g_iload a3_draw_91 rfl ?_
        refine g_bipush (v := 9) a3_draw_93 rfl ?_
        refine g_iadd a3_draw_95 ?_
        refine g_goto (tgt := 101) a3_draw_96 rfl ?_
        subst h
        exact g_retE a3_draw_101 trivial rfl rfl
    have h := (if_neg c11).symm.trans h
    rcases Decidable.em (x0 = 5) with c12 | c12
    · have h := (if_pos c12).symm.trans h
      refine g_tsIn (tgt := 102) (off := 75) a3_draw_27 (by rw [c12]; decide) (by rw [c12]; decide) (by rw [c12]; rfl) rfl ?_
      refine g_iload_n a3_draw_102 rfl ?_
      refine g_iconst (v := 5) a3_draw_103 rfl ?_
      refine g_icmp_ge (tgt := 114) a3_draw_104 rfl (fun c6 => ?_) (fun c6 => ?_)
      · have h := (if_pos c6).symm.trans h
        refine g_iload a3_draw_114 rfl ?_
        refine g_iconst (v := 5) a3_draw_116 rfl ?_
        refine g_iadd a3_draw_117 ?_
        subst h
        exact g_retE a3_draw_118 trivial rfl rfl
      · have h := (if_neg c6).symm.trans h
        refine g_iload a3_draw_107 rfl ?_
        refine g_iload_n a3_draw_109 rfl ?_
        refine g_iadd a3_draw_110 ?_
        refine g_goto (tgt := 118) a3_draw_111 rfl ?_
        subst h
        exact g_retE a3_draw_118 trivial rfl rfl
    have h := (if_neg c12).symm.trans h
    have tc7 := lv_neT c7 (a := 0) rfl
    have tc8 := lv_neT c8 (a := 1) rfl
    have tc9 := lv_neT c9 (a := 2) rfl
    have tc10 := lv_neT c10 (a := 3) rfl
    have tc11 := lv_neT c11 (a := 4) rfl
    have tc12 := lv_neT c12 (a := 5) rfl
    refine g_tsOut (tgt := 119) a3_draw_27 (by omega) rfl ?_
    refine g_iconst (v := 0) a3_draw_119 rfl ?_
    subst h
    exact g_retE a3_draw_120 trivial rfl rfl
  clear h
  refine g_icmp_le (tgt := 11) a3_draw_2 rfl (fun c3 => ?_) (fun c3 => ?_)
  · have hw1 := (if_pos c3).symm.trans hw1
    refine g_iconst (v := 0) a3_draw_11 rfl ?_
    subst hw1
    exact g_weak J2 ⟨rfl, rfl, rfl, trivial⟩
  · have hw1 := (if_neg c3).symm.trans hw1
    refine g_iload_n a3_draw_5 rfl ?_
    refine g_iload_n a3_draw_6 rfl ?_
    refine g_isub a3_draw_7 ?_
    refine g_goto (tgt := 12) a3_draw_8 rfl ?_
    subst hw1
    exact g_weak J2 ⟨rfl, rfl, rfl, trivial⟩
theorem a4_isUp_0 : At cX4_isUp 0 (.aload_n 0) 1 1 := ⟨by decide +kernel, rfl⟩
theorem a4_isUp_1 : At cX4_isUp 1 (.getfield 7) 3 4 := ⟨by decide +kernel, rfl⟩
theorem a4_isUp_4 : At cX4_isUp 4 (.iload_n 1) 1 5 := ⟨by decide +kernel, rfl⟩
theorem a4_isUp_5 : At cX4_isUp 5 (.ishr) 1 6 := ⟨by decide +kernel, rfl⟩
theorem a4_isUp_6 : At cX4_isUp 6 (.iconst 1) 1 7 := ⟨by decide +kernel, rfl⟩
theorem a4_isUp_7 : At cX4_isUp 7 (.iand) 1 8 := ⟨by decide +kernel, rfl⟩
theorem a4_isUp_8 : At cX4_isUp 8 (.iconst 1) 1 9 := ⟨by decide +kernel, rfl⟩
theorem a4_isUp_9 : At cX4_isUp 9 (.if_icmp .ne 7) 3 12 := ⟨by decide +kernel, rfl⟩
theorem a4_isUp_12 : At cX4_isUp 12 (.iconst 1) 1 13 := ⟨by decide +kernel, rfl⟩
theorem a4_isUp_13 : At cX4_isUp 13 (.goto 4) 3 16 := ⟨by decide +kernel, rfl⟩
theorem a4_isUp_16 : At cX4_isUp 16 (.iconst 0) 1 17 := ⟨by decide +kernel, rfl⟩
theorem a4_isUp_17 : At cX4_isUp 17 (.ireturn) 1 18 := ⟨by decide +kernel, rfl⟩
def f4_isUp (k0 : Nat) (x1 : Int32) (σ : Mem) : Int32 :=
  if (((σ.1 4 k0 0) >>> (x1 &&& 31)) &&& 1) = 1 then
  (1)
  else
  (0)
theorem E4_isUp (k0 : Nat) (x1 : Int32) (σ : Mem) : Ev m4_isUp [.inr (.inr (4, k0)), .inl x1] σ (some (.inl (f4_isUp k0 x1 σ)) : Option AV) σ := by
  obtain ⟨w, h⟩ : ∃ w, f4_isUp k0 x1 σ = w := ⟨_, rfl⟩
  rw [h]
  unfold f4_isUp at h
  show Go m4_isUp 0 [some (.inr (.inr (4, k0))), some (.inl x1)] [] σ (some (.inl w) : Option AV) σ
  refine g_aload_n a4_isUp_0 rfl ?_
  refine g_getf (v := .inl (σ.1 4 k0 0)) a4_isUp_1 fs4_7 rfl ?_
  refine g_iload_n a4_isUp_4 rfl ?_
  refine g_ishr a4_isUp_5 ?_
  refine g_iconst (v := 1) a4_isUp_6 rfl ?_
  refine g_iand a4_isUp_7 ?_
  refine g_iconst (v := 1) a4_isUp_8 rfl ?_
  refine g_icmp_ne (tgt := 16) a4_isUp_9 rfl (fun c1 => ?_) (fun c1 => ?_)
  · have h := (if_neg c1).symm.trans h
    refine g_iconst (v := 0) a4_isUp_16 rfl ?_
    subst h
    exact g_retE a4_isUp_17 (Or.inl rfl) rfl rfl
  · have h := (if_pos c1).symm.trans h
    refine g_iconst (v := 1) a4_isUp_12 rfl ?_
    refine g_goto (tgt := 17) a4_isUp_13 rfl ?_
    subst h
    exact g_retE a4_isUp_17 (Or.inr rfl) rfl rfl
theorem a9_struckIf_0 : At cX9_struckIf 0 (.iconst (-1)) 1 1 := ⟨by decide +kernel, rfl⟩
theorem a9_struckIf_1 : At cX9_struckIf 1 (.istore 5) 2 3 := ⟨by decide +kernel, rfl⟩
theorem a9_struckIf_3 : At cX9_struckIf 3 (.iconst 0) 1 4 := ⟨by decide +kernel, rfl⟩
theorem a9_struckIf_4 : At cX9_struckIf 4 (.istore 6) 2 6 := ⟨by decide +kernel, rfl⟩
theorem a9_struckIf_6 : At cX9_struckIf 6 (.iconst 0) 1 7 := ⟨by decide +kernel, rfl⟩
theorem a9_struckIf_7 : At cX9_struckIf 7 (.istore 7) 2 9 := ⟨by decide +kernel, rfl⟩
theorem a9_struckIf_9 : At cX9_struckIf 9 (.iload 7) 2 11 := ⟨by decide +kernel, rfl⟩
theorem a9_struckIf_11 : At cX9_struckIf 11 (.aload_n 0) 1 12 := ⟨by decide +kernel, rfl⟩
theorem a9_struckIf_12 : At cX9_struckIf 12 (.getfield 20) 3 15 := ⟨by decide +kernel, rfl⟩
theorem a9_struckIf_15 : At cX9_struckIf 15 (.invokevirtual 70) 3 18 := ⟨by decide +kernel, rfl⟩
theorem a9_struckIf_18 : At cX9_struckIf 18 (.if_icmp .ge 96) 3 21 := ⟨by decide +kernel, rfl⟩
theorem a9_struckIf_21 : At cX9_struckIf 21 (.iload 7) 2 23 := ⟨by decide +kernel, rfl⟩
theorem a9_struckIf_23 : At cX9_struckIf 23 (.iload_n 3) 1 24 := ⟨by decide +kernel, rfl⟩
theorem a9_struckIf_24 : At cX9_struckIf 24 (.if_icmp .ne 8) 3 27 := ⟨by decide +kernel, rfl⟩
theorem a9_struckIf_27 : At cX9_struckIf 27 (.iload 4) 2 29 := ⟨by decide +kernel, rfl⟩
theorem a9_struckIf_29 : At cX9_struckIf 29 (.goto 13) 3 32 := ⟨by decide +kernel, rfl⟩
theorem a9_struckIf_32 : At cX9_struckIf 32 (.aload_n 0) 1 33 := ⟨by decide +kernel, rfl⟩
theorem a9_struckIf_33 : At cX9_struckIf 33 (.getfield 20) 3 36 := ⟨by decide +kernel, rfl⟩
theorem a9_struckIf_36 : At cX9_struckIf 36 (.iload 7) 2 38 := ⟨by decide +kernel, rfl⟩
theorem a9_struckIf_38 : At cX9_struckIf 38 (.iconst 1) 1 39 := ⟨by decide +kernel, rfl⟩
theorem a9_struckIf_39 : At cX9_struckIf 39 (.invokevirtual 94) 3 42 := ⟨by decide +kernel, rfl⟩
theorem a9_struckIf_42 : At cX9_struckIf 42 (.istore 8) 2 44 := ⟨by decide +kernel, rfl⟩
theorem a9_struckIf_44 : At cX9_struckIf 44 (.aload_n 0) 1 45 := ⟨by decide +kernel, rfl⟩
theorem a9_struckIf_45 : At cX9_struckIf 45 (.getfield 20) 3 48 := ⟨by decide +kernel, rfl⟩
theorem a9_struckIf_48 : At cX9_struckIf 48 (.iload 7) 2 50 := ⟨by decide +kernel, rfl⟩
theorem a9_struckIf_50 : At cX9_struckIf 50 (.iconst 2) 1 51 := ⟨by decide +kernel, rfl⟩
theorem a9_struckIf_51 : At cX9_struckIf 51 (.invokevirtual 94) 3 54 := ⟨by decide +kernel, rfl⟩
theorem a9_struckIf_54 : At cX9_struckIf 54 (.iload_n 1) 1 55 := ⟨by decide +kernel, rfl⟩
theorem a9_struckIf_55 : At cX9_struckIf 55 (.isub) 1 56 := ⟨by decide +kernel, rfl⟩
theorem a9_struckIf_56 : At cX9_struckIf 56 (.invokestatic 123) 3 59 := ⟨by decide +kernel, rfl⟩
theorem a9_struckIf_59 : At cX9_struckIf 59 (.istore 9) 2 61 := ⟨by decide +kernel, rfl⟩
theorem a9_struckIf_61 : At cX9_struckIf 61 (.aload_n 0) 1 62 := ⟨by decide +kernel, rfl⟩
theorem a9_struckIf_62 : At cX9_struckIf 62 (.getfield 20) 3 65 := ⟨by decide +kernel, rfl⟩
theorem a9_struckIf_65 : At cX9_struckIf 65 (.iload 7) 2 67 := ⟨by decide +kernel, rfl⟩
theorem a9_struckIf_67 : At cX9_struckIf 67 (.iconst 0) 1 68 := ⟨by decide +kernel, rfl⟩
theorem a9_struckIf_68 : At cX9_struckIf 68 (.invokevirtual 94) 3 71 := ⟨by decide +kernel, rfl⟩
theorem a9_struckIf_71 : At cX9_struckIf 71 (.iload 8) 2 73 := ⟨by decide +kernel, rfl⟩
theorem a9_struckIf_73 : At cX9_struckIf 73 (.iload 9) 2 75 := ⟨by decide +kernel, rfl⟩
theorem a9_struckIf_75 : At cX9_struckIf 75 (.aload_n 2) 1 76 := ⟨by decide +kernel, rfl⟩
theorem a9_struckIf_76 : At cX9_struckIf 76 (.getfield 91) 3 79 := ⟨by decide +kernel, rfl⟩
theorem a9_struckIf_79 : At cX9_struckIf 79 (.invokestatic 127) 3 82 := ⟨by decide +kernel, rfl⟩
theorem a9_struckIf_82 : At cX9_struckIf 82 (.istore 10) 2 84 := ⟨by decide +kernel, rfl⟩
theorem a9_struckIf_84 : At cX9_struckIf 84 (.aload_n 2) 1 85 := ⟨by decide +kernel, rfl⟩
theorem a9_struckIf_85 : At cX9_struckIf 85 (.iload 7) 2 87 := ⟨by decide +kernel, rfl⟩
theorem a9_struckIf_87 : At cX9_struckIf 87 (.invokevirtual 131) 3 90 := ⟨by decide +kernel, rfl⟩
theorem a9_struckIf_90 : At cX9_struckIf 90 (.ifCond .eq 18) 3 93 := ⟨by decide +kernel, rfl⟩
theorem a9_struckIf_93 : At cX9_struckIf 93 (.iload 10) 2 95 := ⟨by decide +kernel, rfl⟩
theorem a9_struckIf_95 : At cX9_struckIf 95 (.iload 6) 2 97 := ⟨by decide +kernel, rfl⟩
theorem a9_struckIf_97 : At cX9_struckIf 97 (.if_icmp .le 11) 3 100 := ⟨by decide +kernel, rfl⟩
theorem a9_struckIf_100 : At cX9_struckIf 100 (.iload 7) 2 102 := ⟨by decide +kernel, rfl⟩
theorem a9_struckIf_102 : At cX9_struckIf 102 (.istore 5) 2 104 := ⟨by decide +kernel, rfl⟩
theorem a9_struckIf_104 : At cX9_struckIf 104 (.iload 10) 2 106 := ⟨by decide +kernel, rfl⟩
theorem a9_struckIf_106 : At cX9_struckIf 106 (.istore 6) 2 108 := ⟨by decide +kernel, rfl⟩
theorem a9_struckIf_108 : At cX9_struckIf 108 (.iinc 7 1) 3 111 := ⟨by decide +kernel, rfl⟩
theorem a9_struckIf_111 : At cX9_struckIf 111 (.goto (-102)) 3 114 := ⟨by decide +kernel, rfl⟩
theorem a9_struckIf_114 : At cX9_struckIf 114 (.iload 5) 2 116 := ⟨by decide +kernel, rfl⟩
theorem a9_struckIf_116 : At cX9_struckIf 116 (.ireturn) 1 117 := ⟨by decide +kernel, rfl⟩
def l9_struckIf_9 (k0 : Nat) (x1 : Int32) (k2 : Nat) (x3 : Int32) (x4 : Int32) (σ : Mem) : Nat → Int32 → Int32 → Int32 → Option (Int32 × Int32 × Int32)
  | 0, _, _, _ => none
  | n + 1, x5, x6, x7 =>
  if (f7_size (7 * k0 + 1) σ) ≤ x7 then
  (some (x5, x6, x7))
  else
  (bnd (if x7 = x3 then
  (some x4)
  else
  (bnd (f7_at (7 * k0 + 1) x7 1 σ) fun w4 =>
  some w4) : Option (Int32)) fun w2 =>
  bnd (f7_at (7 * k0 + 1) x7 2 σ) fun w7 =>
  bnd (f7_at (7 * k0 + 1) x7 0 σ) fun w9 =>
  lt (if (f4_isUp k2 x7 σ) = 0 then
  ((x5, x6))
  else
  (if (f3_draw w9 w2 (abI (w7 - x1)) (σ.1 4 k2 3)) ≤ x6 then
  ((x5, x6))
  else
  ((x7, (f3_draw w9 w2 (abI (w7 - x1)) (σ.1 4 k2 3))))) : Int32 × Int32) fun w13 =>
  l9_struckIf_9 k0 x1 k2 x3 x4 σ n w13.1 w13.2 (x7 + 1))
theorem lE9_struckIf_9 {V : Option AV} {S : Mem} (k0 : Nat) (x1 : Int32) (k2 : Nat) (x3 : Int32) (x4 : Int32) (σ : Mem) : ∀ (n : Nat) (x5 : Int32) (x6 : Int32) (x7 : Int32) {w : Int32 × Int32 × Int32}, l9_struckIf_9 k0 x1 k2 x3 x4 σ n x5 x6 x7 = some w → (Go m9_struckIf 114 [some (.inr (.inr (9, k0))), some (.inl x1), some (.inr (.inr (4, k2))), some (.inl x3), some (.inl x4), some (.inl w.1), some (.inl w.2.1), some (.inl w.2.2), none, none, none] [] σ V S) → Go m9_struckIf 9 [some (.inr (.inr (9, k0))), some (.inl x1), some (.inr (.inr (4, k2))), some (.inl x3), some (.inl x4), some (.inl x5), some (.inl x6), some (.inl x7), none, none, none] [] σ V S
  | 0, x5, x6, x7, w, h, K1 => by cases h
  | n + 1, x5, x6, x7, w, h, K1 => by
    rw [l9_struckIf_9] at h
    refine g_iload a9_struckIf_9 rfl ?_
    refine g_aload_n a9_struckIf_11 rfl ?_
    refine g_getf (v := .inr (.inr (7, (7 * k0 + 1)))) a9_struckIf_12 fs9_20 rfl ?_
    refine g_V0s (v1 := .inl (f7_size (7 * k0 + 1) σ)) (σ1 := σ) a9_struckIf_15 cv9_70 (E7_size _ _) rfl (fun o1 => ?_)
    refine g_icmp_ge (tgt := 114) a9_struckIf_18 rfl (fun c17 => ?_) (fun c17 => ?_)
    · have h := (if_pos c17).symm.trans h
      have h := Option.some.inj h
      subst h
      exact g_weak K1 ⟨rfl, rfl, rfl, rfl, rfl, rfl, rfl, rfl, trivial⟩
    · have h := (if_neg c17).symm.trans h
      refine g_iload a9_struckIf_21 rfl ?_
      refine g_iload_n a9_struckIf_23 rfl ?_
      obtain ⟨w2, hw2, h⟩ := bnd_inv h
      have J3 : Go m9_struckIf 42 [some (.inr (.inr (9, k0))), some (.inl x1), some (.inr (.inr (4, k2))), some (.inl x3), some (.inl x4), some (.inl x5), some (.inl x6), some (.inl x7), none, none, none] [.inl w2] σ V S := by
        refine g_istore (L' := [some (.inr (.inr (9, k0))), some (.inl x1), some (.inr (.inr (4, k2))), some (.inl x3), some (.inl x4), some (.inl x5), some (.inl x6), some (.inl x7), some (.inl w2), none, none]) a9_struckIf_42 (Nat.le_of_ble_eq_true rfl) rfl rfl ?_
        refine g_aload_n a9_struckIf_44 rfl ?_
        refine g_getf (v := .inr (.inr (7, (7 * k0 + 1)))) a9_struckIf_45 fs9_20 rfl ?_
        refine g_iload a9_struckIf_48 rfl ?_
        refine g_iconst (v := 2) a9_struckIf_50 rfl ?_
        obtain ⟨w7, hw7, h⟩ := bnd_inv h
        refine g_V2s (v1 := .inl w7) (σ1 := σ) a9_struckIf_51 cv9_94 (E7_at hw7) rfl (fun o8 => ?_)
        refine g_iload_n a9_struckIf_54 rfl ?_
        refine g_isub a9_struckIf_55 ?_
        refine g_abs a9_struckIf_56 cm9_123 rfl ?_
        refine g_istore (L' := [some (.inr (.inr (9, k0))), some (.inl x1), some (.inr (.inr (4, k2))), some (.inl x3), some (.inl x4), some (.inl x5), some (.inl x6), some (.inl x7), some (.inl w2), some (.inl (abI (w7 - x1))), none]) a9_struckIf_59 (Nat.le_of_ble_eq_true rfl) rfl rfl ?_
        refine g_aload_n a9_struckIf_61 rfl ?_
        refine g_getf (v := .inr (.inr (7, (7 * k0 + 1)))) a9_struckIf_62 fs9_20 rfl ?_
        refine g_iload a9_struckIf_65 rfl ?_
        refine g_iconst (v := 0) a9_struckIf_67 rfl ?_
        obtain ⟨w9, hw9, h⟩ := bnd_inv h
        refine g_V2s (v1 := .inl w9) (σ1 := σ) a9_struckIf_68 cv9_94 (E7_at hw9) rfl (fun o10 => ?_)
        refine g_iload a9_struckIf_71 rfl ?_
        refine g_iload a9_struckIf_73 rfl ?_
        refine g_aload_n a9_struckIf_75 rfl ?_
        refine g_getf (v := .inl (σ.1 4 k2 3)) a9_struckIf_76 fs9_91 rfl ?_
        refine g_S4s (v1 := .inl (f3_draw w9 w2 (abI (w7 - x1)) (σ.1 4 k2 3))) (σ1 := σ) a9_struckIf_79 cs9_127 (E3_draw _ _ _ _ _) rfl (fun o11 => ?_)
        refine g_istore (L' := [some (.inr (.inr (9, k0))), some (.inl x1), some (.inr (.inr (4, k2))), some (.inl x3), some (.inl x4), some (.inl x5), some (.inl x6), some (.inl x7), some (.inl w2), some (.inl (abI (w7 - x1))), some (.inl (f3_draw w9 w2 (abI (w7 - x1)) (σ.1 4 k2 3)))]) a9_struckIf_82 (Nat.le_of_ble_eq_true rfl) rfl rfl ?_
        refine g_aload_n a9_struckIf_84 rfl ?_
        refine g_iload a9_struckIf_85 rfl ?_
        refine g_V1s (v1 := .inl (f4_isUp k2 x7 σ)) (σ1 := σ) a9_struckIf_87 cv9_131 (E4_isUp _ _ _) rfl (fun o12 => ?_)
        obtain ⟨w13, hw13, h⟩ := lt_inv h
        have J14 : Go m9_struckIf 108 [some (.inr (.inr (9, k0))), some (.inl x1), some (.inr (.inr (4, k2))), some (.inl x3), some (.inl x4), some (.inl w13.1), some (.inl w13.2), some (.inl x7), none, none, none] [] σ V S := by
          refine g_iinc (v := (x7 + 1)) (L' := [some (.inr (.inr (9, k0))), some (.inl x1), some (.inr (.inr (4, k2))), some (.inl x3), some (.inl x4), some (.inl w13.1), some (.inl w13.2), some (.inl (x7 + 1)), none, none, none]) a9_struckIf_108 rfl rfl (Nat.le_of_ble_eq_true rfl) rfl rfl ?_
          refine g_goto (tgt := 9) a9_struckIf_111 rfl ?_
          exact g_weak (lE9_struckIf_9 (V := V) (S := S)  k0 x1 k2 x3 x4 σ n _ _ _ h K1) ⟨rfl, rfl, rfl, rfl, rfl, rfl, rfl, rfl, trivial⟩
        clear h
        refine g_if_eq (tgt := 108) a9_struckIf_90 rfl (fun c16 => ?_) (fun c16 => ?_)
        · have hw13 := (if_pos c16).symm.trans hw13
          subst hw13
          exact g_weak J14 ⟨rfl, rfl, rfl, rfl, rfl, rfl, rfl, rfl, trivial⟩
        · have hw13 := (if_neg c16).symm.trans hw13
          refine g_iload a9_struckIf_93 rfl ?_
          refine g_iload a9_struckIf_95 rfl ?_
          refine g_icmp_le (tgt := 108) a9_struckIf_97 rfl (fun c15 => ?_) (fun c15 => ?_)
          · have hw13 := (if_pos c15).symm.trans hw13
            subst hw13
            exact g_weak J14 ⟨rfl, rfl, rfl, rfl, rfl, rfl, rfl, rfl, trivial⟩
          · have hw13 := (if_neg c15).symm.trans hw13
            refine g_iload a9_struckIf_100 rfl ?_
            refine g_istore (L' := [some (.inr (.inr (9, k0))), some (.inl x1), some (.inr (.inr (4, k2))), some (.inl x3), some (.inl x4), some (.inl x7), some (.inl x6), some (.inl x7), some (.inl w2), some (.inl (abI (w7 - x1))), some (.inl (f3_draw w9 w2 (abI (w7 - x1)) (σ.1 4 k2 3)))]) a9_struckIf_102 (Nat.le_of_ble_eq_true rfl) rfl rfl ?_
            refine g_iload a9_struckIf_104 rfl ?_
            refine g_istore (L' := [some (.inr (.inr (9, k0))), some (.inl x1), some (.inr (.inr (4, k2))), some (.inl x3), some (.inl x4), some (.inl x7), some (.inl (f3_draw w9 w2 (abI (w7 - x1)) (σ.1 4 k2 3))), some (.inl x7), some (.inl w2), some (.inl (abI (w7 - x1))), some (.inl (f3_draw w9 w2 (abI (w7 - x1)) (σ.1 4 k2 3)))]) a9_struckIf_106 (Nat.le_of_ble_eq_true rfl) rfl rfl ?_
            subst hw13
            exact g_weak J14 ⟨rfl, rfl, rfl, rfl, rfl, rfl, rfl, rfl, trivial⟩
      clear h
      refine g_icmp_ne (tgt := 32) a9_struckIf_24 rfl (fun c6 => ?_) (fun c6 => ?_)
      · have hw2 := (if_neg c6).symm.trans hw2
        refine g_aload_n a9_struckIf_32 rfl ?_
        refine g_getf (v := .inr (.inr (7, (7 * k0 + 1)))) a9_struckIf_33 fs9_20 rfl ?_
        refine g_iload a9_struckIf_36 rfl ?_
        refine g_iconst (v := 1) a9_struckIf_38 rfl ?_
        obtain ⟨w4, hw4, hw2⟩ := bnd_inv hw2
        refine g_V2s (v1 := .inl w4) (σ1 := σ) a9_struckIf_39 cv9_94 (E7_at hw4) rfl (fun o5 => ?_)
        have hw2 := Option.some.inj hw2
        subst hw2
        exact J3
      · have hw2 := (if_pos c6).symm.trans hw2
        refine g_iload a9_struckIf_27 rfl ?_
        refine g_goto (tgt := 42) a9_struckIf_29 rfl ?_
        have hw2 := Option.some.inj hw2
        subst hw2
        exact J3
def f9_struckIf (k0 : Nat) (x1 : Int32) (k2 : Nat) (x3 : Int32) (x4 : Int32) (σ : Mem) : Option (Int32) :=
  bnd (l9_struckIf_9 k0 x1 k2 x3 x4 σ 2000 (-1) 0 0) fun w18 =>
  some w18.1
theorem E9_struckIf {k0 : Nat} {x1 : Int32} {k2 : Nat} {x3 : Int32} {x4 : Int32} {σ : Mem} {w : Int32} (h : f9_struckIf k0 x1 k2 x3 x4 σ = some w) : Ev m9_struckIf [.inr (.inr (9, k0)), .inl x1, .inr (.inr (4, k2)), .inl x3, .inl x4] σ (some (.inl w) : Option AV) σ := by
  unfold f9_struckIf at h
  show Go m9_struckIf 0 [some (.inr (.inr (9, k0))), some (.inl x1), some (.inr (.inr (4, k2))), some (.inl x3), some (.inl x4), none, none, none, none, none, none] [] σ (some (.inl w) : Option AV) σ
  refine g_iconst (v := (-1)) a9_struckIf_0 rfl ?_
  refine g_istore (L' := [some (.inr (.inr (9, k0))), some (.inl x1), some (.inr (.inr (4, k2))), some (.inl x3), some (.inl x4), some (.inl (-1)), none, none, none, none, none]) a9_struckIf_1 (Nat.le_of_ble_eq_true rfl) rfl rfl ?_
  refine g_iconst (v := 0) a9_struckIf_3 rfl ?_
  refine g_istore (L' := [some (.inr (.inr (9, k0))), some (.inl x1), some (.inr (.inr (4, k2))), some (.inl x3), some (.inl x4), some (.inl (-1)), some (.inl 0), none, none, none, none]) a9_struckIf_4 (Nat.le_of_ble_eq_true rfl) rfl rfl ?_
  refine g_iconst (v := 0) a9_struckIf_6 rfl ?_
  refine g_istore (L' := [some (.inr (.inr (9, k0))), some (.inl x1), some (.inr (.inr (4, k2))), some (.inl x3), some (.inl x4), some (.inl (-1)), some (.inl 0), some (.inl 0), none, none, none]) a9_struckIf_7 (Nat.le_of_ble_eq_true rfl) rfl rfl ?_
  obtain ⟨w18, hw18, h⟩ := bnd_inv h
  refine g_weak (lE9_struckIf_9 k0 x1 k2 x3 x4 σ 2000 _ _ _ hw18 ?_) ⟨rfl, rfl, rfl, rfl, rfl, rfl, rfl, rfl, trivial⟩
  refine g_iload a9_struckIf_114 rfl ?_
  have h := Option.some.inj h
  subst h
  exact g_retE a9_struckIf_116 trivial rfl rfl
theorem a4_isThere_0 : At cX4_isThere 0 (.aload_n 0) 1 1 := ⟨by decide +kernel, rfl⟩
theorem a4_isThere_1 : At cX4_isThere 1 (.getfield 13) 3 4 := ⟨by decide +kernel, rfl⟩
theorem a4_isThere_4 : At cX4_isThere 4 (.iload_n 1) 1 5 := ⟨by decide +kernel, rfl⟩
theorem a4_isThere_5 : At cX4_isThere 5 (.ishr) 1 6 := ⟨by decide +kernel, rfl⟩
theorem a4_isThere_6 : At cX4_isThere 6 (.iconst 1) 1 7 := ⟨by decide +kernel, rfl⟩
theorem a4_isThere_7 : At cX4_isThere 7 (.iand) 1 8 := ⟨by decide +kernel, rfl⟩
theorem a4_isThere_8 : At cX4_isThere 8 (.iconst 1) 1 9 := ⟨by decide +kernel, rfl⟩
theorem a4_isThere_9 : At cX4_isThere 9 (.if_icmp .ne 7) 3 12 := ⟨by decide +kernel, rfl⟩
theorem a4_isThere_12 : At cX4_isThere 12 (.iconst 1) 1 13 := ⟨by decide +kernel, rfl⟩
theorem a4_isThere_13 : At cX4_isThere 13 (.goto 4) 3 16 := ⟨by decide +kernel, rfl⟩
theorem a4_isThere_16 : At cX4_isThere 16 (.iconst 0) 1 17 := ⟨by decide +kernel, rfl⟩
theorem a4_isThere_17 : At cX4_isThere 17 (.ireturn) 1 18 := ⟨by decide +kernel, rfl⟩
def f4_isThere (k0 : Nat) (x1 : Int32) (σ : Mem) : Int32 :=
  if (((σ.1 4 k0 1) >>> (x1 &&& 31)) &&& 1) = 1 then
  (1)
  else
  (0)
theorem E4_isThere (k0 : Nat) (x1 : Int32) (σ : Mem) : Ev m4_isThere [.inr (.inr (4, k0)), .inl x1] σ (some (.inl (f4_isThere k0 x1 σ)) : Option AV) σ := by
  obtain ⟨w, h⟩ : ∃ w, f4_isThere k0 x1 σ = w := ⟨_, rfl⟩
  rw [h]
  unfold f4_isThere at h
  show Go m4_isThere 0 [some (.inr (.inr (4, k0))), some (.inl x1)] [] σ (some (.inl w) : Option AV) σ
  refine g_aload_n a4_isThere_0 rfl ?_
  refine g_getf (v := .inl (σ.1 4 k0 1)) a4_isThere_1 fs4_13 rfl ?_
  refine g_iload_n a4_isThere_4 rfl ?_
  refine g_ishr a4_isThere_5 ?_
  refine g_iconst (v := 1) a4_isThere_6 rfl ?_
  refine g_iand a4_isThere_7 ?_
  refine g_iconst (v := 1) a4_isThere_8 rfl ?_
  refine g_icmp_ne (tgt := 16) a4_isThere_9 rfl (fun c1 => ?_) (fun c1 => ?_)
  · have h := (if_neg c1).symm.trans h
    refine g_iconst (v := 0) a4_isThere_16 rfl ?_
    subst h
    exact g_retE a4_isThere_17 (Or.inl rfl) rfl rfl
  · have h := (if_pos c1).symm.trans h
    refine g_iconst (v := 1) a4_isThere_12 rfl ?_
    refine g_goto (tgt := 17) a4_isThere_13 rfl ?_
    subst h
    exact g_retE a4_isThere_17 (Or.inr rfl) rfl rfl
theorem aJ6_bitCount_0 : At cJ6_bitCount_0f7a4 0 (.iload_n 0) 1 1 := ⟨by decide +kernel, rfl⟩
theorem aJ6_bitCount_1 : At cJ6_bitCount_0f7a4 1 (.iload_n 0) 1 2 := ⟨by decide +kernel, rfl⟩
theorem aJ6_bitCount_2 : At cJ6_bitCount_0f7a4 2 (.iconst 1) 1 3 := ⟨by decide +kernel, rfl⟩
theorem aJ6_bitCount_3 : At cJ6_bitCount_0f7a4 3 (.iushr) 1 4 := ⟨by decide +kernel, rfl⟩
theorem aJ6_bitCount_4 : At cJ6_bitCount_0f7a4 4 (.ldc_w 265) 3 7 := ⟨by decide +kernel, rfl⟩
theorem aJ6_bitCount_7 : At cJ6_bitCount_0f7a4 7 (.iand) 1 8 := ⟨by decide +kernel, rfl⟩
theorem aJ6_bitCount_8 : At cJ6_bitCount_0f7a4 8 (.isub) 1 9 := ⟨by decide +kernel, rfl⟩
theorem aJ6_bitCount_9 : At cJ6_bitCount_0f7a4 9 (.istore_n 0) 1 10 := ⟨by decide +kernel, rfl⟩
theorem aJ6_bitCount_10 : At cJ6_bitCount_0f7a4 10 (.iload_n 0) 1 11 := ⟨by decide +kernel, rfl⟩
theorem aJ6_bitCount_11 : At cJ6_bitCount_0f7a4 11 (.ldc_w 266) 3 14 := ⟨by decide +kernel, rfl⟩
theorem aJ6_bitCount_14 : At cJ6_bitCount_0f7a4 14 (.iand) 1 15 := ⟨by decide +kernel, rfl⟩
theorem aJ6_bitCount_15 : At cJ6_bitCount_0f7a4 15 (.iload_n 0) 1 16 := ⟨by decide +kernel, rfl⟩
theorem aJ6_bitCount_16 : At cJ6_bitCount_0f7a4 16 (.iconst 2) 1 17 := ⟨by decide +kernel, rfl⟩
theorem aJ6_bitCount_17 : At cJ6_bitCount_0f7a4 17 (.iushr) 1 18 := ⟨by decide +kernel, rfl⟩
theorem aJ6_bitCount_18 : At cJ6_bitCount_0f7a4 18 (.ldc_w 266) 3 21 := ⟨by decide +kernel, rfl⟩
theorem aJ6_bitCount_21 : At cJ6_bitCount_0f7a4 21 (.iand) 1 22 := ⟨by decide +kernel, rfl⟩
theorem aJ6_bitCount_22 : At cJ6_bitCount_0f7a4 22 (.iadd) 1 23 := ⟨by decide +kernel, rfl⟩
theorem aJ6_bitCount_23 : At cJ6_bitCount_0f7a4 23 (.istore_n 0) 1 24 := ⟨by decide +kernel, rfl⟩
theorem aJ6_bitCount_24 : At cJ6_bitCount_0f7a4 24 (.iload_n 0) 1 25 := ⟨by decide +kernel, rfl⟩
theorem aJ6_bitCount_25 : At cJ6_bitCount_0f7a4 25 (.iload_n 0) 1 26 := ⟨by decide +kernel, rfl⟩
theorem aJ6_bitCount_26 : At cJ6_bitCount_0f7a4 26 (.iconst 4) 1 27 := ⟨by decide +kernel, rfl⟩
theorem aJ6_bitCount_27 : At cJ6_bitCount_0f7a4 27 (.iushr) 1 28 := ⟨by decide +kernel, rfl⟩
theorem aJ6_bitCount_28 : At cJ6_bitCount_0f7a4 28 (.iadd) 1 29 := ⟨by decide +kernel, rfl⟩
theorem aJ6_bitCount_29 : At cJ6_bitCount_0f7a4 29 (.ldc_w 267) 3 32 := ⟨by decide +kernel, rfl⟩
theorem aJ6_bitCount_32 : At cJ6_bitCount_0f7a4 32 (.iand) 1 33 := ⟨by decide +kernel, rfl⟩
theorem aJ6_bitCount_33 : At cJ6_bitCount_0f7a4 33 (.istore_n 0) 1 34 := ⟨by decide +kernel, rfl⟩
theorem aJ6_bitCount_34 : At cJ6_bitCount_0f7a4 34 (.iload_n 0) 1 35 := ⟨by decide +kernel, rfl⟩
theorem aJ6_bitCount_35 : At cJ6_bitCount_0f7a4 35 (.iload_n 0) 1 36 := ⟨by decide +kernel, rfl⟩
theorem aJ6_bitCount_36 : At cJ6_bitCount_0f7a4 36 (.bipush 8) 2 38 := ⟨by decide +kernel, rfl⟩
theorem aJ6_bitCount_38 : At cJ6_bitCount_0f7a4 38 (.iushr) 1 39 := ⟨by decide +kernel, rfl⟩
theorem aJ6_bitCount_39 : At cJ6_bitCount_0f7a4 39 (.iadd) 1 40 := ⟨by decide +kernel, rfl⟩
theorem aJ6_bitCount_40 : At cJ6_bitCount_0f7a4 40 (.istore_n 0) 1 41 := ⟨by decide +kernel, rfl⟩
theorem aJ6_bitCount_41 : At cJ6_bitCount_0f7a4 41 (.iload_n 0) 1 42 := ⟨by decide +kernel, rfl⟩
theorem aJ6_bitCount_42 : At cJ6_bitCount_0f7a4 42 (.iload_n 0) 1 43 := ⟨by decide +kernel, rfl⟩
theorem aJ6_bitCount_43 : At cJ6_bitCount_0f7a4 43 (.bipush 16) 2 45 := ⟨by decide +kernel, rfl⟩
theorem aJ6_bitCount_45 : At cJ6_bitCount_0f7a4 45 (.iushr) 1 46 := ⟨by decide +kernel, rfl⟩
theorem aJ6_bitCount_46 : At cJ6_bitCount_0f7a4 46 (.iadd) 1 47 := ⟨by decide +kernel, rfl⟩
theorem aJ6_bitCount_47 : At cJ6_bitCount_0f7a4 47 (.istore_n 0) 1 48 := ⟨by decide +kernel, rfl⟩
theorem aJ6_bitCount_48 : At cJ6_bitCount_0f7a4 48 (.iload_n 0) 1 49 := ⟨by decide +kernel, rfl⟩
theorem aJ6_bitCount_49 : At cJ6_bitCount_0f7a4 49 (.bipush 63) 2 51 := ⟨by decide +kernel, rfl⟩
theorem aJ6_bitCount_51 : At cJ6_bitCount_0f7a4 51 (.iand) 1 52 := ⟨by decide +kernel, rfl⟩
theorem aJ6_bitCount_52 : At cJ6_bitCount_0f7a4 52 (.ireturn) 1 53 := ⟨by decide +kernel, rfl⟩
def fJ6_bitCount (x0 : Int32) : Int32 :=
  lt ((x0 - (((x0 : Int32).toUInt32 >>> ((1 : Int32).toUInt32 &&& Int32.toUInt32 31)).toInt32 &&& 1431655765)) : Int32) fun y1 =>
  lt (((y1 &&& 858993459) + (((y1 : Int32).toUInt32 >>> ((2 : Int32).toUInt32 &&& Int32.toUInt32 31)).toInt32 &&& 858993459)) : Int32) fun y2 =>
  lt (((y2 + ((y2 : Int32).toUInt32 >>> ((4 : Int32).toUInt32 &&& Int32.toUInt32 31)).toInt32) &&& 252645135) : Int32) fun y3 =>
  lt ((y3 + ((y3 : Int32).toUInt32 >>> ((8 : Int32).toUInt32 &&& Int32.toUInt32 31)).toInt32) : Int32) fun y4 =>
  lt ((y4 + ((y4 : Int32).toUInt32 >>> ((16 : Int32).toUInt32 &&& Int32.toUInt32 31)).toInt32) : Int32) fun y5 =>
  (y5 &&& 63)
theorem EJ6_bitCount (x0 : Int32) (σ : Mem) : Ev mJ6_bitCount [.inl x0] σ (some (.inl (fJ6_bitCount x0)) : Option AV) σ := by
  obtain ⟨w, h⟩ : ∃ w, fJ6_bitCount x0 = w := ⟨_, rfl⟩
  rw [h]
  unfold fJ6_bitCount at h
  show Go mJ6_bitCount 0 [some (.inl x0)] [] σ (some (.inl w) : Option AV) σ
  refine g_iload_n aJ6_bitCount_0 rfl ?_
  refine g_iload_n aJ6_bitCount_1 rfl ?_
  refine g_iconst (v := 1) aJ6_bitCount_2 rfl ?_
  refine g_iushr aJ6_bitCount_3 ?_
  refine g_ldcw (v := 1431655765) aJ6_bitCount_4 wcJ6_265 ?_
  refine g_iand aJ6_bitCount_7 ?_
  refine g_isub aJ6_bitCount_8 ?_
  obtain ⟨y1, ey1, h⟩ := lt_inv h
  rw [ey1]
  refine g_istore_n (L' := [some (.inl y1)]) aJ6_bitCount_9 (Nat.le_of_ble_eq_true rfl) rfl rfl ?_
  refine g_iload_n aJ6_bitCount_10 rfl ?_
  refine g_ldcw (v := 858993459) aJ6_bitCount_11 wcJ6_266 ?_
  refine g_iand aJ6_bitCount_14 ?_
  refine g_iload_n aJ6_bitCount_15 rfl ?_
  refine g_iconst (v := 2) aJ6_bitCount_16 rfl ?_
  refine g_iushr aJ6_bitCount_17 ?_
  refine g_ldcw (v := 858993459) aJ6_bitCount_18 wcJ6_266 ?_
  refine g_iand aJ6_bitCount_21 ?_
  refine g_iadd aJ6_bitCount_22 ?_
  obtain ⟨y2, ey2, h⟩ := lt_inv h
  rw [ey2]
  refine g_istore_n (L' := [some (.inl y2)]) aJ6_bitCount_23 (Nat.le_of_ble_eq_true rfl) rfl rfl ?_
  refine g_iload_n aJ6_bitCount_24 rfl ?_
  refine g_iload_n aJ6_bitCount_25 rfl ?_
  refine g_iconst (v := 4) aJ6_bitCount_26 rfl ?_
  refine g_iushr aJ6_bitCount_27 ?_
  refine g_iadd aJ6_bitCount_28 ?_
  refine g_ldcw (v := 252645135) aJ6_bitCount_29 wcJ6_267 ?_
  refine g_iand aJ6_bitCount_32 ?_
  obtain ⟨y3, ey3, h⟩ := lt_inv h
  rw [ey3]
  refine g_istore_n (L' := [some (.inl y3)]) aJ6_bitCount_33 (Nat.le_of_ble_eq_true rfl) rfl rfl ?_
  refine g_iload_n aJ6_bitCount_34 rfl ?_
  refine g_iload_n aJ6_bitCount_35 rfl ?_
  refine g_bipush (v := 8) aJ6_bitCount_36 rfl ?_
  refine g_iushr aJ6_bitCount_38 ?_
  refine g_iadd aJ6_bitCount_39 ?_
  obtain ⟨y4, ey4, h⟩ := lt_inv h
  rw [ey4]
  refine g_istore_n (L' := [some (.inl y4)]) aJ6_bitCount_40 (Nat.le_of_ble_eq_true rfl) rfl rfl ?_
  refine g_iload_n aJ6_bitCount_41 rfl ?_
  refine g_iload_n aJ6_bitCount_42 rfl ?_
  refine g_bipush (v := 16) aJ6_bitCount_43 rfl ?_
  refine g_iushr aJ6_bitCount_45 ?_
  refine g_iadd aJ6_bitCount_46 ?_
  obtain ⟨y5, ey5, h⟩ := lt_inv h
  rw [ey5]
  refine g_istore_n (L' := [some (.inl y5)]) aJ6_bitCount_47 (Nat.le_of_ble_eq_true rfl) rfl rfl ?_
  refine g_iload_n aJ6_bitCount_48 rfl ?_
  refine g_bipush (v := 63) aJ6_bitCount_49 rfl ?_
  refine g_iand aJ6_bitCount_51 ?_
  subst h
  exact g_retE aJ6_bitCount_52 trivial rfl rfl
theorem a4_partsThere_0 : At cX4_partsThere 0 (.aload_n 0) 1 1 := ⟨by decide +kernel, rfl⟩
theorem a4_partsThere_1 : At cX4_partsThere 1 (.getfield 13) 3 4 := ⟨by decide +kernel, rfl⟩
theorem a4_partsThere_4 : At cX4_partsThere 4 (.invokestatic 26) 3 7 := ⟨by decide +kernel, rfl⟩
theorem a4_partsThere_7 : At cX4_partsThere 7 (.ireturn) 1 8 := ⟨by decide +kernel, rfl⟩
def f4_partsThere (k0 : Nat) (σ : Mem) : Int32 :=
  (fJ6_bitCount (σ.1 4 k0 1))
theorem E4_partsThere (k0 : Nat) (σ : Mem) : Ev m4_partsThere [.inr (.inr (4, k0))] σ (some (.inl (f4_partsThere k0 σ)) : Option AV) σ := by
  obtain ⟨w, h⟩ : ∃ w, f4_partsThere k0 σ = w := ⟨_, rfl⟩
  rw [h]
  unfold f4_partsThere at h
  show Go m4_partsThere 0 [some (.inr (.inr (4, k0)))] [] σ (some (.inl w) : Option AV) σ
  refine g_aload_n a4_partsThere_0 rfl ?_
  refine g_getf (v := .inl (σ.1 4 k0 1)) a4_partsThere_1 fs4_13 rfl ?_
  refine g_S1s (v1 := .inl (fJ6_bitCount (σ.1 4 k0 1))) (σ1 := σ) a4_partsThere_4 cs4_26 (EJ6_bitCount _ _) rfl (fun o1 => ?_)
  subst h
  exact g_retE a4_partsThere_7 trivial rfl rfl
theorem a3_need_0 : At cX3_need 0 (.iconst 4) 1 1 := ⟨by decide +kernel, rfl⟩
theorem a3_need_1 : At cX3_need 1 (.istore_n 3) 1 2 := ⟨by decide +kernel, rfl⟩
theorem a3_need_2 : At cX3_need 2 (.iload_n 3) 1 3 := ⟨by decide +kernel, rfl⟩
theorem a3_need_3 : At cX3_need 3 (.iconst 2) 1 4 := ⟨by decide +kernel, rfl⟩
theorem a3_need_4 : At cX3_need 4 (.iload_n 1) 1 5 := ⟨by decide +kernel, rfl⟩
theorem a3_need_5 : At cX3_need 5 (.imul) 1 6 := ⟨by decide +kernel, rfl⟩
theorem a3_need_6 : At cX3_need 6 (.iadd) 1 7 := ⟨by decide +kernel, rfl⟩
theorem a3_need_7 : At cX3_need 7 (.istore 4) 2 9 := ⟨by decide +kernel, rfl⟩
theorem a3_need_9 : At cX3_need 9 (.iload_n 2) 1 10 := ⟨by decide +kernel, rfl⟩
theorem a3_need_10 : At cX3_need 10 (.iconst 2) 1 11 := ⟨by decide +kernel, rfl⟩
theorem a3_need_11 : At cX3_need 11 (.irem) 1 12 := ⟨by decide +kernel, rfl⟩
theorem a3_need_12 : At cX3_need 12 (.iconst 1) 1 13 := ⟨by decide +kernel, rfl⟩
theorem a3_need_13 : At cX3_need 13 (.if_icmp .ne 9) 3 16 := ⟨by decide +kernel, rfl⟩
theorem a3_need_16 : At cX3_need 16 (.iload_n 3) 1 17 := ⟨by decide +kernel, rfl⟩
theorem a3_need_17 : At cX3_need 17 (.iconst 1) 1 18 := ⟨by decide +kernel, rfl⟩
theorem a3_need_18 : At cX3_need 18 (.isub) 1 19 := ⟨by decide +kernel, rfl⟩
theorem a3_need_19 : At cX3_need 19 (.goto 4) 3 22 := ⟨by decide +kernel, rfl⟩
theorem a3_need_22 : At cX3_need 22 (.iload_n 3) 1 23 := ⟨by decide +kernel, rfl⟩
theorem a3_need_23 : At cX3_need 23 (.istore 5) 2 25 := ⟨by decide +kernel, rfl⟩
theorem a3_need_25 : At cX3_need 25 (.iload_n 0) 1 26 := ⟨by decide +kernel, rfl⟩
theorem a3_need_26 : At cX3_need 26 (.tableswitch 69 0 5 #[38, 40, 43, 46, 51, 57]) 38 64 := ⟨by decide +kernel, rfl⟩
theorem a3_need_64 : At cX3_need 64 (.iload_n 3) 1 65 := ⟨by decide +kernel, rfl⟩
theorem a3_need_65 : At cX3_need 65 (.ireturn) 1 66 := ⟨by decide +kernel, rfl⟩
theorem a3_need_66 : At cX3_need 66 (.iload 4) 2 68 := ⟨by decide +kernel, rfl⟩
theorem a3_need_68 : At cX3_need 68 (.ireturn) 1 69 := ⟨by decide +kernel, rfl⟩
theorem a3_need_69 : At cX3_need 69 (.iload 5) 2 71 := ⟨by decide +kernel, rfl⟩
theorem a3_need_71 : At cX3_need 71 (.ireturn) 1 72 := ⟨by decide +kernel, rfl⟩
theorem a3_need_72 : At cX3_need 72 (.iload 4) 2 74 := ⟨by decide +kernel, rfl⟩
theorem a3_need_74 : At cX3_need 74 (.iconst 2) 1 75 := ⟨by decide +kernel, rfl⟩
theorem a3_need_75 : At cX3_need 75 (.idiv) 1 76 := ⟨by decide +kernel, rfl⟩
theorem a3_need_76 : At cX3_need 76 (.ireturn) 1 77 := ⟨by decide +kernel, rfl⟩
theorem a3_need_77 : At cX3_need 77 (.iload 4) 2 79 := ⟨by decide +kernel, rfl⟩
theorem a3_need_79 : At cX3_need 79 (.bipush 6) 2 81 := ⟨by decide +kernel, rfl⟩
theorem a3_need_81 : At cX3_need 81 (.iadd) 1 82 := ⟨by decide +kernel, rfl⟩
theorem a3_need_82 : At cX3_need 82 (.ireturn) 1 83 := ⟨by decide +kernel, rfl⟩
theorem a3_need_83 : At cX3_need 83 (.iload_n 1) 1 84 := ⟨by decide +kernel, rfl⟩
theorem a3_need_84 : At cX3_need 84 (.iconst 3) 1 85 := ⟨by decide +kernel, rfl⟩
theorem a3_need_85 : At cX3_need 85 (.if_icmp .lt 7) 3 88 := ⟨by decide +kernel, rfl⟩
theorem a3_need_88 : At cX3_need 88 (.iconst 1) 1 89 := ⟨by decide +kernel, rfl⟩
theorem a3_need_89 : At cX3_need 89 (.goto 5) 3 92 := ⟨by decide +kernel, rfl⟩
theorem a3_need_92 : At cX3_need 92 (.iload 5) 2 94 := ⟨by decide +kernel, rfl⟩
theorem a3_need_94 : At cX3_need 94 (.ireturn) 1 95 := ⟨by decide +kernel, rfl⟩
theorem a3_need_95 : At cX3_need 95 (.iconst 0) 1 96 := ⟨by decide +kernel, rfl⟩
theorem a3_need_96 : At cX3_need 96 (.ireturn) 1 97 := ⟨by decide +kernel, rfl⟩
def f3_need (x0 : Int32) (x1 : Int32) (x2 : Int32) : Int32 :=
  lt (if (x2 - x2 / 2 * 2) = 1 then
  ((4 - 1))
  else
  (4) : Int32) fun w1 =>
  if x0 = 0 then
  (4)
  else if x0 = 1 then
  ((4 + (2 * x1)))
  else if x0 = 2 then
  (w1)
  else if x0 = 3 then
  (((4 + (2 * x1)) / 2))
  else if x0 = 4 then
  (((4 + (2 * x1)) + 6))
  else if x0 = 5 then
  (if x1 < 3 then
  (w1)
  else
  (1))
  else 
  (0)
theorem E3_need (x0 : Int32) (x1 : Int32) (x2 : Int32) (σ : Mem) : Ev m3_need [.inl x0, .inl x1, .inl x2] σ (some (.inl (f3_need x0 x1 x2)) : Option AV) σ := by
  obtain ⟨w, h⟩ : ∃ w, f3_need x0 x1 x2 = w := ⟨_, rfl⟩
  rw [h]
  unfold f3_need at h
  show Go m3_need 0 [some (.inl x0), some (.inl x1), some (.inl x2), none, none, none] [] σ (some (.inl w) : Option AV) σ
  refine g_iconst (v := 4) a3_need_0 rfl ?_
  refine g_istore_n (L' := [some (.inl x0), some (.inl x1), some (.inl x2), some (.inl 4), none, none]) a3_need_1 (Nat.le_of_ble_eq_true rfl) rfl rfl ?_
  refine g_iload_n a3_need_2 rfl ?_
  refine g_iconst (v := 2) a3_need_3 rfl ?_
  refine g_iload_n a3_need_4 rfl ?_
  refine g_imul a3_need_5 ?_
  refine g_iadd a3_need_6 ?_
  refine g_istore (L' := [some (.inl x0), some (.inl x1), some (.inl x2), some (.inl 4), some (.inl (4 + (2 * x1))), none]) a3_need_7 (Nat.le_of_ble_eq_true rfl) rfl rfl ?_
  refine g_iload_n a3_need_9 rfl ?_
  refine g_iconst (v := 2) a3_need_10 rfl ?_
  refine g_irem a3_need_11 (by decide) ?_
  refine g_iconst (v := 1) a3_need_12 rfl ?_
  obtain ⟨w1, hw1, h⟩ := lt_inv h
  have J2 : Go m3_need 23 [some (.inl x0), some (.inl x1), none, some (.inl 4), some (.inl (4 + (2 * x1))), none] [.inl w1] σ (some (.inl w) : Option AV) σ := by
    refine g_istore (L' := [some (.inl x0), some (.inl x1), none, some (.inl 4), some (.inl (4 + (2 * x1))), some (.inl w1)]) a3_need_23 (Nat.le_of_ble_eq_true rfl) rfl rfl ?_
    refine g_iload_n a3_need_25 rfl ?_
    rcases Decidable.em (x0 = 0) with c5 | c5
    · have h := (if_pos c5).symm.trans h
      refine g_tsIn (tgt := 64) (off := 38) a3_need_26 (by rw [c5]; decide) (by rw [c5]; decide) (by rw [c5]; rfl) rfl ?_
      refine g_iload_n a3_need_64 rfl ?_
      subst h
      exact g_retE a3_need_65 trivial rfl rfl
    have h := (if_neg c5).symm.trans h
    rcases Decidable.em (x0 = 1) with c6 | c6
    · have h := (if_pos c6).symm.trans h
      refine g_tsIn (tgt := 66) (off := 40) a3_need_26 (by rw [c6]; decide) (by rw [c6]; decide) (by rw [c6]; rfl) rfl ?_
      refine g_iload a3_need_66 rfl ?_
      subst h
      exact g_retE a3_need_68 trivial rfl rfl
    have h := (if_neg c6).symm.trans h
    rcases Decidable.em (x0 = 2) with c7 | c7
    · have h := (if_pos c7).symm.trans h
      refine g_tsIn (tgt := 69) (off := 43) a3_need_26 (by rw [c7]; decide) (by rw [c7]; decide) (by rw [c7]; rfl) rfl ?_
      refine g_iload a3_need_69 rfl ?_
      subst h
      exact g_retE a3_need_71 trivial rfl rfl
    have h := (if_neg c7).symm.trans h
    rcases Decidable.em (x0 = 3) with c8 | c8
    · have h := (if_pos c8).symm.trans h
      refine g_tsIn (tgt := 72) (off := 46) a3_need_26 (by rw [c8]; decide) (by rw [c8]; decide) (by rw [c8]; rfl) rfl ?_
      refine g_iload a3_need_72 rfl ?_
      refine g_iconst (v := 2) a3_need_74 rfl ?_
      refine g_idiv a3_need_75 (by decide) ?_
      subst h
      exact g_retE a3_need_76 trivial rfl rfl
    have h := (if_neg c8).symm.trans h
    rcases Decidable.em (x0 = 4) with c9 | c9
    · have h := (if_pos c9).symm.trans h
      refine g_tsIn (tgt := 77) (off := 51) a3_need_26 (by rw [c9]; decide) (by rw [c9]; decide) (by rw [c9]; rfl) rfl ?_
      refine g_iload a3_need_77 rfl ?_
      refine g_bipush (v := 6) a3_need_79 rfl ?_
      refine g_iadd a3_need_81 ?_
      subst h
      exact g_retE a3_need_82 trivial rfl rfl
    have h := (if_neg c9).symm.trans h
    rcases Decidable.em (x0 = 5) with c10 | c10
    · have h := (if_pos c10).symm.trans h
      refine g_tsIn (tgt := 83) (off := 57) a3_need_26 (by rw [c10]; decide) (by rw [c10]; decide) (by rw [c10]; rfl) rfl ?_
      refine g_iload_n a3_need_83 rfl ?_
      refine g_iconst (v := 3) a3_need_84 rfl ?_
      refine g_icmp_lt (tgt := 92) a3_need_85 rfl (fun c4 => ?_) (fun c4 => ?_)
      · have h := (if_pos c4).symm.trans h
        refine g_iload a3_need_92 rfl ?_
        subst h
        exact g_retE a3_need_94 trivial rfl rfl
      · have h := (if_neg c4).symm.trans h
        refine g_iconst (v := 1) a3_need_88 rfl ?_
        refine g_goto (tgt := 94) a3_need_89 rfl ?_
        subst h
        exact g_retE a3_need_94 trivial rfl rfl
    have h := (if_neg c10).symm.trans h
    have tc5 := lv_neT c5 (a := 0) rfl
    have tc6 := lv_neT c6 (a := 1) rfl
    have tc7 := lv_neT c7 (a := 2) rfl
    have tc8 := lv_neT c8 (a := 3) rfl
    have tc9 := lv_neT c9 (a := 4) rfl
    have tc10 := lv_neT c10 (a := 5) rfl
    refine g_tsOut (tgt := 95) a3_need_26 (by omega) rfl ?_
    refine g_iconst (v := 0) a3_need_95 rfl ?_
    subst h
    exact g_retE a3_need_96 trivial rfl rfl
  clear h
  refine g_icmp_ne (tgt := 22) a3_need_13 rfl (fun c3 => ?_) (fun c3 => ?_)
  · have hw1 := (if_neg c3).symm.trans hw1
    refine g_iload_n a3_need_22 rfl ?_
    subst hw1
    exact g_weak J2 ⟨rfl, rfl, rfl, rfl, trivial⟩
  · have hw1 := (if_pos c3).symm.trans hw1
    refine g_iload_n a3_need_16 rfl ?_
    refine g_iconst (v := 1) a3_need_17 rfl ?_
    refine g_isub a3_need_18 ?_
    refine g_goto (tgt := 23) a3_need_19 rfl ?_
    subst hw1
    exact g_weak J2 ⟨rfl, rfl, rfl, rfl, trivial⟩
theorem a9_bringParts_0 : At cX9_bringParts 0 (.iconst 0) 1 1 := ⟨by decide +kernel, rfl⟩
theorem a9_bringParts_1 : At cX9_bringParts 1 (.istore_n 2) 1 2 := ⟨by decide +kernel, rfl⟩
theorem a9_bringParts_2 : At cX9_bringParts 2 (.iload_n 2) 1 3 := ⟨by decide +kernel, rfl⟩
theorem a9_bringParts_3 : At cX9_bringParts 3 (.aload_n 0) 1 4 := ⟨by decide +kernel, rfl⟩
theorem a9_bringParts_4 : At cX9_bringParts 4 (.getfield 23) 3 7 := ⟨by decide +kernel, rfl⟩
theorem a9_bringParts_7 : At cX9_bringParts 7 (.invokevirtual 70) 3 10 := ⟨by decide +kernel, rfl⟩
theorem a9_bringParts_10 : At cX9_bringParts 10 (.if_icmp .ge 69) 3 13 := ⟨by decide +kernel, rfl⟩
theorem a9_bringParts_13 : At cX9_bringParts 13 (.aload_n 1) 1 14 := ⟨by decide +kernel, rfl⟩
theorem a9_bringParts_14 : At cX9_bringParts 14 (.iload_n 2) 1 15 := ⟨by decide +kernel, rfl⟩
theorem a9_bringParts_15 : At cX9_bringParts 15 (.invokevirtual 144) 3 18 := ⟨by decide +kernel, rfl⟩
theorem a9_bringParts_18 : At cX9_bringParts 18 (.ifCond .ne 55) 3 21 := ⟨by decide +kernel, rfl⟩
theorem a9_bringParts_21 : At cX9_bringParts 21 (.aload_n 0) 1 22 := ⟨by decide +kernel, rfl⟩
theorem a9_bringParts_22 : At cX9_bringParts 22 (.getfield 23) 3 25 := ⟨by decide +kernel, rfl⟩
theorem a9_bringParts_25 : At cX9_bringParts 25 (.iload_n 2) 1 26 := ⟨by decide +kernel, rfl⟩
theorem a9_bringParts_26 : At cX9_bringParts 26 (.iconst 0) 1 27 := ⟨by decide +kernel, rfl⟩
theorem a9_bringParts_27 : At cX9_bringParts 27 (.invokevirtual 94) 3 30 := ⟨by decide +kernel, rfl⟩
theorem a9_bringParts_30 : At cX9_bringParts 30 (.aload_n 1) 1 31 := ⟨by decide +kernel, rfl⟩
theorem a9_bringParts_31 : At cX9_bringParts 31 (.invokevirtual 147) 3 34 := ⟨by decide +kernel, rfl⟩
theorem a9_bringParts_34 : At cX9_bringParts 34 (.aload_n 1) 1 35 := ⟨by decide +kernel, rfl⟩
theorem a9_bringParts_35 : At cX9_bringParts 35 (.getfield 91) 3 38 := ⟨by decide +kernel, rfl⟩
theorem a9_bringParts_38 : At cX9_bringParts 38 (.invokestatic 117) 3 41 := ⟨by decide +kernel, rfl⟩
theorem a9_bringParts_41 : At cX9_bringParts 41 (.istore_n 3) 1 42 := ⟨by decide +kernel, rfl⟩
theorem a9_bringParts_42 : At cX9_bringParts 42 (.aload_n 1) 1 43 := ⟨by decide +kernel, rfl⟩
theorem a9_bringParts_43 : At cX9_bringParts 43 (.getfield 88) 3 46 := ⟨by decide +kernel, rfl⟩
theorem a9_bringParts_46 : At cX9_bringParts 46 (.iload_n 3) 1 47 := ⟨by decide +kernel, rfl⟩
theorem a9_bringParts_47 : At cX9_bringParts 47 (.if_icmp .ge 4) 3 50 := ⟨by decide +kernel, rfl⟩
theorem a9_bringParts_50 : At cX9_bringParts 50 (.return_) 1 51 := ⟨by decide +kernel, rfl⟩
theorem a9_bringParts_51 : At cX9_bringParts 51 (.aload_n 1) 1 52 := ⟨by decide +kernel, rfl⟩
theorem a9_bringParts_52 : At cX9_bringParts 52 (.dup) 1 53 := ⟨by decide +kernel, rfl⟩
theorem a9_bringParts_53 : At cX9_bringParts 53 (.getfield 88) 3 56 := ⟨by decide +kernel, rfl⟩
theorem a9_bringParts_56 : At cX9_bringParts 56 (.iload_n 3) 1 57 := ⟨by decide +kernel, rfl⟩
theorem a9_bringParts_57 : At cX9_bringParts 57 (.isub) 1 58 := ⟨by decide +kernel, rfl⟩
theorem a9_bringParts_58 : At cX9_bringParts 58 (.putfield 88) 3 61 := ⟨by decide +kernel, rfl⟩
theorem a9_bringParts_61 : At cX9_bringParts 61 (.aload_n 1) 1 62 := ⟨by decide +kernel, rfl⟩
theorem a9_bringParts_62 : At cX9_bringParts 62 (.dup) 1 63 := ⟨by decide +kernel, rfl⟩
theorem a9_bringParts_63 : At cX9_bringParts 63 (.getfield 85) 3 66 := ⟨by decide +kernel, rfl⟩
theorem a9_bringParts_66 : At cX9_bringParts 66 (.iconst 1) 1 67 := ⟨by decide +kernel, rfl⟩
theorem a9_bringParts_67 : At cX9_bringParts 67 (.iload_n 2) 1 68 := ⟨by decide +kernel, rfl⟩
theorem a9_bringParts_68 : At cX9_bringParts 68 (.ishl) 1 69 := ⟨by decide +kernel, rfl⟩
theorem a9_bringParts_69 : At cX9_bringParts 69 (.ior) 1 70 := ⟨by decide +kernel, rfl⟩
theorem a9_bringParts_70 : At cX9_bringParts 70 (.putfield 85) 3 73 := ⟨by decide +kernel, rfl⟩
theorem a9_bringParts_73 : At cX9_bringParts 73 (.iinc 2 1) 3 76 := ⟨by decide +kernel, rfl⟩
theorem a9_bringParts_76 : At cX9_bringParts 76 (.goto (-74)) 3 79 := ⟨by decide +kernel, rfl⟩
theorem a9_bringParts_79 : At cX9_bringParts 79 (.return_) 1 80 := ⟨by decide +kernel, rfl⟩
def l9_bringParts_2 (k0 : Nat) (k1 : Nat) : Nat → Int32 → Mem → Option ((Int32 × Mem) ⊕ (Mem))
  | 0, _, _ => none
  | n + 1, x2, σ =>
  if (f7_size (7 * k0 + 2) σ) ≤ x2 then
  (some (.inl (x2, σ)))
  else
  (if (f4_isThere k1 x2 σ) = 0 then
  (bnd (f7_at (7 * k0 + 2) x2 0 σ) fun w3 =>
  if (f3_need w3 (f4_partsThere k1 σ) (σ.1 4 k1 3)) ≤ (σ.1 4 k1 2) then
  (lt (sI σ 4 k1 2 ((σ.1 4 k1 2) - (f3_need w3 (f4_partsThere k1 σ) (σ.1 4 k1 3)))) fun σ7 =>
  lt (sI σ7 4 k1 1 ((σ7.1 4 k1 1) ||| (1 <<< (x2 &&& 31)))) fun σ8 =>
  l9_bringParts_2 k0 k1 n (x2 + 1) σ8)
  else
  (some (.inr σ)))
  else
  (l9_bringParts_2 k0 k1 n (x2 + 1) σ))
theorem lE9_bringParts_2 {V : Option AV} {S : Mem} (k0 : Nat) (k1 : Nat) : ∀ (n : Nat) (x2 : Int32) (σ : Mem) {w : (Int32 × Mem) ⊕ (Mem)}, l9_bringParts_2 k0 k1 n x2 σ = some w → (∀ u, w = .inl u → Go m9_bringParts 79 [some (.inr (.inr (9, k0))), some (.inr (.inr (4, k1))), some (.inl u.1), none] [] u.2 V S) → (∀ u, w = .inr u → none = V ∧ u = S) → Go m9_bringParts 2 [some (.inr (.inr (9, k0))), some (.inr (.inr (4, k1))), some (.inl x2), none] [] σ V S
  | 0, x2, σ, w, h, K1, K2 => by cases h
  | n + 1, x2, σ, w, h, K1, K2 => by
    rw [l9_bringParts_2] at h
    refine g_iload_n a9_bringParts_2 rfl ?_
    refine g_aload_n a9_bringParts_3 rfl ?_
    refine g_getf (v := .inr (.inr (7, (7 * k0 + 2)))) a9_bringParts_4 fs9_23 rfl ?_
    refine g_V0s (v1 := .inl (f7_size (7 * k0 + 2) σ)) (σ1 := σ) a9_bringParts_7 cv9_70 (E7_size _ _) rfl (fun o1 => ?_)
    refine g_icmp_ge (tgt := 79) a9_bringParts_10 rfl (fun c11 => ?_) (fun c11 => ?_)
    · have h := (if_pos c11).symm.trans h
      have h := Option.some.inj h
      subst h
      exact g_weak (K1 _ rfl) ⟨rfl, rfl, rfl, trivial⟩
    · have h := (if_neg c11).symm.trans h
      refine g_aload_n a9_bringParts_13 rfl ?_
      refine g_iload_n a9_bringParts_14 rfl ?_
      refine g_V1s (v1 := .inl (f4_isThere k1 x2 σ)) (σ1 := σ) a9_bringParts_15 cv9_144 (E4_isThere _ _ _) rfl (fun o2 => ?_)
      refine g_if_ne (tgt := 73) a9_bringParts_18 rfl (fun c10 => ?_) (fun c10 => ?_)
      · have h := (if_neg c10).symm.trans h
        refine g_iinc (v := (x2 + 1)) (L' := [some (.inr (.inr (9, k0))), some (.inr (.inr (4, k1))), some (.inl (x2 + 1)), none]) a9_bringParts_73 rfl rfl (Nat.le_of_ble_eq_true rfl) rfl rfl ?_
        refine g_goto (tgt := 2) a9_bringParts_76 rfl ?_
        exact g_weak (lE9_bringParts_2 (V := V) (S := S)  k0 k1 n _ _ h K1 K2) ⟨rfl, rfl, rfl, trivial⟩
      · have h := (if_pos c10).symm.trans h
        refine g_aload_n a9_bringParts_21 rfl ?_
        refine g_getf (v := .inr (.inr (7, (7 * k0 + 2)))) a9_bringParts_22 fs9_23 rfl ?_
        refine g_iload_n a9_bringParts_25 rfl ?_
        refine g_iconst (v := 0) a9_bringParts_26 rfl ?_
        obtain ⟨w3, hw3, h⟩ := bnd_inv h
        refine g_V2s (v1 := .inl w3) (σ1 := σ) a9_bringParts_27 cv9_94 (E7_at hw3) rfl (fun o4 => ?_)
        refine g_aload_n a9_bringParts_30 rfl ?_
        refine g_V0s (v1 := .inl (f4_partsThere k1 σ)) (σ1 := σ) a9_bringParts_31 cv9_147 (E4_partsThere _ _) rfl (fun o5 => ?_)
        refine g_aload_n a9_bringParts_34 rfl ?_
        refine g_getf (v := .inl (σ.1 4 k1 3)) a9_bringParts_35 fs9_91 rfl ?_
        refine g_S3s (v1 := .inl (f3_need w3 (f4_partsThere k1 σ) (σ.1 4 k1 3))) (σ1 := σ) a9_bringParts_38 cs9_117 (E3_need _ _ _ _) rfl (fun o6 => ?_)
        refine g_istore_n (L' := [some (.inr (.inr (9, k0))), some (.inr (.inr (4, k1))), some (.inl x2), some (.inl (f3_need w3 (f4_partsThere k1 σ) (σ.1 4 k1 3)))]) a9_bringParts_41 (Nat.le_of_ble_eq_true rfl) rfl rfl ?_
        refine g_aload_n a9_bringParts_42 rfl ?_
        refine g_getf (v := .inl (σ.1 4 k1 2)) a9_bringParts_43 fs9_88 rfl ?_
        refine g_iload_n a9_bringParts_46 rfl ?_
        refine g_icmp_ge (tgt := 51) a9_bringParts_47 rfl (fun c9 => ?_) (fun c9 => ?_)
        · have h := (if_pos c9).symm.trans h
          refine g_aload_n a9_bringParts_51 rfl ?_
          refine g_dup a9_bringParts_52 (fun _ => rfl) ?_
          refine g_getf (v := .inl (σ.1 4 k1 2)) a9_bringParts_53 fs9_88 rfl ?_
          refine g_iload_n a9_bringParts_56 rfl ?_
          refine g_isub a9_bringParts_57 ?_
          obtain ⟨σ7, eσ7, h⟩ := lt_inv h
          refine g_puti a9_bringParts_58 fs9_88 ps4_2 (fun _ _ _ => rfl) ?_
          rw [eσ7]
          refine g_aload_n a9_bringParts_61 rfl ?_
          refine g_dup a9_bringParts_62 (fun _ => rfl) ?_
          refine g_getf (v := .inl (σ7.1 4 k1 1)) a9_bringParts_63 fs9_85 rfl ?_
          refine g_iconst (v := 1) a9_bringParts_66 rfl ?_
          refine g_iload_n a9_bringParts_67 rfl ?_
          refine g_ishl a9_bringParts_68 ?_
          refine g_ior a9_bringParts_69 ?_
          obtain ⟨σ8, eσ8, h⟩ := lt_inv h
          refine g_puti a9_bringParts_70 fs9_85 ps4_1 (fun _ _ _ => rfl) ?_
          rw [eσ8]
          refine g_iinc (v := (x2 + 1)) (L' := [some (.inr (.inr (9, k0))), some (.inr (.inr (4, k1))), some (.inl (x2 + 1)), some (.inl (f3_need w3 (f4_partsThere k1 σ) (σ.1 4 k1 3)))]) a9_bringParts_73 rfl rfl (Nat.le_of_ble_eq_true rfl) rfl rfl ?_
          refine g_goto (tgt := 2) a9_bringParts_76 rfl ?_
          exact g_weak (lE9_bringParts_2 (V := V) (S := S)  k0 k1 n _ _ h K1 K2) ⟨rfl, rfl, rfl, trivial⟩
        · have h := (if_neg c9).symm.trans h
          have h := Option.some.inj h
          subst h
          obtain ⟨hV, hS⟩ := K2 _ rfl
          subst hV; subst hS
          exact g_retE a9_bringParts_50 trivial rfl rfl
def f9_bringParts (k0 : Nat) (k1 : Nat) (σ : Mem) : Option (Mem) :=
  bnd (l9_bringParts_2 k0 k1 2000 0 σ) fun w12 =>
  sm w12 (fun u13 =>
  some u13.2) (fun u13 => some u13)
theorem E9_bringParts {k0 : Nat} {k1 : Nat} {σ : Mem} {w : Mem} (h : f9_bringParts k0 k1 σ = some w) : Ev m9_bringParts [.inr (.inr (9, k0)), .inr (.inr (4, k1))] σ none w := by
  unfold f9_bringParts at h
  show Go m9_bringParts 0 [some (.inr (.inr (9, k0))), some (.inr (.inr (4, k1))), none, none] [] σ none w
  refine g_iconst (v := 0) a9_bringParts_0 rfl ?_
  refine g_istore_n (L' := [some (.inr (.inr (9, k0))), some (.inr (.inr (4, k1))), some (.inl 0), none]) a9_bringParts_1 (Nat.le_of_ble_eq_true rfl) rfl rfl ?_
  obtain ⟨w12, hw12, h⟩ := bnd_inv h
  rcases w12 with u13 | u13
  · have h := sm_l h
    refine g_weak (lE9_bringParts_2 k0 k1 2000 _ _ hw12 (fun _ e => ?_) (fun _ e => by cases e)) ⟨rfl, rfl, rfl, trivial⟩
    cases e
    have h := Option.some.inj h
    subst h
    exact g_retE a9_bringParts_79 trivial rfl rfl
  · have h := sm_r h
    have h := Option.some.inj h
    subst h
    exact g_weak (lE9_bringParts_2 k0 k1 2000 _ _ hw12 (fun _ e => by cases e) (fun _ e => by cases e; exact ⟨rfl, rfl⟩)) ⟨rfl, rfl, rfl, trivial⟩
theorem a9_pass_0 : At cX9_pass 0 (.iload_n 3) 1 1 := ⟨by decide +kernel, rfl⟩
theorem a9_pass_1 : At cX9_pass 1 (.iconst 1) 1 2 := ⟨by decide +kernel, rfl⟩
theorem a9_pass_2 : At cX9_pass 2 (.if_icmp .lt 30) 3 5 := ⟨by decide +kernel, rfl⟩
theorem a9_pass_5 : At cX9_pass 5 (.aload_n 0) 1 6 := ⟨by decide +kernel, rfl⟩
theorem a9_pass_6 : At cX9_pass 6 (.iload_n 2) 1 7 := ⟨by decide +kernel, rfl⟩
theorem a9_pass_7 : At cX9_pass 7 (.aload_n 1) 1 8 := ⟨by decide +kernel, rfl⟩
theorem a9_pass_8 : At cX9_pass 8 (.iconst (-1)) 1 9 := ⟨by decide +kernel, rfl⟩
theorem a9_pass_9 : At cX9_pass 9 (.iconst 0) 1 10 := ⟨by decide +kernel, rfl⟩
theorem a9_pass_10 : At cX9_pass 10 (.invokevirtual 105) 3 13 := ⟨by decide +kernel, rfl⟩
theorem a9_pass_13 : At cX9_pass 13 (.ifCond .ne 19) 3 16 := ⟨by decide +kernel, rfl⟩
theorem a9_pass_16 : At cX9_pass 16 (.aload_n 1) 1 17 := ⟨by decide +kernel, rfl⟩
theorem a9_pass_17 : At cX9_pass 17 (.aload_n 1) 1 18 := ⟨by decide +kernel, rfl⟩
theorem a9_pass_18 : At cX9_pass 18 (.getfield 88) 3 21 := ⟨by decide +kernel, rfl⟩
theorem a9_pass_21 : At cX9_pass 21 (.iload_n 3) 1 22 := ⟨by decide +kernel, rfl⟩
theorem a9_pass_22 : At cX9_pass 22 (.iadd) 1 23 := ⟨by decide +kernel, rfl⟩
theorem a9_pass_23 : At cX9_pass 23 (.sipush 999) 3 26 := ⟨by decide +kernel, rfl⟩
theorem a9_pass_26 : At cX9_pass 26 (.invokestatic 109) 3 29 := ⟨by decide +kernel, rfl⟩
theorem a9_pass_29 : At cX9_pass 29 (.putfield 88) 3 32 := ⟨by decide +kernel, rfl⟩
theorem a9_pass_32 : At cX9_pass 32 (.aload_n 0) 1 33 := ⟨by decide +kernel, rfl⟩
theorem a9_pass_33 : At cX9_pass 33 (.aload_n 1) 1 34 := ⟨by decide +kernel, rfl⟩
theorem a9_pass_34 : At cX9_pass 34 (.invokevirtual 114) 3 37 := ⟨by decide +kernel, rfl⟩
theorem a9_pass_37 : At cX9_pass 37 (.aload_n 1) 1 38 := ⟨by decide +kernel, rfl⟩
theorem a9_pass_38 : At cX9_pass 38 (.dup) 1 39 := ⟨by decide +kernel, rfl⟩
theorem a9_pass_39 : At cX9_pass 39 (.getfield 91) 3 42 := ⟨by decide +kernel, rfl⟩
theorem a9_pass_42 : At cX9_pass 42 (.iconst 1) 1 43 := ⟨by decide +kernel, rfl⟩
theorem a9_pass_43 : At cX9_pass 43 (.iadd) 1 44 := ⟨by decide +kernel, rfl⟩
theorem a9_pass_44 : At cX9_pass 44 (.putfield 91) 3 47 := ⟨by decide +kernel, rfl⟩
theorem a9_pass_47 : At cX9_pass 47 (.return_) 1 48 := ⟨by decide +kernel, rfl⟩
def f9_pass (k0 : Nat) (k1 : Nat) (x2 : Int32) (x3 : Int32) (σ : Mem) : Option (Mem) :=
  bnd (if x3 < 1 then
  (some σ)
  else
  (bnd (f9_struckIf k0 x2 k1 (-1) 0 σ) fun w3 =>
  if w3 = 0 then
  (lt (sI σ 4 k1 2 (mnI ((σ.1 4 k1 2) + x3) 999)) fun σ5 =>
  some σ5)
  else
  (some σ)) : Option (Mem)) fun w1 =>
  bnd (f9_bringParts k0 k1 w1) fun w8 =>
  lt (sI w8 4 k1 3 ((w8.1 4 k1 3) + 1)) fun σ10 =>
  some σ10
theorem E9_pass {k0 : Nat} {k1 : Nat} {x2 : Int32} {x3 : Int32} {σ : Mem} {w : Mem} (h : f9_pass k0 k1 x2 x3 σ = some w) : Ev m9_pass [.inr (.inr (9, k0)), .inr (.inr (4, k1)), .inl x2, .inl x3] σ none w := by
  unfold f9_pass at h
  show Go m9_pass 0 [some (.inr (.inr (9, k0))), some (.inr (.inr (4, k1))), some (.inl x2), some (.inl x3)] [] σ none w
  refine g_iload_n a9_pass_0 rfl ?_
  refine g_iconst (v := 1) a9_pass_1 rfl ?_
  obtain ⟨w1, hw1, h⟩ := bnd_inv h
  have J2 : Go m9_pass 32 [some (.inr (.inr (9, k0))), some (.inr (.inr (4, k1))), none, none] [] w1 none w := by
    refine g_aload_n a9_pass_32 rfl ?_
    refine g_aload_n a9_pass_33 rfl ?_
    obtain ⟨w8, hw8, h⟩ := bnd_inv h
    refine g_V1n (σ1 := w8) a9_pass_34 cv9_114 (E9_bringParts hw8) rfl (fun o9 => ?_)
    refine g_aload_n a9_pass_37 rfl ?_
    refine g_dup a9_pass_38 (fun _ => rfl) ?_
    refine g_getf (v := .inl (w8.1 4 k1 3)) a9_pass_39 fs9_91 rfl ?_
    refine g_iconst (v := 1) a9_pass_42 rfl ?_
    refine g_iadd a9_pass_43 ?_
    obtain ⟨σ10, eσ10, h⟩ := lt_inv h
    refine g_puti a9_pass_44 fs9_91 ps4_3 (fun _ _ _ => rfl) ?_
    rw [eσ10]
    have h := Option.some.inj h
    subst h
    exact g_retE a9_pass_47 trivial rfl rfl
  clear h
  refine g_icmp_lt (tgt := 32) a9_pass_2 rfl (fun c7 => ?_) (fun c7 => ?_)
  · have hw1 := (if_pos c7).symm.trans hw1
    have hw1 := Option.some.inj hw1
    subst hw1
    exact g_weak J2 ⟨rfl, rfl, trivial⟩
  · have hw1 := (if_neg c7).symm.trans hw1
    refine g_aload_n a9_pass_5 rfl ?_
    refine g_iload_n a9_pass_6 rfl ?_
    refine g_aload_n a9_pass_7 rfl ?_
    refine g_iconst (v := (-1)) a9_pass_8 rfl ?_
    refine g_iconst (v := 0) a9_pass_9 rfl ?_
    obtain ⟨w3, hw3, hw1⟩ := bnd_inv hw1
    refine g_V4s (v1 := .inl w3) (σ1 := σ) a9_pass_10 cv9_105 (E9_struckIf hw3) rfl (fun o4 => ?_)
    refine g_if_ne (tgt := 32) a9_pass_13 rfl (fun c6 => ?_) (fun c6 => ?_)
    · have hw1 := (if_neg c6).symm.trans hw1
      have hw1 := Option.some.inj hw1
      subst hw1
      exact g_weak J2 ⟨rfl, rfl, trivial⟩
    · have hw1 := (if_pos c6).symm.trans hw1
      refine g_aload_n a9_pass_16 rfl ?_
      refine g_aload_n a9_pass_17 rfl ?_
      refine g_getf (v := .inl (σ.1 4 k1 2)) a9_pass_18 fs9_88 rfl ?_
      refine g_iload_n a9_pass_21 rfl ?_
      refine g_iadd a9_pass_22 ?_
      refine g_sipush (v := 999) a9_pass_23 rfl ?_
      refine g_min a9_pass_26 cm9_109 rfl ?_
      obtain ⟨σ5, eσ5, hw1⟩ := lt_inv hw1
      refine g_puti a9_pass_29 fs9_88 ps4_2 (fun _ _ _ => rfl) ?_
      rw [eσ5]
      have hw1 := Option.some.inj hw1
      subst hw1
      exact g_weak J2 ⟨rfl, rfl, trivial⟩
theorem a9_passTold_0 : At cX9_passTold 0 (.iconst 0) 1 1 := ⟨by decide +kernel, rfl⟩
theorem a9_passTold_1 : At cX9_passTold 1 (.istore 4) 2 3 := ⟨by decide +kernel, rfl⟩
theorem a9_passTold_3 : At cX9_passTold 3 (.iload 4) 2 5 := ⟨by decide +kernel, rfl⟩
theorem a9_passTold_5 : At cX9_passTold 5 (.iload_n 2) 1 6 := ⟨by decide +kernel, rfl⟩
theorem a9_passTold_6 : At cX9_passTold 6 (.if_icmp .ge 51) 3 9 := ⟨by decide +kernel, rfl⟩
theorem a9_passTold_9 : At cX9_passTold 9 (.aload_n 1) 1 10 := ⟨by decide +kernel, rfl⟩
theorem a9_passTold_10 : At cX9_passTold 10 (.getfield 91) 3 13 := ⟨by decide +kernel, rfl⟩
theorem a9_passTold_13 : At cX9_passTold 13 (.iload_n 3) 1 14 := ⟨by decide +kernel, rfl⟩
theorem a9_passTold_14 : At cX9_passTold 14 (.if_icmp .ge 43) 3 17 := ⟨by decide +kernel, rfl⟩
theorem a9_passTold_17 : At cX9_passTold 17 (.aload_n 1) 1 18 := ⟨by decide +kernel, rfl⟩
theorem a9_passTold_18 : At cX9_passTold 18 (.getfield 91) 3 21 := ⟨by decide +kernel, rfl⟩
theorem a9_passTold_21 : At cX9_passTold 21 (.bipush 6) 2 23 := ⟨by decide +kernel, rfl⟩
theorem a9_passTold_23 : At cX9_passTold 23 (.irem) 1 24 := ⟨by decide +kernel, rfl⟩
theorem a9_passTold_24 : At cX9_passTold 24 (.istore 5) 2 26 := ⟨by decide +kernel, rfl⟩
theorem a9_passTold_26 : At cX9_passTold 26 (.aload_n 0) 1 27 := ⟨by decide +kernel, rfl⟩
theorem a9_passTold_27 : At cX9_passTold 27 (.aload_n 1) 1 28 := ⟨by decide +kernel, rfl⟩
theorem a9_passTold_28 : At cX9_passTold 28 (.aload_n 0) 1 29 := ⟨by decide +kernel, rfl⟩
theorem a9_passTold_29 : At cX9_passTold 29 (.getfield 14) 3 32 := ⟨by decide +kernel, rfl⟩
theorem a9_passTold_32 : At cX9_passTold 32 (.iload 5) 2 34 := ⟨by decide +kernel, rfl⟩
theorem a9_passTold_34 : At cX9_passTold 34 (.iconst 0) 1 35 := ⟨by decide +kernel, rfl⟩
theorem a9_passTold_35 : At cX9_passTold 35 (.invokevirtual 94) 3 38 := ⟨by decide +kernel, rfl⟩
theorem a9_passTold_38 : At cX9_passTold 38 (.aload_n 0) 1 39 := ⟨by decide +kernel, rfl⟩
theorem a9_passTold_39 : At cX9_passTold 39 (.getfield 14) 3 42 := ⟨by decide +kernel, rfl⟩
theorem a9_passTold_42 : At cX9_passTold 42 (.iload 5) 2 44 := ⟨by decide +kernel, rfl⟩
theorem a9_passTold_44 : At cX9_passTold 44 (.iconst 1) 1 45 := ⟨by decide +kernel, rfl⟩
theorem a9_passTold_45 : At cX9_passTold 45 (.invokevirtual 94) 3 48 := ⟨by decide +kernel, rfl⟩
theorem a9_passTold_48 : At cX9_passTold 48 (.invokevirtual 101) 3 51 := ⟨by decide +kernel, rfl⟩
theorem a9_passTold_51 : At cX9_passTold 51 (.iinc 4 1) 3 54 := ⟨by decide +kernel, rfl⟩
theorem a9_passTold_54 : At cX9_passTold 54 (.goto (-51)) 3 57 := ⟨by decide +kernel, rfl⟩
theorem a9_passTold_57 : At cX9_passTold 57 (.return_) 1 58 := ⟨by decide +kernel, rfl⟩
def l9_passTold_3 (k0 : Nat) (k1 : Nat) (x2 : Int32) (x3 : Int32) : Nat → Int32 → Mem → Option (Int32 × Mem)
  | 0, _, _ => none
  | n + 1, x4, σ =>
  if x2 ≤ x4 then
  (some (x4, σ))
  else
  (if x3 ≤ (σ.1 4 k1 3) then
  (some (x4, σ))
  else
  (bnd (f7_at (7 * k0) ((σ.1 4 k1 3) - (σ.1 4 k1 3) / 6 * 6) 0 σ) fun w1 =>
  bnd (f7_at (7 * k0) ((σ.1 4 k1 3) - (σ.1 4 k1 3) / 6 * 6) 1 σ) fun w3 =>
  bnd (f9_pass k0 k1 w1 w3 σ) fun w5 =>
  l9_passTold_3 k0 k1 x2 x3 n (x4 + 1) w5))
theorem lE9_passTold_3 {V : Option AV} {S : Mem} (k0 : Nat) (k1 : Nat) (x2 : Int32) (x3 : Int32) : ∀ (n : Nat) (x4 : Int32) (σ : Mem) {w : Int32 × Mem}, l9_passTold_3 k0 k1 x2 x3 n x4 σ = some w → (Go m9_passTold 57 [some (.inr (.inr (9, k0))), some (.inr (.inr (4, k1))), some (.inl x2), some (.inl x3), some (.inl w.1), none] [] w.2 V S) → Go m9_passTold 3 [some (.inr (.inr (9, k0))), some (.inr (.inr (4, k1))), some (.inl x2), some (.inl x3), some (.inl x4), none] [] σ V S
  | 0, x4, σ, w, h, K1 => by cases h
  | n + 1, x4, σ, w, h, K1 => by
    rw [l9_passTold_3] at h
    refine g_iload a9_passTold_3 rfl ?_
    refine g_iload_n a9_passTold_5 rfl ?_
    refine g_icmp_ge (tgt := 57) a9_passTold_6 rfl (fun c8 => ?_) (fun c8 => ?_)
    · have h := (if_pos c8).symm.trans h
      have h := Option.some.inj h
      subst h
      exact g_weak K1 ⟨rfl, rfl, rfl, rfl, rfl, trivial⟩
    · have h := (if_neg c8).symm.trans h
      refine g_aload_n a9_passTold_9 rfl ?_
      refine g_getf (v := .inl (σ.1 4 k1 3)) a9_passTold_10 fs9_91 rfl ?_
      refine g_iload_n a9_passTold_13 rfl ?_
      refine g_icmp_ge (tgt := 57) a9_passTold_14 rfl (fun c7 => ?_) (fun c7 => ?_)
      · have h := (if_pos c7).symm.trans h
        have h := Option.some.inj h
        subst h
        exact g_weak K1 ⟨rfl, rfl, rfl, rfl, rfl, trivial⟩
      · have h := (if_neg c7).symm.trans h
        refine g_aload_n a9_passTold_17 rfl ?_
        refine g_getf (v := .inl (σ.1 4 k1 3)) a9_passTold_18 fs9_91 rfl ?_
        refine g_bipush (v := 6) a9_passTold_21 rfl ?_
        refine g_irem a9_passTold_23 (by decide) ?_
        refine g_istore (L' := [some (.inr (.inr (9, k0))), some (.inr (.inr (4, k1))), some (.inl x2), some (.inl x3), some (.inl x4), some (.inl ((σ.1 4 k1 3) - (σ.1 4 k1 3) / 6 * 6))]) a9_passTold_24 (Nat.le_of_ble_eq_true rfl) rfl rfl ?_
        refine g_aload_n a9_passTold_26 rfl ?_
        refine g_aload_n a9_passTold_27 rfl ?_
        refine g_aload_n a9_passTold_28 rfl ?_
        refine g_getf (v := .inr (.inr (7, (7 * k0)))) a9_passTold_29 fs9_14 rfl ?_
        refine g_iload a9_passTold_32 rfl ?_
        refine g_iconst (v := 0) a9_passTold_34 rfl ?_
        obtain ⟨w1, hw1, h⟩ := bnd_inv h
        refine g_V2s (v1 := .inl w1) (σ1 := σ) a9_passTold_35 cv9_94 (E7_at hw1) rfl (fun o2 => ?_)
        refine g_aload_n a9_passTold_38 rfl ?_
        refine g_getf (v := .inr (.inr (7, (7 * k0)))) a9_passTold_39 fs9_14 rfl ?_
        refine g_iload a9_passTold_42 rfl ?_
        refine g_iconst (v := 1) a9_passTold_44 rfl ?_
        obtain ⟨w3, hw3, h⟩ := bnd_inv h
        refine g_V2s (v1 := .inl w3) (σ1 := σ) a9_passTold_45 cv9_94 (E7_at hw3) rfl (fun o4 => ?_)
        obtain ⟨w5, hw5, h⟩ := bnd_inv h
        refine g_V3n (σ1 := w5) a9_passTold_48 cv9_101 (E9_pass hw5) rfl (fun o6 => ?_)
        refine g_iinc (v := (x4 + 1)) (L' := [some (.inr (.inr (9, k0))), some (.inr (.inr (4, k1))), some (.inl x2), some (.inl x3), some (.inl (x4 + 1)), some (.inl ((σ.1 4 k1 3) - (σ.1 4 k1 3) / 6 * 6))]) a9_passTold_51 rfl rfl (Nat.le_of_ble_eq_true rfl) rfl rfl ?_
        refine g_goto (tgt := 3) a9_passTold_54 rfl ?_
        exact g_weak (lE9_passTold_3 (V := V) (S := S)  k0 k1 x2 x3 n _ _ h K1) ⟨rfl, rfl, rfl, rfl, rfl, trivial⟩
def f9_passTold (k0 : Nat) (k1 : Nat) (x2 : Int32) (x3 : Int32) (σ : Mem) : Option (Mem) :=
  bnd (l9_passTold_3 k0 k1 x2 x3 2000 0 σ) fun w9 =>
  some w9.2
theorem E9_passTold {k0 : Nat} {k1 : Nat} {x2 : Int32} {x3 : Int32} {σ : Mem} {w : Mem} (h : f9_passTold k0 k1 x2 x3 σ = some w) : Ev m9_passTold [.inr (.inr (9, k0)), .inr (.inr (4, k1)), .inl x2, .inl x3] σ none w := by
  unfold f9_passTold at h
  show Go m9_passTold 0 [some (.inr (.inr (9, k0))), some (.inr (.inr (4, k1))), some (.inl x2), some (.inl x3), none, none] [] σ none w
  refine g_iconst (v := 0) a9_passTold_0 rfl ?_
  refine g_istore (L' := [some (.inr (.inr (9, k0))), some (.inr (.inr (4, k1))), some (.inl x2), some (.inl x3), some (.inl 0), none]) a9_passTold_1 (Nat.le_of_ble_eq_true rfl) rfl rfl ?_
  obtain ⟨w9, hw9, h⟩ := bnd_inv h
  refine g_weak (lE9_passTold_3 k0 k1 x2 x3 2000 _ _ hw9 ?_) ⟨rfl, rfl, rfl, rfl, rfl, trivial⟩
  have h := Option.some.inj h
  subst h
  exact g_retE a9_passTold_57 trivial rfl rfl
theorem a8_tell_0 : At cX8_tell 0 (.iload_n 1) 1 1 := ⟨by decide +kernel, rfl⟩
theorem a8_tell_1 : At cX8_tell 1 (.tableswitch 151 5 9 #[35, 66, 98, 114, 129]) 35 36 := ⟨by decide +kernel, rfl⟩
theorem a8_tell_36 : At cX8_tell 36 (.aload_n 2) 1 37 := ⟨by decide +kernel, rfl⟩
theorem a8_tell_37 : At cX8_tell 37 (.aload_n 0) 1 38 := ⟨by decide +kernel, rfl⟩
theorem a8_tell_38 : At cX8_tell 38 (.getfield 20) 3 41 := ⟨by decide +kernel, rfl⟩
theorem a8_tell_41 : At cX8_tell 41 (.iconst 0) 1 42 := ⟨by decide +kernel, rfl⟩
theorem a8_tell_42 : At cX8_tell 42 (.invokevirtual 96) 3 45 := ⟨by decide +kernel, rfl⟩
theorem a8_tell_45 : At cX8_tell 45 (.aload_n 0) 1 46 := ⟨by decide +kernel, rfl⟩
theorem a8_tell_46 : At cX8_tell 46 (.getfield 20) 3 49 := ⟨by decide +kernel, rfl⟩
theorem a8_tell_49 : At cX8_tell 49 (.iconst 1) 1 50 := ⟨by decide +kernel, rfl⟩
theorem a8_tell_50 : At cX8_tell 50 (.invokevirtual 96) 3 53 := ⟨by decide +kernel, rfl⟩
theorem a8_tell_53 : At cX8_tell 53 (.aload_n 0) 1 54 := ⟨by decide +kernel, rfl⟩
theorem a8_tell_54 : At cX8_tell 54 (.getfield 20) 3 57 := ⟨by decide +kernel, rfl⟩
theorem a8_tell_57 : At cX8_tell 57 (.iconst 2) 1 58 := ⟨by decide +kernel, rfl⟩
theorem a8_tell_58 : At cX8_tell 58 (.invokevirtual 96) 3 61 := ⟨by decide +kernel, rfl⟩
theorem a8_tell_61 : At cX8_tell 61 (.invokevirtual 99) 3 64 := ⟨by decide +kernel, rfl⟩
theorem a8_tell_64 : At cX8_tell 64 (.goto 88) 3 67 := ⟨by decide +kernel, rfl⟩
theorem a8_tell_67 : At cX8_tell 67 (.aload_n 2) 1 68 := ⟨by decide +kernel, rfl⟩
theorem a8_tell_68 : At cX8_tell 68 (.aload_n 0) 1 69 := ⟨by decide +kernel, rfl⟩
theorem a8_tell_69 : At cX8_tell 69 (.getfield 20) 3 72 := ⟨by decide +kernel, rfl⟩
theorem a8_tell_72 : At cX8_tell 72 (.iconst 0) 1 73 := ⟨by decide +kernel, rfl⟩
theorem a8_tell_73 : At cX8_tell 73 (.invokevirtual 96) 3 76 := ⟨by decide +kernel, rfl⟩
theorem a8_tell_76 : At cX8_tell 76 (.aload_n 0) 1 77 := ⟨by decide +kernel, rfl⟩
theorem a8_tell_77 : At cX8_tell 77 (.getfield 20) 3 80 := ⟨by decide +kernel, rfl⟩
theorem a8_tell_80 : At cX8_tell 80 (.iconst 1) 1 81 := ⟨by decide +kernel, rfl⟩
theorem a8_tell_81 : At cX8_tell 81 (.invokevirtual 96) 3 84 := ⟨by decide +kernel, rfl⟩
theorem a8_tell_84 : At cX8_tell 84 (.aload_n 0) 1 85 := ⟨by decide +kernel, rfl⟩
theorem a8_tell_85 : At cX8_tell 85 (.getfield 20) 3 88 := ⟨by decide +kernel, rfl⟩
theorem a8_tell_88 : At cX8_tell 88 (.iconst 2) 1 89 := ⟨by decide +kernel, rfl⟩
theorem a8_tell_89 : At cX8_tell 89 (.invokevirtual 96) 3 92 := ⟨by decide +kernel, rfl⟩
theorem a8_tell_92 : At cX8_tell 92 (.invokevirtual 103) 3 95 := ⟨by decide +kernel, rfl⟩
theorem a8_tell_95 : At cX8_tell 95 (.pop) 1 96 := ⟨by decide +kernel, rfl⟩
theorem a8_tell_96 : At cX8_tell 96 (.goto 56) 3 99 := ⟨by decide +kernel, rfl⟩
theorem a8_tell_99 : At cX8_tell 99 (.aload_n 2) 1 100 := ⟨by decide +kernel, rfl⟩
theorem a8_tell_100 : At cX8_tell 100 (.aload_n 0) 1 101 := ⟨by decide +kernel, rfl⟩
theorem a8_tell_101 : At cX8_tell 101 (.getfield 20) 3 104 := ⟨by decide +kernel, rfl⟩
theorem a8_tell_104 : At cX8_tell 104 (.iconst 0) 1 105 := ⟨by decide +kernel, rfl⟩
theorem a8_tell_105 : At cX8_tell 105 (.invokevirtual 96) 3 108 := ⟨by decide +kernel, rfl⟩
theorem a8_tell_108 : At cX8_tell 108 (.invokevirtual 107) 3 111 := ⟨by decide +kernel, rfl⟩
theorem a8_tell_111 : At cX8_tell 111 (.pop) 1 112 := ⟨by decide +kernel, rfl⟩
theorem a8_tell_112 : At cX8_tell 112 (.goto 40) 3 115 := ⟨by decide +kernel, rfl⟩
theorem a8_tell_115 : At cX8_tell 115 (.aload_n 2) 1 116 := ⟨by decide +kernel, rfl⟩
theorem a8_tell_116 : At cX8_tell 116 (.aload_n 0) 1 117 := ⟨by decide +kernel, rfl⟩
theorem a8_tell_117 : At cX8_tell 117 (.getfield 20) 3 120 := ⟨by decide +kernel, rfl⟩
theorem a8_tell_120 : At cX8_tell 120 (.iconst 0) 1 121 := ⟨by decide +kernel, rfl⟩
theorem a8_tell_121 : At cX8_tell 121 (.invokevirtual 96) 3 124 := ⟨by decide +kernel, rfl⟩
theorem a8_tell_124 : At cX8_tell 124 (.invokevirtual 110) 3 127 := ⟨by decide +kernel, rfl⟩
theorem a8_tell_127 : At cX8_tell 127 (.goto 25) 3 130 := ⟨by decide +kernel, rfl⟩
theorem a8_tell_130 : At cX8_tell 130 (.aload_n 2) 1 131 := ⟨by decide +kernel, rfl⟩
theorem a8_tell_131 : At cX8_tell 131 (.aload_n 2) 1 132 := ⟨by decide +kernel, rfl⟩
theorem a8_tell_132 : At cX8_tell 132 (.getfield 113) 3 135 := ⟨by decide +kernel, rfl⟩
theorem a8_tell_135 : At cX8_tell 135 (.aload_n 0) 1 136 := ⟨by decide +kernel, rfl⟩
theorem a8_tell_136 : At cX8_tell 136 (.getfield 20) 3 139 := ⟨by decide +kernel, rfl⟩
theorem a8_tell_139 : At cX8_tell 139 (.iconst 0) 1 140 := ⟨by decide +kernel, rfl⟩
theorem a8_tell_140 : At cX8_tell 140 (.invokevirtual 96) 3 143 := ⟨by decide +kernel, rfl⟩
theorem a8_tell_143 : At cX8_tell 143 (.sipush 999) 3 146 := ⟨by decide +kernel, rfl⟩
theorem a8_tell_146 : At cX8_tell 146 (.invokevirtual 117) 3 149 := ⟨by decide +kernel, rfl⟩
theorem a8_tell_149 : At cX8_tell 149 (.goto 3) 3 152 := ⟨by decide +kernel, rfl⟩
theorem a8_tell_152 : At cX8_tell 152 (.return_) 1 153 := ⟨by decide +kernel, rfl⟩
def f8_tell (k0 : Nat) (x1 : Int32) (k2 : Nat) (σ : Mem) : Option (Mem) :=
  if x1 = 5 then
  (bnd (f6_at 2 0 σ) fun w1 =>
  bnd (f6_at 2 1 σ) fun w3 =>
  bnd (f6_at 2 2 σ) fun w5 =>
  bnd (f9_tellStorm k2 w1 w3 w5 σ) fun w7 =>
  some w7)
  else if x1 = 6 then
  (bnd (f6_at 2 0 σ) fun w9 =>
  bnd (f6_at 2 1 σ) fun w11 =>
  bnd (f6_at 2 2 σ) fun w13 =>
  bnd (f9_addThing k2 w9 w11 w13 σ) fun w15 =>
  some w15.2)
  else if x1 = 7 then
  (bnd (f6_at 2 0 σ) fun w17 =>
  bnd (f9_addPart k2 w17 σ) fun w19 =>
  some w19.2)
  else if x1 = 8 then
  (bnd (f6_at 2 0 σ) fun w21 =>
  lt (f9_turn k2 w21 σ) fun w23 =>
  some w23)
  else if x1 = 9 then
  (bnd (f6_at 2 0 σ) fun w25 =>
  bnd (f9_passTold k2 k2 w25 999 σ) fun w27 =>
  some w27)
  else 
  (some σ)
theorem E8_tell {k0 : Nat} {x1 : Int32} {k2 : Nat} {σ : Mem} {w : Mem} (h : f8_tell k0 x1 k2 σ = some w) : Ev m8_tell [.inr (.inr (8, k0)), .inl x1, .inr (.inr (9, k2))] σ none w := by
  unfold f8_tell at h
  show Go m8_tell 0 [some (.inr (.inr (8, k0))), some (.inl x1), some (.inr (.inr (9, k2)))] [] σ none w
  refine g_iload_n a8_tell_0 rfl ?_
  rcases Decidable.em (x1 = 5) with c29 | c29
  · have h := (if_pos c29).symm.trans h
    refine g_tsIn (tgt := 36) (off := 35) a8_tell_1 (by rw [c29]; decide) (by rw [c29]; decide) (by rw [c29]; rfl) rfl ?_
    refine g_aload_n a8_tell_36 rfl ?_
    refine g_aload_n a8_tell_37 rfl ?_
    refine g_getf (v := .inr (.inr (6, 2))) a8_tell_38 fs8_20 rfl ?_
    refine g_iconst (v := 0) a8_tell_41 rfl ?_
    obtain ⟨w1, hw1, h⟩ := bnd_inv h
    refine g_V1s (v1 := .inl w1) (σ1 := σ) a8_tell_42 cv8_96 (E6_at hw1) rfl (fun o2 => ?_)
    refine g_aload_n a8_tell_45 rfl ?_
    refine g_getf (v := .inr (.inr (6, 2))) a8_tell_46 fs8_20 rfl ?_
    refine g_iconst (v := 1) a8_tell_49 rfl ?_
    obtain ⟨w3, hw3, h⟩ := bnd_inv h
    refine g_V1s (v1 := .inl w3) (σ1 := σ) a8_tell_50 cv8_96 (E6_at hw3) rfl (fun o4 => ?_)
    refine g_aload_n a8_tell_53 rfl ?_
    refine g_getf (v := .inr (.inr (6, 2))) a8_tell_54 fs8_20 rfl ?_
    refine g_iconst (v := 2) a8_tell_57 rfl ?_
    obtain ⟨w5, hw5, h⟩ := bnd_inv h
    refine g_V1s (v1 := .inl w5) (σ1 := σ) a8_tell_58 cv8_96 (E6_at hw5) rfl (fun o6 => ?_)
    obtain ⟨w7, hw7, h⟩ := bnd_inv h
    refine g_V3n (σ1 := w7) a8_tell_61 cv8_99 (E9_tellStorm hw7) rfl (fun o8 => ?_)
    refine g_goto (tgt := 152) a8_tell_64 rfl ?_
    have h := Option.some.inj h
    subst h
    exact g_retE a8_tell_152 trivial rfl rfl
  have h := (if_neg c29).symm.trans h
  rcases Decidable.em (x1 = 6) with c30 | c30
  · have h := (if_pos c30).symm.trans h
    refine g_tsIn (tgt := 67) (off := 66) a8_tell_1 (by rw [c30]; decide) (by rw [c30]; decide) (by rw [c30]; rfl) rfl ?_
    refine g_aload_n a8_tell_67 rfl ?_
    refine g_aload_n a8_tell_68 rfl ?_
    refine g_getf (v := .inr (.inr (6, 2))) a8_tell_69 fs8_20 rfl ?_
    refine g_iconst (v := 0) a8_tell_72 rfl ?_
    obtain ⟨w9, hw9, h⟩ := bnd_inv h
    refine g_V1s (v1 := .inl w9) (σ1 := σ) a8_tell_73 cv8_96 (E6_at hw9) rfl (fun o10 => ?_)
    refine g_aload_n a8_tell_76 rfl ?_
    refine g_getf (v := .inr (.inr (6, 2))) a8_tell_77 fs8_20 rfl ?_
    refine g_iconst (v := 1) a8_tell_80 rfl ?_
    obtain ⟨w11, hw11, h⟩ := bnd_inv h
    refine g_V1s (v1 := .inl w11) (σ1 := σ) a8_tell_81 cv8_96 (E6_at hw11) rfl (fun o12 => ?_)
    refine g_aload_n a8_tell_84 rfl ?_
    refine g_getf (v := .inr (.inr (6, 2))) a8_tell_85 fs8_20 rfl ?_
    refine g_iconst (v := 2) a8_tell_88 rfl ?_
    obtain ⟨w13, hw13, h⟩ := bnd_inv h
    refine g_V1s (v1 := .inl w13) (σ1 := σ) a8_tell_89 cv8_96 (E6_at hw13) rfl (fun o14 => ?_)
    obtain ⟨w15, hw15, h⟩ := bnd_inv h
    refine g_V3s (v1 := .inl w15.1) (σ1 := w15.2) a8_tell_92 cv8_103 (E9_addThing hw15) rfl (fun o16 => ?_)
    refine g_pop a8_tell_95 (fun _ => rfl) ?_
    refine g_goto (tgt := 152) a8_tell_96 rfl ?_
    have h := Option.some.inj h
    subst h
    exact g_retE a8_tell_152 trivial rfl rfl
  have h := (if_neg c30).symm.trans h
  rcases Decidable.em (x1 = 7) with c31 | c31
  · have h := (if_pos c31).symm.trans h
    refine g_tsIn (tgt := 99) (off := 98) a8_tell_1 (by rw [c31]; decide) (by rw [c31]; decide) (by rw [c31]; rfl) rfl ?_
    refine g_aload_n a8_tell_99 rfl ?_
    refine g_aload_n a8_tell_100 rfl ?_
    refine g_getf (v := .inr (.inr (6, 2))) a8_tell_101 fs8_20 rfl ?_
    refine g_iconst (v := 0) a8_tell_104 rfl ?_
    obtain ⟨w17, hw17, h⟩ := bnd_inv h
    refine g_V1s (v1 := .inl w17) (σ1 := σ) a8_tell_105 cv8_96 (E6_at hw17) rfl (fun o18 => ?_)
    obtain ⟨w19, hw19, h⟩ := bnd_inv h
    refine g_V1s (v1 := .inl w19.1) (σ1 := w19.2) a8_tell_108 cv8_107 (E9_addPart hw19) rfl (fun o20 => ?_)
    refine g_pop a8_tell_111 (fun _ => rfl) ?_
    refine g_goto (tgt := 152) a8_tell_112 rfl ?_
    have h := Option.some.inj h
    subst h
    exact g_retE a8_tell_152 trivial rfl rfl
  have h := (if_neg c31).symm.trans h
  rcases Decidable.em (x1 = 8) with c32 | c32
  · have h := (if_pos c32).symm.trans h
    refine g_tsIn (tgt := 115) (off := 114) a8_tell_1 (by rw [c32]; decide) (by rw [c32]; decide) (by rw [c32]; rfl) rfl ?_
    refine g_aload_n a8_tell_115 rfl ?_
    refine g_aload_n a8_tell_116 rfl ?_
    refine g_getf (v := .inr (.inr (6, 2))) a8_tell_117 fs8_20 rfl ?_
    refine g_iconst (v := 0) a8_tell_120 rfl ?_
    obtain ⟨w21, hw21, h⟩ := bnd_inv h
    refine g_V1s (v1 := .inl w21) (σ1 := σ) a8_tell_121 cv8_96 (E6_at hw21) rfl (fun o22 => ?_)
    obtain ⟨w23, hw23, h⟩ := lt_inv h
    refine g_V1n (σ1 := w23) a8_tell_124 cv8_110 (by rw [← hw23]; exact E9_turn _ _ _) rfl (fun o24 => ?_)
    refine g_goto (tgt := 152) a8_tell_127 rfl ?_
    have h := Option.some.inj h
    subst h
    exact g_retE a8_tell_152 trivial rfl rfl
  have h := (if_neg c32).symm.trans h
  rcases Decidable.em (x1 = 9) with c33 | c33
  · have h := (if_pos c33).symm.trans h
    refine g_tsIn (tgt := 130) (off := 129) a8_tell_1 (by rw [c33]; decide) (by rw [c33]; decide) (by rw [c33]; rfl) rfl ?_
    refine g_aload_n a8_tell_130 rfl ?_
    refine g_aload_n a8_tell_131 rfl ?_
    refine g_getf (v := .inr (.inr (4, k2))) a8_tell_132 fs8_113 rfl ?_
    refine g_aload_n a8_tell_135 rfl ?_
    refine g_getf (v := .inr (.inr (6, 2))) a8_tell_136 fs8_20 rfl ?_
    refine g_iconst (v := 0) a8_tell_139 rfl ?_
    obtain ⟨w25, hw25, h⟩ := bnd_inv h
    refine g_V1s (v1 := .inl w25) (σ1 := σ) a8_tell_140 cv8_96 (E6_at hw25) rfl (fun o26 => ?_)
    refine g_sipush (v := 999) a8_tell_143 rfl ?_
    obtain ⟨w27, hw27, h⟩ := bnd_inv h
    refine g_V3n (σ1 := w27) a8_tell_146 cv8_117 (E9_passTold hw27) rfl (fun o28 => ?_)
    refine g_goto (tgt := 152) a8_tell_149 rfl ?_
    have h := Option.some.inj h
    subst h
    exact g_retE a8_tell_152 trivial rfl rfl
  have h := (if_neg c33).symm.trans h
  have tc29 := lv_neT c29 (a := 5) rfl
  have tc30 := lv_neT c30 (a := 6) rfl
  have tc31 := lv_neT c31 (a := 7) rfl
  have tc32 := lv_neT c32 (a := 8) rfl
  have tc33 := lv_neT c33 (a := 9) rfl
  refine g_tsOut (tgt := 152) a8_tell_1 (by omega) rfl ?_
  have h := Option.some.inj h
  subst h
  exact g_retE a8_tell_152 trivial rfl rfl
theorem a8_tellTo_0 : At cX8_tellTo 0 (.aload_n 0) 1 1 := ⟨by decide +kernel, rfl⟩
theorem a8_tellTo_1 : At cX8_tellTo 1 (.iconst 0) 1 2 := ⟨by decide +kernel, rfl⟩
theorem a8_tellTo_2 : At cX8_tellTo 2 (.putfield 31) 3 5 := ⟨by decide +kernel, rfl⟩
theorem a8_tellTo_5 : At cX8_tellTo 5 (.iconst 0) 1 6 := ⟨by decide +kernel, rfl⟩
theorem a8_tellTo_6 : At cX8_tellTo 6 (.istore_n 2) 1 7 := ⟨by decide +kernel, rfl⟩
theorem a8_tellTo_7 : At cX8_tellTo 7 (.iload_n 2) 1 8 := ⟨by decide +kernel, rfl⟩
theorem a8_tellTo_8 : At cX8_tellTo 8 (.sipush 150) 3 11 := ⟨by decide +kernel, rfl⟩
theorem a8_tellTo_11 : At cX8_tellTo 11 (.if_icmp .gt 78) 3 14 := ⟨by decide +kernel, rfl⟩
theorem a8_tellTo_14 : At cX8_tellTo 14 (.aload_n 0) 1 15 := ⟨by decide +kernel, rfl⟩
theorem a8_tellTo_15 : At cX8_tellTo 15 (.invokevirtual 34) 3 18 := ⟨by decide +kernel, rfl⟩
theorem a8_tellTo_18 : At cX8_tellTo 18 (.aload_n 0) 1 19 := ⟨by decide +kernel, rfl⟩
theorem a8_tellTo_19 : At cX8_tellTo 19 (.getfield 37) 3 22 := ⟨by decide +kernel, rfl⟩
theorem a8_tellTo_22 : At cX8_tellTo 22 (.ifCond .ne 9) 3 25 := ⟨by decide +kernel, rfl⟩
theorem a8_tellTo_25 : At cX8_tellTo 25 (.iload_n 2) 1 26 := ⟨by decide +kernel, rfl⟩
theorem a8_tellTo_26 : At cX8_tellTo 26 (.ifCond .le 5) 3 29 := ⟨by decide +kernel, rfl⟩
theorem a8_tellTo_29 : At cX8_tellTo 29 (.iload_n 2) 1 30 := ⟨by decide +kernel, rfl⟩
theorem a8_tellTo_30 : At cX8_tellTo 30 (.ireturn) 1 31 := ⟨by decide +kernel, rfl⟩
theorem a8_tellTo_31 : At cX8_tellTo 31 (.aload_n 0) 1 32 := ⟨by decide +kernel, rfl⟩
theorem a8_tellTo_32 : At cX8_tellTo 32 (.getfield 37) 3 35 := ⟨by decide +kernel, rfl⟩
theorem a8_tellTo_35 : At cX8_tellTo 35 (.istore_n 3) 1 36 := ⟨by decide +kernel, rfl⟩
theorem a8_tellTo_36 : At cX8_tellTo 36 (.iload_n 3) 1 37 := ⟨by decide +kernel, rfl⟩
theorem a8_tellTo_37 : At cX8_tellTo 37 (.aload_n 1) 1 38 := ⟨by decide +kernel, rfl⟩
theorem a8_tellTo_38 : At cX8_tellTo 38 (.iload_n 2) 1 39 := ⟨by decide +kernel, rfl⟩
theorem a8_tellTo_39 : At cX8_tellTo 39 (.ifCond .ne 7) 3 42 := ⟨by decide +kernel, rfl⟩
theorem a8_tellTo_42 : At cX8_tellTo 42 (.iconst 1) 1 43 := ⟨by decide +kernel, rfl⟩
theorem a8_tellTo_43 : At cX8_tellTo 43 (.goto 4) 3 46 := ⟨by decide +kernel, rfl⟩
theorem a8_tellTo_46 : At cX8_tellTo 46 (.iconst 0) 1 47 := ⟨by decide +kernel, rfl⟩
theorem a8_tellTo_47 : At cX8_tellTo 47 (.invokestatic 40) 3 50 := ⟨by decide +kernel, rfl⟩
theorem a8_tellTo_50 : At cX8_tellTo 50 (.ifCond .eq 19) 3 53 := ⟨by decide +kernel, rfl⟩
theorem a8_tellTo_53 : At cX8_tellTo 53 (.aload_n 0) 1 54 := ⟨by decide +kernel, rfl⟩
theorem a8_tellTo_54 : At cX8_tellTo 54 (.iload_n 3) 1 55 := ⟨by decide +kernel, rfl⟩
theorem a8_tellTo_55 : At cX8_tellTo 55 (.aload_n 1) 1 56 := ⟨by decide +kernel, rfl⟩
theorem a8_tellTo_56 : At cX8_tellTo 56 (.invokevirtual 44) 3 59 := ⟨by decide +kernel, rfl⟩
theorem a8_tellTo_59 : At cX8_tellTo 59 (.ifCond .eq 10) 3 62 := ⟨by decide +kernel, rfl⟩
theorem a8_tellTo_62 : At cX8_tellTo 62 (.aload_n 0) 1 63 := ⟨by decide +kernel, rfl⟩
theorem a8_tellTo_63 : At cX8_tellTo 63 (.invokevirtual 48) 3 66 := ⟨by decide +kernel, rfl⟩
theorem a8_tellTo_66 : At cX8_tellTo 66 (.ifCond .ne 11) 3 69 := ⟨by decide +kernel, rfl⟩
theorem a8_tellTo_69 : At cX8_tellTo 69 (.bipush (-10)) 2 71 := ⟨by decide +kernel, rfl⟩
theorem a8_tellTo_71 : At cX8_tellTo 71 (.aload_n 0) 1 72 := ⟨by decide +kernel, rfl⟩
theorem a8_tellTo_72 : At cX8_tellTo 72 (.getfield 52) 3 75 := ⟨by decide +kernel, rfl⟩
theorem a8_tellTo_75 : At cX8_tellTo 75 (.isub) 1 76 := ⟨by decide +kernel, rfl⟩
theorem a8_tellTo_76 : At cX8_tellTo 76 (.ireturn) 1 77 := ⟨by decide +kernel, rfl⟩
theorem a8_tellTo_77 : At cX8_tellTo 77 (.aload_n 0) 1 78 := ⟨by decide +kernel, rfl⟩
theorem a8_tellTo_78 : At cX8_tellTo 78 (.iload_n 3) 1 79 := ⟨by decide +kernel, rfl⟩
theorem a8_tellTo_79 : At cX8_tellTo 79 (.aload_n 1) 1 80 := ⟨by decide +kernel, rfl⟩
theorem a8_tellTo_80 : At cX8_tellTo 80 (.invokevirtual 55) 3 83 := ⟨by decide +kernel, rfl⟩
theorem a8_tellTo_83 : At cX8_tellTo 83 (.iinc 2 1) 3 86 := ⟨by decide +kernel, rfl⟩
theorem a8_tellTo_86 : At cX8_tellTo 86 (.goto (-79)) 3 89 := ⟨by decide +kernel, rfl⟩
theorem a8_tellTo_89 : At cX8_tellTo 89 (.bipush (-10)) 2 91 := ⟨by decide +kernel, rfl⟩
theorem a8_tellTo_91 : At cX8_tellTo 91 (.aload_n 0) 1 92 := ⟨by decide +kernel, rfl⟩
theorem a8_tellTo_92 : At cX8_tellTo 92 (.getfield 23) 3 95 := ⟨by decide +kernel, rfl⟩
theorem a8_tellTo_95 : At cX8_tellTo 95 (.isub) 1 96 := ⟨by decide +kernel, rfl⟩
theorem a8_tellTo_96 : At cX8_tellTo 96 (.ireturn) 1 97 := ⟨by decide +kernel, rfl⟩
def l8_tellTo_7 (k0 : Nat) (k1 : Nat) : Nat → Int32 → Mem → Option ((Int32 × Mem) ⊕ (Int32 × Mem))
  | 0, _, _ => none
  | n + 1, x2, σ =>
  if 150 < x2 then
  (some (.inl (x2, σ)))
  else
  (bnd (f8_nextToken k0 σ) fun w2 =>
  if (w2.1 8 k0 3) = 0 then
  (if x2 ≤ 0 then
  (lt (if x2 = 0 then
  (1)
  else
  (0) : Int32) fun w4 =>
  if (f8_mayStand (w2.1 8 k0 3) k1 w4 w2) = 0 then
  (some (.inr (((-10) - (w2.1 8 k0 4)), w2)))
  else
  (bnd (f8_readNumbers k0 (w2.1 8 k0 3) k1 w2) fun w9 =>
  if w9.1 = 0 then
  (some (.inr (((-10) - (w9.2.1 8 k0 4)), w9.2)))
  else
  (bnd (f8_readStop k0 w9.2) fun w11 =>
  if w11.1 = 0 then
  (some (.inr (((-10) - (w11.2.1 8 k0 4)), w11.2)))
  else
  (bnd (f8_tell k0 (w2.1 8 k0 3) k1 w11.2) fun w13 =>
  l8_tellTo_7 k0 k1 n (x2 + 1) w13))))
  else
  (some (.inr (x2, w2))))
  else
  (lt (if x2 = 0 then
  (1)
  else
  (0) : Int32) fun w19 =>
  if (f8_mayStand (w2.1 8 k0 3) k1 w19 w2) = 0 then
  (some (.inr (((-10) - (w2.1 8 k0 4)), w2)))
  else
  (bnd (f8_readNumbers k0 (w2.1 8 k0 3) k1 w2) fun w24 =>
  if w24.1 = 0 then
  (some (.inr (((-10) - (w24.2.1 8 k0 4)), w24.2)))
  else
  (bnd (f8_readStop k0 w24.2) fun w26 =>
  if w26.1 = 0 then
  (some (.inr (((-10) - (w26.2.1 8 k0 4)), w26.2)))
  else
  (bnd (f8_tell k0 (w2.1 8 k0 3) k1 w26.2) fun w28 =>
  l8_tellTo_7 k0 k1 n (x2 + 1) w28)))))
theorem lE8_tellTo_7 {V : Option AV} {S : Mem} (k0 : Nat) (k1 : Nat) : ∀ (n : Nat) (x2 : Int32) (σ : Mem) {w : (Int32 × Mem) ⊕ (Int32 × Mem)}, l8_tellTo_7 k0 k1 n x2 σ = some w → (∀ u, w = .inl u → Go m8_tellTo 89 [some (.inr (.inr (8, k0))), some (.inr (.inr (9, k1))), some (.inl u.1), none] [] u.2 V S) → (∀ u, w = .inr u → (some (.inl u.1) : Option AV) = V ∧ u.2 = S) → Go m8_tellTo 7 [some (.inr (.inr (8, k0))), some (.inr (.inr (9, k1))), some (.inl x2), none] [] σ V S
  | 0, x2, σ, w, h, K1, K2 => by cases h
  | n + 1, x2, σ, w, h, K1, K2 => by
    rw [l8_tellTo_7] at h
    refine g_iload_n a8_tellTo_7 rfl ?_
    refine g_sipush (v := 150) a8_tellTo_8 rfl ?_
    refine g_icmp_gt (tgt := 89) a8_tellTo_11 rfl (fun c34 => ?_) (fun c34 => ?_)
    · have h := (if_pos c34).symm.trans h
      have h := Option.some.inj h
      subst h
      exact g_weak (K1 _ rfl) ⟨rfl, rfl, rfl, trivial⟩
    · have h := (if_neg c34).symm.trans h
      refine g_aload_n a8_tellTo_14 rfl ?_
      obtain ⟨w2, hw2, h⟩ := bnd_inv h
      refine g_V0n (σ1 := w2) a8_tellTo_15 cv8_34 (E8_nextToken hw2) rfl (fun o3 => ?_)
      refine g_aload_n a8_tellTo_18 rfl ?_
      refine g_getf (v := .inl (w2.1 8 k0 3)) a8_tellTo_19 fs8_37 rfl ?_
      refine g_if_ne (tgt := 31) a8_tellTo_22 rfl (fun c33 => ?_) (fun c33 => ?_)
      · have h := (if_neg c33).symm.trans h
        refine g_aload_n a8_tellTo_31 rfl ?_
        refine g_getf (v := .inl (w2.1 8 k0 3)) a8_tellTo_32 fs8_37 rfl ?_
        refine g_istore_n (L' := [some (.inr (.inr (8, k0))), some (.inr (.inr (9, k1))), some (.inl x2), some (.inl (w2.1 8 k0 3))]) a8_tellTo_35 (Nat.le_of_ble_eq_true rfl) rfl rfl ?_
        refine g_iload_n a8_tellTo_36 rfl ?_
        refine g_aload_n a8_tellTo_37 rfl ?_
        refine g_iload_n a8_tellTo_38 rfl ?_
        obtain ⟨w19, hw19, h⟩ := lt_inv h
        have b22 : w19 = 0 ∨ w19 = 1 := by rw [← hw19]; repeat (first | exact Or.inl rfl | exact Or.inr rfl | split)
        have J20 : Go m8_tellTo 47 [some (.inr (.inr (8, k0))), some (.inr (.inr (9, k1))), some (.inl x2), some (.inl (w2.1 8 k0 3))] [.inl w19, .inr (.inr (9, k1)), .inl (w2.1 8 k0 3)] w2 V S := by
          refine g_S3s (v1 := .inl (f8_mayStand (w2.1 8 k0 3) k1 w19 w2)) (σ1 := w2) a8_tellTo_47 cs8_40 (E8_mayStand _ _ _ _) rfl (fun o23 => ?_)
          refine g_if_eq (tgt := 69) a8_tellTo_50 rfl (fun c32 => ?_) (fun c32 => ?_)
          · have h := (if_pos c32).symm.trans h
            refine g_bipush (v := (-10)) a8_tellTo_69 rfl ?_
            refine g_aload_n a8_tellTo_71 rfl ?_
            refine g_getf (v := .inl (w2.1 8 k0 4)) a8_tellTo_72 fs8_52 rfl ?_
            refine g_isub a8_tellTo_75 ?_
            have h := Option.some.inj h
            subst h
            obtain ⟨hV, hS⟩ := K2 _ rfl
            subst hV; subst hS
            exact g_retE a8_tellTo_76 trivial rfl rfl
          · have h := (if_neg c32).symm.trans h
            refine g_aload_n a8_tellTo_53 rfl ?_
            refine g_iload_n a8_tellTo_54 rfl ?_
            refine g_aload_n a8_tellTo_55 rfl ?_
            obtain ⟨w24, hw24, h⟩ := bnd_inv h
            refine g_V2s (v1 := .inl w24.1) (σ1 := w24.2) a8_tellTo_56 cv8_44 (E8_readNumbers hw24) rfl (fun o25 => ?_)
            refine g_if_eq (tgt := 69) a8_tellTo_59 rfl (fun c31 => ?_) (fun c31 => ?_)
            · have h := (if_pos c31).symm.trans h
              refine g_bipush (v := (-10)) a8_tellTo_69 rfl ?_
              refine g_aload_n a8_tellTo_71 rfl ?_
              refine g_getf (v := .inl (w24.2.1 8 k0 4)) a8_tellTo_72 fs8_52 rfl ?_
              refine g_isub a8_tellTo_75 ?_
              have h := Option.some.inj h
              subst h
              obtain ⟨hV, hS⟩ := K2 _ rfl
              subst hV; subst hS
              exact g_retE a8_tellTo_76 trivial rfl rfl
            · have h := (if_neg c31).symm.trans h
              refine g_aload_n a8_tellTo_62 rfl ?_
              obtain ⟨w26, hw26, h⟩ := bnd_inv h
              refine g_V0s (v1 := .inl w26.1) (σ1 := w26.2) a8_tellTo_63 cv8_48 (E8_readStop hw26) rfl (fun o27 => ?_)
              refine g_if_ne (tgt := 77) a8_tellTo_66 rfl (fun c30 => ?_) (fun c30 => ?_)
              · have h := (if_neg c30).symm.trans h
                refine g_aload_n a8_tellTo_77 rfl ?_
                refine g_iload_n a8_tellTo_78 rfl ?_
                refine g_aload_n a8_tellTo_79 rfl ?_
                obtain ⟨w28, hw28, h⟩ := bnd_inv h
                refine g_V2n (σ1 := w28) a8_tellTo_80 cv8_55 (E8_tell hw28) rfl (fun o29 => ?_)
                refine g_iinc (v := (x2 + 1)) (L' := [some (.inr (.inr (8, k0))), some (.inr (.inr (9, k1))), some (.inl (x2 + 1)), some (.inl (w2.1 8 k0 3))]) a8_tellTo_83 rfl rfl (Nat.le_of_ble_eq_true rfl) rfl rfl ?_
                refine g_goto (tgt := 7) a8_tellTo_86 rfl ?_
                exact g_weak (lE8_tellTo_7 (V := V) (S := S)  k0 k1 n _ _ h K1 K2) ⟨rfl, rfl, rfl, trivial⟩
              · have h := (if_pos c30).symm.trans h
                refine g_bipush (v := (-10)) a8_tellTo_69 rfl ?_
                refine g_aload_n a8_tellTo_71 rfl ?_
                refine g_getf (v := .inl (w26.2.1 8 k0 4)) a8_tellTo_72 fs8_52 rfl ?_
                refine g_isub a8_tellTo_75 ?_
                have h := Option.some.inj h
                subst h
                obtain ⟨hV, hS⟩ := K2 _ rfl
                subst hV; subst hS
                exact g_retE a8_tellTo_76 trivial rfl rfl
        clear h
        refine g_if_ne (tgt := 46) a8_tellTo_39 rfl (fun c21 => ?_) (fun c21 => ?_)
        · have hw19 := (if_neg c21).symm.trans hw19
          refine g_iconst (v := 0) a8_tellTo_46 rfl ?_
          subst hw19
          exact J20
        · have hw19 := (if_pos c21).symm.trans hw19
          refine g_iconst (v := 1) a8_tellTo_42 rfl ?_
          refine g_goto (tgt := 47) a8_tellTo_43 rfl ?_
          subst hw19
          exact J20
      · have h := (if_pos c33).symm.trans h
        refine g_iload_n a8_tellTo_25 rfl ?_
        refine g_if_le (tgt := 31) a8_tellTo_26 rfl (fun c18 => ?_) (fun c18 => ?_)
        · have h := (if_pos c18).symm.trans h
          refine g_aload_n a8_tellTo_31 rfl ?_
          refine g_getf (v := .inl (w2.1 8 k0 3)) a8_tellTo_32 fs8_37 rfl ?_
          refine g_istore_n (L' := [some (.inr (.inr (8, k0))), some (.inr (.inr (9, k1))), some (.inl x2), some (.inl (w2.1 8 k0 3))]) a8_tellTo_35 (Nat.le_of_ble_eq_true rfl) rfl rfl ?_
          refine g_iload_n a8_tellTo_36 rfl ?_
          refine g_aload_n a8_tellTo_37 rfl ?_
          refine g_iload_n a8_tellTo_38 rfl ?_
          obtain ⟨w4, hw4, h⟩ := lt_inv h
          have b7 : w4 = 0 ∨ w4 = 1 := by rw [← hw4]; repeat (first | exact Or.inl rfl | exact Or.inr rfl | split)
          have J5 : Go m8_tellTo 47 [some (.inr (.inr (8, k0))), some (.inr (.inr (9, k1))), some (.inl x2), some (.inl (w2.1 8 k0 3))] [.inl w4, .inr (.inr (9, k1)), .inl (w2.1 8 k0 3)] w2 V S := by
            refine g_S3s (v1 := .inl (f8_mayStand (w2.1 8 k0 3) k1 w4 w2)) (σ1 := w2) a8_tellTo_47 cs8_40 (E8_mayStand _ _ _ _) rfl (fun o8 => ?_)
            refine g_if_eq (tgt := 69) a8_tellTo_50 rfl (fun c17 => ?_) (fun c17 => ?_)
            · have h := (if_pos c17).symm.trans h
              refine g_bipush (v := (-10)) a8_tellTo_69 rfl ?_
              refine g_aload_n a8_tellTo_71 rfl ?_
              refine g_getf (v := .inl (w2.1 8 k0 4)) a8_tellTo_72 fs8_52 rfl ?_
              refine g_isub a8_tellTo_75 ?_
              have h := Option.some.inj h
              subst h
              obtain ⟨hV, hS⟩ := K2 _ rfl
              subst hV; subst hS
              exact g_retE a8_tellTo_76 trivial rfl rfl
            · have h := (if_neg c17).symm.trans h
              refine g_aload_n a8_tellTo_53 rfl ?_
              refine g_iload_n a8_tellTo_54 rfl ?_
              refine g_aload_n a8_tellTo_55 rfl ?_
              obtain ⟨w9, hw9, h⟩ := bnd_inv h
              refine g_V2s (v1 := .inl w9.1) (σ1 := w9.2) a8_tellTo_56 cv8_44 (E8_readNumbers hw9) rfl (fun o10 => ?_)
              refine g_if_eq (tgt := 69) a8_tellTo_59 rfl (fun c16 => ?_) (fun c16 => ?_)
              · have h := (if_pos c16).symm.trans h
                refine g_bipush (v := (-10)) a8_tellTo_69 rfl ?_
                refine g_aload_n a8_tellTo_71 rfl ?_
                refine g_getf (v := .inl (w9.2.1 8 k0 4)) a8_tellTo_72 fs8_52 rfl ?_
                refine g_isub a8_tellTo_75 ?_
                have h := Option.some.inj h
                subst h
                obtain ⟨hV, hS⟩ := K2 _ rfl
                subst hV; subst hS
                exact g_retE a8_tellTo_76 trivial rfl rfl
              · have h := (if_neg c16).symm.trans h
                refine g_aload_n a8_tellTo_62 rfl ?_
                obtain ⟨w11, hw11, h⟩ := bnd_inv h
                refine g_V0s (v1 := .inl w11.1) (σ1 := w11.2) a8_tellTo_63 cv8_48 (E8_readStop hw11) rfl (fun o12 => ?_)
                refine g_if_ne (tgt := 77) a8_tellTo_66 rfl (fun c15 => ?_) (fun c15 => ?_)
                · have h := (if_neg c15).symm.trans h
                  refine g_aload_n a8_tellTo_77 rfl ?_
                  refine g_iload_n a8_tellTo_78 rfl ?_
                  refine g_aload_n a8_tellTo_79 rfl ?_
                  obtain ⟨w13, hw13, h⟩ := bnd_inv h
                  refine g_V2n (σ1 := w13) a8_tellTo_80 cv8_55 (E8_tell hw13) rfl (fun o14 => ?_)
                  refine g_iinc (v := (x2 + 1)) (L' := [some (.inr (.inr (8, k0))), some (.inr (.inr (9, k1))), some (.inl (x2 + 1)), some (.inl (w2.1 8 k0 3))]) a8_tellTo_83 rfl rfl (Nat.le_of_ble_eq_true rfl) rfl rfl ?_
                  refine g_goto (tgt := 7) a8_tellTo_86 rfl ?_
                  exact g_weak (lE8_tellTo_7 (V := V) (S := S)  k0 k1 n _ _ h K1 K2) ⟨rfl, rfl, rfl, trivial⟩
                · have h := (if_pos c15).symm.trans h
                  refine g_bipush (v := (-10)) a8_tellTo_69 rfl ?_
                  refine g_aload_n a8_tellTo_71 rfl ?_
                  refine g_getf (v := .inl (w11.2.1 8 k0 4)) a8_tellTo_72 fs8_52 rfl ?_
                  refine g_isub a8_tellTo_75 ?_
                  have h := Option.some.inj h
                  subst h
                  obtain ⟨hV, hS⟩ := K2 _ rfl
                  subst hV; subst hS
                  exact g_retE a8_tellTo_76 trivial rfl rfl
          clear h
          refine g_if_ne (tgt := 46) a8_tellTo_39 rfl (fun c6 => ?_) (fun c6 => ?_)
          · have hw4 := (if_neg c6).symm.trans hw4
            refine g_iconst (v := 0) a8_tellTo_46 rfl ?_
            subst hw4
            exact J5
          · have hw4 := (if_pos c6).symm.trans hw4
            refine g_iconst (v := 1) a8_tellTo_42 rfl ?_
            refine g_goto (tgt := 47) a8_tellTo_43 rfl ?_
            subst hw4
            exact J5
        · have h := (if_neg c18).symm.trans h
          refine g_iload_n a8_tellTo_29 rfl ?_
          have h := Option.some.inj h
          subst h
          obtain ⟨hV, hS⟩ := K2 _ rfl
          subst hV; subst hS
          exact g_retE a8_tellTo_30 trivial rfl rfl
def f8_tellTo (k0 : Nat) (k1 : Nat) (σ : Mem) : Option (Int32 × Mem) :=
  lt (sI σ 8 k0 5 0) fun σ1 =>
  bnd (l8_tellTo_7 k0 k1 2000 0 σ1) fun w35 =>
  sm w35 (fun u36 =>
  some (((-10) - (u36.2.1 8 k0 2)), u36.2)) (fun u36 => some u36)
theorem E8_tellTo {k0 : Nat} {k1 : Nat} {σ : Mem} {w : Int32 × Mem} (h : f8_tellTo k0 k1 σ = some w) : Ev m8_tellTo [.inr (.inr (8, k0)), .inr (.inr (9, k1))] σ (some (.inl w.1) : Option AV) w.2 := by
  unfold f8_tellTo at h
  show Go m8_tellTo 0 [some (.inr (.inr (8, k0))), some (.inr (.inr (9, k1))), none, none] [] σ (some (.inl w.1) : Option AV) w.2
  refine g_aload_n a8_tellTo_0 rfl ?_
  refine g_iconst (v := 0) a8_tellTo_1 rfl ?_
  obtain ⟨σ1, eσ1, h⟩ := lt_inv h
  refine g_puti a8_tellTo_2 fs8_31 ps8_5 (fun _ _ _ => rfl) ?_
  rw [eσ1]
  refine g_iconst (v := 0) a8_tellTo_5 rfl ?_
  refine g_istore_n (L' := [some (.inr (.inr (8, k0))), some (.inr (.inr (9, k1))), some (.inl 0), none]) a8_tellTo_6 (Nat.le_of_ble_eq_true rfl) rfl rfl ?_
  obtain ⟨w35, hw35, h⟩ := bnd_inv h
  rcases w35 with u36 | u36
  · have h := sm_l h
    refine g_weak (lE8_tellTo_7 k0 k1 2000 _ _ hw35 (fun _ e => ?_) (fun _ e => by cases e)) ⟨rfl, rfl, rfl, trivial⟩
    cases e
    refine g_bipush (v := (-10)) a8_tellTo_89 rfl ?_
    refine g_aload_n a8_tellTo_91 rfl ?_
    refine g_getf (v := .inl (u36.2.1 8 k0 2)) a8_tellTo_92 fs8_23 rfl ?_
    refine g_isub a8_tellTo_95 ?_
    have h := Option.some.inj h
    subst h
    exact g_retE a8_tellTo_96 trivial rfl rfl
  · have h := sm_r h
    have h := Option.some.inj h
    subst h
    exact g_weak (lE8_tellTo_7 k0 k1 2000 _ _ hw35 (fun _ e => by cases e) (fun _ e => by cases e; exact ⟨rfl, rfl⟩)) ⟨rfl, rfl, rfl, trivial⟩
theorem a7_takeFrom_0 : At cX7_takeFrom 0 (.aload_n 0) 1 1 := ⟨by decide +kernel, rfl⟩
theorem a7_takeFrom_1 : At cX7_takeFrom 1 (.aload_n 1) 1 2 := ⟨by decide +kernel, rfl⟩
theorem a7_takeFrom_2 : At cX7_takeFrom 2 (.getfield 26) 3 5 := ⟨by decide +kernel, rfl⟩
theorem a7_takeFrom_5 : At cX7_takeFrom 5 (.aload_n 0) 1 6 := ⟨by decide +kernel, rfl⟩
theorem a7_takeFrom_6 : At cX7_takeFrom 6 (.getfield 7) 3 9 := ⟨by decide +kernel, rfl⟩
theorem a7_takeFrom_9 : At cX7_takeFrom 9 (.invokestatic 43) 3 12 := ⟨by decide +kernel, rfl⟩
theorem a7_takeFrom_12 : At cX7_takeFrom 12 (.putfield 26) 3 15 := ⟨by decide +kernel, rfl⟩
theorem a7_takeFrom_15 : At cX7_takeFrom 15 (.iconst 0) 1 16 := ⟨by decide +kernel, rfl⟩
theorem a7_takeFrom_16 : At cX7_takeFrom 16 (.istore_n 2) 1 17 := ⟨by decide +kernel, rfl⟩
theorem a7_takeFrom_17 : At cX7_takeFrom 17 (.iload_n 2) 1 18 := ⟨by decide +kernel, rfl⟩
theorem a7_takeFrom_18 : At cX7_takeFrom 18 (.aload_n 0) 1 19 := ⟨by decide +kernel, rfl⟩
theorem a7_takeFrom_19 : At cX7_takeFrom 19 (.getfield 26) 3 22 := ⟨by decide +kernel, rfl⟩
theorem a7_takeFrom_22 : At cX7_takeFrom 22 (.if_icmp .ge 37) 3 25 := ⟨by decide +kernel, rfl⟩
theorem a7_takeFrom_25 : At cX7_takeFrom 25 (.iconst 0) 1 26 := ⟨by decide +kernel, rfl⟩
theorem a7_takeFrom_26 : At cX7_takeFrom 26 (.istore_n 3) 1 27 := ⟨by decide +kernel, rfl⟩
theorem a7_takeFrom_27 : At cX7_takeFrom 27 (.iload_n 3) 1 28 := ⟨by decide +kernel, rfl⟩
theorem a7_takeFrom_28 : At cX7_takeFrom 28 (.aload_n 0) 1 29 := ⟨by decide +kernel, rfl⟩
theorem a7_takeFrom_29 : At cX7_takeFrom 29 (.getfield 13) 3 32 := ⟨by decide +kernel, rfl⟩
theorem a7_takeFrom_32 : At cX7_takeFrom 32 (.if_icmp .ge 21) 3 35 := ⟨by decide +kernel, rfl⟩
theorem a7_takeFrom_35 : At cX7_takeFrom 35 (.aload_n 0) 1 36 := ⟨by decide +kernel, rfl⟩
theorem a7_takeFrom_36 : At cX7_takeFrom 36 (.iload_n 2) 1 37 := ⟨by decide +kernel, rfl⟩
theorem a7_takeFrom_37 : At cX7_takeFrom 37 (.iload_n 3) 1 38 := ⟨by decide +kernel, rfl⟩
theorem a7_takeFrom_38 : At cX7_takeFrom 38 (.aload_n 1) 1 39 := ⟨by decide +kernel, rfl⟩
theorem a7_takeFrom_39 : At cX7_takeFrom 39 (.iload_n 2) 1 40 := ⟨by decide +kernel, rfl⟩
theorem a7_takeFrom_40 : At cX7_takeFrom 40 (.iload_n 3) 1 41 := ⟨by decide +kernel, rfl⟩
theorem a7_takeFrom_41 : At cX7_takeFrom 41 (.invokevirtual 37) 3 44 := ⟨by decide +kernel, rfl⟩
theorem a7_takeFrom_44 : At cX7_takeFrom 44 (.invokevirtual 33) 3 47 := ⟨by decide +kernel, rfl⟩
theorem a7_takeFrom_47 : At cX7_takeFrom 47 (.iinc 3 1) 3 50 := ⟨by decide +kernel, rfl⟩
theorem a7_takeFrom_50 : At cX7_takeFrom 50 (.goto (-23)) 3 53 := ⟨by decide +kernel, rfl⟩
theorem a7_takeFrom_53 : At cX7_takeFrom 53 (.iinc 2 1) 3 56 := ⟨by decide +kernel, rfl⟩
theorem a7_takeFrom_56 : At cX7_takeFrom 56 (.goto (-39)) 3 59 := ⟨by decide +kernel, rfl⟩
theorem a7_takeFrom_59 : At cX7_takeFrom 59 (.return_) 1 60 := ⟨by decide +kernel, rfl⟩
def l7_takeFrom_27 (k0 : Nat) (k1 : Nat) (x2 : Int32) : Nat → Int32 → Mem → Option (Int32 × Mem)
  | 0, _, _ => none
  | n + 1, x3, σ =>
  if (σ.1 7 k0 1) ≤ x3 then
  (some (x3, σ))
  else
  (bnd (f7_at k1 x2 x3 σ) fun w2 =>
  bnd (f7_put k0 x2 x3 w2 σ) fun w4 =>
  l7_takeFrom_27 k0 k1 x2 n (x3 + 1) w4)
theorem lE7_takeFrom_27 {V : Option AV} {S : Mem} (k0 : Nat) (k1 : Nat) (x2 : Int32) : ∀ (n : Nat) (x3 : Int32) (σ : Mem) {w : Int32 × Mem}, l7_takeFrom_27 k0 k1 x2 n x3 σ = some w → (Go m7_takeFrom 53 [some (.inr (.inr (7, k0))), some (.inr (.inr (7, k1))), some (.inl x2), some (.inl w.1)] [] w.2 V S) → Go m7_takeFrom 27 [some (.inr (.inr (7, k0))), some (.inr (.inr (7, k1))), some (.inl x2), some (.inl x3)] [] σ V S
  | 0, x3, σ, w, h, K1 => by cases h
  | n + 1, x3, σ, w, h, K1 => by
    rw [l7_takeFrom_27] at h
    refine g_iload_n a7_takeFrom_27 rfl ?_
    refine g_aload_n a7_takeFrom_28 rfl ?_
    refine g_getf (v := .inl (σ.1 7 k0 1)) a7_takeFrom_29 fs7_13 rfl ?_
    refine g_icmp_ge (tgt := 53) a7_takeFrom_32 rfl (fun c6 => ?_) (fun c6 => ?_)
    · have h := (if_pos c6).symm.trans h
      have h := Option.some.inj h
      subst h
      exact g_weak K1 ⟨rfl, rfl, rfl, rfl, trivial⟩
    · have h := (if_neg c6).symm.trans h
      refine g_aload_n a7_takeFrom_35 rfl ?_
      refine g_iload_n a7_takeFrom_36 rfl ?_
      refine g_iload_n a7_takeFrom_37 rfl ?_
      refine g_aload_n a7_takeFrom_38 rfl ?_
      refine g_iload_n a7_takeFrom_39 rfl ?_
      refine g_iload_n a7_takeFrom_40 rfl ?_
      obtain ⟨w2, hw2, h⟩ := bnd_inv h
      refine g_V2s (v1 := .inl w2) (σ1 := σ) a7_takeFrom_41 cv7_37 (E7_at hw2) rfl (fun o3 => ?_)
      obtain ⟨w4, hw4, h⟩ := bnd_inv h
      refine g_V3n (σ1 := w4) a7_takeFrom_44 cv7_33 (E7_put hw4) rfl (fun o5 => ?_)
      refine g_iinc (v := (x3 + 1)) (L' := [some (.inr (.inr (7, k0))), some (.inr (.inr (7, k1))), some (.inl x2), some (.inl (x3 + 1))]) a7_takeFrom_47 rfl rfl (Nat.le_of_ble_eq_true rfl) rfl rfl ?_
      refine g_goto (tgt := 27) a7_takeFrom_50 rfl ?_
      exact g_weak (lE7_takeFrom_27 (V := V) (S := S)  k0 k1 x2 n _ _ h K1) ⟨rfl, rfl, rfl, rfl, trivial⟩
def l7_takeFrom_17 (k0 : Nat) (k1 : Nat) : Nat → Int32 → Mem → Option (Int32 × Mem)
  | 0, _, _ => none
  | n + 1, x2, σ =>
  if (σ.1 7 k0 3) ≤ x2 then
  (some (x2, σ))
  else
  (bnd (l7_takeFrom_27 k0 k1 x2 2000 0 σ) fun w7 =>
  l7_takeFrom_17 k0 k1 n (x2 + 1) w7.2)
theorem lE7_takeFrom_17 {V : Option AV} {S : Mem} (k0 : Nat) (k1 : Nat) : ∀ (n : Nat) (x2 : Int32) (σ : Mem) {w : Int32 × Mem}, l7_takeFrom_17 k0 k1 n x2 σ = some w → (Go m7_takeFrom 59 [some (.inr (.inr (7, k0))), some (.inr (.inr (7, k1))), some (.inl w.1), none] [] w.2 V S) → Go m7_takeFrom 17 [some (.inr (.inr (7, k0))), some (.inr (.inr (7, k1))), some (.inl x2), none] [] σ V S
  | 0, x2, σ, w, h, K1 => by cases h
  | n + 1, x2, σ, w, h, K1 => by
    rw [l7_takeFrom_17] at h
    refine g_iload_n a7_takeFrom_17 rfl ?_
    refine g_aload_n a7_takeFrom_18 rfl ?_
    refine g_getf (v := .inl (σ.1 7 k0 3)) a7_takeFrom_19 fs7_26 rfl ?_
    refine g_icmp_ge (tgt := 59) a7_takeFrom_22 rfl (fun c8 => ?_) (fun c8 => ?_)
    · have h := (if_pos c8).symm.trans h
      have h := Option.some.inj h
      subst h
      exact g_weak K1 ⟨rfl, rfl, rfl, trivial⟩
    · have h := (if_neg c8).symm.trans h
      refine g_iconst (v := 0) a7_takeFrom_25 rfl ?_
      refine g_istore_n (L' := [some (.inr (.inr (7, k0))), some (.inr (.inr (7, k1))), some (.inl x2), some (.inl 0)]) a7_takeFrom_26 (Nat.le_of_ble_eq_true rfl) rfl rfl ?_
      obtain ⟨w7, hw7, h⟩ := bnd_inv h
      refine g_weak (lE7_takeFrom_27 k0 k1 x2 2000 _ _ hw7 ?_) ⟨rfl, rfl, rfl, rfl, trivial⟩
      refine g_iinc (v := (x2 + 1)) (L' := [some (.inr (.inr (7, k0))), some (.inr (.inr (7, k1))), some (.inl (x2 + 1)), some (.inl w7.1)]) a7_takeFrom_53 rfl rfl (Nat.le_of_ble_eq_true rfl) rfl rfl ?_
      refine g_goto (tgt := 17) a7_takeFrom_56 rfl ?_
      exact g_weak (lE7_takeFrom_17 (V := V) (S := S)  k0 k1 n _ _ h K1) ⟨rfl, rfl, rfl, trivial⟩
def f7_takeFrom (k0 : Nat) (k1 : Nat) (σ : Mem) : Option (Mem) :=
  lt (sI σ 7 k0 3 (mnI (σ.1 7 k1 3) (σ.1 7 k0 0))) fun σ1 =>
  bnd (l7_takeFrom_17 k0 k1 2000 0 σ1) fun w9 =>
  some w9.2
theorem E7_takeFrom {k0 : Nat} {k1 : Nat} {σ : Mem} {w : Mem} (h : f7_takeFrom k0 k1 σ = some w) : Ev m7_takeFrom [.inr (.inr (7, k0)), .inr (.inr (7, k1))] σ none w := by
  unfold f7_takeFrom at h
  show Go m7_takeFrom 0 [some (.inr (.inr (7, k0))), some (.inr (.inr (7, k1))), none, none] [] σ none w
  refine g_aload_n a7_takeFrom_0 rfl ?_
  refine g_aload_n a7_takeFrom_1 rfl ?_
  refine g_getf (v := .inl (σ.1 7 k1 3)) a7_takeFrom_2 fs7_26 rfl ?_
  refine g_aload_n a7_takeFrom_5 rfl ?_
  refine g_getf (v := .inl (σ.1 7 k0 0)) a7_takeFrom_6 fs7_7 rfl ?_
  refine g_min a7_takeFrom_9 cm7_43 rfl ?_
  obtain ⟨σ1, eσ1, h⟩ := lt_inv h
  refine g_puti a7_takeFrom_12 fs7_26 ps7_3 (fun _ _ _ => rfl) ?_
  rw [eσ1]
  refine g_iconst (v := 0) a7_takeFrom_15 rfl ?_
  refine g_istore_n (L' := [some (.inr (.inr (7, k0))), some (.inr (.inr (7, k1))), some (.inl 0), none]) a7_takeFrom_16 (Nat.le_of_ble_eq_true rfl) rfl rfl ?_
  obtain ⟨w9, hw9, h⟩ := bnd_inv h
  refine g_weak (lE7_takeFrom_17 k0 k1 2000 _ _ hw9 ?_) ⟨rfl, rfl, rfl, trivial⟩
  have h := Option.some.inj h
  subst h
  exact g_retE a7_takeFrom_59 trivial rfl rfl
theorem a4_takeFrom_0 : At cX4_takeFrom 0 (.aload_n 0) 1 1 := ⟨by decide +kernel, rfl⟩
theorem a4_takeFrom_1 : At cX4_takeFrom 1 (.aload_n 1) 1 2 := ⟨by decide +kernel, rfl⟩
theorem a4_takeFrom_2 : At cX4_takeFrom 2 (.getfield 7) 3 5 := ⟨by decide +kernel, rfl⟩
theorem a4_takeFrom_5 : At cX4_takeFrom 5 (.aload_n 1) 1 6 := ⟨by decide +kernel, rfl⟩
theorem a4_takeFrom_6 : At cX4_takeFrom 6 (.getfield 13) 3 9 := ⟨by decide +kernel, rfl⟩
theorem a4_takeFrom_9 : At cX4_takeFrom 9 (.aload_n 1) 1 10 := ⟨by decide +kernel, rfl⟩
theorem a4_takeFrom_10 : At cX4_takeFrom 10 (.getfield 16) 3 13 := ⟨by decide +kernel, rfl⟩
theorem a4_takeFrom_13 : At cX4_takeFrom 13 (.aload_n 1) 1 14 := ⟨by decide +kernel, rfl⟩
theorem a4_takeFrom_14 : At cX4_takeFrom 14 (.getfield 19) 3 17 := ⟨by decide +kernel, rfl⟩
theorem a4_takeFrom_17 : At cX4_takeFrom 17 (.invokevirtual 22) 3 20 := ⟨by decide +kernel, rfl⟩
theorem a4_takeFrom_20 : At cX4_takeFrom 20 (.return_) 1 21 := ⟨by decide +kernel, rfl⟩
def f4_takeFrom (k0 : Nat) (k1 : Nat) (σ : Mem) : Mem :=
  lt (f4_set k0 (σ.1 4 k1 0) (σ.1 4 k1 1) (σ.1 4 k1 2) (σ.1 4 k1 3) σ) fun w1 =>
  w1
theorem E4_takeFrom (k0 : Nat) (k1 : Nat) (σ : Mem) : Ev m4_takeFrom [.inr (.inr (4, k0)), .inr (.inr (4, k1))] σ none (f4_takeFrom k0 k1 σ) := by
  obtain ⟨w, h⟩ : ∃ w, f4_takeFrom k0 k1 σ = w := ⟨_, rfl⟩
  rw [h]
  unfold f4_takeFrom at h
  show Go m4_takeFrom 0 [some (.inr (.inr (4, k0))), some (.inr (.inr (4, k1)))] [] σ none w
  refine g_aload_n a4_takeFrom_0 rfl ?_
  refine g_aload_n a4_takeFrom_1 rfl ?_
  refine g_getf (v := .inl (σ.1 4 k1 0)) a4_takeFrom_2 fs4_7 rfl ?_
  refine g_aload_n a4_takeFrom_5 rfl ?_
  refine g_getf (v := .inl (σ.1 4 k1 1)) a4_takeFrom_6 fs4_13 rfl ?_
  refine g_aload_n a4_takeFrom_9 rfl ?_
  refine g_getf (v := .inl (σ.1 4 k1 2)) a4_takeFrom_10 fs4_16 rfl ?_
  refine g_aload_n a4_takeFrom_13 rfl ?_
  refine g_getf (v := .inl (σ.1 4 k1 3)) a4_takeFrom_14 fs4_19 rfl ?_
  obtain ⟨w1, hw1, h⟩ := lt_inv h
  refine g_V4n (σ1 := w1) a4_takeFrom_17 cv4_22 (by rw [← hw1]; exact E4_set _ _ _ _ _ _) rfl (fun o2 => ?_)
  subst h
  exact g_retE a4_takeFrom_20 trivial rfl rfl
theorem a9_takeFrom_0 : At cX9_takeFrom 0 (.aload_n 0) 1 1 := ⟨by decide +kernel, rfl⟩
theorem a9_takeFrom_1 : At cX9_takeFrom 1 (.getfield 14) 3 4 := ⟨by decide +kernel, rfl⟩
theorem a9_takeFrom_4 : At cX9_takeFrom 4 (.aload_n 1) 1 5 := ⟨by decide +kernel, rfl⟩
theorem a9_takeFrom_5 : At cX9_takeFrom 5 (.getfield 14) 3 8 := ⟨by decide +kernel, rfl⟩
theorem a9_takeFrom_8 : At cX9_takeFrom 8 (.invokevirtual 59) 3 11 := ⟨by decide +kernel, rfl⟩
theorem a9_takeFrom_11 : At cX9_takeFrom 11 (.aload_n 0) 1 12 := ⟨by decide +kernel, rfl⟩
theorem a9_takeFrom_12 : At cX9_takeFrom 12 (.getfield 20) 3 15 := ⟨by decide +kernel, rfl⟩
theorem a9_takeFrom_15 : At cX9_takeFrom 15 (.aload_n 1) 1 16 := ⟨by decide +kernel, rfl⟩
theorem a9_takeFrom_16 : At cX9_takeFrom 16 (.getfield 20) 3 19 := ⟨by decide +kernel, rfl⟩
theorem a9_takeFrom_19 : At cX9_takeFrom 19 (.invokevirtual 59) 3 22 := ⟨by decide +kernel, rfl⟩
theorem a9_takeFrom_22 : At cX9_takeFrom 22 (.aload_n 0) 1 23 := ⟨by decide +kernel, rfl⟩
theorem a9_takeFrom_23 : At cX9_takeFrom 23 (.getfield 23) 3 26 := ⟨by decide +kernel, rfl⟩
theorem a9_takeFrom_26 : At cX9_takeFrom 26 (.aload_n 1) 1 27 := ⟨by decide +kernel, rfl⟩
theorem a9_takeFrom_27 : At cX9_takeFrom 27 (.getfield 23) 3 30 := ⟨by decide +kernel, rfl⟩
theorem a9_takeFrom_30 : At cX9_takeFrom 30 (.invokevirtual 59) 3 33 := ⟨by decide +kernel, rfl⟩
theorem a9_takeFrom_33 : At cX9_takeFrom 33 (.aload_n 0) 1 34 := ⟨by decide +kernel, rfl⟩
theorem a9_takeFrom_34 : At cX9_takeFrom 34 (.getfield 26) 3 37 := ⟨by decide +kernel, rfl⟩
theorem a9_takeFrom_37 : At cX9_takeFrom 37 (.aload_n 1) 1 38 := ⟨by decide +kernel, rfl⟩
theorem a9_takeFrom_38 : At cX9_takeFrom 38 (.getfield 26) 3 41 := ⟨by decide +kernel, rfl⟩
theorem a9_takeFrom_41 : At cX9_takeFrom 41 (.invokevirtual 59) 3 44 := ⟨by decide +kernel, rfl⟩
theorem a9_takeFrom_44 : At cX9_takeFrom 44 (.aload_n 0) 1 45 := ⟨by decide +kernel, rfl⟩
theorem a9_takeFrom_45 : At cX9_takeFrom 45 (.getfield 29) 3 48 := ⟨by decide +kernel, rfl⟩
theorem a9_takeFrom_48 : At cX9_takeFrom 48 (.aload_n 1) 1 49 := ⟨by decide +kernel, rfl⟩
theorem a9_takeFrom_49 : At cX9_takeFrom 49 (.getfield 29) 3 52 := ⟨by decide +kernel, rfl⟩
theorem a9_takeFrom_52 : At cX9_takeFrom 52 (.invokevirtual 59) 3 55 := ⟨by decide +kernel, rfl⟩
theorem a9_takeFrom_55 : At cX9_takeFrom 55 (.aload_n 0) 1 56 := ⟨by decide +kernel, rfl⟩
theorem a9_takeFrom_56 : At cX9_takeFrom 56 (.getfield 32) 3 59 := ⟨by decide +kernel, rfl⟩
theorem a9_takeFrom_59 : At cX9_takeFrom 59 (.aload_n 1) 1 60 := ⟨by decide +kernel, rfl⟩
theorem a9_takeFrom_60 : At cX9_takeFrom 60 (.getfield 32) 3 63 := ⟨by decide +kernel, rfl⟩
theorem a9_takeFrom_63 : At cX9_takeFrom 63 (.invokevirtual 59) 3 66 := ⟨by decide +kernel, rfl⟩
theorem a9_takeFrom_66 : At cX9_takeFrom 66 (.aload_n 0) 1 67 := ⟨by decide +kernel, rfl⟩
theorem a9_takeFrom_67 : At cX9_takeFrom 67 (.getfield 35) 3 70 := ⟨by decide +kernel, rfl⟩
theorem a9_takeFrom_70 : At cX9_takeFrom 70 (.aload_n 1) 1 71 := ⟨by decide +kernel, rfl⟩
theorem a9_takeFrom_71 : At cX9_takeFrom 71 (.getfield 35) 3 74 := ⟨by decide +kernel, rfl⟩
theorem a9_takeFrom_74 : At cX9_takeFrom 74 (.invokevirtual 59) 3 77 := ⟨by decide +kernel, rfl⟩
theorem a9_takeFrom_77 : At cX9_takeFrom 77 (.aload_n 0) 1 78 := ⟨by decide +kernel, rfl⟩
theorem a9_takeFrom_78 : At cX9_takeFrom 78 (.getfield 41) 3 81 := ⟨by decide +kernel, rfl⟩
theorem a9_takeFrom_81 : At cX9_takeFrom 81 (.aload_n 1) 1 82 := ⟨by decide +kernel, rfl⟩
theorem a9_takeFrom_82 : At cX9_takeFrom 82 (.getfield 41) 3 85 := ⟨by decide +kernel, rfl⟩
theorem a9_takeFrom_85 : At cX9_takeFrom 85 (.invokevirtual 63) 3 88 := ⟨by decide +kernel, rfl⟩
theorem a9_takeFrom_88 : At cX9_takeFrom 88 (.return_) 1 89 := ⟨by decide +kernel, rfl⟩
def f9_takeFrom (k0 : Nat) (k1 : Nat) (σ : Mem) : Option (Mem) :=
  bnd (f7_takeFrom (7 * k0) (7 * k1) σ) fun w1 =>
  bnd (f7_takeFrom (7 * k0 + 1) (7 * k1 + 1) w1) fun w3 =>
  bnd (f7_takeFrom (7 * k0 + 2) (7 * k1 + 2) w3) fun w5 =>
  bnd (f7_takeFrom (7 * k0 + 3) (7 * k1 + 3) w5) fun w7 =>
  bnd (f7_takeFrom (7 * k0 + 4) (7 * k1 + 4) w7) fun w9 =>
  bnd (f7_takeFrom (7 * k0 + 5) (7 * k1 + 5) w9) fun w11 =>
  bnd (f7_takeFrom (7 * k0 + 6) (7 * k1 + 6) w11) fun w13 =>
  lt (f4_takeFrom k0 k1 w13) fun w15 =>
  some w15
theorem E9_takeFrom {k0 : Nat} {k1 : Nat} {σ : Mem} {w : Mem} (h : f9_takeFrom k0 k1 σ = some w) : Ev m9_takeFrom [.inr (.inr (9, k0)), .inr (.inr (9, k1))] σ none w := by
  unfold f9_takeFrom at h
  show Go m9_takeFrom 0 [some (.inr (.inr (9, k0))), some (.inr (.inr (9, k1)))] [] σ none w
  refine g_aload_n a9_takeFrom_0 rfl ?_
  refine g_getf (v := .inr (.inr (7, (7 * k0)))) a9_takeFrom_1 fs9_14 rfl ?_
  refine g_aload_n a9_takeFrom_4 rfl ?_
  refine g_getf (v := .inr (.inr (7, (7 * k1)))) a9_takeFrom_5 fs9_14 rfl ?_
  obtain ⟨w1, hw1, h⟩ := bnd_inv h
  refine g_V1n (σ1 := w1) a9_takeFrom_8 cv9_59 (E7_takeFrom hw1) rfl (fun o2 => ?_)
  refine g_aload_n a9_takeFrom_11 rfl ?_
  refine g_getf (v := .inr (.inr (7, (7 * k0 + 1)))) a9_takeFrom_12 fs9_20 rfl ?_
  refine g_aload_n a9_takeFrom_15 rfl ?_
  refine g_getf (v := .inr (.inr (7, (7 * k1 + 1)))) a9_takeFrom_16 fs9_20 rfl ?_
  obtain ⟨w3, hw3, h⟩ := bnd_inv h
  refine g_V1n (σ1 := w3) a9_takeFrom_19 cv9_59 (E7_takeFrom hw3) rfl (fun o4 => ?_)
  refine g_aload_n a9_takeFrom_22 rfl ?_
  refine g_getf (v := .inr (.inr (7, (7 * k0 + 2)))) a9_takeFrom_23 fs9_23 rfl ?_
  refine g_aload_n a9_takeFrom_26 rfl ?_
  refine g_getf (v := .inr (.inr (7, (7 * k1 + 2)))) a9_takeFrom_27 fs9_23 rfl ?_
  obtain ⟨w5, hw5, h⟩ := bnd_inv h
  refine g_V1n (σ1 := w5) a9_takeFrom_30 cv9_59 (E7_takeFrom hw5) rfl (fun o6 => ?_)
  refine g_aload_n a9_takeFrom_33 rfl ?_
  refine g_getf (v := .inr (.inr (7, (7 * k0 + 3)))) a9_takeFrom_34 fs9_26 rfl ?_
  refine g_aload_n a9_takeFrom_37 rfl ?_
  refine g_getf (v := .inr (.inr (7, (7 * k1 + 3)))) a9_takeFrom_38 fs9_26 rfl ?_
  obtain ⟨w7, hw7, h⟩ := bnd_inv h
  refine g_V1n (σ1 := w7) a9_takeFrom_41 cv9_59 (E7_takeFrom hw7) rfl (fun o8 => ?_)
  refine g_aload_n a9_takeFrom_44 rfl ?_
  refine g_getf (v := .inr (.inr (7, (7 * k0 + 4)))) a9_takeFrom_45 fs9_29 rfl ?_
  refine g_aload_n a9_takeFrom_48 rfl ?_
  refine g_getf (v := .inr (.inr (7, (7 * k1 + 4)))) a9_takeFrom_49 fs9_29 rfl ?_
  obtain ⟨w9, hw9, h⟩ := bnd_inv h
  refine g_V1n (σ1 := w9) a9_takeFrom_52 cv9_59 (E7_takeFrom hw9) rfl (fun o10 => ?_)
  refine g_aload_n a9_takeFrom_55 rfl ?_
  refine g_getf (v := .inr (.inr (7, (7 * k0 + 5)))) a9_takeFrom_56 fs9_32 rfl ?_
  refine g_aload_n a9_takeFrom_59 rfl ?_
  refine g_getf (v := .inr (.inr (7, (7 * k1 + 5)))) a9_takeFrom_60 fs9_32 rfl ?_
  obtain ⟨w11, hw11, h⟩ := bnd_inv h
  refine g_V1n (σ1 := w11) a9_takeFrom_63 cv9_59 (E7_takeFrom hw11) rfl (fun o12 => ?_)
  refine g_aload_n a9_takeFrom_66 rfl ?_
  refine g_getf (v := .inr (.inr (7, (7 * k0 + 6)))) a9_takeFrom_67 fs9_35 rfl ?_
  refine g_aload_n a9_takeFrom_70 rfl ?_
  refine g_getf (v := .inr (.inr (7, (7 * k1 + 6)))) a9_takeFrom_71 fs9_35 rfl ?_
  obtain ⟨w13, hw13, h⟩ := bnd_inv h
  refine g_V1n (σ1 := w13) a9_takeFrom_74 cv9_59 (E7_takeFrom hw13) rfl (fun o14 => ?_)
  refine g_aload_n a9_takeFrom_77 rfl ?_
  refine g_getf (v := .inr (.inr (4, k0))) a9_takeFrom_78 fs9_41 rfl ?_
  refine g_aload_n a9_takeFrom_81 rfl ?_
  refine g_getf (v := .inr (.inr (4, k1))) a9_takeFrom_82 fs9_41 rfl ?_
  obtain ⟨w15, hw15, h⟩ := lt_inv h
  refine g_V1n (σ1 := w15) a9_takeFrom_85 cv9_63 (by rw [← hw15]; exact E4_takeFrom _ _ _) rfl (fun o16 => ?_)
  have h := Option.some.inj h
  subst h
  exact g_retE a9_takeFrom_88 trivial rfl rfl
