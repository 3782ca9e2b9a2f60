theorem a11_begin_0 : At cX11_begin 0 (.iconst 0) 1 1 := ⟨by decide +kernel, rfl⟩
theorem a11_begin_1 : At cX11_begin 1 (.istore_n 1) 1 2 := ⟨by decide +kernel, rfl⟩
theorem a11_begin_2 : At cX11_begin 2 (.iload_n 1) 1 3 := ⟨by decide +kernel, rfl⟩
theorem a11_begin_3 : At cX11_begin 3 (.bipush 110) 2 5 := ⟨by decide +kernel, rfl⟩
theorem a11_begin_5 : At cX11_begin 5 (.if_icmp .ge 13) 3 8 := ⟨by decide +kernel, rfl⟩
theorem a11_begin_8 : At cX11_begin 8 (.aload_n 0) 1 9 := ⟨by decide +kernel, rfl⟩
theorem a11_begin_9 : At cX11_begin 9 (.iload_n 1) 1 10 := ⟨by decide +kernel, rfl⟩
theorem a11_begin_10 : At cX11_begin 10 (.iconst 0) 1 11 := ⟨by decide +kernel, rfl⟩
theorem a11_begin_11 : At cX11_begin 11 (.iastore) 1 12 := ⟨by decide +kernel, rfl⟩
theorem a11_begin_12 : At cX11_begin 12 (.iinc 1 1) 3 15 := ⟨by decide +kernel, rfl⟩
theorem a11_begin_15 : At cX11_begin 15 (.goto (-13)) 3 18 := ⟨by decide +kernel, rfl⟩
theorem a11_begin_18 : At cX11_begin 18 (.return_) 1 19 := ⟨by decide +kernel, rfl⟩
def l11_begin_2 (k0 : Nat) : Nat → Int32 → Mem → Option (Int32 × Mem)
  | 0, _, _ => none
  | n + 1, x1, σ =>
  if 110 ≤ x1 then
  (some (x1, σ))
  else
  (ck (decide (¬ k0 = 2)) <|
  ck (inb x1 (alen 22 k0)) <|
  lt (sI σ 22 k0 (x1 : Int32).toNatClampNeg 0) fun σ3 =>
  l11_begin_2 k0 n (x1 + 1) σ3)
theorem lE11_begin_2 {V : Option AV} {S : Mem} (k0 : Nat) : ∀ (n : Nat) (x1 : Int32) (σ : Mem) {w : Int32 × Mem}, l11_begin_2 k0 n x1 σ = some w → (Go m11_begin 18 [some (.inr (.inr (22, k0))), some (.inl w.1)] [] w.2 V S) → Go m11_begin 2 [some (.inr (.inr (22, k0))), some (.inl x1)] [] σ V S
  | 0, x1, σ, w, h, K1 => by cases h
  | n + 1, x1, σ, w, h, K1 => by
    rw [l11_begin_2] at h
    refine g_iload_n a11_begin_2 rfl ?_
    refine g_bipush (v := 110) a11_begin_3 rfl ?_
    refine g_icmp_ge (tgt := 18) a11_begin_5 rfl (fun c4 => ?_) (fun c4 => ?_)
    · have h := (if_pos c4).symm.trans h
      have h := Option.some.inj h
      subst h
      exact g_weak K1 ⟨rfl, rfl, trivial⟩
    · have h := (if_neg c4).symm.trans h
      refine g_aload_n a11_begin_8 rfl ?_
      refine g_iload_n a11_begin_9 rfl ?_
      refine g_iconst (v := 0) a11_begin_10 rfl ?_
      obtain ⟨q1, h⟩ := ck_inv h
      obtain ⟨q2, h⟩ := ck_inv h
      obtain ⟨σ3, eσ3, h⟩ := lt_inv h
      refine g_iast (j := (x1 : Int32).toNatClampNeg) a11_begin_11 (rI22 (of_decide_eq_true q1)) (inb_ok q2) rfl ?_
      rw [eσ3]
      refine g_iinc (v := (x1 + 1)) (L' := [some (.inr (.inr (22, k0))), some (.inl (x1 + 1))]) a11_begin_12 rfl rfl (Nat.le_of_ble_eq_true rfl) rfl rfl ?_
      refine g_goto (tgt := 2) a11_begin_15 rfl ?_
      exact g_weak (lE11_begin_2 (V := V) (S := S)  k0 n _ _ h K1) ⟨rfl, rfl, trivial⟩
def f11_begin (k0 : Nat) (σ : Mem) : Option (Mem) :=
  bnd (l11_begin_2 k0 2000 0 σ) fun w5 =>
  some w5.2
theorem E11_begin {k0 : Nat} {σ : Mem} {w : Mem} (h : f11_begin k0 σ = some w) : Ev m11_begin [.inr (.inr (22, k0))] σ none w := by
  unfold f11_begin at h
  show Go m11_begin 0 [some (.inr (.inr (22, k0))), none] [] σ none w
  refine g_iconst (v := 0) a11_begin_0 rfl ?_
  refine g_istore_n (L' := [some (.inr (.inr (22, k0))), some (.inl 0)]) a11_begin_1 (Nat.le_of_ble_eq_true rfl) rfl rfl ?_
  obtain ⟨w5, hw5, h⟩ := bnd_inv h
  refine g_weak (lE11_begin_2 k0 2000 _ _ hw5 ?_) ⟨rfl, rfl, trivial⟩
  have h := Option.some.inj h
  subst h
  exact g_retE a11_begin_18 trivial rfl rfl
theorem a11_many_0 : At cX11_many 0 (.aload_n 0) 1 1 := ⟨by decide +kernel, rfl⟩
theorem a11_many_1 : At cX11_many 1 (.getfield 7) 3 4 := ⟨by decide +kernel, rfl⟩
theorem a11_many_4 : At cX11_many 4 (.iconst 0) 1 5 := ⟨by decide +kernel, rfl⟩
theorem a11_many_5 : At cX11_many 5 (.iaload) 1 6 := ⟨by decide +kernel, rfl⟩
theorem a11_many_6 : At cX11_many 6 (.ireturn) 1 7 := ⟨by decide +kernel, rfl⟩
def f11_many (k0 : Nat) (σ : Mem) : Int32 :=
  (σ.1 22 0 0)
theorem E11_many (k0 : Nat) (σ : Mem) : Ev m11_many [.inr (.inr (11, k0))] σ (some (.inl (f11_many k0 σ)) : Option AV) σ := by
  obtain ⟨w, h⟩ : ∃ w, f11_many k0 σ = w := ⟨_, rfl⟩
  rw [h]
  unfold f11_many at h
  show Go m11_many 0 [some (.inr (.inr (11, k0)))] [] σ (some (.inl w) : Option AV) σ
  refine g_aload_n a11_many_0 rfl ?_
  refine g_getf (v := .inr (.inr (22, 0))) a11_many_1 fs11_7 rfl ?_
  refine g_iconst (v := 0) a11_many_4 rfl ?_
  refine g_iald (x := (σ.1 22 0 0)) a11_many_5 (rI22 (by decide)) (inb_ok (by decide)) rfl ?_
  subst h
  exact g_retE a11_many_6 trivial rfl rfl
theorem a11_village_0 : At cX11_village 0 (.aload_n 0) 1 1 := ⟨by decide +kernel, rfl⟩
theorem a11_village_1 : At cX11_village 1 (.invokevirtual 55) 3 4 := ⟨by decide +kernel, rfl⟩
theorem a11_village_4 : At cX11_village 4 (.istore_n 1) 1 5 := ⟨by decide +kernel, rfl⟩
theorem a11_village_5 : At cX11_village 5 (.aload_n 0) 1 6 := ⟨by decide +kernel, rfl⟩
theorem a11_village_6 : At cX11_village 6 (.getfield 7) 3 9 := ⟨by decide +kernel, rfl⟩
theorem a11_village_9 : At cX11_village 9 (.invokestatic 51) 3 12 := ⟨by decide +kernel, rfl⟩
theorem a11_village_12 : At cX11_village 12 (.iload_n 1) 1 13 := ⟨by decide +kernel, rfl⟩
theorem a11_village_13 : At cX11_village 13 (.ireturn) 1 14 := ⟨by decide +kernel, rfl⟩
def f11_village (k0 : Nat) (σ : Mem) : Option (Int32 × Mem) :=
  bnd (f11_begin 0 σ) fun w2 =>
  some ((f11_many k0 σ), w2)
theorem E11_village {k0 : Nat} {σ : Mem} {w : Int32 × Mem} (h : f11_village k0 σ = some w) : Ev m11_village [.inr (.inr (11, k0))] σ (some (.inl w.1) : Option AV) w.2 := by
  unfold f11_village at h
  show Go m11_village 0 [some (.inr (.inr (11, k0))), none] [] σ (some (.inl w.1) : Option AV) w.2
  refine g_aload_n a11_village_0 rfl ?_
  refine g_V0s (v1 := .inl (f11_many k0 σ)) (σ1 := σ) a11_village_1 cv11_55 (E11_many _ _) rfl (fun o1 => ?_)
  refine g_istore_n (L' := [some (.inr (.inr (11, k0))), some (.inl (f11_many k0 σ))]) a11_village_4 (Nat.le_of_ble_eq_true rfl) rfl rfl ?_
  refine g_aload_n a11_village_5 rfl ?_
  refine g_getf (v := .inr (.inr (22, 0))) a11_village_6 fs11_7 rfl ?_
  obtain ⟨w2, hw2, h⟩ := bnd_inv h
  refine g_S1n (σ1 := w2) a11_village_9 cs11_51 (E11_begin hw2) rfl (fun o3 => ?_)
  refine g_iload_n a11_village_12 rfl ?_
  have h := Option.some.inj h
  subst h
  exact g_retE a11_village_13 trivial rfl rfl
theorem a11_in_0 : At cX11_in 0 (.lload_n 0) 1 1 := ⟨by decide +kernel, rfl⟩
theorem a11_in_1 : At cX11_in 1 (.lload_n 2) 1 2 := ⟨by decide +kernel, rfl⟩
theorem a11_in_2 : At cX11_in 2 (.lcmp) 1 3 := ⟨by decide +kernel, rfl⟩
theorem a11_in_3 : At cX11_in 3 (.ifCond .lt 14) 3 6 := ⟨by decide +kernel, rfl⟩
theorem a11_in_6 : At cX11_in 6 (.lload_n 0) 1 7 := ⟨by decide +kernel, rfl⟩
theorem a11_in_7 : At cX11_in 7 (.lload 4) 2 9 := ⟨by decide +kernel, rfl⟩
theorem a11_in_9 : At cX11_in 9 (.lcmp) 1 10 := ⟨by decide +kernel, rfl⟩
theorem a11_in_10 : At cX11_in 10 (.ifCond .gt 7) 3 13 := ⟨by decide +kernel, rfl⟩
theorem a11_in_13 : At cX11_in 13 (.iconst 1) 1 14 := ⟨by decide +kernel, rfl⟩
theorem a11_in_14 : At cX11_in 14 (.goto 4) 3 17 := ⟨by decide +kernel, rfl⟩
theorem a11_in_17 : At cX11_in 17 (.iconst 0) 1 18 := ⟨by decide +kernel, rfl⟩
theorem a11_in_18 : At cX11_in 18 (.ireturn) 1 19 := ⟨by decide +kernel, rfl⟩
def f11_in (x0 : Int64) (x2 : Int64) (x4 : Int64) : Int32 :=
  if (lg_cmp x0 x2) < 0 then
  (0)
  else
  (if 0 < (lg_cmp x0 x4) then
  (0)
  else
  (1))
theorem E11_in (x0 : Int64) (x2 : Int64) (x4 : Int64) (σ : Mem) : Ev m11_in [.inr (.inl x0), .inr (.inl x2), .inr (.inl x4)] σ (some (.inl (f11_in x0 x2 x4)) : Option AV) σ := by
  obtain ⟨w, h⟩ : ∃ w, f11_in x0 x2 x4 = w := ⟨_, rfl⟩
  rw [h]
  unfold f11_in at h
  show Go m11_in 0 [some (.inr (.inl x0)), none, some (.inr (.inl x2)), none, some (.inr (.inl x4)), none] [] σ (some (.inl w) : Option AV) σ
  refine g_lload_n a11_in_0 rfl ?_
  refine g_lload_n a11_in_1 rfl ?_
  refine g_lcmp a11_in_2 ?_
  refine g_if_lt (tgt := 17) a11_in_3 rfl (fun c2 => ?_) (fun c2 => ?_)
  · have h := (if_pos c2).symm.trans h
    refine g_iconst (v := 0) a11_in_17 rfl ?_
    subst h
    exact g_retE a11_in_18 (Or.inl rfl) rfl rfl
  · have h := (if_neg c2).symm.trans h
    refine g_lload_n a11_in_6 rfl ?_
    refine g_lload a11_in_7 rfl ?_
    refine g_lcmp a11_in_9 ?_
    refine g_if_gt (tgt := 17) a11_in_10 rfl (fun c1 => ?_) (fun c1 => ?_)
    · have h := (if_pos c1).symm.trans h
      refine g_iconst (v := 0) a11_in_17 rfl ?_
      subst h
      exact g_retE a11_in_18 (Or.inl rfl) rfl rfl
    · have h := (if_neg c1).symm.trans h
      refine g_iconst (v := 1) a11_in_13 rfl ?_
      refine g_goto (tgt := 18) a11_in_14 rfl ?_
      subst h
      exact g_retE a11_in_18 (Or.inr rfl) rfl rfl
theorem a11_isCell_0 : At cX11_isCell 0 (.iload_n 0) 1 1 := ⟨by decide +kernel, rfl⟩
theorem a11_isCell_1 : At cX11_isCell 1 (.i2l) 1 2 := ⟨by decide +kernel, rfl⟩
theorem a11_isCell_2 : At cX11_isCell 2 (.lconst 0) 1 3 := ⟨by decide +kernel, rfl⟩
theorem a11_isCell_3 : At cX11_isCell 3 (.ldc2_w 63) 3 6 := ⟨by decide +kernel, rfl⟩
theorem a11_isCell_6 : At cX11_isCell 6 (.invokestatic 59) 3 9 := ⟨by decide +kernel, rfl⟩
theorem a11_isCell_9 : At cX11_isCell 9 (.ireturn) 1 10 := ⟨by decide +kernel, rfl⟩
def f11_isCell (x0 : Int32) : Int32 :=
  (f11_in (x0.toInt64) 0 11)
theorem E11_isCell (x0 : Int32) (σ : Mem) : Ev m11_isCell [.inl x0] σ (some (.inl (f11_isCell x0)) : Option AV) σ := by
  obtain ⟨w, h⟩ : ∃ w, f11_isCell x0 = w := ⟨_, rfl⟩
  rw [h]
  unfold f11_isCell at h
  show Go m11_isCell 0 [some (.inl x0)] [] σ (some (.inl w) : Option AV) σ
  refine g_iload_n a11_isCell_0 rfl ?_
  refine g_i2l a11_isCell_1 ?_
  refine g_lconst (v := 0) a11_isCell_2 rfl ?_
  refine g_ldc2 (v := 11) a11_isCell_3 wl11_63 ?_
  refine g_S3s (v1 := .inl (f11_in (x0.toInt64) 0 11)) (σ1 := σ) a11_isCell_6 cs11_59 (E11_in _ _ _ _) rfl (fun o1 => ?_)
  subst h
  exact g_retE a11_isCell_9 o1 rfl rfl
theorem a11_bad_0 : At cX11_bad 0 (.aload_n 0) 1 1 := ⟨by decide +kernel, rfl⟩
theorem a11_bad_1 : At cX11_bad 1 (.getfield 20) 3 4 := ⟨by decide +kernel, rfl⟩
theorem a11_bad_4 : At cX11_bad 4 (.iconst 0) 1 5 := ⟨by decide +kernel, rfl⟩
theorem a11_bad_5 : At cX11_bad 5 (.dup2) 1 6 := ⟨by decide +kernel, rfl⟩
theorem a11_bad_6 : At cX11_bad 6 (.iaload) 1 7 := ⟨by decide +kernel, rfl⟩
theorem a11_bad_7 : At cX11_bad 7 (.iconst 1) 1 8 := ⟨by decide +kernel, rfl⟩
theorem a11_bad_8 : At cX11_bad 8 (.iadd) 1 9 := ⟨by decide +kernel, rfl⟩
theorem a11_bad_9 : At cX11_bad 9 (.iastore) 1 10 := ⟨by decide +kernel, rfl⟩
theorem a11_bad_10 : At cX11_bad 10 (.iload_n 1) 1 11 := ⟨by decide +kernel, rfl⟩
theorem a11_bad_11 : At cX11_bad 11 (.ireturn) 1 12 := ⟨by decide +kernel, rfl⟩
def f11_bad (k0 : Nat) (x1 : Int32) (σ : Mem) : Int32 × Mem :=
  lt (sI σ 22 3 0 ((σ.1 22 3 0) + 1)) fun σ1 =>
  (x1, σ1)
theorem E11_bad (k0 : Nat) (x1 : Int32) (σ : Mem) : Ev m11_bad [.inr (.inr (11, k0)), .inl x1] σ (some (.inl ((f11_bad k0 x1 σ).1)) : Option AV) (f11_bad k0 x1 σ).2 := by
  obtain ⟨w, h⟩ : ∃ w, f11_bad k0 x1 σ = w := ⟨_, rfl⟩
  rw [h]
  unfold f11_bad at h
  show Go m11_bad 0 [some (.inr (.inr (11, k0))), some (.inl x1)] [] σ (some (.inl w.1) : Option AV) w.2
  refine g_aload_n a11_bad_0 rfl ?_
  refine g_getf (v := .inr (.inr (22, 3))) a11_bad_1 fs11_20 rfl ?_
  refine g_iconst (v := 0) a11_bad_4 rfl ?_
  refine g_dup2 a11_bad_5 (fun _ => rfl) (fun _ => rfl) ?_
  refine g_iald (x := (σ.1 22 3 0)) a11_bad_6 (rI22 (by decide)) (inb_ok (by decide)) rfl ?_
  refine g_iconst (v := 1) a11_bad_7 rfl ?_
  refine g_iadd a11_bad_8 ?_
  obtain ⟨σ1, eσ1, h⟩ := lt_inv h
  refine g_iast (j := 0) a11_bad_9 (rI22 (by decide)) (inb_ok (by decide)) rfl ?_
  rw [eσ1]
  refine g_iload_n a11_bad_10 rfl ?_
  subst h
  exact g_retE a11_bad_11 trivial rfl rfl
theorem a11_storm_0 : At cX11_storm 0 (.iload_n 1) 1 1 := ⟨by decide +kernel, rfl⟩
theorem a11_storm_1 : At cX11_storm 1 (.i2l) 1 2 := ⟨by decide +kernel, rfl⟩
theorem a11_storm_2 : At cX11_storm 2 (.lconst 0) 1 3 := ⟨by decide +kernel, rfl⟩
theorem a11_storm_3 : At cX11_storm 3 (.ldc2_w 65) 3 6 := ⟨by decide +kernel, rfl⟩
theorem a11_storm_6 : At cX11_storm 6 (.invokestatic 59) 3 9 := ⟨by decide +kernel, rfl⟩
theorem a11_storm_9 : At cX11_storm 9 (.ifCond .eq 22) 3 12 := ⟨by decide +kernel, rfl⟩
theorem a11_storm_12 : At cX11_storm 12 (.iload_n 2) 1 13 := ⟨by decide +kernel, rfl⟩
theorem a11_storm_13 : At cX11_storm 13 (.invokestatic 67) 3 16 := ⟨by decide +kernel, rfl⟩
theorem a11_storm_16 : At cX11_storm 16 (.ifCond .eq 15) 3 19 := ⟨by decide +kernel, rfl⟩
theorem a11_storm_19 : At cX11_storm 19 (.iload_n 3) 1 20 := ⟨by decide +kernel, rfl⟩
theorem a11_storm_20 : At cX11_storm 20 (.i2l) 1 21 := ⟨by decide +kernel, rfl⟩
theorem a11_storm_21 : At cX11_storm 21 (.lconst 0) 1 22 := ⟨by decide +kernel, rfl⟩
theorem a11_storm_22 : At cX11_storm 22 (.ldc2_w 71) 3 25 := ⟨by decide +kernel, rfl⟩
theorem a11_storm_25 : At cX11_storm 25 (.invokestatic 59) 3 28 := ⟨by decide +kernel, rfl⟩
theorem a11_storm_28 : At cX11_storm 28 (.ifCond .ne 10) 3 31 := ⟨by decide +kernel, rfl⟩
theorem a11_storm_31 : At cX11_storm 31 (.aload_n 0) 1 32 := ⟨by decide +kernel, rfl⟩
theorem a11_storm_32 : At cX11_storm 32 (.bipush (-2)) 2 34 := ⟨by decide +kernel, rfl⟩
theorem a11_storm_34 : At cX11_storm 34 (.invokevirtual 73) 3 37 := ⟨by decide +kernel, rfl⟩
theorem a11_storm_37 : At cX11_storm 37 (.ireturn) 1 38 := ⟨by decide +kernel, rfl⟩
theorem a11_storm_38 : At cX11_storm 38 (.aload_n 0) 1 39 := ⟨by decide +kernel, rfl⟩
theorem a11_storm_39 : At cX11_storm 39 (.getfield 7) 3 42 := ⟨by decide +kernel, rfl⟩
theorem a11_storm_42 : At cX11_storm 42 (.bipush 16) 2 44 := ⟨by decide +kernel, rfl⟩
theorem a11_storm_44 : At cX11_storm 44 (.iload_n 1) 1 45 := ⟨by decide +kernel, rfl⟩
theorem a11_storm_45 : At cX11_storm 45 (.iadd) 1 46 := ⟨by decide +kernel, rfl⟩
theorem a11_storm_46 : At cX11_storm 46 (.iaload) 1 47 := ⟨by decide +kernel, rfl⟩
theorem a11_storm_47 : At cX11_storm 47 (.istore 4) 2 49 := ⟨by decide +kernel, rfl⟩
theorem a11_storm_49 : At cX11_storm 49 (.aload_n 0) 1 50 := ⟨by decide +kernel, rfl⟩
theorem a11_storm_50 : At cX11_storm 50 (.getfield 7) 3 53 := ⟨by decide +kernel, rfl⟩
theorem a11_storm_53 : At cX11_storm 53 (.bipush 10) 2 55 := ⟨by decide +kernel, rfl⟩
theorem a11_storm_55 : At cX11_storm 55 (.iload_n 1) 1 56 := ⟨by decide +kernel, rfl⟩
theorem a11_storm_56 : At cX11_storm 56 (.iadd) 1 57 := ⟨by decide +kernel, rfl⟩
theorem a11_storm_57 : At cX11_storm 57 (.iload_n 2) 1 58 := ⟨by decide +kernel, rfl⟩
theorem a11_storm_58 : At cX11_storm 58 (.iastore) 1 59 := ⟨by decide +kernel, rfl⟩
theorem a11_storm_59 : At cX11_storm 59 (.aload_n 0) 1 60 := ⟨by decide +kernel, rfl⟩
theorem a11_storm_60 : At cX11_storm 60 (.getfield 7) 3 63 := ⟨by decide +kernel, rfl⟩
theorem a11_storm_63 : At cX11_storm 63 (.bipush 16) 2 65 := ⟨by decide +kernel, rfl⟩
theorem a11_storm_65 : At cX11_storm 65 (.iload_n 1) 1 66 := ⟨by decide +kernel, rfl⟩
theorem a11_storm_66 : At cX11_storm 66 (.iadd) 1 67 := ⟨by decide +kernel, rfl⟩
theorem a11_storm_67 : At cX11_storm 67 (.iload_n 3) 1 68 := ⟨by decide +kernel, rfl⟩
theorem a11_storm_68 : At cX11_storm 68 (.iastore) 1 69 := ⟨by decide +kernel, rfl⟩
theorem a11_storm_69 : At cX11_storm 69 (.aload_n 0) 1 70 := ⟨by decide +kernel, rfl⟩
theorem a11_storm_70 : At cX11_storm 70 (.getfield 7) 3 73 := ⟨by decide +kernel, rfl⟩
theorem a11_storm_73 : At cX11_storm 73 (.iconst 5) 1 74 := ⟨by decide +kernel, rfl⟩
theorem a11_storm_74 : At cX11_storm 74 (.iconst 0) 1 75 := ⟨by decide +kernel, rfl⟩
theorem a11_storm_75 : At cX11_storm 75 (.iastore) 1 76 := ⟨by decide +kernel, rfl⟩
theorem a11_storm_76 : At cX11_storm 76 (.iload 4) 2 78 := ⟨by decide +kernel, rfl⟩
theorem a11_storm_78 : At cX11_storm 78 (.ireturn) 1 79 := ⟨by decide +kernel, rfl⟩
def f11_storm (k0 : Nat) (x1 : Int32) (x2 : Int32) (x3 : Int32) (σ : Mem) : Option (Int32 × Mem) :=
  if (f11_in (x1.toInt64) 0 5) = 0 then
  (lt (f11_bad k0 (-2) σ) fun w2 =>
  some (w2.1, w2.2))
  else
  (if (f11_isCell x2) = 0 then
  (lt (f11_bad k0 (-2) σ) fun w5 =>
  some (w5.1, w5.2))
  else
  (if (f11_in (x3.toInt64) 0 9) = 0 then
  (lt (f11_bad k0 (-2) σ) fun w8 =>
  some (w8.1, w8.2))
  else
  (ck (inb (16 + x1) 142) <|
  ck (inb (10 + x1) 142) <|
  lt (sI σ 22 0 ((10 + x1) : Int32).toNatClampNeg x2) fun σ12 =>
  ck (inb (16 + x1) 142) <|
  lt (sI σ12 22 0 ((16 + x1) : Int32).toNatClampNeg x3) fun σ14 =>
  lt (sI σ14 22 0 5 0) fun σ15 =>
  some ((σ.1 22 0 ((16 + x1) : Int32).toNatClampNeg), σ15))))
theorem E11_storm {k0 : Nat} {x1 : Int32} {x2 : Int32} {x3 : Int32} {σ : Mem} {w : Int32 × Mem} (h : f11_storm k0 x1 x2 x3 σ = some w) : Ev m11_storm [.inr (.inr (11, k0)), .inl x1, .inl x2, .inl x3] σ (some (.inl w.1) : Option AV) w.2 := by
  unfold f11_storm at h
  show Go m11_storm 0 [some (.inr (.inr (11, k0))), some (.inl x1), some (.inl x2), some (.inl x3), none] [] σ (some (.inl w.1) : Option AV) w.2
  refine g_iload_n a11_storm_0 rfl ?_
  refine g_i2l a11_storm_1 ?_
  refine g_lconst (v := 0) a11_storm_2 rfl ?_
  refine g_ldc2 (v := 5) a11_storm_3 wl11_65 ?_
  refine g_S3s (v1 := .inl (f11_in (x1.toInt64) 0 5)) (σ1 := σ) a11_storm_6 cs11_59 (E11_in _ _ _ _) rfl (fun o1 => ?_)
  refine g_if_eq (tgt := 31) a11_storm_9 rfl (fun c18 => ?_) (fun c18 => ?_)
  · have h := (if_pos c18).symm.trans h
    refine g_aload_n a11_storm_31 rfl ?_
    refine g_bipush (v := (-2)) a11_storm_32 rfl ?_
    obtain ⟨w2, hw2, h⟩ := lt_inv h
    refine g_V1s (v1 := .inl w2.1) (σ1 := w2.2) a11_storm_34 cv11_73 (by rw [← hw2]; exact E11_bad _ _ _) rfl (fun o3 => ?_)
    have h := Option.some.inj h
    subst h
    exact g_retE a11_storm_37 trivial rfl rfl
  · have h := (if_neg c18).symm.trans h
    refine g_iload_n a11_storm_12 rfl ?_
    refine g_S1s (v1 := .inl (f11_isCell x2)) (σ1 := σ) a11_storm_13 cs11_67 (E11_isCell _ _) rfl (fun o4 => ?_)
    refine g_if_eq (tgt := 31) a11_storm_16 rfl (fun c17 => ?_) (fun c17 => ?_)
    · have h := (if_pos c17).symm.trans h
      refine g_aload_n a11_storm_31 rfl ?_
      refine g_bipush (v := (-2)) a11_storm_32 rfl ?_
      obtain ⟨w5, hw5, h⟩ := lt_inv h
      refine g_V1s (v1 := .inl w5.1) (σ1 := w5.2) a11_storm_34 cv11_73 (by rw [← hw5]; exact E11_bad _ _ _) rfl (fun o6 => ?_)
      have h := Option.some.inj h
      subst h
      exact g_retE a11_storm_37 trivial rfl rfl
    · have h := (if_neg c17).symm.trans h
      refine g_iload_n a11_storm_19 rfl ?_
      refine g_i2l a11_storm_20 ?_
      refine g_lconst (v := 0) a11_storm_21 rfl ?_
      refine g_ldc2 (v := 9) a11_storm_22 wl11_71 ?_
      refine g_S3s (v1 := .inl (f11_in (x3.toInt64) 0 9)) (σ1 := σ) a11_storm_25 cs11_59 (E11_in _ _ _ _) rfl (fun o7 => ?_)
      refine g_if_ne (tgt := 38) a11_storm_28 rfl (fun c16 => ?_) (fun c16 => ?_)
      · have h := (if_neg c16).symm.trans h
        refine g_aload_n a11_storm_38 rfl ?_
        refine g_getf (v := .inr (.inr (22, 0))) a11_storm_39 fs11_7 rfl ?_
        refine g_bipush (v := 16) a11_storm_42 rfl ?_
        refine g_iload_n a11_storm_44 rfl ?_
        refine g_iadd a11_storm_45 ?_
        obtain ⟨q10, h⟩ := ck_inv h
        refine g_iald (x := (σ.1 22 0 ((16 + x1) : Int32).toNatClampNeg)) a11_storm_46 (rI22 (by decide)) (inb_ok q10) rfl ?_
        refine g_istore (L' := [some (.inr (.inr (11, k0))), some (.inl x1), some (.inl x2), some (.inl x3), some (.inl (σ.1 22 0 ((16 + x1) : Int32).toNatClampNeg))]) a11_storm_47 (Nat.le_of_ble_eq_true rfl) rfl rfl ?_
        refine g_aload_n a11_storm_49 rfl ?_
        refine g_getf (v := .inr (.inr (22, 0))) a11_storm_50 fs11_7 rfl ?_
        refine g_bipush (v := 10) a11_storm_53 rfl ?_
        refine g_iload_n a11_storm_55 rfl ?_
        refine g_iadd a11_storm_56 ?_
        refine g_iload_n a11_storm_57 rfl ?_
        obtain ⟨q11, h⟩ := ck_inv h
        obtain ⟨σ12, eσ12, h⟩ := lt_inv h
        refine g_iast (j := ((10 + x1) : Int32).toNatClampNeg) a11_storm_58 (rI22 (by decide)) (inb_ok q11) rfl ?_
        rw [eσ12]
        refine g_aload_n a11_storm_59 rfl ?_
        refine g_getf (v := .inr (.inr (22, 0))) a11_storm_60 fs11_7 rfl ?_
        refine g_bipush (v := 16) a11_storm_63 rfl ?_
        refine g_iload_n a11_storm_65 rfl ?_
        refine g_iadd a11_storm_66 ?_
        refine g_iload_n a11_storm_67 rfl ?_
        obtain ⟨q13, h⟩ := ck_inv h
        obtain ⟨σ14, eσ14, h⟩ := lt_inv h
        refine g_iast (j := ((16 + x1) : Int32).toNatClampNeg) a11_storm_68 (rI22 (by decide)) (inb_ok q13) rfl ?_
        rw [eσ14]
        refine g_aload_n a11_storm_69 rfl ?_
        refine g_getf (v := .inr (.inr (22, 0))) a11_storm_70 fs11_7 rfl ?_
        refine g_iconst (v := 5) a11_storm_73 rfl ?_
        refine g_iconst (v := 0) a11_storm_74 rfl ?_
        obtain ⟨σ15, eσ15, h⟩ := lt_inv h
        refine g_iast (j := 5) a11_storm_75 (rI22 (by decide)) (inb_ok (by decide)) rfl ?_
        rw [eσ15]
        refine g_iload a11_storm_76 rfl ?_
        have h := Option.some.inj h
        subst h
        exact g_retE a11_storm_78 trivial rfl rfl
      · have h := (if_pos c16).symm.trans h
        refine g_aload_n a11_storm_31 rfl ?_
        refine g_bipush (v := (-2)) a11_storm_32 rfl ?_
        obtain ⟨w8, hw8, h⟩ := lt_inv h
        refine g_V1s (v1 := .inl w8.1) (σ1 := w8.2) a11_storm_34 cv11_73 (by rw [← hw8]; exact E11_bad _ _ _) rfl (fun o9 => ?_)
        have h := Option.some.inj h
        subst h
        exact g_retE a11_storm_37 trivial rfl rfl
theorem a11_isKind_0 : At cX11_isKind 0 (.iload_n 0) 1 1 := ⟨by decide +kernel, rfl⟩
theorem a11_isKind_1 : At cX11_isKind 1 (.i2l) 1 2 := ⟨by decide +kernel, rfl⟩
theorem a11_isKind_2 : At cX11_isKind 2 (.lconst 0) 1 3 := ⟨by decide +kernel, rfl⟩
theorem a11_isKind_3 : At cX11_isKind 3 (.ldc2_w 65) 3 6 := ⟨by decide +kernel, rfl⟩
theorem a11_isKind_6 : At cX11_isKind 6 (.invokestatic 59) 3 9 := ⟨by decide +kernel, rfl⟩
theorem a11_isKind_9 : At cX11_isKind 9 (.ireturn) 1 10 := ⟨by decide +kernel, rfl⟩
def f11_isKind (x0 : Int32) : Int32 :=
  (f11_in (x0.toInt64) 0 5)
theorem E11_isKind (x0 : Int32) (σ : Mem) : Ev m11_isKind [.inl x0] σ (some (.inl (f11_isKind x0)) : Option AV) σ := by
  obtain ⟨w, h⟩ : ∃ w, f11_isKind x0 = w := ⟨_, rfl⟩
  rw [h]
  unfold f11_isKind at h
  show Go m11_isKind 0 [some (.inl x0)] [] σ (some (.inl w) : Option AV) σ
  refine g_iload_n a11_isKind_0 rfl ?_
  refine g_i2l a11_isKind_1 ?_
  refine g_lconst (v := 0) a11_isKind_2 rfl ?_
  refine g_ldc2 (v := 5) a11_isKind_3 wl11_65 ?_
  refine g_S3s (v1 := .inl (f11_in (x0.toInt64) 0 5)) (σ1 := σ) a11_isKind_6 cs11_59 (E11_in _ _ _ _) rfl (fun o1 => ?_)
  subst h
  exact g_retE a11_isKind_9 o1 rfl rfl
theorem a11_full_0 : At cX11_full 0 (.aload_n 0) 1 1 := ⟨by decide +kernel, rfl⟩
theorem a11_full_1 : At cX11_full 1 (.getfield 20) 3 4 := ⟨by decide +kernel, rfl⟩
theorem a11_full_4 : At cX11_full 4 (.iconst 2) 1 5 := ⟨by decide +kernel, rfl⟩
theorem a11_full_5 : At cX11_full 5 (.dup2) 1 6 := ⟨by decide +kernel, rfl⟩
theorem a11_full_6 : At cX11_full 6 (.iaload) 1 7 := ⟨by decide +kernel, rfl⟩
theorem a11_full_7 : At cX11_full 7 (.iconst 1) 1 8 := ⟨by decide +kernel, rfl⟩
theorem a11_full_8 : At cX11_full 8 (.iadd) 1 9 := ⟨by decide +kernel, rfl⟩
theorem a11_full_9 : At cX11_full 9 (.iastore) 1 10 := ⟨by decide +kernel, rfl⟩
theorem a11_full_10 : At cX11_full 10 (.bipush (-4)) 2 12 := ⟨by decide +kernel, rfl⟩
theorem a11_full_12 : At cX11_full 12 (.ireturn) 1 13 := ⟨by decide +kernel, rfl⟩
def f11_full (k0 : Nat) (σ : Mem) : Int32 × Mem :=
  lt (sI σ 22 3 2 ((σ.1 22 3 2) + 1)) fun σ1 =>
  ((-4), σ1)
theorem E11_full (k0 : Nat) (σ : Mem) : Ev m11_full [.inr (.inr (11, k0))] σ (some (.inl ((f11_full k0 σ).1)) : Option AV) (f11_full k0 σ).2 := by
  obtain ⟨w, h⟩ : ∃ w, f11_full k0 σ = w := ⟨_, rfl⟩
  rw [h]
  unfold f11_full at h
  show Go m11_full 0 [some (.inr (.inr (11, k0)))] [] σ (some (.inl w.1) : Option AV) w.2
  refine g_aload_n a11_full_0 rfl ?_
  refine g_getf (v := .inr (.inr (22, 3))) a11_full_1 fs11_20 rfl ?_
  refine g_iconst (v := 2) a11_full_4 rfl ?_
  refine g_dup2 a11_full_5 (fun _ => rfl) (fun _ => rfl) ?_
  refine g_iald (x := (σ.1 22 3 2)) a11_full_6 (rI22 (by decide)) (inb_ok (by decide)) rfl ?_
  refine g_iconst (v := 1) a11_full_7 rfl ?_
  refine g_iadd a11_full_8 ?_
  obtain ⟨σ1, eσ1, h⟩ := lt_inv h
  refine g_iast (j := 2) a11_full_9 (rI22 (by decide)) (inb_ok (by decide)) rfl ?_
  rw [eσ1]
  refine g_bipush (v := (-4)) a11_full_10 rfl ?_
  subst h
  exact g_retE a11_full_12 trivial rfl rfl
theorem a11_layThing_0 : At cX11_layThing 0 (.aload_n 0) 1 1 := ⟨by decide +kernel, rfl⟩
theorem a11_layThing_1 : At cX11_layThing 1 (.iconst 0) 1 2 := ⟨by decide +kernel, rfl⟩
theorem a11_layThing_2 : At cX11_layThing 2 (.iaload) 1 3 := ⟨by decide +kernel, rfl⟩
theorem a11_layThing_3 : At cX11_layThing 3 (.istore 4) 2 5 := ⟨by decide +kernel, rfl⟩
theorem a11_layThing_5 : At cX11_layThing 5 (.aload_n 0) 1 6 := ⟨by decide +kernel, rfl⟩
theorem a11_layThing_6 : At cX11_layThing 6 (.bipush 22) 2 8 := ⟨by decide +kernel, rfl⟩
theorem a11_layThing_8 : At cX11_layThing 8 (.iload 4) 2 10 := ⟨by decide +kernel, rfl⟩
theorem a11_layThing_10 : At cX11_layThing 10 (.iadd) 1 11 := ⟨by decide +kernel, rfl⟩
theorem a11_layThing_11 : At cX11_layThing 11 (.iload_n 1) 1 12 := ⟨by decide +kernel, rfl⟩
theorem a11_layThing_12 : At cX11_layThing 12 (.iastore) 1 13 := ⟨by decide +kernel, rfl⟩
theorem a11_layThing_13 : At cX11_layThing 13 (.aload_n 0) 1 14 := ⟨by decide +kernel, rfl⟩
theorem a11_layThing_14 : At cX11_layThing 14 (.bipush 28) 2 16 := ⟨by decide +kernel, rfl⟩
theorem a11_layThing_16 : At cX11_layThing 16 (.iload 4) 2 18 := ⟨by decide +kernel, rfl⟩
theorem a11_layThing_18 : At cX11_layThing 18 (.iadd) 1 19 := ⟨by decide +kernel, rfl⟩
theorem a11_layThing_19 : At cX11_layThing 19 (.iload_n 2) 1 20 := ⟨by decide +kernel, rfl⟩
theorem a11_layThing_20 : At cX11_layThing 20 (.iastore) 1 21 := ⟨by decide +kernel, rfl⟩
theorem a11_layThing_21 : At cX11_layThing 21 (.aload_n 0) 1 22 := ⟨by decide +kernel, rfl⟩
theorem a11_layThing_22 : At cX11_layThing 22 (.bipush 34) 2 24 := ⟨by decide +kernel, rfl⟩
theorem a11_layThing_24 : At cX11_layThing 24 (.iload 4) 2 26 := ⟨by decide +kernel, rfl⟩
theorem a11_layThing_26 : At cX11_layThing 26 (.iadd) 1 27 := ⟨by decide +kernel, rfl⟩
theorem a11_layThing_27 : At cX11_layThing 27 (.iload_n 3) 1 28 := ⟨by decide +kernel, rfl⟩
theorem a11_layThing_28 : At cX11_layThing 28 (.iastore) 1 29 := ⟨by decide +kernel, rfl⟩
theorem a11_layThing_29 : At cX11_layThing 29 (.aload_n 0) 1 30 := ⟨by decide +kernel, rfl⟩
theorem a11_layThing_30 : At cX11_layThing 30 (.bipush 6) 2 32 := ⟨by decide +kernel, rfl⟩
theorem a11_layThing_32 : At cX11_layThing 32 (.dup2) 1 33 := ⟨by decide +kernel, rfl⟩
theorem a11_layThing_33 : At cX11_layThing 33 (.iaload) 1 34 := ⟨by decide +kernel, rfl⟩
theorem a11_layThing_34 : At cX11_layThing 34 (.iconst 1) 1 35 := ⟨by decide +kernel, rfl⟩
theorem a11_layThing_35 : At cX11_layThing 35 (.iload 4) 2 37 := ⟨by decide +kernel, rfl⟩
theorem a11_layThing_37 : At cX11_layThing 37 (.ishl) 1 38 := ⟨by decide +kernel, rfl⟩
theorem a11_layThing_38 : At cX11_layThing 38 (.ior) 1 39 := ⟨by decide +kernel, rfl⟩
theorem a11_layThing_39 : At cX11_layThing 39 (.iastore) 1 40 := ⟨by decide +kernel, rfl⟩
theorem a11_layThing_40 : At cX11_layThing 40 (.aload_n 0) 1 41 := ⟨by decide +kernel, rfl⟩
theorem a11_layThing_41 : At cX11_layThing 41 (.iconst 0) 1 42 := ⟨by decide +kernel, rfl⟩
theorem a11_layThing_42 : At cX11_layThing 42 (.dup2) 1 43 := ⟨by decide +kernel, rfl⟩
theorem a11_layThing_43 : At cX11_layThing 43 (.iaload) 1 44 := ⟨by decide +kernel, rfl⟩
theorem a11_layThing_44 : At cX11_layThing 44 (.iconst 1) 1 45 := ⟨by decide +kernel, rfl⟩
theorem a11_layThing_45 : At cX11_layThing 45 (.iadd) 1 46 := ⟨by decide +kernel, rfl⟩
theorem a11_layThing_46 : At cX11_layThing 46 (.iastore) 1 47 := ⟨by decide +kernel, rfl⟩
theorem a11_layThing_47 : At cX11_layThing 47 (.return_) 1 48 := ⟨by decide +kernel, rfl⟩
def f11_layThing (k0 : Nat) (x1 : Int32) (x2 : Int32) (x3 : Int32) (σ : Mem) : Option (Mem) :=
  ck (decide (¬ k0 = 2)) <|
  ck (inb 0 (alen 22 k0)) <|
  ck (decide (¬ k0 = 2)) <|
  ck (inb (22 + (σ.1 22 k0 0)) (alen 22 k0)) <|
  lt (sI σ 22 k0 ((22 + (σ.1 22 k0 0)) : Int32).toNatClampNeg x1) fun σ5 =>
  ck (decide (¬ k0 = 2)) <|
  ck (inb (28 + (σ.1 22 k0 0)) (alen 22 k0)) <|
  lt (sI σ5 22 k0 ((28 + (σ.1 22 k0 0)) : Int32).toNatClampNeg x2) fun σ8 =>
  ck (decide (¬ k0 = 2)) <|
  ck (inb (34 + (σ.1 22 k0 0)) (alen 22 k0)) <|
  lt (sI σ8 22 k0 ((34 + (σ.1 22 k0 0)) : Int32).toNatClampNeg x3) fun σ11 =>
  ck (decide (¬ k0 = 2)) <|
  ck (inb 6 (alen 22 k0)) <|
  ck (decide (¬ k0 = 2)) <|
  ck (inb 6 (alen 22 k0)) <|
  lt (sI σ11 22 k0 6 ((σ11.1 22 k0 6) ||| (1 <<< ((σ.1 22 k0 0) &&& 31)))) fun σ16 =>
  ck (decide (¬ k0 = 2)) <|
  ck (inb 0 (alen 22 k0)) <|
  ck (decide (¬ k0 = 2)) <|
  ck (inb 0 (alen 22 k0)) <|
  lt (sI σ16 22 k0 0 ((σ16.1 22 k0 0) + 1)) fun σ21 =>
  some σ21
theorem E11_layThing {k0 : Nat} {x1 : Int32} {x2 : Int32} {x3 : Int32} {σ : Mem} {w : Mem} (h : f11_layThing k0 x1 x2 x3 σ = some w) : Ev m11_layThing [.inr (.inr (22, k0)), .inl x1, .inl x2, .inl x3] σ none w := by
  unfold f11_layThing at h
  show Go m11_layThing 0 [some (.inr (.inr (22, k0))), some (.inl x1), some (.inl x2), some (.inl x3), none] [] σ none w
  refine g_aload_n a11_layThing_0 rfl ?_
  refine g_iconst (v := 0) a11_layThing_1 rfl ?_
  obtain ⟨q1, h⟩ := ck_inv h
  obtain ⟨q2, h⟩ := ck_inv h
  refine g_iald (x := (σ.1 22 k0 0)) a11_layThing_2 (rI22 (of_decide_eq_true q1)) (inb_ok q2) rfl ?_
  refine g_istore (L' := [some (.inr (.inr (22, k0))), some (.inl x1), some (.inl x2), some (.inl x3), some (.inl (σ.1 22 k0 0))]) a11_layThing_3 (Nat.le_of_ble_eq_true rfl) rfl rfl ?_
  refine g_aload_n a11_layThing_5 rfl ?_
  refine g_bipush (v := 22) a11_layThing_6 rfl ?_
  refine g_iload a11_layThing_8 rfl ?_
  refine g_iadd a11_layThing_10 ?_
  refine g_iload_n a11_layThing_11 rfl ?_
  obtain ⟨q3, h⟩ := ck_inv h
  obtain ⟨q4, h⟩ := ck_inv h
  obtain ⟨σ5, eσ5, h⟩ := lt_inv h
  refine g_iast (j := ((22 + (σ.1 22 k0 0)) : Int32).toNatClampNeg) a11_layThing_12 (rI22 (of_decide_eq_true q3)) (inb_ok q4) rfl ?_
  rw [eσ5]
  refine g_aload_n a11_layThing_13 rfl ?_
  refine g_bipush (v := 28) a11_layThing_14 rfl ?_
  refine g_iload a11_layThing_16 rfl ?_
  refine g_iadd a11_layThing_18 ?_
  refine g_iload_n a11_layThing_19 rfl ?_
  obtain ⟨q6, h⟩ := ck_inv h
  obtain ⟨q7, h⟩ := ck_inv h
  obtain ⟨σ8, eσ8, h⟩ := lt_inv h
  refine g_iast (j := ((28 + (σ.1 22 k0 0)) : Int32).toNatClampNeg) a11_layThing_20 (rI22 (of_decide_eq_true q6)) (inb_ok q7) rfl ?_
  rw [eσ8]
  refine g_aload_n a11_layThing_21 rfl ?_
  refine g_bipush (v := 34) a11_layThing_22 rfl ?_
  refine g_iload a11_layThing_24 rfl ?_
  refine g_iadd a11_layThing_26 ?_
  refine g_iload_n a11_layThing_27 rfl ?_
  obtain ⟨q9, h⟩ := ck_inv h
  obtain ⟨q10, h⟩ := ck_inv h
  obtain ⟨σ11, eσ11, h⟩ := lt_inv h
  refine g_iast (j := ((34 + (σ.1 22 k0 0)) : Int32).toNatClampNeg) a11_layThing_28 (rI22 (of_decide_eq_true q9)) (inb_ok q10) rfl ?_
  rw [eσ11]
  refine g_aload_n a11_layThing_29 rfl ?_
  refine g_bipush (v := 6) a11_layThing_30 rfl ?_
  refine g_dup2 a11_layThing_32 (fun _ => rfl) (fun _ => rfl) ?_
  obtain ⟨q12, h⟩ := ck_inv h
  obtain ⟨q13, h⟩ := ck_inv h
  refine g_iald (x := (σ11.1 22 k0 6)) a11_layThing_33 (rI22 (of_decide_eq_true q12)) (inb_ok q13) rfl ?_
  refine g_iconst (v := 1) a11_layThing_34 rfl ?_
  refine g_iload a11_layThing_35 rfl ?_
  refine g_ishl a11_layThing_37 ?_
  refine g_ior a11_layThing_38 ?_
  obtain ⟨q14, h⟩ := ck_inv h
  obtain ⟨q15, h⟩ := ck_inv h
  obtain ⟨σ16, eσ16, h⟩ := lt_inv h
  refine g_iast (j := 6) a11_layThing_39 (rI22 (of_decide_eq_true q14)) (inb_ok q15) rfl ?_
  rw [eσ16]
  refine g_aload_n a11_layThing_40 rfl ?_
  refine g_iconst (v := 0) a11_layThing_41 rfl ?_
  refine g_dup2 a11_layThing_42 (fun _ => rfl) (fun _ => rfl) ?_
  obtain ⟨q17, h⟩ := ck_inv h
  obtain ⟨q18, h⟩ := ck_inv h
  refine g_iald (x := (σ16.1 22 k0 0)) a11_layThing_43 (rI22 (of_decide_eq_true q17)) (inb_ok q18) rfl ?_
  refine g_iconst (v := 1) a11_layThing_44 rfl ?_
  refine g_iadd a11_layThing_45 ?_
  obtain ⟨q19, h⟩ := ck_inv h
  obtain ⟨q20, h⟩ := ck_inv h
  obtain ⟨σ21, eσ21, h⟩ := lt_inv h
  refine g_iast (j := 0) a11_layThing_46 (rI22 (of_decide_eq_true q19)) (inb_ok q20) rfl ?_
  rw [eσ21]
  have h := Option.some.inj h
  subst h
  exact g_retE a11_layThing_47 trivial rfl rfl
theorem a11_thing_0 : At cX11_thing 0 (.iload_n 1) 1 1 := ⟨by decide +kernel, rfl⟩
theorem a11_thing_1 : At cX11_thing 1 (.invokestatic 77) 3 4 := ⟨by decide +kernel, rfl⟩
theorem a11_thing_4 : At cX11_thing 4 (.ifCond .eq 22) 3 7 := ⟨by decide +kernel, rfl⟩
theorem a11_thing_7 : At cX11_thing 7 (.iload_n 2) 1 8 := ⟨by decide +kernel, rfl⟩
theorem a11_thing_8 : At cX11_thing 8 (.i2l) 1 9 := ⟨by decide +kernel, rfl⟩
theorem a11_thing_9 : At cX11_thing 9 (.lconst 1) 1 10 := ⟨by decide +kernel, rfl⟩
theorem a11_thing_10 : At cX11_thing 10 (.ldc2_w 80) 3 13 := ⟨by decide +kernel, rfl⟩
theorem a11_thing_13 : At cX11_thing 13 (.invokestatic 59) 3 16 := ⟨by decide +kernel, rfl⟩
theorem a11_thing_16 : At cX11_thing 16 (.ifCond .eq 10) 3 19 := ⟨by decide +kernel, rfl⟩
theorem a11_thing_19 : At cX11_thing 19 (.iload_n 3) 1 20 := ⟨by decide +kernel, rfl⟩
theorem a11_thing_20 : At cX11_thing 20 (.invokestatic 67) 3 23 := ⟨by decide +kernel, rfl⟩
theorem a11_thing_23 : At cX11_thing 23 (.ifCond .ne 10) 3 26 := ⟨by decide +kernel, rfl⟩
theorem a11_thing_26 : At cX11_thing 26 (.aload_n 0) 1 27 := ⟨by decide +kernel, rfl⟩
theorem a11_thing_27 : At cX11_thing 27 (.bipush (-2)) 2 29 := ⟨by decide +kernel, rfl⟩
theorem a11_thing_29 : At cX11_thing 29 (.invokevirtual 73) 3 32 := ⟨by decide +kernel, rfl⟩
theorem a11_thing_32 : At cX11_thing 32 (.ireturn) 1 33 := ⟨by decide +kernel, rfl⟩
theorem a11_thing_33 : At cX11_thing 33 (.aload_n 0) 1 34 := ⟨by decide +kernel, rfl⟩
theorem a11_thing_34 : At cX11_thing 34 (.invokevirtual 55) 3 37 := ⟨by decide +kernel, rfl⟩
theorem a11_thing_37 : At cX11_thing 37 (.bipush 6) 2 39 := ⟨by decide +kernel, rfl⟩
theorem a11_thing_39 : At cX11_thing 39 (.if_icmp .ne 8) 3 42 := ⟨by decide +kernel, rfl⟩
theorem a11_thing_42 : At cX11_thing 42 (.aload_n 0) 1 43 := ⟨by decide +kernel, rfl⟩
theorem a11_thing_43 : At cX11_thing 43 (.invokevirtual 82) 3 46 := ⟨by decide +kernel, rfl⟩
theorem a11_thing_46 : At cX11_thing 46 (.ireturn) 1 47 := ⟨by decide +kernel, rfl⟩
theorem a11_thing_47 : At cX11_thing 47 (.aload_n 0) 1 48 := ⟨by decide +kernel, rfl⟩
theorem a11_thing_48 : At cX11_thing 48 (.getfield 7) 3 51 := ⟨by decide +kernel, rfl⟩
theorem a11_thing_51 : At cX11_thing 51 (.iload_n 1) 1 52 := ⟨by decide +kernel, rfl⟩
theorem a11_thing_52 : At cX11_thing 52 (.iload_n 2) 1 53 := ⟨by decide +kernel, rfl⟩
theorem a11_thing_53 : At cX11_thing 53 (.iload_n 3) 1 54 := ⟨by decide +kernel, rfl⟩
theorem a11_thing_54 : At cX11_thing 54 (.invokestatic 85) 3 57 := ⟨by decide +kernel, rfl⟩
theorem a11_thing_57 : At cX11_thing 57 (.aload_n 0) 1 58 := ⟨by decide +kernel, rfl⟩
theorem a11_thing_58 : At cX11_thing 58 (.getfield 7) 3 61 := ⟨by decide +kernel, rfl⟩
theorem a11_thing_61 : At cX11_thing 61 (.iconst 5) 1 62 := ⟨by decide +kernel, rfl⟩
theorem a11_thing_62 : At cX11_thing 62 (.iconst 0) 1 63 := ⟨by decide +kernel, rfl⟩
theorem a11_thing_63 : At cX11_thing 63 (.iastore) 1 64 := ⟨by decide +kernel, rfl⟩
theorem a11_thing_64 : At cX11_thing 64 (.aload_n 0) 1 65 := ⟨by decide +kernel, rfl⟩
theorem a11_thing_65 : At cX11_thing 65 (.invokevirtual 55) 3 68 := ⟨by decide +kernel, rfl⟩
theorem a11_thing_68 : At cX11_thing 68 (.iconst 1) 1 69 := ⟨by decide +kernel, rfl⟩
theorem a11_thing_69 : At cX11_thing 69 (.isub) 1 70 := ⟨by decide +kernel, rfl⟩
theorem a11_thing_70 : At cX11_thing 70 (.ireturn) 1 71 := ⟨by decide +kernel, rfl⟩
def f11_thing (k0 : Nat) (x1 : Int32) (x2 : Int32) (x3 : Int32) (σ : Mem) : Option (Int32 × Mem) :=
  if (f11_isKind x1) = 0 then
  (lt (f11_bad k0 (-2) σ) fun w2 =>
  some (w2.1, w2.2))
  else
  (if (f11_in (x2.toInt64) 1 30) = 0 then
  (lt (f11_bad k0 (-2) σ) fun w5 =>
  some (w5.1, w5.2))
  else
  (if (f11_isCell x3) = 0 then
  (lt (f11_bad k0 (-2) σ) fun w8 =>
  some (w8.1, w8.2))
  else
  (if (f11_many k0 σ) = 6 then
  (lt (f11_full k0 σ) fun w11 =>
  some (w11.1, w11.2))
  else
  (bnd (f11_layThing 0 x1 x2 x3 σ) fun w13 =>
  lt (sI w13 22 0 5 0) fun σ15 =>
  some (((f11_many k0 σ15) - 1), σ15)))))
theorem E11_thing {k0 : Nat} {x1 : Int32} {x2 : Int32} {x3 : Int32} {σ : Mem} {w : Int32 × Mem} (h : f11_thing k0 x1 x2 x3 σ = some w) : Ev m11_thing [.inr (.inr (11, k0)), .inl x1, .inl x2, .inl x3] σ (some (.inl w.1) : Option AV) w.2 := by
  unfold f11_thing at h
  show Go m11_thing 0 [some (.inr (.inr (11, k0))), some (.inl x1), some (.inl x2), some (.inl x3)] [] σ (some (.inl w.1) : Option AV) w.2
  refine g_iload_n a11_thing_0 rfl ?_
  refine g_S1s (v1 := .inl (f11_isKind x1)) (σ1 := σ) a11_thing_1 cs11_77 (E11_isKind _ _) rfl (fun o1 => ?_)
  refine g_if_eq (tgt := 26) a11_thing_4 rfl (fun c20 => ?_) (fun c20 => ?_)
  · have h := (if_pos c20).symm.trans h
    refine g_aload_n a11_thing_26 rfl ?_
    refine g_bipush (v := (-2)) a11_thing_27 rfl ?_
    obtain ⟨w2, hw2, h⟩ := lt_inv h
    refine g_V1s (v1 := .inl w2.1) (σ1 := w2.2) a11_thing_29 cv11_73 (by rw [← hw2]; exact E11_bad _ _ _) rfl (fun o3 => ?_)
    have h := Option.some.inj h
    subst h
    exact g_retE a11_thing_32 trivial rfl rfl
  · have h := (if_neg c20).symm.trans h
    refine g_iload_n a11_thing_7 rfl ?_
    refine g_i2l a11_thing_8 ?_
    refine g_lconst (v := 1) a11_thing_9 rfl ?_
    refine g_ldc2 (v := 30) a11_thing_10 wl11_80 ?_
    refine g_S3s (v1 := .inl (f11_in (x2.toInt64) 1 30)) (σ1 := σ) a11_thing_13 cs11_59 (E11_in _ _ _ _) rfl (fun o4 => ?_)
    refine g_if_eq (tgt := 26) a11_thing_16 rfl (fun c19 => ?_) (fun c19 => ?_)
    · have h := (if_pos c19).symm.trans h
      refine g_aload_n a11_thing_26 rfl ?_
      refine g_bipush (v := (-2)) a11_thing_27 rfl ?_
      obtain ⟨w5, hw5, h⟩ := lt_inv h
      refine g_V1s (v1 := .inl w5.1) (σ1 := w5.2) a11_thing_29 cv11_73 (by rw [← hw5]; exact E11_bad _ _ _) rfl (fun o6 => ?_)
      have h := Option.some.inj h
      subst h
      exact g_retE a11_thing_32 trivial rfl rfl
    · have h := (if_neg c19).symm.trans h
      refine g_iload_n a11_thing_19 rfl ?_
      refine g_S1s (v1 := .inl (f11_isCell x3)) (σ1 := σ) a11_thing_20 cs11_67 (E11_isCell _ _) rfl (fun o7 => ?_)
      refine g_if_ne (tgt := 33) a11_thing_23 rfl (fun c18 => ?_) (fun c18 => ?_)
      · have h := (if_neg c18).symm.trans h
        refine g_aload_n a11_thing_33 rfl ?_
        refine g_V0s (v1 := .inl (f11_many k0 σ)) (σ1 := σ) a11_thing_34 cv11_55 (E11_many _ _) rfl (fun o10 => ?_)
        refine g_bipush (v := 6) a11_thing_37 rfl ?_
        refine g_icmp_ne (tgt := 47) a11_thing_39 rfl (fun c17 => ?_) (fun c17 => ?_)
        · have h := (if_neg c17).symm.trans h
          refine g_aload_n a11_thing_47 rfl ?_
          refine g_getf (v := .inr (.inr (22, 0))) a11_thing_48 fs11_7 rfl ?_
          refine g_iload_n a11_thing_51 rfl ?_
          refine g_iload_n a11_thing_52 rfl ?_
          refine g_iload_n a11_thing_53 rfl ?_
          obtain ⟨w13, hw13, h⟩ := bnd_inv h
          refine g_S4n (σ1 := w13) a11_thing_54 cs11_85 (E11_layThing hw13) rfl (fun o14 => ?_)
          refine g_aload_n a11_thing_57 rfl ?_
          refine g_getf (v := .inr (.inr (22, 0))) a11_thing_58 fs11_7 rfl ?_
          refine g_iconst (v := 5) a11_thing_61 rfl ?_
          refine g_iconst (v := 0) a11_thing_62 rfl ?_
          obtain ⟨σ15, eσ15, h⟩ := lt_inv h
          refine g_iast (j := 5) a11_thing_63 (rI22 (by decide)) (inb_ok (by decide)) rfl ?_
          rw [eσ15]
          refine g_aload_n a11_thing_64 rfl ?_
          refine g_V0s (v1 := .inl (f11_many k0 σ15)) (σ1 := σ15) a11_thing_65 cv11_55 (E11_many _ _) rfl (fun o16 => ?_)
          refine g_iconst (v := 1) a11_thing_68 rfl ?_
          refine g_isub a11_thing_69 ?_
          have h := Option.some.inj h
          subst h
          exact g_retE a11_thing_70 trivial rfl rfl
        · have h := (if_pos c17).symm.trans h
          refine g_aload_n a11_thing_42 rfl ?_
          obtain ⟨w11, hw11, h⟩ := lt_inv h
          refine g_V0s (v1 := .inl w11.1) (σ1 := w11.2) a11_thing_43 cv11_82 (by rw [← hw11]; exact E11_full _ _) rfl (fun o12 => ?_)
          have h := Option.some.inj h
          subst h
          exact g_retE a11_thing_46 trivial rfl rfl
      · have h := (if_pos c18).symm.trans h
        refine g_aload_n a11_thing_26 rfl ?_
        refine g_bipush (v := (-2)) a11_thing_27 rfl ?_
        obtain ⟨w8, hw8, h⟩ := lt_inv h
        refine g_V1s (v1 := .inl w8.1) (σ1 := w8.2) a11_thing_29 cv11_73 (by rw [← hw8]; exact E11_bad _ _ _) rfl (fun o9 => ?_)
        have h := Option.some.inj h
        subst h
        exact g_retE a11_thing_32 trivial rfl rfl
theorem a11_body_0 : At cX11_body 0 (.iload_n 1) 1 1 := ⟨by decide +kernel, rfl⟩
theorem a11_body_1 : At cX11_body 1 (.invokestatic 77) 3 4 := ⟨by decide +kernel, rfl⟩
theorem a11_body_4 : At cX11_body 4 (.ifCond .ne 10) 3 7 := ⟨by decide +kernel, rfl⟩
theorem a11_body_7 : At cX11_body 7 (.aload_n 0) 1 8 := ⟨by decide +kernel, rfl⟩
theorem a11_body_8 : At cX11_body 8 (.bipush (-2)) 2 10 := ⟨by decide +kernel, rfl⟩
theorem a11_body_10 : At cX11_body 10 (.invokevirtual 73) 3 13 := ⟨by decide +kernel, rfl⟩
theorem a11_body_13 : At cX11_body 13 (.ireturn) 1 14 := ⟨by decide +kernel, rfl⟩
theorem a11_body_14 : At cX11_body 14 (.aload_n 0) 1 15 := ⟨by decide +kernel, rfl⟩
theorem a11_body_15 : At cX11_body 15 (.getfield 7) 3 18 := ⟨by decide +kernel, rfl⟩
theorem a11_body_18 : At cX11_body 18 (.iconst 1) 1 19 := ⟨by decide +kernel, rfl⟩
theorem a11_body_19 : At cX11_body 19 (.iaload) 1 20 := ⟨by decide +kernel, rfl⟩
theorem a11_body_20 : At cX11_body 20 (.bipush 6) 2 22 := ⟨by decide +kernel, rfl⟩
theorem a11_body_22 : At cX11_body 22 (.if_icmp .ne 8) 3 25 := ⟨by decide +kernel, rfl⟩
theorem a11_body_25 : At cX11_body 25 (.aload_n 0) 1 26 := ⟨by decide +kernel, rfl⟩
theorem a11_body_26 : At cX11_body 26 (.invokevirtual 82) 3 29 := ⟨by decide +kernel, rfl⟩
theorem a11_body_29 : At cX11_body 29 (.ireturn) 1 30 := ⟨by decide +kernel, rfl⟩
theorem a11_body_30 : At cX11_body 30 (.aload_n 0) 1 31 := ⟨by decide +kernel, rfl⟩
theorem a11_body_31 : At cX11_body 31 (.getfield 7) 3 34 := ⟨by decide +kernel, rfl⟩
theorem a11_body_34 : At cX11_body 34 (.bipush 40) 2 36 := ⟨by decide +kernel, rfl⟩
theorem a11_body_36 : At cX11_body 36 (.aload_n 0) 1 37 := ⟨by decide +kernel, rfl⟩
theorem a11_body_37 : At cX11_body 37 (.getfield 7) 3 40 := ⟨by decide +kernel, rfl⟩
theorem a11_body_40 : At cX11_body 40 (.iconst 1) 1 41 := ⟨by decide +kernel, rfl⟩
theorem a11_body_41 : At cX11_body 41 (.iaload) 1 42 := ⟨by decide +kernel, rfl⟩
theorem a11_body_42 : At cX11_body 42 (.iadd) 1 43 := ⟨by decide +kernel, rfl⟩
theorem a11_body_43 : At cX11_body 43 (.iload_n 1) 1 44 := ⟨by decide +kernel, rfl⟩
theorem a11_body_44 : At cX11_body 44 (.iastore) 1 45 := ⟨by decide +kernel, rfl⟩
theorem a11_body_45 : At cX11_body 45 (.aload_n 0) 1 46 := ⟨by decide +kernel, rfl⟩
theorem a11_body_46 : At cX11_body 46 (.getfield 7) 3 49 := ⟨by decide +kernel, rfl⟩
theorem a11_body_49 : At cX11_body 49 (.iconst 1) 1 50 := ⟨by decide +kernel, rfl⟩
theorem a11_body_50 : At cX11_body 50 (.dup2) 1 51 := ⟨by decide +kernel, rfl⟩
theorem a11_body_51 : At cX11_body 51 (.iaload) 1 52 := ⟨by decide +kernel, rfl⟩
theorem a11_body_52 : At cX11_body 52 (.iconst 1) 1 53 := ⟨by decide +kernel, rfl⟩
theorem a11_body_53 : At cX11_body 53 (.iadd) 1 54 := ⟨by decide +kernel, rfl⟩
theorem a11_body_54 : At cX11_body 54 (.iastore) 1 55 := ⟨by decide +kernel, rfl⟩
theorem a11_body_55 : At cX11_body 55 (.aload_n 0) 1 56 := ⟨by decide +kernel, rfl⟩
theorem a11_body_56 : At cX11_body 56 (.getfield 7) 3 59 := ⟨by decide +kernel, rfl⟩
theorem a11_body_59 : At cX11_body 59 (.iconst 5) 1 60 := ⟨by decide +kernel, rfl⟩
theorem a11_body_60 : At cX11_body 60 (.iconst 0) 1 61 := ⟨by decide +kernel, rfl⟩
theorem a11_body_61 : At cX11_body 61 (.iastore) 1 62 := ⟨by decide +kernel, rfl⟩
theorem a11_body_62 : At cX11_body 62 (.aload_n 0) 1 63 := ⟨by decide +kernel, rfl⟩
theorem a11_body_63 : At cX11_body 63 (.getfield 7) 3 66 := ⟨by decide +kernel, rfl⟩
theorem a11_body_66 : At cX11_body 66 (.iconst 1) 1 67 := ⟨by decide +kernel, rfl⟩
theorem a11_body_67 : At cX11_body 67 (.iaload) 1 68 := ⟨by decide +kernel, rfl⟩
theorem a11_body_68 : At cX11_body 68 (.iconst 1) 1 69 := ⟨by decide +kernel, rfl⟩
theorem a11_body_69 : At cX11_body 69 (.isub) 1 70 := ⟨by decide +kernel, rfl⟩
theorem a11_body_70 : At cX11_body 70 (.ireturn) 1 71 := ⟨by decide +kernel, rfl⟩
def f11_body (k0 : Nat) (x1 : Int32) (σ : Mem) : Option (Int32 × Mem) :=
  if (f11_isKind x1) = 0 then
  (lt (f11_bad k0 (-2) σ) fun w2 =>
  some (w2.1, w2.2))
  else
  (if (σ.1 22 0 1) = 6 then
  (lt (f11_full k0 σ) fun w4 =>
  some (w4.1, w4.2))
  else
  (ck (inb (40 + (σ.1 22 0 1)) 142) <|
  lt (sI σ 22 0 ((40 + (σ.1 22 0 1)) : Int32).toNatClampNeg x1) fun σ7 =>
  lt (sI σ7 22 0 1 ((σ7.1 22 0 1) + 1)) fun σ8 =>
  lt (sI σ8 22 0 5 0) fun σ9 =>
  some (((σ9.1 22 0 1) - 1), σ9)))
theorem E11_body {k0 : Nat} {x1 : Int32} {σ : Mem} {w : Int32 × Mem} (h : f11_body k0 x1 σ = some w) : Ev m11_body [.inr (.inr (11, k0)), .inl x1] σ (some (.inl w.1) : Option AV) w.2 := by
  unfold f11_body at h
  show Go m11_body 0 [some (.inr (.inr (11, k0))), some (.inl x1)] [] σ (some (.inl w.1) : Option AV) w.2
  refine g_iload_n a11_body_0 rfl ?_
  refine g_S1s (v1 := .inl (f11_isKind x1)) (σ1 := σ) a11_body_1 cs11_77 (E11_isKind _ _) rfl (fun o1 => ?_)
  refine g_if_ne (tgt := 14) a11_body_4 rfl (fun c11 => ?_) (fun c11 => ?_)
  · have h := (if_neg c11).symm.trans h
    refine g_aload_n a11_body_14 rfl ?_
    refine g_getf (v := .inr (.inr (22, 0))) a11_body_15 fs11_7 rfl ?_
    refine g_iconst (v := 1) a11_body_18 rfl ?_
    refine g_iald (x := (σ.1 22 0 1)) a11_body_19 (rI22 (by decide)) (inb_ok (by decide)) rfl ?_
    refine g_bipush (v := 6) a11_body_20 rfl ?_
    refine g_icmp_ne (tgt := 30) a11_body_22 rfl (fun c10 => ?_) (fun c10 => ?_)
    · have h := (if_neg c10).symm.trans h
      refine g_aload_n a11_body_30 rfl ?_
      refine g_getf (v := .inr (.inr (22, 0))) a11_body_31 fs11_7 rfl ?_
      refine g_bipush (v := 40) a11_body_34 rfl ?_
      refine g_aload_n a11_body_36 rfl ?_
      refine g_getf (v := .inr (.inr (22, 0))) a11_body_37 fs11_7 rfl ?_
      refine g_iconst (v := 1) a11_body_40 rfl ?_
      refine g_iald (x := (σ.1 22 0 1)) a11_body_41 (rI22 (by decide)) (inb_ok (by decide)) rfl ?_
      refine g_iadd a11_body_42 ?_
      refine g_iload_n a11_body_43 rfl ?_
      obtain ⟨q6, h⟩ := ck_inv h
      obtain ⟨σ7, eσ7, h⟩ := lt_inv h
      refine g_iast (j := ((40 + (σ.1 22 0 1)) : Int32).toNatClampNeg) a11_body_44 (rI22 (by decide)) (inb_ok q6) rfl ?_
      rw [eσ7]
      refine g_aload_n a11_body_45 rfl ?_
      refine g_getf (v := .inr (.inr (22, 0))) a11_body_46 fs11_7 rfl ?_
      refine g_iconst (v := 1) a11_body_49 rfl ?_
      refine g_dup2 a11_body_50 (fun _ => rfl) (fun _ => rfl) ?_
      refine g_iald (x := (σ7.1 22 0 1)) a11_body_51 (rI22 (by decide)) (inb_ok (by decide)) rfl ?_
      refine g_iconst (v := 1) a11_body_52 rfl ?_
      refine g_iadd a11_body_53 ?_
      obtain ⟨σ8, eσ8, h⟩ := lt_inv h
      refine g_iast (j := 1) a11_body_54 (rI22 (by decide)) (inb_ok (by decide)) rfl ?_
      rw [eσ8]
      refine g_aload_n a11_body_55 rfl ?_
      refine g_getf (v := .inr (.inr (22, 0))) a11_body_56 fs11_7 rfl ?_
      refine g_iconst (v := 5) a11_body_59 rfl ?_
      refine g_iconst (v := 0) a11_body_60 rfl ?_
      obtain ⟨σ9, eσ9, h⟩ := lt_inv h
      refine g_iast (j := 5) a11_body_61 (rI22 (by decide)) (inb_ok (by decide)) rfl ?_
      rw [eσ9]
      refine g_aload_n a11_body_62 rfl ?_
      refine g_getf (v := .inr (.inr (22, 0))) a11_body_63 fs11_7 rfl ?_
      refine g_iconst (v := 1) a11_body_66 rfl ?_
      refine g_iald (x := (σ9.1 22 0 1)) a11_body_67 (rI22 (by decide)) (inb_ok (by decide)) rfl ?_
      refine g_iconst (v := 1) a11_body_68 rfl ?_
      refine g_isub a11_body_69 ?_
      have h := Option.some.inj h
      subst h
      exact g_retE a11_body_70 trivial rfl rfl
    · have h := (if_pos c10).symm.trans h
      refine g_aload_n a11_body_25 rfl ?_
      obtain ⟨w4, hw4, h⟩ := lt_inv h
      refine g_V0s (v1 := .inl w4.1) (σ1 := w4.2) a11_body_26 cv11_82 (by rw [← hw4]; exact E11_full _ _) rfl (fun o5 => ?_)
      have h := Option.some.inj h
      subst h
      exact g_retE a11_body_29 trivial rfl rfl
  · have h := (if_pos c11).symm.trans h
    refine g_aload_n a11_body_7 rfl ?_
    refine g_bipush (v := (-2)) a11_body_8 rfl ?_
    obtain ⟨w2, hw2, h⟩ := lt_inv h
    refine g_V1s (v1 := .inl w2.1) (σ1 := w2.2) a11_body_10 cv11_73 (by rw [← hw2]; exact E11_bad _ _ _) rfl (fun o3 => ?_)
    have h := Option.some.inj h
    subst h
    exact g_retE a11_body_13 trivial rfl rfl
theorem a11_save_0 : At cX11_save 0 (.aload_n 0) 1 1 := ⟨by decide +kernel, rfl⟩
theorem a11_save_1 : At cX11_save 1 (.getfield 7) 3 4 := ⟨by decide +kernel, rfl⟩
theorem a11_save_4 : At cX11_save 4 (.iconst 5) 1 5 := ⟨by decide +kernel, rfl⟩
theorem a11_save_5 : At cX11_save 5 (.iaload) 1 6 := ⟨by decide +kernel, rfl⟩
theorem a11_save_6 : At cX11_save 6 (.bipush 8) 2 8 := ⟨by decide +kernel, rfl⟩
theorem a11_save_8 : At cX11_save 8 (.if_icmp .ne 43) 3 11 := ⟨by decide +kernel, rfl⟩
theorem a11_save_11 : At cX11_save 11 (.iconst 0) 1 12 := ⟨by decide +kernel, rfl⟩
theorem a11_save_12 : At cX11_save 12 (.istore_n 1) 1 13 := ⟨by decide +kernel, rfl⟩
theorem a11_save_13 : At cX11_save 13 (.iload_n 1) 1 14 := ⟨by decide +kernel, rfl⟩
theorem a11_save_14 : At cX11_save 14 (.bipush 28) 2 16 := ⟨by decide +kernel, rfl⟩
theorem a11_save_16 : At cX11_save 16 (.if_icmp .ge 27) 3 19 := ⟨by decide +kernel, rfl⟩
theorem a11_save_19 : At cX11_save 19 (.aload_n 0) 1 20 := ⟨by decide +kernel, rfl⟩
theorem a11_save_20 : At cX11_save 20 (.getfield 7) 3 23 := ⟨by decide +kernel, rfl⟩
theorem a11_save_23 : At cX11_save 23 (.bipush 110) 2 25 := ⟨by decide +kernel, rfl⟩
theorem a11_save_25 : At cX11_save 25 (.iload_n 1) 1 26 := ⟨by decide +kernel, rfl⟩
theorem a11_save_26 : At cX11_save 26 (.iadd) 1 27 := ⟨by decide +kernel, rfl⟩
theorem a11_save_27 : At cX11_save 27 (.aload_n 0) 1 28 := ⟨by decide +kernel, rfl⟩
theorem a11_save_28 : At cX11_save 28 (.getfield 7) 3 31 := ⟨by decide +kernel, rfl⟩
theorem a11_save_31 : At cX11_save 31 (.bipush 114) 2 33 := ⟨by decide +kernel, rfl⟩
theorem a11_save_33 : At cX11_save 33 (.iload_n 1) 1 34 := ⟨by decide +kernel, rfl⟩
theorem a11_save_34 : At cX11_save 34 (.iadd) 1 35 := ⟨by decide +kernel, rfl⟩
theorem a11_save_35 : At cX11_save 35 (.iaload) 1 36 := ⟨by decide +kernel, rfl⟩
theorem a11_save_36 : At cX11_save 36 (.iastore) 1 37 := ⟨by decide +kernel, rfl⟩
theorem a11_save_37 : At cX11_save 37 (.iinc 1 1) 3 40 := ⟨by decide +kernel, rfl⟩
theorem a11_save_40 : At cX11_save 40 (.goto (-27)) 3 43 := ⟨by decide +kernel, rfl⟩
theorem a11_save_43 : At cX11_save 43 (.aload_n 0) 1 44 := ⟨by decide +kernel, rfl⟩
theorem a11_save_44 : At cX11_save 44 (.getfield 7) 3 47 := ⟨by decide +kernel, rfl⟩
theorem a11_save_47 : At cX11_save 47 (.iconst 5) 1 48 := ⟨by decide +kernel, rfl⟩
theorem a11_save_48 : At cX11_save 48 (.bipush 7) 2 50 := ⟨by decide +kernel, rfl⟩
theorem a11_save_50 : At cX11_save 50 (.iastore) 1 51 := ⟨by decide +kernel, rfl⟩
theorem a11_save_51 : At cX11_save 51 (.iconst 0) 1 52 := ⟨by decide +kernel, rfl⟩
theorem a11_save_52 : At cX11_save 52 (.istore_n 1) 1 53 := ⟨by decide +kernel, rfl⟩
theorem a11_save_53 : At cX11_save 53 (.iload_n 1) 1 54 := ⟨by decide +kernel, rfl⟩
theorem a11_save_54 : At cX11_save 54 (.iconst 4) 1 55 := ⟨by decide +kernel, rfl⟩
theorem a11_save_55 : At cX11_save 55 (.if_icmp .ge 36) 3 58 := ⟨by decide +kernel, rfl⟩
theorem a11_save_58 : At cX11_save 58 (.aload_n 0) 1 59 := ⟨by decide +kernel, rfl⟩
theorem a11_save_59 : At cX11_save 59 (.getfield 7) 3 62 := ⟨by decide +kernel, rfl⟩
theorem a11_save_62 : At cX11_save 62 (.bipush 110) 2 64 := ⟨by decide +kernel, rfl⟩
theorem a11_save_64 : At cX11_save 64 (.iconst 4) 1 65 := ⟨by decide +kernel, rfl⟩
theorem a11_save_65 : At cX11_save 65 (.aload_n 0) 1 66 := ⟨by decide +kernel, rfl⟩
theorem a11_save_66 : At cX11_save 66 (.getfield 7) 3 69 := ⟨by decide +kernel, rfl⟩
theorem a11_save_69 : At cX11_save 69 (.iconst 5) 1 70 := ⟨by decide +kernel, rfl⟩
theorem a11_save_70 : At cX11_save 70 (.iaload) 1 71 := ⟨by decide +kernel, rfl⟩
theorem a11_save_71 : At cX11_save 71 (.imul) 1 72 := ⟨by decide +kernel, rfl⟩
theorem a11_save_72 : At cX11_save 72 (.iadd) 1 73 := ⟨by decide +kernel, rfl⟩
theorem a11_save_73 : At cX11_save 73 (.iload_n 1) 1 74 := ⟨by decide +kernel, rfl⟩
theorem a11_save_74 : At cX11_save 74 (.iadd) 1 75 := ⟨by decide +kernel, rfl⟩
theorem a11_save_75 : At cX11_save 75 (.aload_n 0) 1 76 := ⟨by decide +kernel, rfl⟩
theorem a11_save_76 : At cX11_save 76 (.getfield 7) 3 79 := ⟨by decide +kernel, rfl⟩
theorem a11_save_79 : At cX11_save 79 (.bipush 6) 2 81 := ⟨by decide +kernel, rfl⟩
theorem a11_save_81 : At cX11_save 81 (.iload_n 1) 1 82 := ⟨by decide +kernel, rfl⟩
theorem a11_save_82 : At cX11_save 82 (.iadd) 1 83 := ⟨by decide +kernel, rfl⟩
theorem a11_save_83 : At cX11_save 83 (.iaload) 1 84 := ⟨by decide +kernel, rfl⟩
theorem a11_save_84 : At cX11_save 84 (.iastore) 1 85 := ⟨by decide +kernel, rfl⟩
theorem a11_save_85 : At cX11_save 85 (.iinc 1 1) 3 88 := ⟨by decide +kernel, rfl⟩
theorem a11_save_88 : At cX11_save 88 (.goto (-35)) 3 91 := ⟨by decide +kernel, rfl⟩
theorem a11_save_91 : At cX11_save 91 (.aload_n 0) 1 92 := ⟨by decide +kernel, rfl⟩
theorem a11_save_92 : At cX11_save 92 (.getfield 7) 3 95 := ⟨by decide +kernel, rfl⟩
theorem a11_save_95 : At cX11_save 95 (.iconst 5) 1 96 := ⟨by decide +kernel, rfl⟩
theorem a11_save_96 : At cX11_save 96 (.dup2) 1 97 := ⟨by decide +kernel, rfl⟩
theorem a11_save_97 : At cX11_save 97 (.iaload) 1 98 := ⟨by decide +kernel, rfl⟩
theorem a11_save_98 : At cX11_save 98 (.iconst 1) 1 99 := ⟨by decide +kernel, rfl⟩
theorem a11_save_99 : At cX11_save 99 (.iadd) 1 100 := ⟨by decide +kernel, rfl⟩
theorem a11_save_100 : At cX11_save 100 (.iastore) 1 101 := ⟨by decide +kernel, rfl⟩
theorem a11_save_101 : At cX11_save 101 (.return_) 1 102 := ⟨by decide +kernel, rfl⟩
def l11_save_13 (k0 : Nat) : Nat → Int32 → Mem → Option (Int32 × Mem)
  | 0, _, _ => none
  | n + 1, x1, σ =>
  if 28 ≤ x1 then
  (some (x1, σ))
  else
  (ck (inb (114 + x1) 142) <|
  ck (inb (110 + x1) 142) <|
  lt (sI σ 22 0 ((110 + x1) : Int32).toNatClampNeg (σ.1 22 0 ((114 + x1) : Int32).toNatClampNeg)) fun σ5 =>
  l11_save_13 k0 n (x1 + 1) σ5)
theorem lE11_save_13 {V : Option AV} {S : Mem} (k0 : Nat) : ∀ (n : Nat) (x1 : Int32) (σ : Mem) {w : Int32 × Mem}, l11_save_13 k0 n x1 σ = some w → (Go m11_save 43 [some (.inr (.inr (11, k0))), some (.inl w.1)] [] w.2 V S) → Go m11_save 13 [some (.inr (.inr (11, k0))), some (.inl x1)] [] σ V S
  | 0, x1, σ, w, h, K1 => by cases h
  | n + 1, x1, σ, w, h, K1 => by
    rw [l11_save_13] at h
    refine g_iload_n a11_save_13 rfl ?_
    refine g_bipush (v := 28) a11_save_14 rfl ?_
    refine g_icmp_ge (tgt := 43) a11_save_16 rfl (fun c6 => ?_) (fun c6 => ?_)
    · have h := (if_pos c6).symm.trans h
      have h := Option.some.inj h
      subst h
      exact g_weak K1 ⟨rfl, rfl, trivial⟩
    · have h := (if_neg c6).symm.trans h
      refine g_aload_n a11_save_19 rfl ?_
      refine g_getf (v := .inr (.inr (22, 0))) a11_save_20 fs11_7 rfl ?_
      refine g_bipush (v := 110) a11_save_23 rfl ?_
      refine g_iload_n a11_save_25 rfl ?_
      refine g_iadd a11_save_26 ?_
      refine g_aload_n a11_save_27 rfl ?_
      refine g_getf (v := .inr (.inr (22, 0))) a11_save_28 fs11_7 rfl ?_
      refine g_bipush (v := 114) a11_save_31 rfl ?_
      refine g_iload_n a11_save_33 rfl ?_
      refine g_iadd a11_save_34 ?_
      obtain ⟨q3, h⟩ := ck_inv h
      refine g_iald (x := (σ.1 22 0 ((114 + x1) : Int32).toNatClampNeg)) a11_save_35 (rI22 (by decide)) (inb_ok q3) rfl ?_
      obtain ⟨q4, h⟩ := ck_inv h
      obtain ⟨σ5, eσ5, h⟩ := lt_inv h
      refine g_iast (j := ((110 + x1) : Int32).toNatClampNeg) a11_save_36 (rI22 (by decide)) (inb_ok q4) rfl ?_
      rw [eσ5]
      refine g_iinc (v := (x1 + 1)) (L' := [some (.inr (.inr (11, k0))), some (.inl (x1 + 1))]) a11_save_37 rfl rfl (Nat.le_of_ble_eq_true rfl) rfl rfl ?_
      refine g_goto (tgt := 13) a11_save_40 rfl ?_
      exact g_weak (lE11_save_13 (V := V) (S := S)  k0 n _ _ h K1) ⟨rfl, rfl, trivial⟩
def l11_save_53 (k0 : Nat) : Nat → Int32 → Mem → Option (Int32 × Mem)
  | 0, _, _ => none
  | n + 1, x1, σ =>
  if 4 ≤ x1 then
  (some (x1, σ))
  else
  (ck (inb (6 + x1) 142) <|
  ck (inb ((110 + (4 * (σ.1 22 0 5))) + x1) 142) <|
  lt (sI σ 22 0 (((110 + (4 * (σ.1 22 0 5))) + x1) : Int32).toNatClampNeg (σ.1 22 0 ((6 + x1) : Int32).toNatClampNeg)) fun σ12 =>
  l11_save_53 k0 n (x1 + 1) σ12)
theorem lE11_save_53 {V : Option AV} {S : Mem} (k0 : Nat) : ∀ (n : Nat) (x1 : Int32) (σ : Mem) {w : Int32 × Mem}, l11_save_53 k0 n x1 σ = some w → (Go m11_save 91 [some (.inr (.inr (11, k0))), some (.inl w.1)] [] w.2 V S) → Go m11_save 53 [some (.inr (.inr (11, k0))), some (.inl x1)] [] σ V S
  | 0, x1, σ, w, h, K1 => by cases h
  | n + 1, x1, σ, w, h, K1 => by
    rw [l11_save_53] at h
    refine g_iload_n a11_save_53 rfl ?_
    refine g_iconst (v := 4) a11_save_54 rfl ?_
    refine g_icmp_ge (tgt := 91) a11_save_55 rfl (fun c13 => ?_) (fun c13 => ?_)
    · have h := (if_pos c13).symm.trans h
      have h := Option.some.inj h
      subst h
      exact g_weak K1 ⟨rfl, rfl, trivial⟩
    · have h := (if_neg c13).symm.trans h
      refine g_aload_n a11_save_58 rfl ?_
      refine g_getf (v := .inr (.inr (22, 0))) a11_save_59 fs11_7 rfl ?_
      refine g_bipush (v := 110) a11_save_62 rfl ?_
      refine g_iconst (v := 4) a11_save_64 rfl ?_
      refine g_aload_n a11_save_65 rfl ?_
      refine g_getf (v := .inr (.inr (22, 0))) a11_save_66 fs11_7 rfl ?_
      refine g_iconst (v := 5) a11_save_69 rfl ?_
      refine g_iald (x := (σ.1 22 0 5)) a11_save_70 (rI22 (by decide)) (inb_ok (by decide)) rfl ?_
      refine g_imul a11_save_71 ?_
      refine g_iadd a11_save_72 ?_
      refine g_iload_n a11_save_73 rfl ?_
      refine g_iadd a11_save_74 ?_
      refine g_aload_n a11_save_75 rfl ?_
      refine g_getf (v := .inr (.inr (22, 0))) a11_save_76 fs11_7 rfl ?_
      refine g_bipush (v := 6) a11_save_79 rfl ?_
      refine g_iload_n a11_save_81 rfl ?_
      refine g_iadd a11_save_82 ?_
      obtain ⟨q10, h⟩ := ck_inv h
      refine g_iald (x := (σ.1 22 0 ((6 + x1) : Int32).toNatClampNeg)) a11_save_83 (rI22 (by decide)) (inb_ok q10) rfl ?_
      obtain ⟨q11, h⟩ := ck_inv h
      obtain ⟨σ12, eσ12, h⟩ := lt_inv h
      refine g_iast (j := (((110 + (4 * (σ.1 22 0 5))) + x1) : Int32).toNatClampNeg) a11_save_84 (rI22 (by decide)) (inb_ok q11) rfl ?_
      rw [eσ12]
      refine g_iinc (v := (x1 + 1)) (L' := [some (.inr (.inr (11, k0))), some (.inl (x1 + 1))]) a11_save_85 rfl rfl (Nat.le_of_ble_eq_true rfl) rfl rfl ?_
      refine g_goto (tgt := 53) a11_save_88 rfl ?_
      exact g_weak (lE11_save_53 (V := V) (S := S)  k0 n _ _ h K1) ⟨rfl, rfl, trivial⟩
def f11_save (k0 : Nat) (σ : Mem) : Option (Mem) :=
  bnd (if (σ.1 22 0 5) = 8 then
  (bnd (l11_save_13 k0 2000 0 σ) fun w7 =>
  lt (sI w7.2 22 0 5 7) fun σ8 =>
  some σ8)
  else
  (some σ) : Option (Mem)) fun w1 =>
  bnd (l11_save_53 k0 2000 0 w1) fun w14 =>
  lt (sI w14.2 22 0 5 ((w14.2.1 22 0 5) + 1)) fun σ15 =>
  some σ15
theorem E11_save {k0 : Nat} {σ : Mem} {w : Mem} (h : f11_save k0 σ = some w) : Ev m11_save [.inr (.inr (11, k0))] σ none w := by
  unfold f11_save at h
  show Go m11_save 0 [some (.inr (.inr (11, k0))), none] [] σ none w
  refine g_aload_n a11_save_0 rfl ?_
  refine g_getf (v := .inr (.inr (22, 0))) a11_save_1 fs11_7 rfl ?_
  refine g_iconst (v := 5) a11_save_4 rfl ?_
  refine g_iald (x := (σ.1 22 0 5)) a11_save_5 (rI22 (by decide)) (inb_ok (by decide)) rfl ?_
  refine g_bipush (v := 8) a11_save_6 rfl ?_
  obtain ⟨w1, hw1, h⟩ := bnd_inv h
  have J2 : Go m11_save 51 [some (.inr (.inr (11, k0))), none] [] w1 none w := by
    refine g_iconst (v := 0) a11_save_51 rfl ?_
    refine g_istore_n (L' := [some (.inr (.inr (11, k0))), some (.inl 0)]) a11_save_52 (Nat.le_of_ble_eq_true rfl) rfl rfl ?_
    obtain ⟨w14, hw14, h⟩ := bnd_inv h
    refine g_weak (lE11_save_53 k0 2000 _ _ hw14 ?_) ⟨rfl, rfl, trivial⟩
    refine g_aload_n a11_save_91 rfl ?_
    refine g_getf (v := .inr (.inr (22, 0))) a11_save_92 fs11_7 rfl ?_
    refine g_iconst (v := 5) a11_save_95 rfl ?_
    refine g_dup2 a11_save_96 (fun _ => rfl) (fun _ => rfl) ?_
    refine g_iald (x := (w14.2.1 22 0 5)) a11_save_97 (rI22 (by decide)) (inb_ok (by decide)) rfl ?_
    refine g_iconst (v := 1) a11_save_98 rfl ?_
    refine g_iadd a11_save_99 ?_
    obtain ⟨σ15, eσ15, h⟩ := lt_inv h
    refine g_iast (j := 5) a11_save_100 (rI22 (by decide)) (inb_ok (by decide)) rfl ?_
    rw [eσ15]
    have h := Option.some.inj h
    subst h
    exact g_retE a11_save_101 trivial rfl rfl
  clear h
  refine g_icmp_ne (tgt := 51) a11_save_8 rfl (fun c9 => ?_) (fun c9 => ?_)
  · have hw1 := (if_neg c9).symm.trans hw1
    have hw1 := Option.some.inj hw1
    subst hw1
    exact J2
  · have hw1 := (if_pos c9).symm.trans hw1
    refine g_iconst (v := 0) a11_save_11 rfl ?_
    refine g_istore_n (L' := [some (.inr (.inr (11, k0))), some (.inl 0)]) a11_save_12 (Nat.le_of_ble_eq_true rfl) rfl rfl ?_
    obtain ⟨w7, hw7, hw1⟩ := bnd_inv hw1
    refine g_weak (lE11_save_13 k0 2000 _ _ hw7 ?_) ⟨rfl, rfl, trivial⟩
    refine g_aload_n a11_save_43 rfl ?_
    refine g_getf (v := .inr (.inr (22, 0))) a11_save_44 fs11_7 rfl ?_
    refine g_iconst (v := 5) a11_save_47 rfl ?_
    refine g_bipush (v := 7) a11_save_48 rfl ?_
    obtain ⟨σ8, eσ8, hw1⟩ := lt_inv hw1
    refine g_iast (j := 5) a11_save_50 (rI22 (by decide)) (inb_ok (by decide)) rfl ?_
    rw [eσ8]
    have hw1 := Option.some.inj hw1
    subst hw1
    exact g_weak J2 ⟨rfl, trivial⟩
theorem a11_has_0 : At cX11_has 0 (.iload_n 0) 1 1 := ⟨by decide +kernel, rfl⟩
theorem a11_has_1 : At cX11_has 1 (.iload_n 1) 1 2 := ⟨by decide +kernel, rfl⟩
theorem a11_has_2 : At cX11_has 2 (.ishr) 1 3 := ⟨by decide +kernel, rfl⟩
theorem a11_has_3 : At cX11_has 3 (.iconst 1) 1 4 := ⟨by decide +kernel, rfl⟩
theorem a11_has_4 : At cX11_has 4 (.iand) 1 5 := ⟨by decide +kernel, rfl⟩
theorem a11_has_5 : At cX11_has 5 (.iconst 1) 1 6 := ⟨by decide +kernel, rfl⟩
theorem a11_has_6 : At cX11_has 6 (.if_icmp .ne 7) 3 9 := ⟨by decide +kernel, rfl⟩
theorem a11_has_9 : At cX11_has 9 (.iconst 1) 1 10 := ⟨by decide +kernel, rfl⟩
theorem a11_has_10 : At cX11_has 10 (.goto 4) 3 13 := ⟨by decide +kernel, rfl⟩
theorem a11_has_13 : At cX11_has 13 (.iconst 0) 1 14 := ⟨by decide +kernel, rfl⟩
theorem a11_has_14 : At cX11_has 14 (.ireturn) 1 15 := ⟨by decide +kernel, rfl⟩
def f11_has (x0 : Int32) (x1 : Int32) : Int32 :=
  if ((x0 >>> (x1 &&& 31)) &&& 1) = 1 then
  (1)
  else
  (0)
theorem E11_has (x0 : Int32) (x1 : Int32) (σ : Mem) : Ev m11_has [.inl x0, .inl x1] σ (some (.inl (f11_has x0 x1)) : Option AV) σ := by
  obtain ⟨w, h⟩ : ∃ w, f11_has x0 x1 = w := ⟨_, rfl⟩
  rw [h]
  unfold f11_has at h
  show Go m11_has 0 [some (.inl x0), some (.inl x1)] [] σ (some (.inl w) : Option AV) σ
  refine g_iload_n a11_has_0 rfl ?_
  refine g_iload_n a11_has_1 rfl ?_
  refine g_ishr a11_has_2 ?_
  refine g_iconst (v := 1) a11_has_3 rfl ?_
  refine g_iand a11_has_4 ?_
  refine g_iconst (v := 1) a11_has_5 rfl ?_
  refine g_icmp_ne (tgt := 13) a11_has_6 rfl (fun c1 => ?_) (fun c1 => ?_)
  · have h := (if_neg c1).symm.trans h
    refine g_iconst (v := 0) a11_has_13 rfl ?_
    subst h
    exact g_retE a11_has_14 (Or.inl rfl) rfl rfl
  · have h := (if_pos c1).symm.trans h
    refine g_iconst (v := 1) a11_has_9 rfl ?_
    refine g_goto (tgt := 14) a11_has_10 rfl ?_
    subst h
    exact g_retE a11_has_14 (Or.inr rfl) rfl rfl
theorem a11_drawsAs_0 : At cX11_drawsAs 0 (.iload_n 1) 1 1 := ⟨by decide +kernel, rfl⟩
theorem a11_drawsAs_1 : At cX11_drawsAs 1 (.iload_n 2) 1 2 := ⟨by decide +kernel, rfl⟩
theorem a11_drawsAs_2 : At cX11_drawsAs 2 (.if_icmp .le 9) 3 5 := ⟨by decide +kernel, rfl⟩
theorem a11_drawsAs_5 : At cX11_drawsAs 5 (.iload_n 1) 1 6 := ⟨by decide +kernel, rfl⟩
theorem a11_drawsAs_6 : At cX11_drawsAs 6 (.iload_n 2) 1 7 := ⟨by decide +kernel, rfl⟩
theorem a11_drawsAs_7 : At cX11_drawsAs 7 (.isub) 1 8 := ⟨by decide +kernel, rfl⟩
theorem a11_drawsAs_8 : At cX11_drawsAs 8 (.goto 4) 3 11 := ⟨by decide +kernel, rfl⟩
theorem a11_drawsAs_11 : At cX11_drawsAs 11 (.iconst 0) 1 12 := ⟨by decide +kernel, rfl⟩
theorem a11_drawsAs_12 : At cX11_drawsAs 12 (.istore 4) 2 14 := ⟨by decide +kernel, rfl⟩
theorem a11_drawsAs_14 : At cX11_drawsAs 14 (.iload_n 0) 1 15 := ⟨by decide +kernel, rfl⟩
theorem a11_drawsAs_15 : At cX11_drawsAs 15 (.tableswitch 90 1 5 #[33, 38, 43, 58, 74]) 33 48 := ⟨by decide +kernel, rfl⟩
theorem a11_drawsAs_48 : At cX11_drawsAs 48 (.iload 4) 2 50 := ⟨by decide +kernel, rfl⟩
theorem a11_drawsAs_50 : At cX11_drawsAs 50 (.iconst 5) 1 51 := ⟨by decide +kernel, rfl⟩
theorem a11_drawsAs_51 : At cX11_drawsAs 51 (.iadd) 1 52 := ⟨by decide +kernel, rfl⟩
theorem a11_drawsAs_52 : At cX11_drawsAs 52 (.ireturn) 1 53 := ⟨by decide +kernel, rfl⟩
theorem a11_drawsAs_53 : At cX11_drawsAs 53 (.iconst 2) 1 54 := ⟨by decide +kernel, rfl⟩
theorem a11_drawsAs_54 : At cX11_drawsAs 54 (.iload 4) 2 56 := ⟨by decide +kernel, rfl⟩
theorem a11_drawsAs_56 : At cX11_drawsAs 56 (.imul) 1 57 := ⟨by decide +kernel, rfl⟩
theorem a11_drawsAs_57 : At cX11_drawsAs 57 (.ireturn) 1 58 := ⟨by decide +kernel, rfl⟩
theorem a11_drawsAs_58 : At cX11_drawsAs 58 (.iload_n 3) 1 59 := ⟨by decide +kernel, rfl⟩
theorem a11_drawsAs_59 : At cX11_drawsAs 59 (.iconst 2) 1 60 := ⟨by decide +kernel, rfl⟩
theorem a11_drawsAs_60 : At cX11_drawsAs 60 (.irem) 1 61 := ⟨by decide +kernel, rfl⟩
theorem a11_drawsAs_61 : At cX11_drawsAs 61 (.ifCond .ne 10) 3 64 := ⟨by decide +kernel, rfl⟩
theorem a11_drawsAs_64 : At cX11_drawsAs 64 (.iconst 2) 1 65 := ⟨by decide +kernel, rfl⟩
theorem a11_drawsAs_65 : At cX11_drawsAs 65 (.iload 4) 2 67 := ⟨by decide +kernel, rfl⟩
theorem a11_drawsAs_67 : At cX11_drawsAs 67 (.imul) 1 68 := ⟨by decide +kernel, rfl⟩
theorem a11_drawsAs_68 : At cX11_drawsAs 68 (.goto 4) 3 71 := ⟨by decide +kernel, rfl⟩
theorem a11_drawsAs_71 : At cX11_drawsAs 71 (.iconst 0) 1 72 := ⟨by decide +kernel, rfl⟩
theorem a11_drawsAs_72 : At cX11_drawsAs 72 (.ireturn) 1 73 := ⟨by decide +kernel, rfl⟩
theorem a11_drawsAs_73 : At cX11_drawsAs 73 (.iload_n 2) 1 74 := ⟨by decide +kernel, rfl⟩
theorem a11_drawsAs_74 : At cX11_drawsAs 74 (.iconst 1) 1 75 := ⟨by decide +kernel, rfl⟩
theorem a11_drawsAs_75 : At cX11_drawsAs 75 (.if_icmp .gt 11) 3 78 := ⟨by decide +kernel, rfl⟩
theorem a11_drawsAs_78 : At cX11_drawsAs 78 (.iload 4) 2 80 := ⟨by decide +kernel, rfl⟩
theorem a11_drawsAs_80 : At cX11_drawsAs 80 (.bipush 9) 2 82 := ⟨by decide +kernel, rfl⟩
theorem a11_drawsAs_82 : At cX11_drawsAs 82 (.iadd) 1 83 := ⟨by decide +kernel, rfl⟩
theorem a11_drawsAs_83 : At cX11_drawsAs 83 (.goto 5) 3 86 := ⟨by decide +kernel, rfl⟩
theorem a11_drawsAs_86 : At cX11_drawsAs 86 (.iload 4) 2 88 := ⟨by decide +kernel, rfl⟩
theorem a11_drawsAs_88 : At cX11_drawsAs 88 (.ireturn) 1 89 := ⟨by decide +kernel, rfl⟩
theorem a11_drawsAs_89 : At cX11_drawsAs 89 (.iload 4) 2 91 := ⟨by decide +kernel, rfl⟩
theorem a11_drawsAs_91 : At cX11_drawsAs 91 (.iconst 5) 1 92 := ⟨by decide +kernel, rfl⟩
theorem a11_drawsAs_92 : At cX11_drawsAs 92 (.iadd) 1 93 := ⟨by decide +kernel, rfl⟩
theorem a11_drawsAs_93 : At cX11_drawsAs 93 (.iload_n 3) 1 94 := ⟨by decide +kernel, rfl⟩
theorem a11_drawsAs_94 : At cX11_drawsAs 94 (.iconst 5) 1 95 := ⟨by decide +kernel, rfl⟩
theorem a11_drawsAs_95 : At cX11_drawsAs 95 (.if_icmp .le 7) 3 98 := ⟨by decide +kernel, rfl⟩
theorem a11_drawsAs_98 : At cX11_drawsAs 98 (.iconst 5) 1 99 := ⟨by decide +kernel, rfl⟩
theorem a11_drawsAs_99 : At cX11_drawsAs 99 (.goto 4) 3 102 := ⟨by decide +kernel, rfl⟩
theorem a11_drawsAs_102 : At cX11_drawsAs 102 (.iload_n 3) 1 103 := ⟨by decide +kernel, rfl⟩
theorem a11_drawsAs_103 : At cX11_drawsAs 103 (.iadd) 1 104 := ⟨by decide +kernel, rfl⟩
theorem a11_drawsAs_104 : At cX11_drawsAs 104 (.ireturn) 1 105 := ⟨by decide +kernel, rfl⟩
theorem a11_drawsAs_105 : At cX11_drawsAs 105 (.iload 4) 2 107 := ⟨by decide +kernel, rfl⟩
theorem a11_drawsAs_107 : At cX11_drawsAs 107 (.ireturn) 1 108 := ⟨by decide +kernel, rfl⟩
def f11_drawsAs (x0 : Int32) (x1 : Int32) (x2 : Int32) (x3 : Int32) : Int32 :=
  lt (if x1 ≤ x2 then
  (0)
  else
  ((x1 - x2)) : Int32) fun w1 =>
  if x0 = 1 then
  ((w1 + 5))
  else if x0 = 2 then
  ((2 * w1))
  else if x0 = 3 then
  (if (x3 - x3 / 2 * 2) = 0 then
  ((2 * w1))
  else
  (0))
  else if x0 = 4 then
  (if 1 < x2 then
  (w1)
  else
  ((w1 + 9)))
  else if x0 = 5 then
  (lt (if x3 ≤ 5 then
  (x3)
  else
  (5) : Int32) fun w6 =>
  ((w1 + 5) + w6))
  else 
  (w1)
theorem E11_drawsAs (x0 : Int32) (x1 : Int32) (x2 : Int32) (x3 : Int32) (σ : Mem) : Ev m11_drawsAs [.inl x0, .inl x1, .inl x2, .inl x3] σ (some (.inl (f11_drawsAs x0 x1 x2 x3)) : Option AV) σ := by
  obtain ⟨w, h⟩ : ∃ w, f11_drawsAs x0 x1 x2 x3 = w := ⟨_, rfl⟩
  rw [h]
  unfold f11_drawsAs at h
  show Go m11_drawsAs 0 [some (.inl x0), some (.inl x1), some (.inl x2), some (.inl x3), none] [] σ (some (.inl w) : Option AV) σ
  refine g_iload_n a11_drawsAs_0 rfl ?_
  refine g_iload_n a11_drawsAs_1 rfl ?_
  obtain ⟨w1, hw1, h⟩ := lt_inv h
  have J2 : Go m11_drawsAs 12 [some (.inl x0), none, some (.inl x2), some (.inl x3), none] [.inl w1] σ (some (.inl w) : Option AV) σ := by
    refine g_istore (L' := [some (.inl x0), none, some (.inl x2), some (.inl x3), some (.inl w1)]) a11_drawsAs_12 (Nat.le_of_ble_eq_true rfl) rfl rfl ?_
    refine g_iload_n a11_drawsAs_14 rfl ?_
    rcases Decidable.em (x0 = 1) with c9 | c9
    · have h := (if_pos c9).symm.trans h
      refine g_tsIn (tgt := 48) (off := 33) a11_drawsAs_15 (by rw [c9]; decide) (by rw [c9]; decide) (by rw [c9]; rfl) rfl ?_
      refine g_iload a11_drawsAs_48 rfl ?_
      refine g_iconst (v := 5) a11_drawsAs_50 rfl ?_
      refine g_iadd a11_drawsAs_51 ?_
      subst h
      exact g_retE a11_drawsAs_52 trivial rfl rfl
    have h := (if_neg c9).symm.trans h
    rcases Decidable.em (x0 = 2) with c10 | c10
    · have h := (if_pos c10).symm.trans h
      refine g_tsIn (tgt := 53) (off := 38) a11_drawsAs_15 (by rw [c10]; decide) (by rw [c10]; decide) (by rw [c10]; rfl) rfl ?_
      refine g_iconst (v := 2) a11_drawsAs_53 rfl ?_
      refine g_iload a11_drawsAs_54 rfl ?_
      refine g_imul a11_drawsAs_56 ?_
      subst h
      exact g_retE a11_drawsAs_57 trivial rfl rfl
    have h := (if_neg c10).symm.trans h
    rcases Decidable.em (x0 = 3) with c11 | c11
    · have h := (if_pos c11).symm.trans h
      refine g_tsIn (tgt := 58) (off := 43) a11_drawsAs_15 (by rw [c11]; decide) (by rw [c11]; decide) (by rw [c11]; rfl) rfl ?_
      refine g_iload_n a11_drawsAs_58 rfl ?_
      refine g_iconst (v := 2) a11_drawsAs_59 rfl ?_
      refine g_irem a11_drawsAs_60 (by decide) ?_
      refine g_if_ne (tgt := 71) a11_drawsAs_61 rfl (fun c4 => ?_) (fun c4 => ?_)
      · have h := (if_neg c4).symm.trans h
        refine g_iconst (v := 0) a11_drawsAs_71 rfl ?_
        subst h
        exact g_retE a11_drawsAs_72 trivial rfl rfl
      · have h := (if_pos c4).symm.trans h
        refine g_iconst (v := 2) a11_drawsAs_64 rfl ?_
        refine g_iload a11_drawsAs_65 rfl ?_
        refine g_imul a11_drawsAs_67 ?_
        refine g_goto (tgt := 72) a11_drawsAs_68 rfl ?_
        subst h
        exact g_retE a11_drawsAs_72 trivial rfl rfl
    have h := (if_neg c11).symm.trans h
    rcases Decidable.em (x0 = 4) with c12 | c12
    · have h := (if_pos c12).symm.trans h
      refine g_tsIn (tgt := 73) (off := 58) a11_drawsAs_15 (by rw [c12]; decide) (by rw [c12]; decide) (by rw [c12]; rfl) rfl ?_
      refine g_iload_n a11_drawsAs_73 rfl ?_
      refine g_iconst (v := 1) a11_drawsAs_74 rfl ?_
      refine g_icmp_gt (tgt := 86) a11_drawsAs_75 rfl (fun c5 => ?_) (fun c5 => ?_)
      · have h := (if_pos c5).symm.trans h
        refine g_iload a11_drawsAs_86 rfl ?_
        subst h
        exact g_retE a11_drawsAs_88 trivial rfl rfl
      · have h := (if_neg c5).symm.trans h
        refine g_iload a11_drawsAs_78 rfl ?_
        refine g_bipush (v := 9) a11_drawsAs_80 rfl ?_
        refine g_iadd a11_drawsAs_82 ?_
        refine g_goto (tgt := 88) a11_drawsAs_83 rfl ?_
        subst h
        exact g_retE a11_drawsAs_88 trivial rfl rfl
    have h := (if_neg c12).symm.trans h
    rcases Decidable.em (x0 = 5) with c13 | c13
    · have h := (if_pos c13).symm.trans h
      refine g_tsIn (tgt := 89) (off := 74) a11_drawsAs_15 (by rw [c13]; decide) (by rw [c13]; decide) (by rw [c13]; rfl) rfl ?_
      refine g_iload a11_drawsAs_89 rfl ?_
      refine g_iconst (v := 5) a11_drawsAs_91 rfl ?_
      refine g_iadd a11_drawsAs_92 ?_
      refine g_iload_n a11_drawsAs_93 rfl ?_
      refine g_iconst (v := 5) a11_drawsAs_94 rfl ?_
      obtain ⟨w6, hw6, h⟩ := lt_inv h
      have J7 : Go m11_drawsAs 103 [none, none, none, none, none] [.inl w6, .inl (w1 + 5)] σ (some (.inl w) : Option AV) σ := by
        refine g_iadd a11_drawsAs_103 ?_
        subst h
        exact g_retE a11_drawsAs_104 trivial rfl rfl
      clear h
      refine g_icmp_le (tgt := 102) a11_drawsAs_95 rfl (fun c8 => ?_) (fun c8 => ?_)
      · have hw6 := (if_pos c8).symm.trans hw6
        refine g_iload_n a11_drawsAs_102 rfl ?_
        subst hw6
        exact g_weak J7 trivial
      · have hw6 := (if_neg c8).symm.trans hw6
        refine g_iconst (v := 5) a11_drawsAs_98 rfl ?_
        refine g_goto (tgt := 103) a11_drawsAs_99 rfl ?_
        subst hw6
        exact g_weak J7 trivial
    have h := (if_neg c13).symm.trans h
    have tc9 := lv_neT c9 (a := 1) rfl
    have tc10 := lv_neT c10 (a := 2) rfl
    have tc11 := lv_neT c11 (a := 3) rfl
    have tc12 := lv_neT c12 (a := 4) rfl
    have tc13 := lv_neT c13 (a := 5) rfl
    refine g_tsOut (tgt := 105) a11_drawsAs_15 (by omega) rfl ?_
    refine g_iload a11_drawsAs_105 rfl ?_
    subst h
    exact g_retE a11_drawsAs_107 trivial rfl rfl
  clear h
  refine g_icmp_le (tgt := 11) a11_drawsAs_2 rfl (fun c3 => ?_) (fun c3 => ?_)
  · have hw1 := (if_pos c3).symm.trans hw1
    refine g_iconst (v := 0) a11_drawsAs_11 rfl ?_
    subst hw1
    exact g_weak J2 ⟨rfl, rfl, rfl, trivial⟩
  · have hw1 := (if_neg c3).symm.trans hw1
    refine g_iload_n a11_drawsAs_5 rfl ?_
    refine g_iload_n a11_drawsAs_6 rfl ?_
    refine g_isub a11_drawsAs_7 ?_
    refine g_goto (tgt := 12) a11_drawsAs_8 rfl ?_
    subst hw1
    exact g_weak J2 ⟨rfl, rfl, rfl, trivial⟩
theorem a11_drawsFrom_0 : At cX11_drawsFrom 0 (.aload_n 0) 1 1 := ⟨by decide +kernel, rfl⟩
theorem a11_drawsFrom_1 : At cX11_drawsFrom 1 (.bipush 34) 2 3 := ⟨by decide +kernel, rfl⟩
theorem a11_drawsFrom_3 : At cX11_drawsFrom 3 (.iload_n 1) 1 4 := ⟨by decide +kernel, rfl⟩
theorem a11_drawsFrom_4 : At cX11_drawsFrom 4 (.iadd) 1 5 := ⟨by decide +kernel, rfl⟩
theorem a11_drawsFrom_5 : At cX11_drawsFrom 5 (.iaload) 1 6 := ⟨by decide +kernel, rfl⟩
theorem a11_drawsFrom_6 : At cX11_drawsFrom 6 (.iload_n 2) 1 7 := ⟨by decide +kernel, rfl⟩
theorem a11_drawsFrom_7 : At cX11_drawsFrom 7 (.isub) 1 8 := ⟨by decide +kernel, rfl⟩
theorem a11_drawsFrom_8 : At cX11_drawsFrom 8 (.istore_n 3) 1 9 := ⟨by decide +kernel, rfl⟩
theorem a11_drawsFrom_9 : At cX11_drawsFrom 9 (.aload_n 0) 1 10 := ⟨by decide +kernel, rfl⟩
theorem a11_drawsFrom_10 : At cX11_drawsFrom 10 (.bipush 22) 2 12 := ⟨by decide +kernel, rfl⟩
theorem a11_drawsFrom_12 : At cX11_drawsFrom 12 (.iload_n 1) 1 13 := ⟨by decide +kernel, rfl⟩
theorem a11_drawsFrom_13 : At cX11_drawsFrom 13 (.iadd) 1 14 := ⟨by decide +kernel, rfl⟩
theorem a11_drawsFrom_14 : At cX11_drawsFrom 14 (.iaload) 1 15 := ⟨by decide +kernel, rfl⟩
theorem a11_drawsFrom_15 : At cX11_drawsFrom 15 (.aload_n 0) 1 16 := ⟨by decide +kernel, rfl⟩
theorem a11_drawsFrom_16 : At cX11_drawsFrom 16 (.bipush 28) 2 18 := ⟨by decide +kernel, rfl⟩
theorem a11_drawsFrom_18 : At cX11_drawsFrom 18 (.iload_n 1) 1 19 := ⟨by decide +kernel, rfl⟩
theorem a11_drawsFrom_19 : At cX11_drawsFrom 19 (.iadd) 1 20 := ⟨by decide +kernel, rfl⟩
theorem a11_drawsFrom_20 : At cX11_drawsFrom 20 (.iaload) 1 21 := ⟨by decide +kernel, rfl⟩
theorem a11_drawsFrom_21 : At cX11_drawsFrom 21 (.iload_n 3) 1 22 := ⟨by decide +kernel, rfl⟩
theorem a11_drawsFrom_22 : At cX11_drawsFrom 22 (.ifCond .ge 8) 3 25 := ⟨by decide +kernel, rfl⟩
theorem a11_drawsFrom_25 : At cX11_drawsFrom 25 (.iload_n 3) 1 26 := ⟨by decide +kernel, rfl⟩
theorem a11_drawsFrom_26 : At cX11_drawsFrom 26 (.ineg) 1 27 := ⟨by decide +kernel, rfl⟩
theorem a11_drawsFrom_27 : At cX11_drawsFrom 27 (.goto 4) 3 30 := ⟨by decide +kernel, rfl⟩
theorem a11_drawsFrom_30 : At cX11_drawsFrom 30 (.iload_n 3) 1 31 := ⟨by decide +kernel, rfl⟩
theorem a11_drawsFrom_31 : At cX11_drawsFrom 31 (.aload_n 0) 1 32 := ⟨by decide +kernel, rfl⟩
theorem a11_drawsFrom_32 : At cX11_drawsFrom 32 (.bipush 9) 2 34 := ⟨by decide +kernel, rfl⟩
theorem a11_drawsFrom_34 : At cX11_drawsFrom 34 (.iaload) 1 35 := ⟨by decide +kernel, rfl⟩
theorem a11_drawsFrom_35 : At cX11_drawsFrom 35 (.invokestatic 89) 3 38 := ⟨by decide +kernel, rfl⟩
theorem a11_drawsFrom_38 : At cX11_drawsFrom 38 (.ireturn) 1 39 := ⟨by decide +kernel, rfl⟩
def f11_drawsFrom (k0 : Nat) (x1 : Int32) (x2 : Int32) (σ : Mem) : Option (Int32) :=
  ck (decide (¬ k0 = 2)) <|
  ck (inb (34 + x1) (alen 22 k0)) <|
  lt (((σ.1 22 k0 ((34 + x1) : Int32).toNatClampNeg) - x2) : Int32) fun y3 =>
  ck (decide (¬ k0 = 2)) <|
  ck (inb (22 + x1) (alen 22 k0)) <|
  ck (decide (¬ k0 = 2)) <|
  ck (inb (28 + x1) (alen 22 k0)) <|
  lt (if 0 ≤ y3 then
  (y3)
  else
  ((-y3)) : Int32) fun w8 =>
  ck (decide (¬ k0 = 2)) <|
  ck (inb 9 (alen 22 k0)) <|
  some (f11_drawsAs (σ.1 22 k0 ((22 + x1) : Int32).toNatClampNeg) (σ.1 22 k0 ((28 + x1) : Int32).toNatClampNeg) w8 (σ.1 22 k0 9))
theorem E11_drawsFrom {k0 : Nat} {x1 : Int32} {x2 : Int32} {σ : Mem} {w : Int32} (h : f11_drawsFrom k0 x1 x2 σ = some w) : Ev m11_drawsFrom [.inr (.inr (22, k0)), .inl x1, .inl x2] σ (some (.inl w) : Option AV) σ := by
  unfold f11_drawsFrom at h
  show Go m11_drawsFrom 0 [some (.inr (.inr (22, k0))), some (.inl x1), some (.inl x2), none] [] σ (some (.inl w) : Option AV) σ
  refine g_aload_n a11_drawsFrom_0 rfl ?_
  refine g_bipush (v := 34) a11_drawsFrom_1 rfl ?_
  refine g_iload_n a11_drawsFrom_3 rfl ?_
  refine g_iadd a11_drawsFrom_4 ?_
  obtain ⟨q1, h⟩ := ck_inv h
  obtain ⟨q2, h⟩ := ck_inv h
  refine g_iald (x := (σ.1 22 k0 ((34 + x1) : Int32).toNatClampNeg)) a11_drawsFrom_5 (rI22 (of_decide_eq_true q1)) (inb_ok q2) rfl ?_
  refine g_iload_n a11_drawsFrom_6 rfl ?_
  refine g_isub a11_drawsFrom_7 ?_
  obtain ⟨y3, ey3, h⟩ := lt_inv h
  rw [ey3]
  refine g_istore_n (L' := [some (.inr (.inr (22, k0))), some (.inl x1), some (.inl x2), some (.inl y3)]) a11_drawsFrom_8 (Nat.le_of_ble_eq_true rfl) rfl rfl ?_
  refine g_aload_n a11_drawsFrom_9 rfl ?_
  refine g_bipush (v := 22) a11_drawsFrom_10 rfl ?_
  refine g_iload_n a11_drawsFrom_12 rfl ?_
  refine g_iadd a11_drawsFrom_13 ?_
  obtain ⟨q4, h⟩ := ck_inv h
  obtain ⟨q5, h⟩ := ck_inv h
  refine g_iald (x := (σ.1 22 k0 ((22 + x1) : Int32).toNatClampNeg)) a11_drawsFrom_14 (rI22 (of_decide_eq_true q4)) (inb_ok q5) rfl ?_
  refine g_aload_n a11_drawsFrom_15 rfl ?_
  refine g_bipush (v := 28) a11_drawsFrom_16 rfl ?_
  refine g_iload_n a11_drawsFrom_18 rfl ?_
  refine g_iadd a11_drawsFrom_19 ?_
  obtain ⟨q6, h⟩ := ck_inv h
  obtain ⟨q7, h⟩ := ck_inv h
  refine g_iald (x := (σ.1 22 k0 ((28 + x1) : Int32).toNatClampNeg)) a11_drawsFrom_20 (rI22 (of_decide_eq_true q6)) (inb_ok q7) rfl ?_
  refine g_iload_n a11_drawsFrom_21 rfl ?_
  obtain ⟨w8, hw8, h⟩ := lt_inv h
  have J9 : Go m11_drawsFrom 31 [some (.inr (.inr (22, k0))), none, none, none] [.inl w8, .inl (σ.1 22 k0 ((28 + x1) : Int32).toNatClampNeg), .inl (σ.1 22 k0 ((22 + x1) : Int32).toNatClampNeg)] σ (some (.inl w) : Option AV) σ := by
    refine g_aload_n a11_drawsFrom_31 rfl ?_
    refine g_bipush (v := 9) a11_drawsFrom_32 rfl ?_
    obtain ⟨q11, h⟩ := ck_inv h
    obtain ⟨q12, h⟩ := ck_inv h
    refine g_iald (x := (σ.1 22 k0 9)) a11_drawsFrom_34 (rI22 (of_decide_eq_true q11)) (inb_ok q12) rfl ?_
    refine g_S4s (v1 := .inl (f11_drawsAs (σ.1 22 k0 ((22 + x1) : Int32).toNatClampNeg) (σ.1 22 k0 ((28 + x1) : Int32).toNatClampNeg) w8 (σ.1 22 k0 9))) (σ1 := σ) a11_drawsFrom_35 cs11_89 (E11_drawsAs _ _ _ _ _) rfl (fun o13 => ?_)
    have h := Option.some.inj h
    subst h
    exact g_retE a11_drawsFrom_38 trivial rfl rfl
  clear h
  refine g_if_ge (tgt := 30) a11_drawsFrom_22 rfl (fun c10 => ?_) (fun c10 => ?_)
  · have hw8 := (if_pos c10).symm.trans hw8
    refine g_iload_n a11_drawsFrom_30 rfl ?_
    subst hw8
    exact g_weak J9 ⟨rfl, trivial⟩
  · have hw8 := (if_neg c10).symm.trans hw8
    refine g_iload_n a11_drawsFrom_25 rfl ?_
    refine g_ineg a11_drawsFrom_26 ?_
    refine g_goto (tgt := 31) a11_drawsFrom_27 rfl ?_
    subst hw8
    exact g_weak J9 ⟨rfl, trivial⟩
theorem a11_struckOf_0 : At cX11_struckOf 0 (.iconst (-1)) 1 1 := ⟨by decide +kernel, rfl⟩
theorem a11_struckOf_1 : At cX11_struckOf 1 (.istore_n 3) 1 2 := ⟨by decide +kernel, rfl⟩
theorem a11_struckOf_2 : At cX11_struckOf 2 (.iconst 0) 1 3 := ⟨by decide +kernel, rfl⟩
theorem a11_struckOf_3 : At cX11_struckOf 3 (.istore 4) 2 5 := ⟨by decide +kernel, rfl⟩
theorem a11_struckOf_5 : At cX11_struckOf 5 (.iconst 0) 1 6 := ⟨by decide +kernel, rfl⟩
theorem a11_struckOf_6 : At cX11_struckOf 6 (.istore 5) 2 8 := ⟨by decide +kernel, rfl⟩
theorem a11_struckOf_8 : At cX11_struckOf 8 (.iload 5) 2 10 := ⟨by decide +kernel, rfl⟩
theorem a11_struckOf_10 : At cX11_struckOf 10 (.aload_n 0) 1 11 := ⟨by decide +kernel, rfl⟩
theorem a11_struckOf_11 : At cX11_struckOf 11 (.iconst 0) 1 12 := ⟨by decide +kernel, rfl⟩
theorem a11_struckOf_12 : At cX11_struckOf 12 (.iaload) 1 13 := ⟨by decide +kernel, rfl⟩
theorem a11_struckOf_13 : At cX11_struckOf 13 (.if_icmp .ge 61) 3 16 := ⟨by decide +kernel, rfl⟩
theorem a11_struckOf_16 : At cX11_struckOf 16 (.iload_n 1) 1 17 := ⟨by decide +kernel, rfl⟩
theorem a11_struckOf_17 : At cX11_struckOf 17 (.iload 5) 2 19 := ⟨by decide +kernel, rfl⟩
theorem a11_struckOf_19 : At cX11_struckOf 19 (.invokestatic 93) 3 22 := ⟨by decide +kernel, rfl⟩
theorem a11_struckOf_22 : At cX11_struckOf 22 (.ifCond .eq 13) 3 25 := ⟨by decide +kernel, rfl⟩
theorem a11_struckOf_25 : At cX11_struckOf 25 (.aload_n 0) 1 26 := ⟨by decide +kernel, rfl⟩
theorem a11_struckOf_26 : At cX11_struckOf 26 (.iload 5) 2 28 := ⟨by decide +kernel, rfl⟩
theorem a11_struckOf_28 : At cX11_struckOf 28 (.iload_n 2) 1 29 := ⟨by decide +kernel, rfl⟩
theorem a11_struckOf_29 : At cX11_struckOf 29 (.invokestatic 97) 3 32 := ⟨by decide +kernel, rfl⟩
theorem a11_struckOf_32 : At cX11_struckOf 32 (.goto 4) 3 35 := ⟨by decide +kernel, rfl⟩
theorem a11_struckOf_35 : At cX11_struckOf 35 (.iconst 0) 1 36 := ⟨by decide +kernel, rfl⟩
theorem a11_struckOf_36 : At cX11_struckOf 36 (.istore 6) 2 38 := ⟨by decide +kernel, rfl⟩
theorem a11_struckOf_38 : At cX11_struckOf 38 (.iload 6) 2 40 := ⟨by decide +kernel, rfl⟩
theorem a11_struckOf_40 : At cX11_struckOf 40 (.iload 4) 2 42 := ⟨by decide +kernel, rfl⟩
theorem a11_struckOf_42 : At cX11_struckOf 42 (.if_icmp .le 8) 3 45 := ⟨by decide +kernel, rfl⟩
theorem a11_struckOf_45 : At cX11_struckOf 45 (.iload 5) 2 47 := ⟨by decide +kernel, rfl⟩
theorem a11_struckOf_47 : At cX11_struckOf 47 (.goto 4) 3 50 := ⟨by decide +kernel, rfl⟩
theorem a11_struckOf_50 : At cX11_struckOf 50 (.iload_n 3) 1 51 := ⟨by decide +kernel, rfl⟩
theorem a11_struckOf_51 : At cX11_struckOf 51 (.istore_n 3) 1 52 := ⟨by decide +kernel, rfl⟩
theorem a11_struckOf_52 : At cX11_struckOf 52 (.iload 6) 2 54 := ⟨by decide +kernel, rfl⟩
theorem a11_struckOf_54 : At cX11_struckOf 54 (.iload 4) 2 56 := ⟨by decide +kernel, rfl⟩
theorem a11_struckOf_56 : At cX11_struckOf 56 (.if_icmp .le 8) 3 59 := ⟨by decide +kernel, rfl⟩
theorem a11_struckOf_59 : At cX11_struckOf 59 (.iload 6) 2 61 := ⟨by decide +kernel, rfl⟩
theorem a11_struckOf_61 : At cX11_struckOf 61 (.goto 5) 3 64 := ⟨by decide +kernel, rfl⟩
theorem a11_struckOf_64 : At cX11_struckOf 64 (.iload 4) 2 66 := ⟨by decide +kernel, rfl⟩
theorem a11_struckOf_66 : At cX11_struckOf 66 (.istore 4) 2 68 := ⟨by decide +kernel, rfl⟩
theorem a11_struckOf_68 : At cX11_struckOf 68 (.iinc 5 1) 3 71 := ⟨by decide +kernel, rfl⟩
theorem a11_struckOf_71 : At cX11_struckOf 71 (.goto (-63)) 3 74 := ⟨by decide +kernel, rfl⟩
theorem a11_struckOf_74 : At cX11_struckOf 74 (.iload_n 3) 1 75 := ⟨by decide +kernel, rfl⟩
theorem a11_struckOf_75 : At cX11_struckOf 75 (.ireturn) 1 76 := ⟨by decide +kernel, rfl⟩
def l11_struckOf_8 (k0 : Nat) (x1 : Int32) (x2 : Int32) (σ : Mem) : Nat → Int32 → Int32 → Int32 → Option (Int32 × Int32 × Int32)
  | 0, _, _, _ => none
  | n + 1, x3, x4, x5 =>
  ck (decide (¬ k0 = 2)) <|
  ck (inb 0 (alen 22 k0)) <|
  if (σ.1 22 k0 0) ≤ x5 then
  (some (x3, x4, x5))
  else
  (bnd (if (f11_has x1 x5) = 0 then
  (some 0)
  else
  (bnd (f11_drawsFrom k0 x5 x2 σ) fun w6 =>
  some w6) : Option (Int32)) fun w4 =>
  lt (if w4 ≤ x4 then
  (x3)
  else
  (x5) : Int32) fun w9 =>
  lt (if w4 ≤ x4 then
  (x4)
  else
  (w4) : Int32) fun w12 =>
  l11_struckOf_8 k0 x1 x2 σ n w9 w12 (x5 + 1))
theorem lE11_struckOf_8 {V : Option AV} {S : Mem} (k0 : Nat) (x1 : Int32) (x2 : Int32) (σ : Mem) : ∀ (n : Nat) (x3 : Int32) (x4 : Int32) (x5 : Int32) {w : Int32 × Int32 × Int32}, l11_struckOf_8 k0 x1 x2 σ n x3 x4 x5 = some w → (Go m11_struckOf 74 [some (.inr (.inr (22, k0))), some (.inl x1), some (.inl x2), some (.inl w.1), some (.inl w.2.1), some (.inl w.2.2), none] [] σ V S) → Go m11_struckOf 8 [some (.inr (.inr (22, k0))), some (.inl x1), some (.inl x2), some (.inl x3), some (.inl x4), some (.inl x5), none] [] σ V S
  | 0, x3, x4, x5, w, h, K1 => by cases h
  | n + 1, x3, x4, x5, w, h, K1 => by
    rw [l11_struckOf_8] at h
    refine g_iload a11_struckOf_8 rfl ?_
    refine g_aload_n a11_struckOf_10 rfl ?_
    refine g_iconst (v := 0) a11_struckOf_11 rfl ?_
    obtain ⟨q1, h⟩ := ck_inv h
    obtain ⟨q2, h⟩ := ck_inv h
    refine g_iald (x := (σ.1 22 k0 0)) a11_struckOf_12 (rI22 (of_decide_eq_true q1)) (inb_ok q2) rfl ?_
    refine g_icmp_ge (tgt := 74) a11_struckOf_13 rfl (fun c15 => ?_) (fun c15 => ?_)
    · have h := (if_pos c15).symm.trans h
      have h := Option.some.inj h
      subst h
      exact g_weak K1 ⟨rfl, rfl, rfl, rfl, rfl, rfl, trivial⟩
    · have h := (if_neg c15).symm.trans h
      refine g_iload_n a11_struckOf_16 rfl ?_
      refine g_iload a11_struckOf_17 rfl ?_
      refine g_S2s (v1 := .inl (f11_has x1 x5)) (σ1 := σ) a11_struckOf_19 cs11_93 (E11_has _ _ _) rfl (fun o3 => ?_)
      obtain ⟨w4, hw4, h⟩ := bnd_inv h
      have J5 : Go m11_struckOf 36 [some (.inr (.inr (22, k0))), some (.inl x1), some (.inl x2), some (.inl x3), some (.inl x4), some (.inl x5), none] [.inl w4] σ V S := by
        refine g_istore (L' := [some (.inr (.inr (22, k0))), some (.inl x1), some (.inl x2), some (.inl x3), some (.inl x4), some (.inl x5), some (.inl w4)]) a11_struckOf_36 (Nat.le_of_ble_eq_true rfl) rfl rfl ?_
        refine g_iload a11_struckOf_38 rfl ?_
        refine g_iload a11_struckOf_40 rfl ?_
        obtain ⟨w9, hw9, h⟩ := lt_inv h
        have J10 : Go m11_struckOf 51 [some (.inr (.inr (22, k0))), some (.inl x1), some (.inl x2), none, some (.inl x4), some (.inl x5), some (.inl w4)] [.inl w9] σ V S := by
          refine g_istore_n (L' := [some (.inr (.inr (22, k0))), some (.inl x1), some (.inl x2), some (.inl w9), some (.inl x4), some (.inl x5), some (.inl w4)]) a11_struckOf_51 (Nat.le_of_ble_eq_true rfl) rfl rfl ?_
          refine g_iload a11_struckOf_52 rfl ?_
          refine g_iload a11_struckOf_54 rfl ?_
          obtain ⟨w12, hw12, h⟩ := lt_inv h
          have J13 : Go m11_struckOf 66 [some (.inr (.inr (22, k0))), some (.inl x1), some (.inl x2), some (.inl w9), none, some (.inl x5), none] [.inl w12] σ V S := by
            refine g_istore (L' := [some (.inr (.inr (22, k0))), some (.inl x1), some (.inl x2), some (.inl w9), some (.inl w12), some (.inl x5), none]) a11_struckOf_66 (Nat.le_of_ble_eq_true rfl) rfl rfl ?_
            refine g_iinc (v := (x5 + 1)) (L' := [some (.inr (.inr (22, k0))), some (.inl x1), some (.inl x2), some (.inl w9), some (.inl w12), some (.inl (x5 + 1)), none]) a11_struckOf_68 rfl rfl (Nat.le_of_ble_eq_true rfl) rfl rfl ?_
            refine g_goto (tgt := 8) a11_struckOf_71 rfl ?_
            exact g_weak (lE11_struckOf_8 (V := V) (S := S)  k0 x1 x2 σ n _ _ _ h K1) ⟨rfl, rfl, rfl, rfl, rfl, rfl, trivial⟩
          clear h
          refine g_icmp_le (tgt := 64) a11_struckOf_56 rfl (fun c14 => ?_) (fun c14 => ?_)
          · have hw12 := (if_pos c14).symm.trans hw12
            refine g_iload a11_struckOf_64 rfl ?_
            subst hw12
            exact g_weak J13 ⟨rfl, rfl, rfl, rfl, rfl, trivial⟩
          · have hw12 := (if_neg c14).symm.trans hw12
            refine g_iload a11_struckOf_59 rfl ?_
            refine g_goto (tgt := 66) a11_struckOf_61 rfl ?_
            subst hw12
            exact g_weak J13 ⟨rfl, rfl, rfl, rfl, rfl, trivial⟩
        clear h
        refine g_icmp_le (tgt := 50) a11_struckOf_42 rfl (fun c11 => ?_) (fun c11 => ?_)
        · have hw9 := (if_pos c11).symm.trans hw9
          refine g_iload_n a11_struckOf_50 rfl ?_
          subst hw9
          exact g_weak J10 ⟨rfl, rfl, rfl, rfl, rfl, rfl, trivial⟩
        · have hw9 := (if_neg c11).symm.trans hw9
          refine g_iload a11_struckOf_45 rfl ?_
          refine g_goto (tgt := 51) a11_struckOf_47 rfl ?_
          subst hw9
          exact g_weak J10 ⟨rfl, rfl, rfl, rfl, rfl, rfl, trivial⟩
      clear h
      refine g_if_eq (tgt := 35) a11_struckOf_22 rfl (fun c8 => ?_) (fun c8 => ?_)
      · have hw4 := (if_pos c8).symm.trans hw4
        refine g_iconst (v := 0) a11_struckOf_35 rfl ?_
        have hw4 := Option.some.inj hw4
        subst hw4
        exact J5
      · have hw4 := (if_neg c8).symm.trans hw4
        refine g_aload_n a11_struckOf_25 rfl ?_
        refine g_iload a11_struckOf_26 rfl ?_
        refine g_iload_n a11_struckOf_28 rfl ?_
        obtain ⟨w6, hw6, hw4⟩ := bnd_inv hw4
        refine g_S3s (v1 := .inl w6) (σ1 := σ) a11_struckOf_29 cs11_97 (E11_drawsFrom hw6) rfl (fun o7 => ?_)
        refine g_goto (tgt := 36) a11_struckOf_32 rfl ?_
        have hw4 := Option.some.inj hw4
        subst hw4
        exact J5
def f11_struckOf (k0 : Nat) (x1 : Int32) (x2 : Int32) (σ : Mem) : Option (Int32) :=
  bnd (l11_struckOf_8 k0 x1 x2 σ 2000 (-1) 0 0) fun w16 =>
  some w16.1
theorem E11_struckOf {k0 : Nat} {x1 : Int32} {x2 : Int32} {σ : Mem} {w : Int32} (h : f11_struckOf k0 x1 x2 σ = some w) : Ev m11_struckOf [.inr (.inr (22, k0)), .inl x1, .inl x2] σ (some (.inl w) : Option AV) σ := by
  unfold f11_struckOf at h
  show Go m11_struckOf 0 [some (.inr (.inr (22, k0))), some (.inl x1), some (.inl x2), none, none, none, none] [] σ (some (.inl w) : Option AV) σ
  refine g_iconst (v := (-1)) a11_struckOf_0 rfl ?_
  refine g_istore_n (L' := [some (.inr (.inr (22, k0))), some (.inl x1), some (.inl x2), some (.inl (-1)), none, none, none]) a11_struckOf_1 (Nat.le_of_ble_eq_true rfl) rfl rfl ?_
  refine g_iconst (v := 0) a11_struckOf_2 rfl ?_
  refine g_istore (L' := [some (.inr (.inr (22, k0))), some (.inl x1), some (.inl x2), some (.inl (-1)), some (.inl 0), none, none]) a11_struckOf_3 (Nat.le_of_ble_eq_true rfl) rfl rfl ?_
  refine g_iconst (v := 0) a11_struckOf_5 rfl ?_
  refine g_istore (L' := [some (.inr (.inr (22, k0))), some (.inl x1), some (.inl x2), some (.inl (-1)), some (.inl 0), some (.inl 0), none]) a11_struckOf_6 (Nat.le_of_ble_eq_true rfl) rfl rfl ?_
  obtain ⟨w16, hw16, h⟩ := bnd_inv h
  refine g_weak (lE11_struckOf_8 k0 x1 x2 σ 2000 _ _ _ hw16 ?_) ⟨rfl, rfl, rfl, rfl, rfl, rfl, trivial⟩
  refine g_iload_n a11_struckOf_74 rfl ?_
  have h := Option.some.inj h
  subst h
  exact g_retE a11_struckOf_75 trivial rfl rfl
theorem a11_firstOf_0 : At cX11_firstOf 0 (.iconst 0) 1 1 := ⟨by decide +kernel, rfl⟩
theorem a11_firstOf_1 : At cX11_firstOf 1 (.istore_n 1) 1 2 := ⟨by decide +kernel, rfl⟩
theorem a11_firstOf_2 : At cX11_firstOf 2 (.iload_n 1) 1 3 := ⟨by decide +kernel, rfl⟩
theorem a11_firstOf_3 : At cX11_firstOf 3 (.aload_n 0) 1 4 := ⟨by decide +kernel, rfl⟩
theorem a11_firstOf_4 : At cX11_firstOf 4 (.iconst 1) 1 5 := ⟨by decide +kernel, rfl⟩
theorem a11_firstOf_5 : At cX11_firstOf 5 (.iaload) 1 6 := ⟨by decide +kernel, rfl⟩
theorem a11_firstOf_6 : At cX11_firstOf 6 (.if_icmp .ge 20) 3 9 := ⟨by decide +kernel, rfl⟩
theorem a11_firstOf_9 : At cX11_firstOf 9 (.aload_n 0) 1 10 := ⟨by decide +kernel, rfl⟩
theorem a11_firstOf_10 : At cX11_firstOf 10 (.bipush 7) 2 12 := ⟨by decide +kernel, rfl⟩
theorem a11_firstOf_12 : At cX11_firstOf 12 (.iaload) 1 13 := ⟨by decide +kernel, rfl⟩
theorem a11_firstOf_13 : At cX11_firstOf 13 (.iload_n 1) 1 14 := ⟨by decide +kernel, rfl⟩
theorem a11_firstOf_14 : At cX11_firstOf 14 (.invokestatic 93) 3 17 := ⟨by decide +kernel, rfl⟩
theorem a11_firstOf_17 : At cX11_firstOf 17 (.ifCond .eq 9) 3 20 := ⟨by decide +kernel, rfl⟩
theorem a11_firstOf_20 : At cX11_firstOf 20 (.iinc 1 1) 3 23 := ⟨by decide +kernel, rfl⟩
theorem a11_firstOf_23 : At cX11_firstOf 23 (.goto (-21)) 3 26 := ⟨by decide +kernel, rfl⟩
theorem a11_firstOf_26 : At cX11_firstOf 26 (.iload_n 1) 1 27 := ⟨by decide +kernel, rfl⟩
theorem a11_firstOf_27 : At cX11_firstOf 27 (.aload_n 0) 1 28 := ⟨by decide +kernel, rfl⟩
theorem a11_firstOf_28 : At cX11_firstOf 28 (.iconst 1) 1 29 := ⟨by decide +kernel, rfl⟩
theorem a11_firstOf_29 : At cX11_firstOf 29 (.iaload) 1 30 := ⟨by decide +kernel, rfl⟩
theorem a11_firstOf_30 : At cX11_firstOf 30 (.if_icmp .ge 7) 3 33 := ⟨by decide +kernel, rfl⟩
theorem a11_firstOf_33 : At cX11_firstOf 33 (.iload_n 1) 1 34 := ⟨by decide +kernel, rfl⟩
theorem a11_firstOf_34 : At cX11_firstOf 34 (.goto 4) 3 37 := ⟨by decide +kernel, rfl⟩
theorem a11_firstOf_37 : At cX11_firstOf 37 (.iconst (-1)) 1 38 := ⟨by decide +kernel, rfl⟩
theorem a11_firstOf_38 : At cX11_firstOf 38 (.ireturn) 1 39 := ⟨by decide +kernel, rfl⟩
def l11_firstOf_2 (k0 : Nat) (σ : Mem) : Nat → Int32 → Option (Int32)
  | 0, _ => none
  | n + 1, x1 =>
  ck (decide (¬ k0 = 2)) <|
  ck (inb 1 (alen 22 k0)) <|
  if (σ.1 22 k0 1) ≤ x1 then
  (some x1)
  else
  (ck (decide (¬ k0 = 2)) <|
  ck (inb 7 (alen 22 k0)) <|
  if (f11_has (σ.1 22 k0 7) x1) = 0 then
  (some x1)
  else
  (l11_firstOf_2 k0 σ n (x1 + 1)))
theorem lE11_firstOf_2 {V : Option AV} {S : Mem} (k0 : Nat) (σ : Mem) : ∀ (n : Nat) (x1 : Int32) {w : Int32}, l11_firstOf_2 k0 σ n x1 = some w → (Go m11_firstOf 26 [some (.inr (.inr (22, k0))), some (.inl w)] [] σ V S) → Go m11_firstOf 2 [some (.inr (.inr (22, k0))), some (.inl x1)] [] σ V S
  | 0, x1, w, h, K1 => by cases h
  | n + 1, x1, w, h, K1 => by
    rw [l11_firstOf_2] at h
    refine g_iload_n a11_firstOf_2 rfl ?_
    refine g_aload_n a11_firstOf_3 rfl ?_
    refine g_iconst (v := 1) a11_firstOf_4 rfl ?_
    obtain ⟨q1, h⟩ := ck_inv h
    obtain ⟨q2, h⟩ := ck_inv h
    refine g_iald (x := (σ.1 22 k0 1)) a11_firstOf_5 (rI22 (of_decide_eq_true q1)) (inb_ok q2) rfl ?_
    refine g_icmp_ge (tgt := 26) a11_firstOf_6 rfl (fun c7 => ?_) (fun c7 => ?_)
    · have h := (if_pos c7).symm.trans h
      have h := Option.some.inj h
      subst h
      exact g_weak K1 ⟨rfl, rfl, trivial⟩
    · have h := (if_neg c7).symm.trans h
      refine g_aload_n a11_firstOf_9 rfl ?_
      refine g_bipush (v := 7) a11_firstOf_10 rfl ?_
      obtain ⟨q3, h⟩ := ck_inv h
      obtain ⟨q4, h⟩ := ck_inv h
      refine g_iald (x := (σ.1 22 k0 7)) a11_firstOf_12 (rI22 (of_decide_eq_true q3)) (inb_ok q4) rfl ?_
      refine g_iload_n a11_firstOf_13 rfl ?_
      refine g_S2s (v1 := .inl (f11_has (σ.1 22 k0 7) x1)) (σ1 := σ) a11_firstOf_14 cs11_93 (E11_has _ _ _) rfl (fun o5 => ?_)
      refine g_if_eq (tgt := 26) a11_firstOf_17 rfl (fun c6 => ?_) (fun c6 => ?_)
      · have h := (if_pos c6).symm.trans h
        have h := Option.some.inj h
        subst h
        exact g_weak K1 ⟨rfl, rfl, trivial⟩
      · have h := (if_neg c6).symm.trans h
        refine g_iinc (v := (x1 + 1)) (L' := [some (.inr (.inr (22, k0))), some (.inl (x1 + 1))]) a11_firstOf_20 rfl rfl (Nat.le_of_ble_eq_true rfl) rfl rfl ?_
        refine g_goto (tgt := 2) a11_firstOf_23 rfl ?_
        exact g_weak (lE11_firstOf_2 (V := V) (S := S)  k0 σ n _ h K1) ⟨rfl, rfl, trivial⟩
def f11_firstOf (k0 : Nat) (σ : Mem) : Option (Int32) :=
  bnd (l11_firstOf_2 k0 σ 2000 0) fun w8 =>
  ck (decide (¬ k0 = 2)) <|
  ck (inb 1 (alen 22 k0)) <|
  if (σ.1 22 k0 1) ≤ w8 then
  (some (-1))
  else
  (some w8)
theorem E11_firstOf {k0 : Nat} {σ : Mem} {w : Int32} (h : f11_firstOf k0 σ = some w) : Ev m11_firstOf [.inr (.inr (22, k0))] σ (some (.inl w) : Option AV) σ := by
  unfold f11_firstOf at h
  show Go m11_firstOf 0 [some (.inr (.inr (22, k0))), none] [] σ (some (.inl w) : Option AV) σ
  refine g_iconst (v := 0) a11_firstOf_0 rfl ?_
  refine g_istore_n (L' := [some (.inr (.inr (22, k0))), some (.inl 0)]) a11_firstOf_1 (Nat.le_of_ble_eq_true rfl) rfl rfl ?_
  obtain ⟨w8, hw8, h⟩ := bnd_inv h
  refine g_weak (lE11_firstOf_2 k0 σ 2000 _ hw8 ?_) ⟨rfl, rfl, trivial⟩
  refine g_iload_n a11_firstOf_26 rfl ?_
  refine g_aload_n a11_firstOf_27 rfl ?_
  refine g_iconst (v := 1) a11_firstOf_28 rfl ?_
  obtain ⟨q9, h⟩ := ck_inv h
  obtain ⟨q10, h⟩ := ck_inv h
  refine g_iald (x := (σ.1 22 k0 1)) a11_firstOf_29 (rI22 (of_decide_eq_true q9)) (inb_ok q10) rfl ?_
  refine g_icmp_ge (tgt := 37) a11_firstOf_30 rfl (fun c11 => ?_) (fun c11 => ?_)
  · have h := (if_pos c11).symm.trans h
    refine g_iconst (v := (-1)) a11_firstOf_37 rfl ?_
    have h := Option.some.inj h
    subst h
    exact g_retE a11_firstOf_38 trivial rfl rfl
  · have h := (if_neg c11).symm.trans h
    refine g_iload_n a11_firstOf_33 rfl ?_
    refine g_goto (tgt := 38) a11_firstOf_34 rfl ?_
    have h := Option.some.inj h
    subst h
    exact g_retE a11_firstOf_38 trivial rfl rfl
theorem a11_bits_0 : At cX11_bits 0 (.iconst 0) 1 1 := ⟨by decide +kernel, rfl⟩
theorem a11_bits_1 : At cX11_bits 1 (.istore_n 1) 1 2 := ⟨by decide +kernel, rfl⟩
theorem a11_bits_2 : At cX11_bits 2 (.iload_n 0) 1 3 := ⟨by decide +kernel, rfl⟩
theorem a11_bits_3 : At cX11_bits 3 (.istore_n 2) 1 4 := ⟨by decide +kernel, rfl⟩
theorem a11_bits_4 : At cX11_bits 4 (.iload_n 2) 1 5 := ⟨by decide +kernel, rfl⟩
theorem a11_bits_5 : At cX11_bits 5 (.ifCond .le 16) 3 8 := ⟨by decide +kernel, rfl⟩
theorem a11_bits_8 : At cX11_bits 8 (.iload_n 1) 1 9 := ⟨by decide +kernel, rfl⟩
theorem a11_bits_9 : At cX11_bits 9 (.iload_n 2) 1 10 := ⟨by decide +kernel, rfl⟩
theorem a11_bits_10 : At cX11_bits 10 (.iconst 1) 1 11 := ⟨by decide +kernel, rfl⟩
theorem a11_bits_11 : At cX11_bits 11 (.iand) 1 12 := ⟨by decide +kernel, rfl⟩
theorem a11_bits_12 : At cX11_bits 12 (.iadd) 1 13 := ⟨by decide +kernel, rfl⟩
theorem a11_bits_13 : At cX11_bits 13 (.istore_n 1) 1 14 := ⟨by decide +kernel, rfl⟩
theorem a11_bits_14 : At cX11_bits 14 (.iload_n 2) 1 15 := ⟨by decide +kernel, rfl⟩
theorem a11_bits_15 : At cX11_bits 15 (.iconst 1) 1 16 := ⟨by decide +kernel, rfl⟩
theorem a11_bits_16 : At cX11_bits 16 (.ishr) 1 17 := ⟨by decide +kernel, rfl⟩
theorem a11_bits_17 : At cX11_bits 17 (.istore_n 2) 1 18 := ⟨by decide +kernel, rfl⟩
theorem a11_bits_18 : At cX11_bits 18 (.goto (-14)) 3 21 := ⟨by decide +kernel, rfl⟩
theorem a11_bits_21 : At cX11_bits 21 (.iload_n 1) 1 22 := ⟨by decide +kernel, rfl⟩
theorem a11_bits_22 : At cX11_bits 22 (.ireturn) 1 23 := ⟨by decide +kernel, rfl⟩
def l11_bits_4  : Nat → Int32 → Int32 → Option (Int32 × Int32)
  | 0, _, _ => none
  | n + 1, x1, x2 =>
  if x2 ≤ 0 then
  (some (x1, x2))
  else
  (l11_bits_4  n (x1 + (x2 &&& 1)) (x2 >>> (1 &&& 31)))
theorem lE11_bits_4 {V : Option AV} {S : Mem}  {σ : Mem} : ∀ (n : Nat) (x1 : Int32) (x2 : Int32) {w : Int32 × Int32}, l11_bits_4  n x1 x2 = some w → (Go m11_bits 21 [none, some (.inl w.1), some (.inl w.2)] [] σ V S) → Go m11_bits 4 [none, some (.inl x1), some (.inl x2)] [] σ V S
  | 0, x1, x2, w, h, K1 => by cases h
  | n + 1, x1, x2, w, h, K1 => by
    rw [l11_bits_4] at h
    refine g_iload_n a11_bits_4 rfl ?_
    refine g_if_le (tgt := 21) a11_bits_5 rfl (fun c1 => ?_) (fun c1 => ?_)
    · have h := (if_pos c1).symm.trans h
      have h := Option.some.inj h
      subst h
      exact g_weak K1 ⟨rfl, rfl, trivial⟩
    · have h := (if_neg c1).symm.trans h
      refine g_iload_n a11_bits_8 rfl ?_
      refine g_iload_n a11_bits_9 rfl ?_
      refine g_iconst (v := 1) a11_bits_10 rfl ?_
      refine g_iand a11_bits_11 ?_
      refine g_iadd a11_bits_12 ?_
      refine g_istore_n (L' := [none, some (.inl (x1 + (x2 &&& 1))), some (.inl x2)]) a11_bits_13 (Nat.le_of_ble_eq_true rfl) rfl rfl ?_
      refine g_iload_n a11_bits_14 rfl ?_
      refine g_iconst (v := 1) a11_bits_15 rfl ?_
      refine g_ishr a11_bits_16 ?_
      refine g_istore_n (L' := [none, some (.inl (x1 + (x2 &&& 1))), some (.inl (x2 >>> (1 &&& 31)))]) a11_bits_17 (Nat.le_of_ble_eq_true rfl) rfl rfl ?_
      refine g_goto (tgt := 4) a11_bits_18 rfl ?_
      exact g_weak (lE11_bits_4 (V := V) (S := S)   n _ _ h K1) ⟨rfl, rfl, trivial⟩
def f11_bits (x0 : Int32) : Option (Int32) :=
  bnd (l11_bits_4  2000 0 x0) fun w2 =>
  some w2.1
theorem E11_bits {x0 : Int32} {σ : Mem} {w : Int32} (h : f11_bits x0 = some w) : Ev m11_bits [.inl x0] σ (some (.inl w) : Option AV) σ := by
  unfold f11_bits at h
  show Go m11_bits 0 [some (.inl x0), none, none] [] σ (some (.inl w) : Option AV) σ
  refine g_iconst (v := 0) a11_bits_0 rfl ?_
  refine g_istore_n (L' := [some (.inl x0), some (.inl 0), none]) a11_bits_1 (Nat.le_of_ble_eq_true rfl) rfl rfl ?_
  refine g_iload_n a11_bits_2 rfl ?_
  refine g_istore_n (L' := [some (.inl x0), some (.inl 0), some (.inl x0)]) a11_bits_3 (Nat.le_of_ble_eq_true rfl) rfl rfl ?_
  obtain ⟨w2, hw2, h⟩ := bnd_inv h
  refine g_weak (lE11_bits_4  2000 _ _ hw2 ?_) ⟨rfl, rfl, trivial⟩
  refine g_iload_n a11_bits_21 rfl ?_
  have h := Option.some.inj h
  subst h
  exact g_retE a11_bits_22 trivial rfl rfl
theorem a11_needsAs_0 : At cX11_needsAs 0 (.iconst 4) 1 1 := ⟨by decide +kernel, rfl⟩
theorem a11_needsAs_1 : At cX11_needsAs 1 (.iconst 2) 1 2 := ⟨by decide +kernel, rfl⟩
theorem a11_needsAs_2 : At cX11_needsAs 2 (.iload_n 1) 1 3 := ⟨by decide +kernel, rfl⟩
theorem a11_needsAs_3 : At cX11_needsAs 3 (.imul) 1 4 := ⟨by decide +kernel, rfl⟩
theorem a11_needsAs_4 : At cX11_needsAs 4 (.iadd) 1 5 := ⟨by decide +kernel, rfl⟩
theorem a11_needsAs_5 : At cX11_needsAs 5 (.istore_n 3) 1 6 := ⟨by decide +kernel, rfl⟩
theorem a11_needsAs_6 : At cX11_needsAs 6 (.iload_n 2) 1 7 := ⟨by decide +kernel, rfl⟩
theorem a11_needsAs_7 : At cX11_needsAs 7 (.iconst 2) 1 8 := ⟨by decide +kernel, rfl⟩
theorem a11_needsAs_8 : At cX11_needsAs 8 (.irem) 1 9 := ⟨by decide +kernel, rfl⟩
theorem a11_needsAs_9 : At cX11_needsAs 9 (.iconst 1) 1 10 := ⟨by decide +kernel, rfl⟩
theorem a11_needsAs_10 : At cX11_needsAs 10 (.if_icmp .ne 7) 3 13 := ⟨by decide +kernel, rfl⟩
theorem a11_needsAs_13 : At cX11_needsAs 13 (.iconst 3) 1 14 := ⟨by decide +kernel, rfl⟩
theorem a11_needsAs_14 : At cX11_needsAs 14 (.goto 4) 3 17 := ⟨by decide +kernel, rfl⟩
theorem a11_needsAs_17 : At cX11_needsAs 17 (.iconst 4) 1 18 := ⟨by decide +kernel, rfl⟩
theorem a11_needsAs_18 : At cX11_needsAs 18 (.istore 4) 2 20 := ⟨by decide +kernel, rfl⟩
theorem a11_needsAs_20 : At cX11_needsAs 20 (.iload_n 0) 1 21 := ⟨by decide +kernel, rfl⟩
theorem a11_needsAs_21 : At cX11_needsAs 21 (.tableswitch 63 1 5 #[35, 37, 40, 46, 51]) 35 56 := ⟨by decide +kernel, rfl⟩
theorem a11_needsAs_56 : At cX11_needsAs 56 (.iload_n 3) 1 57 := ⟨by decide +kernel, rfl⟩
theorem a11_needsAs_57 : At cX11_needsAs 57 (.ireturn) 1 58 := ⟨by decide +kernel, rfl⟩
theorem a11_needsAs_58 : At cX11_needsAs 58 (.iload 4) 2 60 := ⟨by decide +kernel, rfl⟩
theorem a11_needsAs_60 : At cX11_needsAs 60 (.ireturn) 1 61 := ⟨by decide +kernel, rfl⟩
theorem a11_needsAs_61 : At cX11_needsAs 61 (.iload_n 3) 1 62 := ⟨by decide +kernel, rfl⟩
theorem a11_needsAs_62 : At cX11_needsAs 62 (.iconst 1) 1 63 := ⟨by decide +kernel, rfl⟩
theorem a11_needsAs_63 : At cX11_needsAs 63 (.iadd) 1 64 := ⟨by decide +kernel, rfl⟩
theorem a11_needsAs_64 : At cX11_needsAs 64 (.iconst 2) 1 65 := ⟨by decide +kernel, rfl⟩
theorem a11_needsAs_65 : At cX11_needsAs 65 (.idiv) 1 66 := ⟨by decide +kernel, rfl⟩
theorem a11_needsAs_66 : At cX11_needsAs 66 (.ireturn) 1 67 := ⟨by decide +kernel, rfl⟩
theorem a11_needsAs_67 : At cX11_needsAs 67 (.iload_n 3) 1 68 := ⟨by decide +kernel, rfl⟩
theorem a11_needsAs_68 : At cX11_needsAs 68 (.bipush 6) 2 70 := ⟨by decide +kernel, rfl⟩
theorem a11_needsAs_70 : At cX11_needsAs 70 (.iadd) 1 71 := ⟨by decide +kernel, rfl⟩
theorem a11_needsAs_71 : At cX11_needsAs 71 (.ireturn) 1 72 := ⟨by decide +kernel, rfl⟩
theorem a11_needsAs_72 : At cX11_needsAs 72 (.iload_n 1) 1 73 := ⟨by decide +kernel, rfl⟩
theorem a11_needsAs_73 : At cX11_needsAs 73 (.iconst 3) 1 74 := ⟨by decide +kernel, rfl⟩
theorem a11_needsAs_74 : At cX11_needsAs 74 (.if_icmp .lt 7) 3 77 := ⟨by decide +kernel, rfl⟩
theorem a11_needsAs_77 : At cX11_needsAs 77 (.iconst 1) 1 78 := ⟨by decide +kernel, rfl⟩
theorem a11_needsAs_78 : At cX11_needsAs 78 (.goto 5) 3 81 := ⟨by decide +kernel, rfl⟩
theorem a11_needsAs_81 : At cX11_needsAs 81 (.iload 4) 2 83 := ⟨by decide +kernel, rfl⟩
theorem a11_needsAs_83 : At cX11_needsAs 83 (.ireturn) 1 84 := ⟨by decide +kernel, rfl⟩
theorem a11_needsAs_84 : At cX11_needsAs 84 (.iconst 4) 1 85 := ⟨by decide +kernel, rfl⟩
theorem a11_needsAs_85 : At cX11_needsAs 85 (.ireturn) 1 86 := ⟨by decide +kernel, rfl⟩
def f11_needsAs (x0 : Int32) (x1 : Int32) (x2 : Int32) : Int32 :=
  lt (if (x2 - x2 / 2 * 2) = 1 then
  (3)
  else
  (4) : Int32) fun w1 =>
  if x0 = 1 then
  ((4 + (2 * x1)))
  else if x0 = 2 then
  (w1)
  else if x0 = 3 then
  ((((4 + (2 * x1)) + 1) / 2))
  else if x0 = 4 then
  (((4 + (2 * x1)) + 6))
  else if x0 = 5 then
  (if x1 < 3 then
  (w1)
  else
  (1))
  else 
  (4)
theorem E11_needsAs (x0 : Int32) (x1 : Int32) (x2 : Int32) (σ : Mem) : Ev m11_needsAs [.inl x0, .inl x1, .inl x2] σ (some (.inl (f11_needsAs x0 x1 x2)) : Option AV) σ := by
  obtain ⟨w, h⟩ : ∃ w, f11_needsAs x0 x1 x2 = w := ⟨_, rfl⟩
  rw [h]
  unfold f11_needsAs at h
  show Go m11_needsAs 0 [some (.inl x0), some (.inl x1), some (.inl x2), none, none] [] σ (some (.inl w) : Option AV) σ
  refine g_iconst (v := 4) a11_needsAs_0 rfl ?_
  refine g_iconst (v := 2) a11_needsAs_1 rfl ?_
  refine g_iload_n a11_needsAs_2 rfl ?_
  refine g_imul a11_needsAs_3 ?_
  refine g_iadd a11_needsAs_4 ?_
  refine g_istore_n (L' := [some (.inl x0), some (.inl x1), some (.inl x2), some (.inl (4 + (2 * x1))), none]) a11_needsAs_5 (Nat.le_of_ble_eq_true rfl) rfl rfl ?_
  refine g_iload_n a11_needsAs_6 rfl ?_
  refine g_iconst (v := 2) a11_needsAs_7 rfl ?_
  refine g_irem a11_needsAs_8 (by decide) ?_
  refine g_iconst (v := 1) a11_needsAs_9 rfl ?_
  obtain ⟨w1, hw1, h⟩ := lt_inv h
  have J2 : Go m11_needsAs 18 [some (.inl x0), some (.inl x1), none, some (.inl (4 + (2 * x1))), none] [.inl w1] σ (some (.inl w) : Option AV) σ := by
    refine g_istore (L' := [some (.inl x0), some (.inl x1), none, some (.inl (4 + (2 * x1))), some (.inl w1)]) a11_needsAs_18 (Nat.le_of_ble_eq_true rfl) rfl rfl ?_
    refine g_iload_n a11_needsAs_20 rfl ?_
    rcases Decidable.em (x0 = 1) with c5 | c5
    · have h := (if_pos c5).symm.trans h
      refine g_tsIn (tgt := 56) (off := 35) a11_needsAs_21 (by rw [c5]; decide) (by rw [c5]; decide) (by rw [c5]; rfl) rfl ?_
      refine g_iload_n a11_needsAs_56 rfl ?_
      subst h
      exact g_retE a11_needsAs_57 trivial rfl rfl
    have h := (if_neg c5).symm.trans h
    rcases Decidable.em (x0 = 2) with c6 | c6
    · have h := (if_pos c6).symm.trans h
      refine g_tsIn (tgt := 58) (off := 37) a11_needsAs_21 (by rw [c6]; decide) (by rw [c6]; decide) (by rw [c6]; rfl) rfl ?_
      refine g_iload a11_needsAs_58 rfl ?_
      subst h
      exact g_retE a11_needsAs_60 trivial rfl rfl
    have h := (if_neg c6).symm.trans h
    rcases Decidable.em (x0 = 3) with c7 | c7
    · have h := (if_pos c7).symm.trans h
      refine g_tsIn (tgt := 61) (off := 40) a11_needsAs_21 (by rw [c7]; decide) (by rw [c7]; decide) (by rw [c7]; rfl) rfl ?_
      refine g_iload_n a11_needsAs_61 rfl ?_
      refine g_iconst (v := 1) a11_needsAs_62 rfl ?_
      refine g_iadd a11_needsAs_63 ?_
      refine g_iconst (v := 2) a11_needsAs_64 rfl ?_
      refine g_idiv a11_needsAs_65 (by decide) ?_
      subst h
      exact g_retE a11_needsAs_66 trivial rfl rfl
    have h := (if_neg c7).symm.trans h
    rcases Decidable.em (x0 = 4) with c8 | c8
    · have h := (if_pos c8).symm.trans h
      refine g_tsIn (tgt := 67) (off := 46) a11_needsAs_21 (by rw [c8]; decide) (by rw [c8]; decide) (by rw [c8]; rfl) rfl ?_
      refine g_iload_n a11_needsAs_67 rfl ?_
      refine g_bipush (v := 6) a11_needsAs_68 rfl ?_
      refine g_iadd a11_needsAs_70 ?_
      subst h
      exact g_retE a11_needsAs_71 trivial rfl rfl
    have h := (if_neg c8).symm.trans h
    rcases Decidable.em (x0 = 5) with c9 | c9
    · have h := (if_pos c9).symm.trans h
      refine g_tsIn (tgt := 72) (off := 51) a11_needsAs_21 (by rw [c9]; decide) (by rw [c9]; decide) (by rw [c9]; rfl) rfl ?_
      refine g_iload_n a11_needsAs_72 rfl ?_
      refine g_iconst (v := 3) a11_needsAs_73 rfl ?_
      refine g_icmp_lt (tgt := 81) a11_needsAs_74 rfl (fun c4 => ?_) (fun c4 => ?_)
      · have h := (if_pos c4).symm.trans h
        refine g_iload a11_needsAs_81 rfl ?_
        subst h
        exact g_retE a11_needsAs_83 trivial rfl rfl
      · have h := (if_neg c4).symm.trans h
        refine g_iconst (v := 1) a11_needsAs_77 rfl ?_
        refine g_goto (tgt := 83) a11_needsAs_78 rfl ?_
        subst h
        exact g_retE a11_needsAs_83 trivial rfl rfl
    have h := (if_neg c9).symm.trans h
    have tc5 := lv_neT c5 (a := 1) rfl
    have tc6 := lv_neT c6 (a := 2) rfl
    have tc7 := lv_neT c7 (a := 3) rfl
    have tc8 := lv_neT c8 (a := 4) rfl
    have tc9 := lv_neT c9 (a := 5) rfl
    refine g_tsOut (tgt := 84) a11_needsAs_21 (by omega) rfl ?_
    refine g_iconst (v := 4) a11_needsAs_84 rfl ?_
    subst h
    exact g_retE a11_needsAs_85 trivial rfl rfl
  clear h
  refine g_icmp_ne (tgt := 17) a11_needsAs_10 rfl (fun c3 => ?_) (fun c3 => ?_)
  · have hw1 := (if_neg c3).symm.trans hw1
    refine g_iconst (v := 4) a11_needsAs_17 rfl ?_
    subst hw1
    exact g_weak J2 ⟨rfl, rfl, rfl, trivial⟩
  · have hw1 := (if_pos c3).symm.trans hw1
    refine g_iconst (v := 3) a11_needsAs_13 rfl ?_
    refine g_goto (tgt := 18) a11_needsAs_14 rfl ?_
    subst hw1
    exact g_weak J2 ⟨rfl, rfl, rfl, trivial⟩
theorem a11_goParts_0 : At cX11_goParts 0 (.aload_n 0) 1 1 := ⟨by decide +kernel, rfl⟩
theorem a11_goParts_1 : At cX11_goParts 1 (.invokestatic 101) 3 4 := ⟨by decide +kernel, rfl⟩
theorem a11_goParts_4 : At cX11_goParts 4 (.istore_n 1) 1 5 := ⟨by decide +kernel, rfl⟩
theorem a11_goParts_5 : At cX11_goParts 5 (.iload_n 1) 1 6 := ⟨by decide +kernel, rfl⟩
theorem a11_goParts_6 : At cX11_goParts 6 (.iconst (-1)) 1 7 := ⟨by decide +kernel, rfl⟩
theorem a11_goParts_7 : At cX11_goParts 7 (.if_icmp .eq 75) 3 10 := ⟨by decide +kernel, rfl⟩
theorem a11_goParts_10 : At cX11_goParts 10 (.aload_n 0) 1 11 := ⟨by decide +kernel, rfl⟩
theorem a11_goParts_11 : At cX11_goParts 11 (.bipush 8) 2 13 := ⟨by decide +kernel, rfl⟩
theorem a11_goParts_13 : At cX11_goParts 13 (.iaload) 1 14 := ⟨by decide +kernel, rfl⟩
theorem a11_goParts_14 : At cX11_goParts 14 (.aload_n 0) 1 15 := ⟨by decide +kernel, rfl⟩
theorem a11_goParts_15 : At cX11_goParts 15 (.bipush 40) 2 17 := ⟨by decide +kernel, rfl⟩
theorem a11_goParts_17 : At cX11_goParts 17 (.iload_n 1) 1 18 := ⟨by decide +kernel, rfl⟩
theorem a11_goParts_18 : At cX11_goParts 18 (.iadd) 1 19 := ⟨by decide +kernel, rfl⟩
theorem a11_goParts_19 : At cX11_goParts 19 (.iaload) 1 20 := ⟨by decide +kernel, rfl⟩
theorem a11_goParts_20 : At cX11_goParts 20 (.aload_n 0) 1 21 := ⟨by decide +kernel, rfl⟩
theorem a11_goParts_21 : At cX11_goParts 21 (.bipush 7) 2 23 := ⟨by decide +kernel, rfl⟩
theorem a11_goParts_23 : At cX11_goParts 23 (.iaload) 1 24 := ⟨by decide +kernel, rfl⟩
theorem a11_goParts_24 : At cX11_goParts 24 (.invokestatic 105) 3 27 := ⟨by decide +kernel, rfl⟩
theorem a11_goParts_27 : At cX11_goParts 27 (.aload_n 0) 1 28 := ⟨by decide +kernel, rfl⟩
theorem a11_goParts_28 : At cX11_goParts 28 (.bipush 9) 2 30 := ⟨by decide +kernel, rfl⟩
theorem a11_goParts_30 : At cX11_goParts 30 (.iaload) 1 31 := ⟨by decide +kernel, rfl⟩
theorem a11_goParts_31 : At cX11_goParts 31 (.invokestatic 108) 3 34 := ⟨by decide +kernel, rfl⟩
theorem a11_goParts_34 : At cX11_goParts 34 (.if_icmp .lt 48) 3 37 := ⟨by decide +kernel, rfl⟩
theorem a11_goParts_37 : At cX11_goParts 37 (.aload_n 0) 1 38 := ⟨by decide +kernel, rfl⟩
theorem a11_goParts_38 : At cX11_goParts 38 (.bipush 8) 2 40 := ⟨by decide +kernel, rfl⟩
theorem a11_goParts_40 : At cX11_goParts 40 (.dup2) 1 41 := ⟨by decide +kernel, rfl⟩
theorem a11_goParts_41 : At cX11_goParts 41 (.iaload) 1 42 := ⟨by decide +kernel, rfl⟩
theorem a11_goParts_42 : At cX11_goParts 42 (.aload_n 0) 1 43 := ⟨by decide +kernel, rfl⟩
theorem a11_goParts_43 : At cX11_goParts 43 (.bipush 40) 2 45 := ⟨by decide +kernel, rfl⟩
theorem a11_goParts_45 : At cX11_goParts 45 (.iload_n 1) 1 46 := ⟨by decide +kernel, rfl⟩
theorem a11_goParts_46 : At cX11_goParts 46 (.iadd) 1 47 := ⟨by decide +kernel, rfl⟩
theorem a11_goParts_47 : At cX11_goParts 47 (.iaload) 1 48 := ⟨by decide +kernel, rfl⟩
theorem a11_goParts_48 : At cX11_goParts 48 (.aload_n 0) 1 49 := ⟨by decide +kernel, rfl⟩
theorem a11_goParts_49 : At cX11_goParts 49 (.bipush 7) 2 51 := ⟨by decide +kernel, rfl⟩
theorem a11_goParts_51 : At cX11_goParts 51 (.iaload) 1 52 := ⟨by decide +kernel, rfl⟩
theorem a11_goParts_52 : At cX11_goParts 52 (.invokestatic 105) 3 55 := ⟨by decide +kernel, rfl⟩
theorem a11_goParts_55 : At cX11_goParts 55 (.aload_n 0) 1 56 := ⟨by decide +kernel, rfl⟩
theorem a11_goParts_56 : At cX11_goParts 56 (.bipush 9) 2 58 := ⟨by decide +kernel, rfl⟩
theorem a11_goParts_58 : At cX11_goParts 58 (.iaload) 1 59 := ⟨by decide +kernel, rfl⟩
theorem a11_goParts_59 : At cX11_goParts 59 (.invokestatic 108) 3 62 := ⟨by decide +kernel, rfl⟩
theorem a11_goParts_62 : At cX11_goParts 62 (.isub) 1 63 := ⟨by decide +kernel, rfl⟩
theorem a11_goParts_63 : At cX11_goParts 63 (.iastore) 1 64 := ⟨by decide +kernel, rfl⟩
theorem a11_goParts_64 : At cX11_goParts 64 (.aload_n 0) 1 65 := ⟨by decide +kernel, rfl⟩
theorem a11_goParts_65 : At cX11_goParts 65 (.bipush 7) 2 67 := ⟨by decide +kernel, rfl⟩
theorem a11_goParts_67 : At cX11_goParts 67 (.dup2) 1 68 := ⟨by decide +kernel, rfl⟩
theorem a11_goParts_68 : At cX11_goParts 68 (.iaload) 1 69 := ⟨by decide +kernel, rfl⟩
theorem a11_goParts_69 : At cX11_goParts 69 (.iconst 1) 1 70 := ⟨by decide +kernel, rfl⟩
theorem a11_goParts_70 : At cX11_goParts 70 (.iload_n 1) 1 71 := ⟨by decide +kernel, rfl⟩
theorem a11_goParts_71 : At cX11_goParts 71 (.ishl) 1 72 := ⟨by decide +kernel, rfl⟩
theorem a11_goParts_72 : At cX11_goParts 72 (.ior) 1 73 := ⟨by decide +kernel, rfl⟩
theorem a11_goParts_73 : At cX11_goParts 73 (.iastore) 1 74 := ⟨by decide +kernel, rfl⟩
theorem a11_goParts_74 : At cX11_goParts 74 (.aload_n 0) 1 75 := ⟨by decide +kernel, rfl⟩
theorem a11_goParts_75 : At cX11_goParts 75 (.invokestatic 101) 3 78 := ⟨by decide +kernel, rfl⟩
theorem a11_goParts_78 : At cX11_goParts 78 (.istore_n 1) 1 79 := ⟨by decide +kernel, rfl⟩
theorem a11_goParts_79 : At cX11_goParts 79 (.goto (-74)) 3 82 := ⟨by decide +kernel, rfl⟩
theorem a11_goParts_82 : At cX11_goParts 82 (.return_) 1 83 := ⟨by decide +kernel, rfl⟩
def l11_goParts_5 (k0 : Nat) : Nat → Int32 → Mem → Option (Int32 × Mem)
  | 0, _, _ => none
  | n + 1, x1, σ =>
  if x1 = (-1) then
  (some (x1, σ))
  else
  (ck (decide (¬ k0 = 2)) <|
  ck (inb 8 (alen 22 k0)) <|
  ck (decide (¬ k0 = 2)) <|
  ck (inb (40 + x1) (alen 22 k0)) <|
  ck (decide (¬ k0 = 2)) <|
  ck (inb 7 (alen 22 k0)) <|
  bnd (f11_bits (σ.1 22 k0 7)) fun w9 =>
  ck (decide (¬ k0 = 2)) <|
  ck (inb 9 (alen 22 k0)) <|
  if (σ.1 22 k0 8) < (f11_needsAs (σ.1 22 k0 ((40 + x1) : Int32).toNatClampNeg) w9 (σ.1 22 k0 9)) then
  (some (x1, σ))
  else
  (ck (decide (¬ k0 = 2)) <|
  ck (inb 8 (alen 22 k0)) <|
  ck (decide (¬ k0 = 2)) <|
  ck (inb (40 + x1) (alen 22 k0)) <|
  ck (decide (¬ k0 = 2)) <|
  ck (inb 7 (alen 22 k0)) <|
  bnd (f11_bits (σ.1 22 k0 7)) fun w20 =>
  ck (decide (¬ k0 = 2)) <|
  ck (inb 9 (alen 22 k0)) <|
  ck (decide (¬ k0 = 2)) <|
  ck (inb 8 (alen 22 k0)) <|
  lt (sI σ 22 k0 8 ((σ.1 22 k0 8) - (f11_needsAs (σ.1 22 k0 ((40 + x1) : Int32).toNatClampNeg) w20 (σ.1 22 k0 9)))) fun σ27 =>
  ck (decide (¬ k0 = 2)) <|
  ck (inb 7 (alen 22 k0)) <|
  ck (decide (¬ k0 = 2)) <|
  ck (inb 7 (alen 22 k0)) <|
  lt (sI σ27 22 k0 7 ((σ27.1 22 k0 7) ||| (1 <<< (x1 &&& 31)))) fun σ32 =>
  bnd (f11_firstOf k0 σ32) fun w33 =>
  l11_goParts_5 k0 n w33 σ32))
theorem lE11_goParts_5 {V : Option AV} {S : Mem} (k0 : Nat) : ∀ (n : Nat) (x1 : Int32) (σ : Mem) {w : Int32 × Mem}, l11_goParts_5 k0 n x1 σ = some w → (Go m11_goParts 82 [some (.inr (.inr (22, k0))), some (.inl w.1)] [] w.2 V S) → Go m11_goParts 5 [some (.inr (.inr (22, k0))), some (.inl x1)] [] σ V S
  | 0, x1, σ, w, h, K1 => by cases h
  | n + 1, x1, σ, w, h, K1 => by
    rw [l11_goParts_5] at h
    refine g_iload_n a11_goParts_5 rfl ?_
    refine g_iconst (v := (-1)) a11_goParts_6 rfl ?_
    refine g_icmp_eq (tgt := 82) a11_goParts_7 rfl (fun c36 => ?_) (fun c36 => ?_)
    · have h := (if_pos c36).symm.trans h
      have h := Option.some.inj h
      subst h
      exact g_weak K1 ⟨rfl, rfl, trivial⟩
    · have h := (if_neg c36).symm.trans h
      refine g_aload_n a11_goParts_10 rfl ?_
      refine g_bipush (v := 8) a11_goParts_11 rfl ?_
      obtain ⟨q3, h⟩ := ck_inv h
      obtain ⟨q4, h⟩ := ck_inv h
      refine g_iald (x := (σ.1 22 k0 8)) a11_goParts_13 (rI22 (of_decide_eq_true q3)) (inb_ok q4) rfl ?_
      refine g_aload_n a11_goParts_14 rfl ?_
      refine g_bipush (v := 40) a11_goParts_15 rfl ?_
      refine g_iload_n a11_goParts_17 rfl ?_
      refine g_iadd a11_goParts_18 ?_
      obtain ⟨q5, h⟩ := ck_inv h
      obtain ⟨q6, h⟩ := ck_inv h
      refine g_iald (x := (σ.1 22 k0 ((40 + x1) : Int32).toNatClampNeg)) a11_goParts_19 (rI22 (of_decide_eq_true q5)) (inb_ok q6) rfl ?_
      refine g_aload_n a11_goParts_20 rfl ?_
      refine g_bipush (v := 7) a11_goParts_21 rfl ?_
      obtain ⟨q7, h⟩ := ck_inv h
      obtain ⟨q8, h⟩ := ck_inv h
      refine g_iald (x := (σ.1 22 k0 7)) a11_goParts_23 (rI22 (of_decide_eq_true q7)) (inb_ok q8) rfl ?_
      obtain ⟨w9, hw9, h⟩ := bnd_inv h
      refine g_S1s (v1 := .inl w9) (σ1 := σ) a11_goParts_24 cs11_105 (E11_bits hw9) rfl (fun o10 => ?_)
      refine g_aload_n a11_goParts_27 rfl ?_
      refine g_bipush (v := 9) a11_goParts_28 rfl ?_
      obtain ⟨q11, h⟩ := ck_inv h
      obtain ⟨q12, h⟩ := ck_inv h
      refine g_iald (x := (σ.1 22 k0 9)) a11_goParts_30 (rI22 (of_decide_eq_true q11)) (inb_ok q12) rfl ?_
      refine g_S3s (v1 := .inl (f11_needsAs (σ.1 22 k0 ((40 + x1) : Int32).toNatClampNeg) w9 (σ.1 22 k0 9))) (σ1 := σ) a11_goParts_31 cs11_108 (E11_needsAs _ _ _ _) rfl (fun o13 => ?_)
      refine g_icmp_lt (tgt := 82) a11_goParts_34 rfl (fun c35 => ?_) (fun c35 => ?_)
      · have h := (if_pos c35).symm.trans h
        have h := Option.some.inj h
        subst h
        exact g_weak K1 ⟨rfl, rfl, trivial⟩
      · have h := (if_neg c35).symm.trans h
        refine g_aload_n a11_goParts_37 rfl ?_
        refine g_bipush (v := 8) a11_goParts_38 rfl ?_
        refine g_dup2 a11_goParts_40 (fun _ => rfl) (fun _ => rfl) ?_
        obtain ⟨q14, h⟩ := ck_inv h
        obtain ⟨q15, h⟩ := ck_inv h
        refine g_iald (x := (σ.1 22 k0 8)) a11_goParts_41 (rI22 (of_decide_eq_true q14)) (inb_ok q15) rfl ?_
        refine g_aload_n a11_goParts_42 rfl ?_
        refine g_bipush (v := 40) a11_goParts_43 rfl ?_
        refine g_iload_n a11_goParts_45 rfl ?_
        refine g_iadd a11_goParts_46 ?_
        obtain ⟨q16, h⟩ := ck_inv h
        obtain ⟨q17, h⟩ := ck_inv h
        refine g_iald (x := (σ.1 22 k0 ((40 + x1) : Int32).toNatClampNeg)) a11_goParts_47 (rI22 (of_decide_eq_true q16)) (inb_ok q17) rfl ?_
        refine g_aload_n a11_goParts_48 rfl ?_
        refine g_bipush (v := 7) a11_goParts_49 rfl ?_
        obtain ⟨q18, h⟩ := ck_inv h
        obtain ⟨q19, h⟩ := ck_inv h
        refine g_iald (x := (σ.1 22 k0 7)) a11_goParts_51 (rI22 (of_decide_eq_true q18)) (inb_ok q19) rfl ?_
        obtain ⟨w20, hw20, h⟩ := bnd_inv h
        refine g_S1s (v1 := .inl w20) (σ1 := σ) a11_goParts_52 cs11_105 (E11_bits hw20) rfl (fun o21 => ?_)
        refine g_aload_n a11_goParts_55 rfl ?_
        refine g_bipush (v := 9) a11_goParts_56 rfl ?_
        obtain ⟨q22, h⟩ := ck_inv h
        obtain ⟨q23, h⟩ := ck_inv h
        refine g_iald (x := (σ.1 22 k0 9)) a11_goParts_58 (rI22 (of_decide_eq_true q22)) (inb_ok q23) rfl ?_
        refine g_S3s (v1 := .inl (f11_needsAs (σ.1 22 k0 ((40 + x1) : Int32).toNatClampNeg) w20 (σ.1 22 k0 9))) (σ1 := σ) a11_goParts_59 cs11_108 (E11_needsAs _ _ _ _) rfl (fun o24 => ?_)
        refine g_isub a11_goParts_62 ?_
        obtain ⟨q25, h⟩ := ck_inv h
        obtain ⟨q26, h⟩ := ck_inv h
        obtain ⟨σ27, eσ27, h⟩ := lt_inv h
        refine g_iast (j := 8) a11_goParts_63 (rI22 (of_decide_eq_true q25)) (inb_ok q26) rfl ?_
        rw [eσ27]
        refine g_aload_n a11_goParts_64 rfl ?_
        refine g_bipush (v := 7) a11_goParts_65 rfl ?_
        refine g_dup2 a11_goParts_67 (fun _ => rfl) (fun _ => rfl) ?_
        obtain ⟨q28, h⟩ := ck_inv h
        obtain ⟨q29, h⟩ := ck_inv h
        refine g_iald (x := (σ27.1 22 k0 7)) a11_goParts_68 (rI22 (of_decide_eq_true q28)) (inb_ok q29) rfl ?_
        refine g_iconst (v := 1) a11_goParts_69 rfl ?_
        refine g_iload_n a11_goParts_70 rfl ?_
        refine g_ishl a11_goParts_71 ?_
        refine g_ior a11_goParts_72 ?_
        obtain ⟨q30, h⟩ := ck_inv h
        obtain ⟨q31, h⟩ := ck_inv h
        obtain ⟨σ32, eσ32, h⟩ := lt_inv h
        refine g_iast (j := 7) a11_goParts_73 (rI22 (of_decide_eq_true q30)) (inb_ok q31) rfl ?_
        rw [eσ32]
        refine g_aload_n a11_goParts_74 rfl ?_
        obtain ⟨w33, hw33, h⟩ := bnd_inv h
        refine g_S1s (v1 := .inl w33) (σ1 := σ32) a11_goParts_75 cs11_101 (E11_firstOf hw33) rfl (fun o34 => ?_)
        refine g_istore_n (L' := [some (.inr (.inr (22, k0))), some (.inl w33)]) a11_goParts_78 (Nat.le_of_ble_eq_true rfl) rfl rfl ?_
        refine g_goto (tgt := 5) a11_goParts_79 rfl ?_
        exact g_weak (lE11_goParts_5 (V := V) (S := S)  k0 n _ _ h K1) ⟨rfl, rfl, trivial⟩
def f11_goParts (k0 : Nat) (σ : Mem) : Option (Mem) :=
  bnd (f11_firstOf k0 σ) fun w1 =>
  bnd (l11_goParts_5 k0 2000 w1 σ) fun w37 =>
  some w37.2
theorem E11_goParts {k0 : Nat} {σ : Mem} {w : Mem} (h : f11_goParts k0 σ = some w) : Ev m11_goParts [.inr (.inr (22, k0))] σ none w := by
  unfold f11_goParts at h
  show Go m11_goParts 0 [some (.inr (.inr (22, k0))), none] [] σ none w
  refine g_aload_n a11_goParts_0 rfl ?_
  obtain ⟨w1, hw1, h⟩ := bnd_inv h
  refine g_S1s (v1 := .inl w1) (σ1 := σ) a11_goParts_1 cs11_101 (E11_firstOf hw1) rfl (fun o2 => ?_)
  refine g_istore_n (L' := [some (.inr (.inr (22, k0))), some (.inl w1)]) a11_goParts_4 (Nat.le_of_ble_eq_true rfl) rfl rfl ?_
  obtain ⟨w37, hw37, h⟩ := bnd_inv h
  refine g_weak (lE11_goParts_5 k0 2000 _ _ hw37 ?_) ⟨rfl, rfl, trivial⟩
  have h := Option.some.inj h
  subst h
  exact g_retE a11_goParts_82 trivial rfl rfl
theorem a11_goSummer_0 : At cX11_goSummer 0 (.iload_n 2) 1 1 := ⟨by decide +kernel, rfl⟩
theorem a11_goSummer_1 : At cX11_goSummer 1 (.ifCond .le 40) 3 4 := ⟨by decide +kernel, rfl⟩
theorem a11_goSummer_4 : At cX11_goSummer 4 (.aload_n 0) 1 5 := ⟨by decide +kernel, rfl⟩
theorem a11_goSummer_5 : At cX11_goSummer 5 (.aload_n 0) 1 6 := ⟨by decide +kernel, rfl⟩
theorem a11_goSummer_6 : At cX11_goSummer 6 (.bipush 6) 2 8 := ⟨by decide +kernel, rfl⟩
theorem a11_goSummer_8 : At cX11_goSummer 8 (.iaload) 1 9 := ⟨by decide +kernel, rfl⟩
theorem a11_goSummer_9 : At cX11_goSummer 9 (.iload_n 1) 1 10 := ⟨by decide +kernel, rfl⟩
theorem a11_goSummer_10 : At cX11_goSummer 10 (.invokestatic 112) 3 13 := ⟨by decide +kernel, rfl⟩
theorem a11_goSummer_13 : At cX11_goSummer 13 (.ifCond .ne 28) 3 16 := ⟨by decide +kernel, rfl⟩
theorem a11_goSummer_16 : At cX11_goSummer 16 (.aload_n 0) 1 17 := ⟨by decide +kernel, rfl⟩
theorem a11_goSummer_17 : At cX11_goSummer 17 (.bipush 8) 2 19 := ⟨by decide +kernel, rfl⟩
theorem a11_goSummer_19 : At cX11_goSummer 19 (.iaload) 1 20 := ⟨by decide +kernel, rfl⟩
theorem a11_goSummer_20 : At cX11_goSummer 20 (.iload_n 2) 1 21 := ⟨by decide +kernel, rfl⟩
theorem a11_goSummer_21 : At cX11_goSummer 21 (.iadd) 1 22 := ⟨by decide +kernel, rfl⟩
theorem a11_goSummer_22 : At cX11_goSummer 22 (.istore_n 3) 1 23 := ⟨by decide +kernel, rfl⟩
theorem a11_goSummer_23 : At cX11_goSummer 23 (.aload_n 0) 1 24 := ⟨by decide +kernel, rfl⟩
theorem a11_goSummer_24 : At cX11_goSummer 24 (.bipush 8) 2 26 := ⟨by decide +kernel, rfl⟩
theorem a11_goSummer_26 : At cX11_goSummer 26 (.iload_n 3) 1 27 := ⟨by decide +kernel, rfl⟩
theorem a11_goSummer_27 : At cX11_goSummer 27 (.sipush 999) 3 30 := ⟨by decide +kernel, rfl⟩
theorem a11_goSummer_30 : At cX11_goSummer 30 (.if_icmp .le 9) 3 33 := ⟨by decide +kernel, rfl⟩
theorem a11_goSummer_33 : At cX11_goSummer 33 (.sipush 999) 3 36 := ⟨by decide +kernel, rfl⟩
theorem a11_goSummer_36 : At cX11_goSummer 36 (.goto 4) 3 39 := ⟨by decide +kernel, rfl⟩
theorem a11_goSummer_39 : At cX11_goSummer 39 (.iload_n 3) 1 40 := ⟨by decide +kernel, rfl⟩
theorem a11_goSummer_40 : At cX11_goSummer 40 (.iastore) 1 41 := ⟨by decide +kernel, rfl⟩
theorem a11_goSummer_41 : At cX11_goSummer 41 (.aload_n 0) 1 42 := ⟨by decide +kernel, rfl⟩
theorem a11_goSummer_42 : At cX11_goSummer 42 (.invokestatic 115) 3 45 := ⟨by decide +kernel, rfl⟩
theorem a11_goSummer_45 : At cX11_goSummer 45 (.aload_n 0) 1 46 := ⟨by decide +kernel, rfl⟩
theorem a11_goSummer_46 : At cX11_goSummer 46 (.bipush 9) 2 48 := ⟨by decide +kernel, rfl⟩
theorem a11_goSummer_48 : At cX11_goSummer 48 (.dup2) 1 49 := ⟨by decide +kernel, rfl⟩
theorem a11_goSummer_49 : At cX11_goSummer 49 (.iaload) 1 50 := ⟨by decide +kernel, rfl⟩
theorem a11_goSummer_50 : At cX11_goSummer 50 (.iconst 1) 1 51 := ⟨by decide +kernel, rfl⟩
theorem a11_goSummer_51 : At cX11_goSummer 51 (.iadd) 1 52 := ⟨by decide +kernel, rfl⟩
theorem a11_goSummer_52 : At cX11_goSummer 52 (.iastore) 1 53 := ⟨by decide +kernel, rfl⟩
theorem a11_goSummer_53 : At cX11_goSummer 53 (.return_) 1 54 := ⟨by decide +kernel, rfl⟩
def f11_goSummer (k0 : Nat) (x1 : Int32) (x2 : Int32) (σ : Mem) : Option (Mem) :=
  bnd (if x2 ≤ 0 then
  (some σ)
  else
  (ck (decide (¬ k0 = 2)) <|
  ck (inb 6 (alen 22 k0)) <|
  bnd (f11_struckOf k0 (σ.1 22 k0 6) x1 σ) fun w5 =>
  if w5 = 0 then
  (ck (decide (¬ k0 = 2)) <|
  ck (inb 8 (alen 22 k0)) <|
  lt (if ((σ.1 22 k0 8) + x2) ≤ 999 then
  (((σ.1 22 k0 8) + x2))
  else
  (999) : Int32) fun w9 =>
  ck (decide (¬ k0 = 2)) <|
  ck (inb 8 (alen 22 k0)) <|
  lt (sI σ 22 k0 8 w9) fun σ14 =>
  some σ14)
  else
  (some σ)) : Option (Mem)) fun w1 =>
  bnd (f11_goParts k0 w1) fun w17 =>
  ck (decide (¬ k0 = 2)) <|
  ck (inb 9 (alen 22 k0)) <|
  ck (decide (¬ k0 = 2)) <|
  ck (inb 9 (alen 22 k0)) <|
  lt (sI w17 22 k0 9 ((w17.1 22 k0 9) + 1)) fun σ23 =>
  some σ23
theorem E11_goSummer {k0 : Nat} {x1 : Int32} {x2 : Int32} {σ : Mem} {w : Mem} (h : f11_goSummer k0 x1 x2 σ = some w) : Ev m11_goSummer [.inr (.inr (22, k0)), .inl x1, .inl x2] σ none w := by
  unfold f11_goSummer at h
  show Go m11_goSummer 0 [some (.inr (.inr (22, k0))), some (.inl x1), some (.inl x2), none] [] σ none w
  refine g_iload_n a11_goSummer_0 rfl ?_
  obtain ⟨w1, hw1, h⟩ := bnd_inv h
  have J2 : Go m11_goSummer 41 [some (.inr (.inr (22, k0))), none, none, none] [] w1 none w := by
    refine g_aload_n a11_goSummer_41 rfl ?_
    obtain ⟨w17, hw17, h⟩ := bnd_inv h
    refine g_S1n (σ1 := w17) a11_goSummer_42 cs11_115 (E11_goParts hw17) rfl (fun o18 => ?_)
    refine g_aload_n a11_goSummer_45 rfl ?_
    refine g_bipush (v := 9) a11_goSummer_46 rfl ?_
    refine g_dup2 a11_goSummer_48 (fun _ => rfl) (fun _ => rfl) ?_
    obtain ⟨q19, h⟩ := ck_inv h
    obtain ⟨q20, h⟩ := ck_inv h
    refine g_iald (x := (w17.1 22 k0 9)) a11_goSummer_49 (rI22 (of_decide_eq_true q19)) (inb_ok q20) rfl ?_
    refine g_iconst (v := 1) a11_goSummer_50 rfl ?_
    refine g_iadd a11_goSummer_51 ?_
    obtain ⟨q21, h⟩ := ck_inv h
    obtain ⟨q22, h⟩ := ck_inv h
    obtain ⟨σ23, eσ23, h⟩ := lt_inv h
    refine g_iast (j := 9) a11_goSummer_52 (rI22 (of_decide_eq_true q21)) (inb_ok q22) rfl ?_
    rw [eσ23]
    have h := Option.some.inj h
    subst h
    exact g_retE a11_goSummer_53 trivial rfl rfl
  clear h
  refine g_if_le (tgt := 41) a11_goSummer_1 rfl (fun c16 => ?_) (fun c16 => ?_)
  · have hw1 := (if_pos c16).symm.trans hw1
    have hw1 := Option.some.inj hw1
    subst hw1
    exact g_weak J2 ⟨rfl, trivial⟩
  · have hw1 := (if_neg c16).symm.trans hw1
    refine g_aload_n a11_goSummer_4 rfl ?_
    refine g_aload_n a11_goSummer_5 rfl ?_
    refine g_bipush (v := 6) a11_goSummer_6 rfl ?_
    obtain ⟨q3, hw1⟩ := ck_inv hw1
    obtain ⟨q4, hw1⟩ := ck_inv hw1
    refine g_iald (x := (σ.1 22 k0 6)) a11_goSummer_8 (rI22 (of_decide_eq_true q3)) (inb_ok q4) rfl ?_
    refine g_iload_n a11_goSummer_9 rfl ?_
    obtain ⟨w5, hw5, hw1⟩ := bnd_inv hw1
    refine g_S3s (v1 := .inl w5) (σ1 := σ) a11_goSummer_10 cs11_112 (E11_struckOf hw5) rfl (fun o6 => ?_)
    refine g_if_ne (tgt := 41) a11_goSummer_13 rfl (fun c15 => ?_) (fun c15 => ?_)
    · have hw1 := (if_neg c15).symm.trans hw1
      have hw1 := Option.some.inj hw1
      subst hw1
      exact g_weak J2 ⟨rfl, trivial⟩
    · have hw1 := (if_pos c15).symm.trans hw1
      refine g_aload_n a11_goSummer_16 rfl ?_
      refine g_bipush (v := 8) a11_goSummer_17 rfl ?_
      obtain ⟨q7, hw1⟩ := ck_inv hw1
      obtain ⟨q8, hw1⟩ := ck_inv hw1
      refine g_iald (x := (σ.1 22 k0 8)) a11_goSummer_19 (rI22 (of_decide_eq_true q7)) (inb_ok q8) rfl ?_
      refine g_iload_n a11_goSummer_20 rfl ?_
      refine g_iadd a11_goSummer_21 ?_
      refine g_istore_n (L' := [some (.inr (.inr (22, k0))), some (.inl x1), some (.inl x2), some (.inl ((σ.1 22 k0 8) + x2))]) a11_goSummer_22 (Nat.le_of_ble_eq_true rfl) rfl rfl ?_
      refine g_aload_n a11_goSummer_23 rfl ?_
      refine g_bipush (v := 8) a11_goSummer_24 rfl ?_
      refine g_iload_n a11_goSummer_26 rfl ?_
      refine g_sipush (v := 999) a11_goSummer_27 rfl ?_
      obtain ⟨w9, hw9, hw1⟩ := lt_inv hw1
      have J10 : Go m11_goSummer 40 [some (.inr (.inr (22, k0))), none, none, none] [.inl w9, .inl 8, .inr (.inr (22, k0))] σ none w := by
        obtain ⟨q12, hw1⟩ := ck_inv hw1
        obtain ⟨q13, hw1⟩ := ck_inv hw1
        obtain ⟨σ14, eσ14, hw1⟩ := lt_inv hw1
        refine g_iast (j := 8) a11_goSummer_40 (rI22 (of_decide_eq_true q12)) (inb_ok q13) rfl ?_
        rw [eσ14]
        have hw1 := Option.some.inj hw1
        subst hw1
        exact J2
      clear hw1
      refine g_icmp_le (tgt := 39) a11_goSummer_30 rfl (fun c11 => ?_) (fun c11 => ?_)
      · have hw9 := (if_pos c11).symm.trans hw9
        refine g_iload_n a11_goSummer_39 rfl ?_
        subst hw9
        exact g_weak J10 ⟨rfl, trivial⟩
      · have hw9 := (if_neg c11).symm.trans hw9
        refine g_sipush (v := 999) a11_goSummer_33 rfl ?_
        refine g_goto (tgt := 40) a11_goSummer_36 rfl ?_
        subst hw9
        exact g_weak J10 ⟨rfl, trivial⟩
theorem a11_goTold_0 : At cX11_goTold 0 (.aload_n 0) 1 1 := ⟨by decide +kernel, rfl⟩
theorem a11_goTold_1 : At cX11_goTold 1 (.bipush 9) 2 3 := ⟨by decide +kernel, rfl⟩
theorem a11_goTold_3 : At cX11_goTold 3 (.iaload) 1 4 := ⟨by decide +kernel, rfl⟩
theorem a11_goTold_4 : At cX11_goTold 4 (.bipush 6) 2 6 := ⟨by decide +kernel, rfl⟩
theorem a11_goTold_6 : At cX11_goTold 6 (.irem) 1 7 := ⟨by decide +kernel, rfl⟩
theorem a11_goTold_7 : At cX11_goTold 7 (.istore_n 1) 1 8 := ⟨by decide +kernel, rfl⟩
theorem a11_goTold_8 : At cX11_goTold 8 (.aload_n 0) 1 9 := ⟨by decide +kernel, rfl⟩
theorem a11_goTold_9 : At cX11_goTold 9 (.aload_n 0) 1 10 := ⟨by decide +kernel, rfl⟩
theorem a11_goTold_10 : At cX11_goTold 10 (.bipush 10) 2 12 := ⟨by decide +kernel, rfl⟩
theorem a11_goTold_12 : At cX11_goTold 12 (.iload_n 1) 1 13 := ⟨by decide +kernel, rfl⟩
theorem a11_goTold_13 : At cX11_goTold 13 (.iadd) 1 14 := ⟨by decide +kernel, rfl⟩
theorem a11_goTold_14 : At cX11_goTold 14 (.iaload) 1 15 := ⟨by decide +kernel, rfl⟩
theorem a11_goTold_15 : At cX11_goTold 15 (.aload_n 0) 1 16 := ⟨by decide +kernel, rfl⟩
theorem a11_goTold_16 : At cX11_goTold 16 (.bipush 16) 2 18 := ⟨by decide +kernel, rfl⟩
theorem a11_goTold_18 : At cX11_goTold 18 (.iload_n 1) 1 19 := ⟨by decide +kernel, rfl⟩
theorem a11_goTold_19 : At cX11_goTold 19 (.iadd) 1 20 := ⟨by decide +kernel, rfl⟩
theorem a11_goTold_20 : At cX11_goTold 20 (.iaload) 1 21 := ⟨by decide +kernel, rfl⟩
theorem a11_goTold_21 : At cX11_goTold 21 (.invokestatic 118) 3 24 := ⟨by decide +kernel, rfl⟩
theorem a11_goTold_24 : At cX11_goTold 24 (.return_) 1 25 := ⟨by decide +kernel, rfl⟩
def f11_goTold (k0 : Nat) (σ : Mem) : Option (Mem) :=
  ck (decide (¬ k0 = 2)) <|
  ck (inb 9 (alen 22 k0)) <|
  ck (decide (¬ k0 = 2)) <|
  ck (inb (10 + ((σ.1 22 k0 9) - (σ.1 22 k0 9) / 6 * 6)) (alen 22 k0)) <|
  ck (decide (¬ k0 = 2)) <|
  ck (inb (16 + ((σ.1 22 k0 9) - (σ.1 22 k0 9) / 6 * 6)) (alen 22 k0)) <|
  bnd (f11_goSummer k0 (σ.1 22 k0 ((10 + ((σ.1 22 k0 9) - (σ.1 22 k0 9) / 6 * 6)) : Int32).toNatClampNeg) (σ.1 22 k0 ((16 + ((σ.1 22 k0 9) - (σ.1 22 k0 9) / 6 * 6)) : Int32).toNatClampNeg) σ) fun w7 =>
  some w7
theorem E11_goTold {k0 : Nat} {σ : Mem} {w : Mem} (h : f11_goTold k0 σ = some w) : Ev m11_goTold [.inr (.inr (22, k0))] σ none w := by
  unfold f11_goTold at h
  show Go m11_goTold 0 [some (.inr (.inr (22, k0))), none] [] σ none w
  refine g_aload_n a11_goTold_0 rfl ?_
  refine g_bipush (v := 9) a11_goTold_1 rfl ?_
  obtain ⟨q1, h⟩ := ck_inv h
  obtain ⟨q2, h⟩ := ck_inv h
  refine g_iald (x := (σ.1 22 k0 9)) a11_goTold_3 (rI22 (of_decide_eq_true q1)) (inb_ok q2) rfl ?_
  refine g_bipush (v := 6) a11_goTold_4 rfl ?_
  refine g_irem a11_goTold_6 (by decide) ?_
  refine g_istore_n (L' := [some (.inr (.inr (22, k0))), some (.inl ((σ.1 22 k0 9) - (σ.1 22 k0 9) / 6 * 6))]) a11_goTold_7 (Nat.le_of_ble_eq_true rfl) rfl rfl ?_
  refine g_aload_n a11_goTold_8 rfl ?_
  refine g_aload_n a11_goTold_9 rfl ?_
  refine g_bipush (v := 10) a11_goTold_10 rfl ?_
  refine g_iload_n a11_goTold_12 rfl ?_
  refine g_iadd a11_goTold_13 ?_
  obtain ⟨q3, h⟩ := ck_inv h
  obtain ⟨q4, h⟩ := ck_inv h
  refine g_iald (x := (σ.1 22 k0 ((10 + ((σ.1 22 k0 9) - (σ.1 22 k0 9) / 6 * 6)) : Int32).toNatClampNeg)) a11_goTold_14 (rI22 (of_decide_eq_true q3)) (inb_ok q4) rfl ?_
  refine g_aload_n a11_goTold_15 rfl ?_
  refine g_bipush (v := 16) a11_goTold_16 rfl ?_
  refine g_iload_n a11_goTold_18 rfl ?_
  refine g_iadd a11_goTold_19 ?_
  obtain ⟨q5, h⟩ := ck_inv h
  obtain ⟨q6, h⟩ := ck_inv h
  refine g_iald (x := (σ.1 22 k0 ((16 + ((σ.1 22 k0 9) - (σ.1 22 k0 9) / 6 * 6)) : Int32).toNatClampNeg)) a11_goTold_20 (rI22 (of_decide_eq_true q5)) (inb_ok q6) rfl ?_
  obtain ⟨w7, hw7, h⟩ := bnd_inv h
  refine g_S3n (σ1 := w7) a11_goTold_21 cs11_118 (E11_goSummer hw7) rfl (fun o8 => ?_)
  have h := Option.some.inj h
  subst h
  exact g_retE a11_goTold_24 trivial rfl rfl
theorem a11_goSummers_0 : At cX11_goSummers 0 (.iconst 0) 1 1 := ⟨by decide +kernel, rfl⟩
theorem a11_goSummers_1 : At cX11_goSummers 1 (.istore_n 2) 1 2 := ⟨by decide +kernel, rfl⟩
theorem a11_goSummers_2 : At cX11_goSummers 2 (.iload_n 2) 1 3 := ⟨by decide +kernel, rfl⟩
theorem a11_goSummers_3 : At cX11_goSummers 3 (.iload_n 1) 1 4 := ⟨by decide +kernel, rfl⟩
theorem a11_goSummers_4 : At cX11_goSummers 4 (.if_icmp .ge 23) 3 7 := ⟨by decide +kernel, rfl⟩
theorem a11_goSummers_7 : At cX11_goSummers 7 (.aload_n 0) 1 8 := ⟨by decide +kernel, rfl⟩
theorem a11_goSummers_8 : At cX11_goSummers 8 (.bipush 9) 2 10 := ⟨by decide +kernel, rfl⟩
theorem a11_goSummers_10 : At cX11_goSummers 10 (.iaload) 1 11 := ⟨by decide +kernel, rfl⟩
theorem a11_goSummers_11 : At cX11_goSummers 11 (.sipush 999) 3 14 := ⟨by decide +kernel, rfl⟩
theorem a11_goSummers_14 : At cX11_goSummers 14 (.if_icmp .ge 13) 3 17 := ⟨by decide +kernel, rfl⟩
theorem a11_goSummers_17 : At cX11_goSummers 17 (.aload_n 0) 1 18 := ⟨by decide +kernel, rfl⟩
theorem a11_goSummers_18 : At cX11_goSummers 18 (.invokestatic 122) 3 21 := ⟨by decide +kernel, rfl⟩
theorem a11_goSummers_21 : At cX11_goSummers 21 (.iinc 2 1) 3 24 := ⟨by decide +kernel, rfl⟩
theorem a11_goSummers_24 : At cX11_goSummers 24 (.goto (-22)) 3 27 := ⟨by decide +kernel, rfl⟩
theorem a11_goSummers_27 : At cX11_goSummers 27 (.return_) 1 28 := ⟨by decide +kernel, rfl⟩
def l11_goSummers_2 (k0 : Nat) (x1 : Int32) : Nat → Int32 → Mem → Option (Int32 × Mem)
  | 0, _, _ => none
  | n + 1, x2, σ =>
  if x1 ≤ x2 then
  (some (x2, σ))
  else
  (ck (decide (¬ k0 = 2)) <|
  ck (inb 9 (alen 22 k0)) <|
  if 999 ≤ (σ.1 22 k0 9) then
  (some (x2, σ))
  else
  (bnd (f11_goTold k0 σ) fun w3 =>
  l11_goSummers_2 k0 x1 n (x2 + 1) w3))
theorem lE11_goSummers_2 {V : Option AV} {S : Mem} (k0 : Nat) (x1 : Int32) : ∀ (n : Nat) (x2 : Int32) (σ : Mem) {w : Int32 × Mem}, l11_goSummers_2 k0 x1 n x2 σ = some w → (Go m11_goSummers 27 [some (.inr (.inr (22, k0))), some (.inl x1), some (.inl w.1)] [] w.2 V S) → Go m11_goSummers 2 [some (.inr (.inr (22, k0))), some (.inl x1), some (.inl x2)] [] σ V S
  | 0, x2, σ, w, h, K1 => by cases h
  | n + 1, x2, σ, w, h, K1 => by
    rw [l11_goSummers_2] at h
    refine g_iload_n a11_goSummers_2 rfl ?_
    refine g_iload_n a11_goSummers_3 rfl ?_
    refine g_icmp_ge (tgt := 27) a11_goSummers_4 rfl (fun c6 => ?_) (fun c6 => ?_)
    · have h := (if_pos c6).symm.trans h
      have h := Option.some.inj h
      subst h
      exact g_weak K1 ⟨rfl, rfl, rfl, trivial⟩
    · have h := (if_neg c6).symm.trans h
      refine g_aload_n a11_goSummers_7 rfl ?_
      refine g_bipush (v := 9) a11_goSummers_8 rfl ?_
      obtain ⟨q1, h⟩ := ck_inv h
      obtain ⟨q2, h⟩ := ck_inv h
      refine g_iald (x := (σ.1 22 k0 9)) a11_goSummers_10 (rI22 (of_decide_eq_true q1)) (inb_ok q2) rfl ?_
      refine g_sipush (v := 999) a11_goSummers_11 rfl ?_
      refine g_icmp_ge (tgt := 27) a11_goSummers_14 rfl (fun c5 => ?_) (fun c5 => ?_)
      · have h := (if_pos c5).symm.trans h
        have h := Option.some.inj h
        subst h
        exact g_weak K1 ⟨rfl, rfl, rfl, trivial⟩
      · have h := (if_neg c5).symm.trans h
        refine g_aload_n a11_goSummers_17 rfl ?_
        obtain ⟨w3, hw3, h⟩ := bnd_inv h
        refine g_S1n (σ1 := w3) a11_goSummers_18 cs11_122 (E11_goTold hw3) rfl (fun o4 => ?_)
        refine g_iinc (v := (x2 + 1)) (L' := [some (.inr (.inr (22, k0))), some (.inl x1), some (.inl (x2 + 1))]) a11_goSummers_21 rfl rfl (Nat.le_of_ble_eq_true rfl) rfl rfl ?_
        refine g_goto (tgt := 2) a11_goSummers_24 rfl ?_
        exact g_weak (lE11_goSummers_2 (V := V) (S := S)  k0 x1 n _ _ h K1) ⟨rfl, rfl, rfl, trivial⟩
def f11_goSummers (k0 : Nat) (x1 : Int32) (σ : Mem) : Option (Mem) :=
  bnd (l11_goSummers_2 k0 x1 2000 0 σ) fun w7 =>
  some w7.2
theorem E11_goSummers {k0 : Nat} {x1 : Int32} {σ : Mem} {w : Mem} (h : f11_goSummers k0 x1 σ = some w) : Ev m11_goSummers [.inr (.inr (22, k0)), .inl x1] σ none w := by
  unfold f11_goSummers at h
  show Go m11_goSummers 0 [some (.inr (.inr (22, k0))), some (.inl x1), none] [] σ none w
  refine g_iconst (v := 0) a11_goSummers_0 rfl ?_
  refine g_istore_n (L' := [some (.inr (.inr (22, k0))), some (.inl x1), some (.inl 0)]) a11_goSummers_1 (Nat.le_of_ble_eq_true rfl) rfl rfl ?_
  obtain ⟨w7, hw7, h⟩ := bnd_inv h
  refine g_weak (lE11_goSummers_2 k0 x1 2000 _ _ hw7 ?_) ⟨rfl, rfl, rfl, trivial⟩
  have h := Option.some.inj h
  subst h
  exact g_retE a11_goSummers_27 trivial rfl rfl
theorem a11_summers_0 : At cX11_summers 0 (.iload_n 1) 1 1 := ⟨by decide +kernel, rfl⟩
theorem a11_summers_1 : At cX11_summers 1 (.i2l) 1 2 := ⟨by decide +kernel, rfl⟩
theorem a11_summers_2 : At cX11_summers 2 (.lconst 1) 1 3 := ⟨by decide +kernel, rfl⟩
theorem a11_summers_3 : At cX11_summers 3 (.ldc2_w 125) 3 6 := ⟨by decide +kernel, rfl⟩
theorem a11_summers_6 : At cX11_summers 6 (.invokestatic 59) 3 9 := ⟨by decide +kernel, rfl⟩
theorem a11_summers_9 : At cX11_summers 9 (.ifCond .ne 10) 3 12 := ⟨by decide +kernel, rfl⟩
theorem a11_summers_12 : At cX11_summers 12 (.aload_n 0) 1 13 := ⟨by decide +kernel, rfl⟩
theorem a11_summers_13 : At cX11_summers 13 (.bipush (-2)) 2 15 := ⟨by decide +kernel, rfl⟩
theorem a11_summers_15 : At cX11_summers 15 (.invokevirtual 73) 3 18 := ⟨by decide +kernel, rfl⟩
theorem a11_summers_18 : At cX11_summers 18 (.ireturn) 1 19 := ⟨by decide +kernel, rfl⟩
theorem a11_summers_19 : At cX11_summers 19 (.aload_n 0) 1 20 := ⟨by decide +kernel, rfl⟩
theorem a11_summers_20 : At cX11_summers 20 (.invokevirtual 127) 3 23 := ⟨by decide +kernel, rfl⟩
theorem a11_summers_23 : At cX11_summers 23 (.aload_n 0) 1 24 := ⟨by decide +kernel, rfl⟩
theorem a11_summers_24 : At cX11_summers 24 (.getfield 7) 3 27 := ⟨by decide +kernel, rfl⟩
theorem a11_summers_27 : At cX11_summers 27 (.iload_n 1) 1 28 := ⟨by decide +kernel, rfl⟩
theorem a11_summers_28 : At cX11_summers 28 (.invokestatic 130) 3 31 := ⟨by decide +kernel, rfl⟩
theorem a11_summers_31 : At cX11_summers 31 (.aload_n 0) 1 32 := ⟨by decide +kernel, rfl⟩
theorem a11_summers_32 : At cX11_summers 32 (.getfield 7) 3 35 := ⟨by decide +kernel, rfl⟩
theorem a11_summers_35 : At cX11_summers 35 (.bipush 7) 2 37 := ⟨by decide +kernel, rfl⟩
theorem a11_summers_37 : At cX11_summers 37 (.iaload) 1 38 := ⟨by decide +kernel, rfl⟩
theorem a11_summers_38 : At cX11_summers 38 (.invokestatic 105) 3 41 := ⟨by decide +kernel, rfl⟩
theorem a11_summers_41 : At cX11_summers 41 (.ireturn) 1 42 := ⟨by decide +kernel, rfl⟩
def f11_summers (k0 : Nat) (x1 : Int32) (σ : Mem) : Option (Int32 × Mem) :=
  if (f11_in (x1.toInt64) 1 60) = 0 then
  (lt (f11_bad k0 (-2) σ) fun w2 =>
  some (w2.1, w2.2))
  else
  (bnd (f11_save k0 σ) fun w4 =>
  bnd (f11_goSummers 0 x1 w4) fun w6 =>
  bnd (f11_bits (w6.1 22 0 7)) fun w8 =>
  some (w8, w6))
theorem E11_summers {k0 : Nat} {x1 : Int32} {σ : Mem} {w : Int32 × Mem} (h : f11_summers k0 x1 σ = some w) : Ev m11_summers [.inr (.inr (11, k0)), .inl x1] σ (some (.inl w.1) : Option AV) w.2 := by
  unfold f11_summers at h
  show Go m11_summers 0 [some (.inr (.inr (11, k0))), some (.inl x1)] [] σ (some (.inl w.1) : Option AV) w.2
  refine g_iload_n a11_summers_0 rfl ?_
  refine g_i2l a11_summers_1 ?_
  refine g_lconst (v := 1) a11_summers_2 rfl ?_
  refine g_ldc2 (v := 60) a11_summers_3 wl11_125 ?_
  refine g_S3s (v1 := .inl (f11_in (x1.toInt64) 1 60)) (σ1 := σ) a11_summers_6 cs11_59 (E11_in _ _ _ _) rfl (fun o1 => ?_)
  refine g_if_ne (tgt := 19) a11_summers_9 rfl (fun c10 => ?_) (fun c10 => ?_)
  · have h := (if_neg c10).symm.trans h
    refine g_aload_n a11_summers_19 rfl ?_
    obtain ⟨w4, hw4, h⟩ := bnd_inv h
    refine g_V0n (σ1 := w4) a11_summers_20 cv11_127 (E11_save hw4) rfl (fun o5 => ?_)
    refine g_aload_n a11_summers_23 rfl ?_
    refine g_getf (v := .inr (.inr (22, 0))) a11_summers_24 fs11_7 rfl ?_
    refine g_iload_n a11_summers_27 rfl ?_
    obtain ⟨w6, hw6, h⟩ := bnd_inv h
    refine g_S2n (σ1 := w6) a11_summers_28 cs11_130 (E11_goSummers hw6) rfl (fun o7 => ?_)
    refine g_aload_n a11_summers_31 rfl ?_
    refine g_getf (v := .inr (.inr (22, 0))) a11_summers_32 fs11_7 rfl ?_
    refine g_bipush (v := 7) a11_summers_35 rfl ?_
    refine g_iald (x := (w6.1 22 0 7)) a11_summers_37 (rI22 (by decide)) (inb_ok (by decide)) rfl ?_
    obtain ⟨w8, hw8, h⟩ := bnd_inv h
    refine g_S1s (v1 := .inl w8) (σ1 := w6) a11_summers_38 cs11_105 (E11_bits hw8) rfl (fun o9 => ?_)
    have h := Option.some.inj h
    subst h
    exact g_retE a11_summers_41 trivial rfl rfl
  · have h := (if_pos c10).symm.trans h
    refine g_aload_n a11_summers_12 rfl ?_
    refine g_bipush (v := (-2)) a11_summers_13 rfl ?_
    obtain ⟨w2, hw2, h⟩ := lt_inv h
    refine g_V1s (v1 := .inl w2.1) (σ1 := w2.2) a11_summers_15 cv11_73 (by rw [← hw2]; exact E11_bad _ _ _) rfl (fun o3 => ?_)
    have h := Option.some.inj h
    subst h
    exact g_retE a11_summers_18 trivial rfl rfl
theorem a11_isThing_0 : At cX11_isThing 0 (.iload_n 1) 1 1 := ⟨by decide +kernel, rfl⟩
theorem a11_isThing_1 : At cX11_isThing 1 (.i2l) 1 2 := ⟨by decide +kernel, rfl⟩
theorem a11_isThing_2 : At cX11_isThing 2 (.lconst 0) 1 3 := ⟨by decide +kernel, rfl⟩
theorem a11_isThing_3 : At cX11_isThing 3 (.aload_n 0) 1 4 := ⟨by decide +kernel, rfl⟩
theorem a11_isThing_4 : At cX11_isThing 4 (.invokevirtual 55) 3 7 := ⟨by decide +kernel, rfl⟩
theorem a11_isThing_7 : At cX11_isThing 7 (.iconst 1) 1 8 := ⟨by decide +kernel, rfl⟩
theorem a11_isThing_8 : At cX11_isThing 8 (.isub) 1 9 := ⟨by decide +kernel, rfl⟩
theorem a11_isThing_9 : At cX11_isThing 9 (.i2l) 1 10 := ⟨by decide +kernel, rfl⟩
theorem a11_isThing_10 : At cX11_isThing 10 (.invokestatic 59) 3 13 := ⟨by decide +kernel, rfl⟩
theorem a11_isThing_13 : At cX11_isThing 13 (.ireturn) 1 14 := ⟨by decide +kernel, rfl⟩
def f11_isThing (k0 : Nat) (x1 : Int32) (σ : Mem) : Int32 :=
  (f11_in (x1.toInt64) 0 ((((f11_many k0 σ) - 1) : Int32).toInt64))
theorem E11_isThing (k0 : Nat) (x1 : Int32) (σ : Mem) : Ev m11_isThing [.inr (.inr (11, k0)), .inl x1] σ (some (.inl (f11_isThing k0 x1 σ)) : Option AV) σ := by
  obtain ⟨w, h⟩ : ∃ w, f11_isThing k0 x1 σ = w := ⟨_, rfl⟩
  rw [h]
  unfold f11_isThing at h
  show Go m11_isThing 0 [some (.inr (.inr (11, k0))), some (.inl x1)] [] σ (some (.inl w) : Option AV) σ
  refine g_iload_n a11_isThing_0 rfl ?_
  refine g_i2l a11_isThing_1 ?_
  refine g_lconst (v := 0) a11_isThing_2 rfl ?_
  refine g_aload_n a11_isThing_3 rfl ?_
  refine g_V0s (v1 := .inl (f11_many k0 σ)) (σ1 := σ) a11_isThing_4 cv11_55 (E11_many _ _) rfl (fun o1 => ?_)
  refine g_iconst (v := 1) a11_isThing_7 rfl ?_
  refine g_isub a11_isThing_8 ?_
  refine g_i2l a11_isThing_9 ?_
  refine g_S3s (v1 := .inl (f11_in (x1.toInt64) 0 ((((f11_many k0 σ) - 1) : Int32).toInt64))) (σ1 := σ) a11_isThing_10 cs11_59 (E11_in _ _ _ _) rfl (fun o2 => ?_)
  subst h
  exact g_retE a11_isThing_13 o2 rfl rfl
