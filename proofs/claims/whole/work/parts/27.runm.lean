theorem a11_takes_0 : At cX11_takes 0 (.aload_n 0) 1 1 := ⟨by decide +kernel, rfl⟩
theorem a11_takes_1 : At cX11_takes 1 (.iload_n 1) 1 2 := ⟨by decide +kernel, rfl⟩
theorem a11_takes_2 : At cX11_takes 2 (.invokevirtual 134) 3 5 := ⟨by decide +kernel, rfl⟩
theorem a11_takes_5 : At cX11_takes 5 (.ifCond .ne 10) 3 8 := ⟨by decide +kernel, rfl⟩
theorem a11_takes_8 : At cX11_takes 8 (.aload_n 0) 1 9 := ⟨by decide +kernel, rfl⟩
theorem a11_takes_9 : At cX11_takes 9 (.bipush (-2)) 2 11 := ⟨by decide +kernel, rfl⟩
theorem a11_takes_11 : At cX11_takes 11 (.invokevirtual 73) 3 14 := ⟨by decide +kernel, rfl⟩
theorem a11_takes_14 : At cX11_takes 14 (.ireturn) 1 15 := ⟨by decide +kernel, rfl⟩
theorem a11_takes_15 : At cX11_takes 15 (.aload_n 0) 1 16 := ⟨by decide +kernel, rfl⟩
theorem a11_takes_16 : At cX11_takes 16 (.invokevirtual 127) 3 19 := ⟨by decide +kernel, rfl⟩
theorem a11_takes_19 : At cX11_takes 19 (.aload_n 0) 1 20 := ⟨by decide +kernel, rfl⟩
theorem a11_takes_20 : At cX11_takes 20 (.getfield 7) 3 23 := ⟨by decide +kernel, rfl⟩
theorem a11_takes_23 : At cX11_takes 23 (.bipush 6) 2 25 := ⟨by decide +kernel, rfl⟩
theorem a11_takes_25 : At cX11_takes 25 (.dup2) 1 26 := ⟨by decide +kernel, rfl⟩
theorem a11_takes_26 : At cX11_takes 26 (.iaload) 1 27 := ⟨by decide +kernel, rfl⟩
theorem a11_takes_27 : At cX11_takes 27 (.iconst 1) 1 28 := ⟨by decide +kernel, rfl⟩
theorem a11_takes_28 : At cX11_takes 28 (.iload_n 1) 1 29 := ⟨by decide +kernel, rfl⟩
theorem a11_takes_29 : At cX11_takes 29 (.ishl) 1 30 := ⟨by decide +kernel, rfl⟩
theorem a11_takes_30 : At cX11_takes 30 (.ixor) 1 31 := ⟨by decide +kernel, rfl⟩
theorem a11_takes_31 : At cX11_takes 31 (.iastore) 1 32 := ⟨by decide +kernel, rfl⟩
theorem a11_takes_32 : At cX11_takes 32 (.aload_n 0) 1 33 := ⟨by decide +kernel, rfl⟩
theorem a11_takes_33 : At cX11_takes 33 (.getfield 7) 3 36 := ⟨by decide +kernel, rfl⟩
theorem a11_takes_36 : At cX11_takes 36 (.bipush 6) 2 38 := ⟨by decide +kernel, rfl⟩
theorem a11_takes_38 : At cX11_takes 38 (.iaload) 1 39 := ⟨by decide +kernel, rfl⟩
theorem a11_takes_39 : At cX11_takes 39 (.iload_n 1) 1 40 := ⟨by decide +kernel, rfl⟩
theorem a11_takes_40 : At cX11_takes 40 (.ishr) 1 41 := ⟨by decide +kernel, rfl⟩
theorem a11_takes_41 : At cX11_takes 41 (.iconst 1) 1 42 := ⟨by decide +kernel, rfl⟩
theorem a11_takes_42 : At cX11_takes 42 (.iand) 1 43 := ⟨by decide +kernel, rfl⟩
theorem a11_takes_43 : At cX11_takes 43 (.ireturn) 1 44 := ⟨by decide +kernel, rfl⟩
def f11_takes (k0 : Nat) (x1 : Int32) (σ : Mem) : Option (Int32 × Mem) :=
  if (f11_isThing k0 x1 σ) = 0 then
  (lt (f11_bad k0 (-2) σ) fun w2 =>
  some (w2.1, w2.2))
  else
  (bnd (f11_save k0 σ) fun w4 =>
  lt (sI w4 22 0 6 ((w4.1 22 0 6) ^^^ (1 <<< (x1 &&& 31)))) fun σ6 =>
  some ((((σ6.1 22 0 6) >>> (x1 &&& 31)) &&& 1), σ6))
theorem E11_takes {k0 : Nat} {x1 : Int32} {σ : Mem} {w : Int32 × Mem} (h : f11_takes k0 x1 σ = some w) : Ev m11_takes [.inr (.inr (11, k0)), .inl x1] σ (some (.inl w.1) : Option AV) w.2 := by
  unfold f11_takes at h
  show Go m11_takes 0 [some (.inr (.inr (11, k0))), some (.inl x1)] [] σ (some (.inl w.1) : Option AV) w.2
  refine g_aload_n a11_takes_0 rfl ?_
  refine g_iload_n a11_takes_1 rfl ?_
  refine g_V1s (v1 := .inl (f11_isThing k0 x1 σ)) (σ1 := σ) a11_takes_2 cv11_134 (E11_isThing _ _ _) rfl (fun o1 => ?_)
  refine g_if_ne (tgt := 15) a11_takes_5 rfl (fun c7 => ?_) (fun c7 => ?_)
  · have h := (if_neg c7).symm.trans h
    refine g_aload_n a11_takes_15 rfl ?_
    obtain ⟨w4, hw4, h⟩ := bnd_inv h
    refine g_V0n (σ1 := w4) a11_takes_16 cv11_127 (E11_save hw4) rfl (fun o5 => ?_)
    refine g_aload_n a11_takes_19 rfl ?_
    refine g_getf (v := .inr (.inr (22, 0))) a11_takes_20 fs11_7 rfl ?_
    refine g_bipush (v := 6) a11_takes_23 rfl ?_
    refine g_dup2 a11_takes_25 (fun _ => rfl) (fun _ => rfl) ?_
    refine g_iald (x := (w4.1 22 0 6)) a11_takes_26 (rI22 (by decide)) (inb_ok (by decide)) rfl ?_
    refine g_iconst (v := 1) a11_takes_27 rfl ?_
    refine g_iload_n a11_takes_28 rfl ?_
    refine g_ishl a11_takes_29 ?_
    refine g_ixor a11_takes_30 ?_
    obtain ⟨σ6, eσ6, h⟩ := lt_inv h
    refine g_iast (j := 6) a11_takes_31 (rI22 (by decide)) (inb_ok (by decide)) rfl ?_
    rw [eσ6]
    refine g_aload_n a11_takes_32 rfl ?_
    refine g_getf (v := .inr (.inr (22, 0))) a11_takes_33 fs11_7 rfl ?_
    refine g_bipush (v := 6) a11_takes_36 rfl ?_
    refine g_iald (x := (σ6.1 22 0 6)) a11_takes_38 (rI22 (by decide)) (inb_ok (by decide)) rfl ?_
    refine g_iload_n a11_takes_39 rfl ?_
    refine g_ishr a11_takes_40 ?_
    refine g_iconst (v := 1) a11_takes_41 rfl ?_
    refine g_iand a11_takes_42 ?_
    have h := Option.some.inj h
    subst h
    exact g_retE a11_takes_43 trivial rfl rfl
  · have h := (if_pos c7).symm.trans h
    refine g_aload_n a11_takes_8 rfl ?_
    refine g_bipush (v := (-2)) a11_takes_9 rfl ?_
    obtain ⟨w2, hw2, h⟩ := lt_inv h
    refine g_V1s (v1 := .inl w2.1) (σ1 := w2.2) a11_takes_11 cv11_73 (by rw [← hw2]; exact E11_bad _ _ _) rfl (fun o3 => ?_)
    have h := Option.some.inj h
    subst h
    exact g_retE a11_takes_14 trivial rfl rfl
theorem a11_no_0 : At cX11_no 0 (.aload_n 0) 1 1 := ⟨by decide +kernel, rfl⟩
theorem a11_no_1 : At cX11_no 1 (.getfield 20) 3 4 := ⟨by decide +kernel, rfl⟩
theorem a11_no_4 : At cX11_no 4 (.iconst 1) 1 5 := ⟨by decide +kernel, rfl⟩
theorem a11_no_5 : At cX11_no 5 (.dup2) 1 6 := ⟨by decide +kernel, rfl⟩
theorem a11_no_6 : At cX11_no 6 (.iaload) 1 7 := ⟨by decide +kernel, rfl⟩
theorem a11_no_7 : At cX11_no 7 (.iconst 1) 1 8 := ⟨by decide +kernel, rfl⟩
theorem a11_no_8 : At cX11_no 8 (.iadd) 1 9 := ⟨by decide +kernel, rfl⟩
theorem a11_no_9 : At cX11_no 9 (.iastore) 1 10 := ⟨by decide +kernel, rfl⟩
theorem a11_no_10 : At cX11_no 10 (.bipush (-3)) 2 12 := ⟨by decide +kernel, rfl⟩
theorem a11_no_12 : At cX11_no 12 (.ireturn) 1 13 := ⟨by decide +kernel, rfl⟩
def f11_no (k0 : Nat) (σ : Mem) : Int32 × Mem :=
  lt (sI σ 22 3 1 ((σ.1 22 3 1) + 1)) fun σ1 =>
  ((-3), σ1)
theorem E11_no (k0 : Nat) (σ : Mem) : Ev m11_no [.inr (.inr (11, k0))] σ (some (.inl ((f11_no k0 σ).1)) : Option AV) (f11_no k0 σ).2 := by
  obtain ⟨w, h⟩ : ∃ w, f11_no k0 σ = w := ⟨_, rfl⟩
  rw [h]
  unfold f11_no at h
  show Go m11_no 0 [some (.inr (.inr (11, k0)))] [] σ (some (.inl w.1) : Option AV) w.2
  refine g_aload_n a11_no_0 rfl ?_
  refine g_getf (v := .inr (.inr (22, 3))) a11_no_1 fs11_20 rfl ?_
  refine g_iconst (v := 1) a11_no_4 rfl ?_
  refine g_dup2 a11_no_5 (fun _ => rfl) (fun _ => rfl) ?_
  refine g_iald (x := (σ.1 22 3 1)) a11_no_6 (rI22 (by decide)) (inb_ok (by decide)) rfl ?_
  refine g_iconst (v := 1) a11_no_7 rfl ?_
  refine g_iadd a11_no_8 ?_
  obtain ⟨σ1, eσ1, h⟩ := lt_inv h
  refine g_iast (j := 1) a11_no_9 (rI22 (by decide)) (inb_ok (by decide)) rfl ?_
  rw [eσ1]
  refine g_bipush (v := (-3)) a11_no_10 rfl ?_
  subst h
  exact g_retE a11_no_12 trivial rfl rfl
theorem a11_undo_0 : At cX11_undo 0 (.aload_n 0) 1 1 := ⟨by decide +kernel, rfl⟩
theorem a11_undo_1 : At cX11_undo 1 (.getfield 7) 3 4 := ⟨by decide +kernel, rfl⟩
theorem a11_undo_4 : At cX11_undo 4 (.iconst 5) 1 5 := ⟨by decide +kernel, rfl⟩
theorem a11_undo_5 : At cX11_undo 5 (.iaload) 1 6 := ⟨by decide +kernel, rfl⟩
theorem a11_undo_6 : At cX11_undo 6 (.ifCond .ne 8) 3 9 := ⟨by decide +kernel, rfl⟩
theorem a11_undo_9 : At cX11_undo 9 (.aload_n 0) 1 10 := ⟨by decide +kernel, rfl⟩
theorem a11_undo_10 : At cX11_undo 10 (.invokevirtual 137) 3 13 := ⟨by decide +kernel, rfl⟩
theorem a11_undo_13 : At cX11_undo 13 (.ireturn) 1 14 := ⟨by decide +kernel, rfl⟩
theorem a11_undo_14 : At cX11_undo 14 (.aload_n 0) 1 15 := ⟨by decide +kernel, rfl⟩
theorem a11_undo_15 : At cX11_undo 15 (.getfield 7) 3 18 := ⟨by decide +kernel, rfl⟩
theorem a11_undo_18 : At cX11_undo 18 (.iconst 5) 1 19 := ⟨by decide +kernel, rfl⟩
theorem a11_undo_19 : At cX11_undo 19 (.dup2) 1 20 := ⟨by decide +kernel, rfl⟩
theorem a11_undo_20 : At cX11_undo 20 (.iaload) 1 21 := ⟨by decide +kernel, rfl⟩
theorem a11_undo_21 : At cX11_undo 21 (.iconst 1) 1 22 := ⟨by decide +kernel, rfl⟩
theorem a11_undo_22 : At cX11_undo 22 (.isub) 1 23 := ⟨by decide +kernel, rfl⟩
theorem a11_undo_23 : At cX11_undo 23 (.iastore) 1 24 := ⟨by decide +kernel, rfl⟩
theorem a11_undo_24 : At cX11_undo 24 (.iconst 0) 1 25 := ⟨by decide +kernel, rfl⟩
theorem a11_undo_25 : At cX11_undo 25 (.istore_n 1) 1 26 := ⟨by decide +kernel, rfl⟩
theorem a11_undo_26 : At cX11_undo 26 (.iload_n 1) 1 27 := ⟨by decide +kernel, rfl⟩
theorem a11_undo_27 : At cX11_undo 27 (.iconst 4) 1 28 := ⟨by decide +kernel, rfl⟩
theorem a11_undo_28 : At cX11_undo 28 (.if_icmp .ge 36) 3 31 := ⟨by decide +kernel, rfl⟩
theorem a11_undo_31 : At cX11_undo 31 (.aload_n 0) 1 32 := ⟨by decide +kernel, rfl⟩
theorem a11_undo_32 : At cX11_undo 32 (.getfield 7) 3 35 := ⟨by decide +kernel, rfl⟩
theorem a11_undo_35 : At cX11_undo 35 (.bipush 6) 2 37 := ⟨by decide +kernel, rfl⟩
theorem a11_undo_37 : At cX11_undo 37 (.iload_n 1) 1 38 := ⟨by decide +kernel, rfl⟩
theorem a11_undo_38 : At cX11_undo 38 (.iadd) 1 39 := ⟨by decide +kernel, rfl⟩
theorem a11_undo_39 : At cX11_undo 39 (.aload_n 0) 1 40 := ⟨by decide +kernel, rfl⟩
theorem a11_undo_40 : At cX11_undo 40 (.getfield 7) 3 43 := ⟨by decide +kernel, rfl⟩
theorem a11_undo_43 : At cX11_undo 43 (.bipush 110) 2 45 := ⟨by decide +kernel, rfl⟩
theorem a11_undo_45 : At cX11_undo 45 (.iconst 4) 1 46 := ⟨by decide +kernel, rfl⟩
theorem a11_undo_46 : At cX11_undo 46 (.aload_n 0) 1 47 := ⟨by decide +kernel, rfl⟩
theorem a11_undo_47 : At cX11_undo 47 (.getfield 7) 3 50 := ⟨by decide +kernel, rfl⟩
theorem a11_undo_50 : At cX11_undo 50 (.iconst 5) 1 51 := ⟨by decide +kernel, rfl⟩
theorem a11_undo_51 : At cX11_undo 51 (.iaload) 1 52 := ⟨by decide +kernel, rfl⟩
theorem a11_undo_52 : At cX11_undo 52 (.imul) 1 53 := ⟨by decide +kernel, rfl⟩
theorem a11_undo_53 : At cX11_undo 53 (.iadd) 1 54 := ⟨by decide +kernel, rfl⟩
theorem a11_undo_54 : At cX11_undo 54 (.iload_n 1) 1 55 := ⟨by decide +kernel, rfl⟩
theorem a11_undo_55 : At cX11_undo 55 (.iadd) 1 56 := ⟨by decide +kernel, rfl⟩
theorem a11_undo_56 : At cX11_undo 56 (.iaload) 1 57 := ⟨by decide +kernel, rfl⟩
theorem a11_undo_57 : At cX11_undo 57 (.iastore) 1 58 := ⟨by decide +kernel, rfl⟩
theorem a11_undo_58 : At cX11_undo 58 (.iinc 1 1) 3 61 := ⟨by decide +kernel, rfl⟩
theorem a11_undo_61 : At cX11_undo 61 (.goto (-35)) 3 64 := ⟨by decide +kernel, rfl⟩
theorem a11_undo_64 : At cX11_undo 64 (.aload_n 0) 1 65 := ⟨by decide +kernel, rfl⟩
theorem a11_undo_65 : At cX11_undo 65 (.getfield 7) 3 68 := ⟨by decide +kernel, rfl⟩
theorem a11_undo_68 : At cX11_undo 68 (.bipush 9) 2 70 := ⟨by decide +kernel, rfl⟩
theorem a11_undo_70 : At cX11_undo 70 (.iaload) 1 71 := ⟨by decide +kernel, rfl⟩
theorem a11_undo_71 : At cX11_undo 71 (.ireturn) 1 72 := ⟨by decide +kernel, rfl⟩
def l11_undo_26 (k0 : Nat) : Nat → Int32 → Mem → Option (Int32 × Mem)
  | 0, _, _ => none
  | n + 1, x1, σ =>
  if 4 ≤ x1 then
  (some (x1, σ))
  else
  (ck (inb ((110 + (4 * (σ.1 22 0 5))) + x1) 142) <|
  ck (inb (6 + x1) 142) <|
  lt (sI σ 22 0 ((6 + x1) : Int32).toNatClampNeg (σ.1 22 0 (((110 + (4 * (σ.1 22 0 5))) + x1) : Int32).toNatClampNeg)) fun σ6 =>
  l11_undo_26 k0 n (x1 + 1) σ6)
theorem lE11_undo_26 {V : Option AV} {S : Mem} (k0 : Nat) : ∀ (n : Nat) (x1 : Int32) (σ : Mem) {w : Int32 × Mem}, l11_undo_26 k0 n x1 σ = some w → (Go m11_undo 64 [some (.inr (.inr (11, k0))), some (.inl w.1)] [] w.2 V S) → Go m11_undo 26 [some (.inr (.inr (11, k0))), some (.inl x1)] [] σ V S
  | 0, x1, σ, w, h, K1 => by cases h
  | n + 1, x1, σ, w, h, K1 => by
    rw [l11_undo_26] at h
    refine g_iload_n a11_undo_26 rfl ?_
    refine g_iconst (v := 4) a11_undo_27 rfl ?_
    refine g_icmp_ge (tgt := 64) a11_undo_28 rfl (fun c7 => ?_) (fun c7 => ?_)
    · have h := (if_pos c7).symm.trans h
      have h := Option.some.inj h
      subst h
      exact g_weak K1 ⟨rfl, rfl, trivial⟩
    · have h := (if_neg c7).symm.trans h
      refine g_aload_n a11_undo_31 rfl ?_
      refine g_getf (v := .inr (.inr (22, 0))) a11_undo_32 fs11_7 rfl ?_
      refine g_bipush (v := 6) a11_undo_35 rfl ?_
      refine g_iload_n a11_undo_37 rfl ?_
      refine g_iadd a11_undo_38 ?_
      refine g_aload_n a11_undo_39 rfl ?_
      refine g_getf (v := .inr (.inr (22, 0))) a11_undo_40 fs11_7 rfl ?_
      refine g_bipush (v := 110) a11_undo_43 rfl ?_
      refine g_iconst (v := 4) a11_undo_45 rfl ?_
      refine g_aload_n a11_undo_46 rfl ?_
      refine g_getf (v := .inr (.inr (22, 0))) a11_undo_47 fs11_7 rfl ?_
      refine g_iconst (v := 5) a11_undo_50 rfl ?_
      refine g_iald (x := (σ.1 22 0 5)) a11_undo_51 (rI22 (by decide)) (inb_ok (by decide)) rfl ?_
      refine g_imul a11_undo_52 ?_
      refine g_iadd a11_undo_53 ?_
      refine g_iload_n a11_undo_54 rfl ?_
      refine g_iadd a11_undo_55 ?_
      obtain ⟨q4, h⟩ := ck_inv h
      refine g_iald (x := (σ.1 22 0 (((110 + (4 * (σ.1 22 0 5))) + x1) : Int32).toNatClampNeg)) a11_undo_56 (rI22 (by decide)) (inb_ok q4) rfl ?_
      obtain ⟨q5, h⟩ := ck_inv h
      obtain ⟨σ6, eσ6, h⟩ := lt_inv h
      refine g_iast (j := ((6 + x1) : Int32).toNatClampNeg) a11_undo_57 (rI22 (by decide)) (inb_ok q5) rfl ?_
      rw [eσ6]
      refine g_iinc (v := (x1 + 1)) (L' := [some (.inr (.inr (11, k0))), some (.inl (x1 + 1))]) a11_undo_58 rfl rfl (Nat.le_of_ble_eq_true rfl) rfl rfl ?_
      refine g_goto (tgt := 26) a11_undo_61 rfl ?_
      exact g_weak (lE11_undo_26 (V := V) (S := S)  k0 n _ _ h K1) ⟨rfl, rfl, trivial⟩
def f11_undo (k0 : Nat) (σ : Mem) : Option (Int32 × Mem) :=
  if (σ.1 22 0 5) = 0 then
  (lt (f11_no k0 σ) fun w1 =>
  some (w1.1, w1.2))
  else
  (lt (sI σ 22 0 5 ((σ.1 22 0 5) - 1)) fun σ3 =>
  bnd (l11_undo_26 k0 2000 0 σ3) fun w8 =>
  some ((w8.2.1 22 0 9), w8.2))
theorem E11_undo {k0 : Nat} {σ : Mem} {w : Int32 × Mem} (h : f11_undo k0 σ = some w) : Ev m11_undo [.inr (.inr (11, k0))] σ (some (.inl w.1) : Option AV) w.2 := by
  unfold f11_undo at h
  show Go m11_undo 0 [some (.inr (.inr (11, k0))), none] [] σ (some (.inl w.1) : Option AV) w.2
  refine g_aload_n a11_undo_0 rfl ?_
  refine g_getf (v := .inr (.inr (22, 0))) a11_undo_1 fs11_7 rfl ?_
  refine g_iconst (v := 5) a11_undo_4 rfl ?_
  refine g_iald (x := (σ.1 22 0 5)) a11_undo_5 (rI22 (by decide)) (inb_ok (by decide)) rfl ?_
  refine g_if_ne (tgt := 14) a11_undo_6 rfl (fun c9 => ?_) (fun c9 => ?_)
  · have h := (if_neg c9).symm.trans h
    refine g_aload_n a11_undo_14 rfl ?_
    refine g_getf (v := .inr (.inr (22, 0))) a11_undo_15 fs11_7 rfl ?_
    refine g_iconst (v := 5) a11_undo_18 rfl ?_
    refine g_dup2 a11_undo_19 (fun _ => rfl) (fun _ => rfl) ?_
    refine g_iald (x := (σ.1 22 0 5)) a11_undo_20 (rI22 (by decide)) (inb_ok (by decide)) rfl ?_
    refine g_iconst (v := 1) a11_undo_21 rfl ?_
    refine g_isub a11_undo_22 ?_
    obtain ⟨σ3, eσ3, h⟩ := lt_inv h
    refine g_iast (j := 5) a11_undo_23 (rI22 (by decide)) (inb_ok (by decide)) rfl ?_
    rw [eσ3]
    refine g_iconst (v := 0) a11_undo_24 rfl ?_
    refine g_istore_n (L' := [some (.inr (.inr (11, k0))), some (.inl 0)]) a11_undo_25 (Nat.le_of_ble_eq_true rfl) rfl rfl ?_
    obtain ⟨w8, hw8, h⟩ := bnd_inv h
    refine g_weak (lE11_undo_26 k0 2000 _ _ hw8 ?_) ⟨rfl, rfl, trivial⟩
    refine g_aload_n a11_undo_64 rfl ?_
    refine g_getf (v := .inr (.inr (22, 0))) a11_undo_65 fs11_7 rfl ?_
    refine g_bipush (v := 9) a11_undo_68 rfl ?_
    refine g_iald (x := (w8.2.1 22 0 9)) a11_undo_70 (rI22 (by decide)) (inb_ok (by decide)) rfl ?_
    have h := Option.some.inj h
    subst h
    exact g_retE a11_undo_71 trivial rfl rfl
  · have h := (if_pos c9).symm.trans h
    refine g_aload_n a11_undo_9 rfl ?_
    obtain ⟨w1, hw1, h⟩ := lt_inv h
    refine g_V0s (v1 := .inl w1.1) (σ1 := w1.2) a11_undo_10 cv11_137 (by rw [← hw1]; exact E11_no _ _) rfl (fun o2 => ?_)
    have h := Option.some.inj h
    subst h
    exact g_retE a11_undo_13 trivial rfl rfl
theorem a11_of_0 : At cX11_of 0 (.aload_n 0) 1 1 := ⟨by decide +kernel, rfl⟩
theorem a11_of_1 : At cX11_of 1 (.iload_n 1) 1 2 := ⟨by decide +kernel, rfl⟩
theorem a11_of_2 : At cX11_of 2 (.invokevirtual 134) 3 5 := ⟨by decide +kernel, rfl⟩
theorem a11_of_5 : At cX11_of 5 (.ifCond .eq 15) 3 8 := ⟨by decide +kernel, rfl⟩
theorem a11_of_8 : At cX11_of 8 (.iload_n 2) 1 9 := ⟨by decide +kernel, rfl⟩
theorem a11_of_9 : At cX11_of 9 (.i2l) 1 10 := ⟨by decide +kernel, rfl⟩
theorem a11_of_10 : At cX11_of 10 (.lconst 0) 1 11 := ⟨by decide +kernel, rfl⟩
theorem a11_of_11 : At cX11_of 11 (.ldc2_w 140) 3 14 := ⟨by decide +kernel, rfl⟩
theorem a11_of_14 : At cX11_of 14 (.invokestatic 59) 3 17 := ⟨by decide +kernel, rfl⟩
theorem a11_of_17 : At cX11_of 17 (.ifCond .ne 10) 3 20 := ⟨by decide +kernel, rfl⟩
theorem a11_of_20 : At cX11_of 20 (.aload_n 0) 1 21 := ⟨by decide +kernel, rfl⟩
theorem a11_of_21 : At cX11_of 21 (.bipush (-2)) 2 23 := ⟨by decide +kernel, rfl⟩
theorem a11_of_23 : At cX11_of 23 (.invokevirtual 73) 3 26 := ⟨by decide +kernel, rfl⟩
theorem a11_of_26 : At cX11_of 26 (.ireturn) 1 27 := ⟨by decide +kernel, rfl⟩
theorem a11_of_27 : At cX11_of 27 (.iload_n 2) 1 28 := ⟨by decide +kernel, rfl⟩
theorem a11_of_28 : At cX11_of 28 (.iconst 3) 1 29 := ⟨by decide +kernel, rfl⟩
theorem a11_of_29 : At cX11_of 29 (.if_icmp .ne 17) 3 32 := ⟨by decide +kernel, rfl⟩
theorem a11_of_32 : At cX11_of 32 (.aload_n 0) 1 33 := ⟨by decide +kernel, rfl⟩
theorem a11_of_33 : At cX11_of 33 (.getfield 7) 3 36 := ⟨by decide +kernel, rfl⟩
theorem a11_of_36 : At cX11_of 36 (.bipush 6) 2 38 := ⟨by decide +kernel, rfl⟩
theorem a11_of_38 : At cX11_of 38 (.iaload) 1 39 := ⟨by decide +kernel, rfl⟩
theorem a11_of_39 : At cX11_of 39 (.iload_n 1) 1 40 := ⟨by decide +kernel, rfl⟩
theorem a11_of_40 : At cX11_of 40 (.ishr) 1 41 := ⟨by decide +kernel, rfl⟩
theorem a11_of_41 : At cX11_of 41 (.iconst 1) 1 42 := ⟨by decide +kernel, rfl⟩
theorem a11_of_42 : At cX11_of 42 (.iand) 1 43 := ⟨by decide +kernel, rfl⟩
theorem a11_of_43 : At cX11_of 43 (.goto 31) 3 46 := ⟨by decide +kernel, rfl⟩
theorem a11_of_46 : At cX11_of 46 (.aload_n 0) 1 47 := ⟨by decide +kernel, rfl⟩
theorem a11_of_47 : At cX11_of 47 (.getfield 7) 3 50 := ⟨by decide +kernel, rfl⟩
theorem a11_of_50 : At cX11_of 50 (.iload_n 2) 1 51 := ⟨by decide +kernel, rfl⟩
theorem a11_of_51 : At cX11_of 51 (.ifCond .ne 8) 3 54 := ⟨by decide +kernel, rfl⟩
theorem a11_of_54 : At cX11_of 54 (.bipush 22) 2 56 := ⟨by decide +kernel, rfl⟩
theorem a11_of_56 : At cX11_of 56 (.goto 15) 3 59 := ⟨by decide +kernel, rfl⟩
theorem a11_of_59 : At cX11_of 59 (.iload_n 2) 1 60 := ⟨by decide +kernel, rfl⟩
theorem a11_of_60 : At cX11_of 60 (.iconst 1) 1 61 := ⟨by decide +kernel, rfl⟩
theorem a11_of_61 : At cX11_of 61 (.if_icmp .ne 8) 3 64 := ⟨by decide +kernel, rfl⟩
theorem a11_of_64 : At cX11_of 64 (.bipush 28) 2 66 := ⟨by decide +kernel, rfl⟩
theorem a11_of_66 : At cX11_of 66 (.goto 5) 3 69 := ⟨by decide +kernel, rfl⟩
theorem a11_of_69 : At cX11_of 69 (.bipush 34) 2 71 := ⟨by decide +kernel, rfl⟩
theorem a11_of_71 : At cX11_of 71 (.iload_n 1) 1 72 := ⟨by decide +kernel, rfl⟩
theorem a11_of_72 : At cX11_of 72 (.iadd) 1 73 := ⟨by decide +kernel, rfl⟩
theorem a11_of_73 : At cX11_of 73 (.iaload) 1 74 := ⟨by decide +kernel, rfl⟩
theorem a11_of_74 : At cX11_of 74 (.ireturn) 1 75 := ⟨by decide +kernel, rfl⟩
def f11_of (k0 : Nat) (x1 : Int32) (x2 : Int32) (σ : Mem) : Option (Int32 × Mem) :=
  if (f11_isThing k0 x1 σ) = 0 then
  (lt (f11_bad k0 (-2) σ) fun w2 =>
  some (w2.1, w2.2))
  else
  (if (f11_in (x2.toInt64) 0 3) = 0 then
  (lt (f11_bad k0 (-2) σ) fun w5 =>
  some (w5.1, w5.2))
  else
  (if x2 = 3 then
  (some ((((σ.1 22 0 6) >>> (x1 &&& 31)) &&& 1), σ))
  else
  (lt (if x2 = 0 then
  (22)
  else
  (if x2 = 1 then
  (28)
  else
  (34)) : Int32) fun w7 =>
  ck (inb (w7 + x1) 142) <|
  some ((σ.1 22 0 ((w7 + x1) : Int32).toNatClampNeg), σ))))
theorem E11_of {k0 : Nat} {x1 : Int32} {x2 : Int32} {σ : Mem} {w : Int32 × Mem} (h : f11_of k0 x1 x2 σ = some w) : Ev m11_of [.inr (.inr (11, k0)), .inl x1, .inl x2] σ (some (.inl w.1) : Option AV) w.2 := by
  unfold f11_of at h
  show Go m11_of 0 [some (.inr (.inr (11, k0))), some (.inl x1), some (.inl x2)] [] σ (some (.inl w.1) : Option AV) w.2
  refine g_aload_n a11_of_0 rfl ?_
  refine g_iload_n a11_of_1 rfl ?_
  refine g_V1s (v1 := .inl (f11_isThing k0 x1 σ)) (σ1 := σ) a11_of_2 cv11_134 (E11_isThing _ _ _) rfl (fun o1 => ?_)
  refine g_if_eq (tgt := 20) a11_of_5 rfl (fun c14 => ?_) (fun c14 => ?_)
  · have h := (if_pos c14).symm.trans h
    refine g_aload_n a11_of_20 rfl ?_
    refine g_bipush (v := (-2)) a11_of_21 rfl ?_
    obtain ⟨w2, hw2, h⟩ := lt_inv h
    refine g_V1s (v1 := .inl w2.1) (σ1 := w2.2) a11_of_23 cv11_73 (by rw [← hw2]; exact E11_bad _ _ _) rfl (fun o3 => ?_)
    have h := Option.some.inj h
    subst h
    exact g_retE a11_of_26 trivial rfl rfl
  · have h := (if_neg c14).symm.trans h
    refine g_iload_n a11_of_8 rfl ?_
    refine g_i2l a11_of_9 ?_
    refine g_lconst (v := 0) a11_of_10 rfl ?_
    refine g_ldc2 (v := 3) a11_of_11 wl11_140 ?_
    refine g_S3s (v1 := .inl (f11_in (x2.toInt64) 0 3)) (σ1 := σ) a11_of_14 cs11_59 (E11_in _ _ _ _) rfl (fun o4 => ?_)
    refine g_if_ne (tgt := 27) a11_of_17 rfl (fun c13 => ?_) (fun c13 => ?_)
    · have h := (if_neg c13).symm.trans h
      refine g_iload_n a11_of_27 rfl ?_
      refine g_iconst (v := 3) a11_of_28 rfl ?_
      refine g_icmp_ne (tgt := 46) a11_of_29 rfl (fun c12 => ?_) (fun c12 => ?_)
      · have h := (if_neg c12).symm.trans h
        refine g_aload_n a11_of_46 rfl ?_
        refine g_getf (v := .inr (.inr (22, 0))) a11_of_47 fs11_7 rfl ?_
        refine g_iload_n a11_of_50 rfl ?_
        obtain ⟨w7, hw7, h⟩ := lt_inv h
        have J8 : Go m11_of 71 [none, some (.inl x1), none] [.inl w7, .inr (.inr (22, 0))] σ (some (.inl w.1) : Option AV) w.2 := by
          refine g_iload_n a11_of_71 rfl ?_
          refine g_iadd a11_of_72 ?_
          obtain ⟨q11, h⟩ := ck_inv h
          refine g_iald (x := (σ.1 22 0 ((w7 + x1) : Int32).toNatClampNeg)) a11_of_73 (rI22 (by decide)) (inb_ok q11) rfl ?_
          have h := Option.some.inj h
          subst h
          exact g_retE a11_of_74 trivial rfl rfl
        clear h
        refine g_if_ne (tgt := 59) a11_of_51 rfl (fun c10 => ?_) (fun c10 => ?_)
        · have hw7 := (if_neg c10).symm.trans hw7
          refine g_iload_n a11_of_59 rfl ?_
          refine g_iconst (v := 1) a11_of_60 rfl ?_
          refine g_icmp_ne (tgt := 69) a11_of_61 rfl (fun c9 => ?_) (fun c9 => ?_)
          · have hw7 := (if_neg c9).symm.trans hw7
            refine g_bipush (v := 34) a11_of_69 rfl ?_
            subst hw7
            exact g_weak J8 ⟨rfl, trivial⟩
          · have hw7 := (if_pos c9).symm.trans hw7
            refine g_bipush (v := 28) a11_of_64 rfl ?_
            refine g_goto (tgt := 71) a11_of_66 rfl ?_
            subst hw7
            exact g_weak J8 ⟨rfl, trivial⟩
        · have hw7 := (if_pos c10).symm.trans hw7
          refine g_bipush (v := 22) a11_of_54 rfl ?_
          refine g_goto (tgt := 71) a11_of_56 rfl ?_
          subst hw7
          exact g_weak J8 ⟨rfl, trivial⟩
      · have h := (if_pos c12).symm.trans h
        refine g_aload_n a11_of_32 rfl ?_
        refine g_getf (v := .inr (.inr (22, 0))) a11_of_33 fs11_7 rfl ?_
        refine g_bipush (v := 6) a11_of_36 rfl ?_
        refine g_iald (x := (σ.1 22 0 6)) a11_of_38 (rI22 (by decide)) (inb_ok (by decide)) rfl ?_
        refine g_iload_n a11_of_39 rfl ?_
        refine g_ishr a11_of_40 ?_
        refine g_iconst (v := 1) a11_of_41 rfl ?_
        refine g_iand a11_of_42 ?_
        refine g_goto (tgt := 74) a11_of_43 rfl ?_
        have h := Option.some.inj h
        subst h
        exact g_retE a11_of_74 trivial rfl rfl
    · have h := (if_pos c13).symm.trans h
      refine g_aload_n a11_of_20 rfl ?_
      refine g_bipush (v := (-2)) a11_of_21 rfl ?_
      obtain ⟨w5, hw5, h⟩ := lt_inv h
      refine g_V1s (v1 := .inl w5.1) (σ1 := w5.2) a11_of_23 cv11_73 (by rw [← hw5]; exact E11_bad _ _ _) rfl (fun o6 => ?_)
      have h := Option.some.inj h
      subst h
      exact g_retE a11_of_26 trivial rfl rfl
theorem a11_isPart_0 : At cX11_isPart 0 (.iload_n 1) 1 1 := ⟨by decide +kernel, rfl⟩
theorem a11_isPart_1 : At cX11_isPart 1 (.i2l) 1 2 := ⟨by decide +kernel, rfl⟩
theorem a11_isPart_2 : At cX11_isPart 2 (.lconst 0) 1 3 := ⟨by decide +kernel, rfl⟩
theorem a11_isPart_3 : At cX11_isPart 3 (.aload_n 0) 1 4 := ⟨by decide +kernel, rfl⟩
theorem a11_isPart_4 : At cX11_isPart 4 (.getfield 7) 3 7 := ⟨by decide +kernel, rfl⟩
theorem a11_isPart_7 : At cX11_isPart 7 (.iconst 1) 1 8 := ⟨by decide +kernel, rfl⟩
theorem a11_isPart_8 : At cX11_isPart 8 (.iaload) 1 9 := ⟨by decide +kernel, rfl⟩
theorem a11_isPart_9 : At cX11_isPart 9 (.iconst 1) 1 10 := ⟨by decide +kernel, rfl⟩
theorem a11_isPart_10 : At cX11_isPart 10 (.isub) 1 11 := ⟨by decide +kernel, rfl⟩
theorem a11_isPart_11 : At cX11_isPart 11 (.i2l) 1 12 := ⟨by decide +kernel, rfl⟩
theorem a11_isPart_12 : At cX11_isPart 12 (.invokestatic 59) 3 15 := ⟨by decide +kernel, rfl⟩
theorem a11_isPart_15 : At cX11_isPart 15 (.ireturn) 1 16 := ⟨by decide +kernel, rfl⟩
def f11_isPart (k0 : Nat) (x1 : Int32) (σ : Mem) : Int32 :=
  (f11_in (x1.toInt64) 0 ((((σ.1 22 0 1) - 1) : Int32).toInt64))
theorem E11_isPart (k0 : Nat) (x1 : Int32) (σ : Mem) : Ev m11_isPart [.inr (.inr (11, k0)), .inl x1] σ (some (.inl (f11_isPart k0 x1 σ)) : Option AV) σ := by
  obtain ⟨w, h⟩ : ∃ w, f11_isPart k0 x1 σ = w := ⟨_, rfl⟩
  rw [h]
  unfold f11_isPart at h
  show Go m11_isPart 0 [some (.inr (.inr (11, k0))), some (.inl x1)] [] σ (some (.inl w) : Option AV) σ
  refine g_iload_n a11_isPart_0 rfl ?_
  refine g_i2l a11_isPart_1 ?_
  refine g_lconst (v := 0) a11_isPart_2 rfl ?_
  refine g_aload_n a11_isPart_3 rfl ?_
  refine g_getf (v := .inr (.inr (22, 0))) a11_isPart_4 fs11_7 rfl ?_
  refine g_iconst (v := 1) a11_isPart_7 rfl ?_
  refine g_iald (x := (σ.1 22 0 1)) a11_isPart_8 (rI22 (by decide)) (inb_ok (by decide)) rfl ?_
  refine g_iconst (v := 1) a11_isPart_9 rfl ?_
  refine g_isub a11_isPart_10 ?_
  refine g_i2l a11_isPart_11 ?_
  refine g_S3s (v1 := .inl (f11_in (x1.toInt64) 0 ((((σ.1 22 0 1) - 1) : Int32).toInt64))) (σ1 := σ) a11_isPart_12 cs11_59 (E11_in _ _ _ _) rfl (fun o1 => ?_)
  subst h
  exact g_retE a11_isPart_15 o1 rfl rfl
theorem a11_about_0 : At cX11_about 0 (.aload_n 0) 1 1 := ⟨by decide +kernel, rfl⟩
theorem a11_about_1 : At cX11_about 1 (.iload_n 1) 1 2 := ⟨by decide +kernel, rfl⟩
theorem a11_about_2 : At cX11_about 2 (.invokevirtual 142) 3 5 := ⟨by decide +kernel, rfl⟩
theorem a11_about_5 : At cX11_about 5 (.ifCond .eq 15) 3 8 := ⟨by decide +kernel, rfl⟩
theorem a11_about_8 : At cX11_about 8 (.iload_n 2) 1 9 := ⟨by decide +kernel, rfl⟩
theorem a11_about_9 : At cX11_about 9 (.i2l) 1 10 := ⟨by decide +kernel, rfl⟩
theorem a11_about_10 : At cX11_about 10 (.lconst 0) 1 11 := ⟨by decide +kernel, rfl⟩
theorem a11_about_11 : At cX11_about 11 (.ldc2_w 145) 3 14 := ⟨by decide +kernel, rfl⟩
theorem a11_about_14 : At cX11_about 14 (.invokestatic 59) 3 17 := ⟨by decide +kernel, rfl⟩
theorem a11_about_17 : At cX11_about 17 (.ifCond .ne 10) 3 20 := ⟨by decide +kernel, rfl⟩
theorem a11_about_20 : At cX11_about 20 (.aload_n 0) 1 21 := ⟨by decide +kernel, rfl⟩
theorem a11_about_21 : At cX11_about 21 (.bipush (-2)) 2 23 := ⟨by decide +kernel, rfl⟩
theorem a11_about_23 : At cX11_about 23 (.invokevirtual 73) 3 26 := ⟨by decide +kernel, rfl⟩
theorem a11_about_26 : At cX11_about 26 (.ireturn) 1 27 := ⟨by decide +kernel, rfl⟩
theorem a11_about_27 : At cX11_about 27 (.iload_n 2) 1 28 := ⟨by decide +kernel, rfl⟩
theorem a11_about_28 : At cX11_about 28 (.ifCond .ne 15) 3 31 := ⟨by decide +kernel, rfl⟩
theorem a11_about_31 : At cX11_about 31 (.aload_n 0) 1 32 := ⟨by decide +kernel, rfl⟩
theorem a11_about_32 : At cX11_about 32 (.getfield 7) 3 35 := ⟨by decide +kernel, rfl⟩
theorem a11_about_35 : At cX11_about 35 (.bipush 40) 2 37 := ⟨by decide +kernel, rfl⟩
theorem a11_about_37 : At cX11_about 37 (.iload_n 1) 1 38 := ⟨by decide +kernel, rfl⟩
theorem a11_about_38 : At cX11_about 38 (.iadd) 1 39 := ⟨by decide +kernel, rfl⟩
theorem a11_about_39 : At cX11_about 39 (.iaload) 1 40 := ⟨by decide +kernel, rfl⟩
theorem a11_about_40 : At cX11_about 40 (.goto 51) 3 43 := ⟨by decide +kernel, rfl⟩
theorem a11_about_43 : At cX11_about 43 (.iload_n 2) 1 44 := ⟨by decide +kernel, rfl⟩
theorem a11_about_44 : At cX11_about 44 (.iconst 1) 1 45 := ⟨by decide +kernel, rfl⟩
theorem a11_about_45 : At cX11_about 45 (.if_icmp .ne 17) 3 48 := ⟨by decide +kernel, rfl⟩
theorem a11_about_48 : At cX11_about 48 (.aload_n 0) 1 49 := ⟨by decide +kernel, rfl⟩
theorem a11_about_49 : At cX11_about 49 (.getfield 7) 3 52 := ⟨by decide +kernel, rfl⟩
theorem a11_about_52 : At cX11_about 52 (.bipush 7) 2 54 := ⟨by decide +kernel, rfl⟩
theorem a11_about_54 : At cX11_about 54 (.iaload) 1 55 := ⟨by decide +kernel, rfl⟩
theorem a11_about_55 : At cX11_about 55 (.iload_n 1) 1 56 := ⟨by decide +kernel, rfl⟩
theorem a11_about_56 : At cX11_about 56 (.ishr) 1 57 := ⟨by decide +kernel, rfl⟩
theorem a11_about_57 : At cX11_about 57 (.iconst 1) 1 58 := ⟨by decide +kernel, rfl⟩
theorem a11_about_58 : At cX11_about 58 (.iand) 1 59 := ⟨by decide +kernel, rfl⟩
theorem a11_about_59 : At cX11_about 59 (.goto 32) 3 62 := ⟨by decide +kernel, rfl⟩
theorem a11_about_62 : At cX11_about 62 (.aload_n 0) 1 63 := ⟨by decide +kernel, rfl⟩
theorem a11_about_63 : At cX11_about 63 (.getfield 7) 3 66 := ⟨by decide +kernel, rfl⟩
theorem a11_about_66 : At cX11_about 66 (.bipush 40) 2 68 := ⟨by decide +kernel, rfl⟩
theorem a11_about_68 : At cX11_about 68 (.iload_n 1) 1 69 := ⟨by decide +kernel, rfl⟩
theorem a11_about_69 : At cX11_about 69 (.iadd) 1 70 := ⟨by decide +kernel, rfl⟩
theorem a11_about_70 : At cX11_about 70 (.iaload) 1 71 := ⟨by decide +kernel, rfl⟩
theorem a11_about_71 : At cX11_about 71 (.aload_n 0) 1 72 := ⟨by decide +kernel, rfl⟩
theorem a11_about_72 : At cX11_about 72 (.getfield 7) 3 75 := ⟨by decide +kernel, rfl⟩
theorem a11_about_75 : At cX11_about 75 (.bipush 7) 2 77 := ⟨by decide +kernel, rfl⟩
theorem a11_about_77 : At cX11_about 77 (.iaload) 1 78 := ⟨by decide +kernel, rfl⟩
theorem a11_about_78 : At cX11_about 78 (.invokestatic 105) 3 81 := ⟨by decide +kernel, rfl⟩
theorem a11_about_81 : At cX11_about 81 (.aload_n 0) 1 82 := ⟨by decide +kernel, rfl⟩
theorem a11_about_82 : At cX11_about 82 (.getfield 7) 3 85 := ⟨by decide +kernel, rfl⟩
theorem a11_about_85 : At cX11_about 85 (.bipush 9) 2 87 := ⟨by decide +kernel, rfl⟩
theorem a11_about_87 : At cX11_about 87 (.iaload) 1 88 := ⟨by decide +kernel, rfl⟩
theorem a11_about_88 : At cX11_about 88 (.invokestatic 108) 3 91 := ⟨by decide +kernel, rfl⟩
theorem a11_about_91 : At cX11_about 91 (.ireturn) 1 92 := ⟨by decide +kernel, rfl⟩
def f11_about (k0 : Nat) (x1 : Int32) (x2 : Int32) (σ : Mem) : Option (Int32 × Mem) :=
  if (f11_isPart k0 x1 σ) = 0 then
  (lt (f11_bad k0 (-2) σ) fun w2 =>
  some (w2.1, w2.2))
  else
  (if (f11_in (x2.toInt64) 0 2) = 0 then
  (lt (f11_bad k0 (-2) σ) fun w5 =>
  some (w5.1, w5.2))
  else
  (if x2 = 0 then
  (ck (inb (40 + x1) 142) <|
  some ((σ.1 22 0 ((40 + x1) : Int32).toNatClampNeg), σ))
  else
  (if x2 = 1 then
  (some ((((σ.1 22 0 7) >>> (x1 &&& 31)) &&& 1), σ))
  else
  (ck (inb (40 + x1) 142) <|
  bnd (f11_bits (σ.1 22 0 7)) fun w9 =>
  some ((f11_needsAs (σ.1 22 0 ((40 + x1) : Int32).toNatClampNeg) w9 (σ.1 22 0 9)), σ)))))
theorem E11_about {k0 : Nat} {x1 : Int32} {x2 : Int32} {σ : Mem} {w : Int32 × Mem} (h : f11_about k0 x1 x2 σ = some w) : Ev m11_about [.inr (.inr (11, k0)), .inl x1, .inl x2] σ (some (.inl w.1) : Option AV) w.2 := by
  unfold f11_about at h
  show Go m11_about 0 [some (.inr (.inr (11, k0))), some (.inl x1), some (.inl x2)] [] σ (some (.inl w.1) : Option AV) w.2
  refine g_aload_n a11_about_0 rfl ?_
  refine g_iload_n a11_about_1 rfl ?_
  refine g_V1s (v1 := .inl (f11_isPart k0 x1 σ)) (σ1 := σ) a11_about_2 cv11_142 (E11_isPart _ _ _) rfl (fun o1 => ?_)
  refine g_if_eq (tgt := 20) a11_about_5 rfl (fun c15 => ?_) (fun c15 => ?_)
  · have h := (if_pos c15).symm.trans h
    refine g_aload_n a11_about_20 rfl ?_
    refine g_bipush (v := (-2)) a11_about_21 rfl ?_
    obtain ⟨w2, hw2, h⟩ := lt_inv h
    refine g_V1s (v1 := .inl w2.1) (σ1 := w2.2) a11_about_23 cv11_73 (by rw [← hw2]; exact E11_bad _ _ _) rfl (fun o3 => ?_)
    have h := Option.some.inj h
    subst h
    exact g_retE a11_about_26 trivial rfl rfl
  · have h := (if_neg c15).symm.trans h
    refine g_iload_n a11_about_8 rfl ?_
    refine g_i2l a11_about_9 ?_
    refine g_lconst (v := 0) a11_about_10 rfl ?_
    refine g_ldc2 (v := 2) a11_about_11 wl11_145 ?_
    refine g_S3s (v1 := .inl (f11_in (x2.toInt64) 0 2)) (σ1 := σ) a11_about_14 cs11_59 (E11_in _ _ _ _) rfl (fun o4 => ?_)
    refine g_if_ne (tgt := 27) a11_about_17 rfl (fun c14 => ?_) (fun c14 => ?_)
    · have h := (if_neg c14).symm.trans h
      refine g_iload_n a11_about_27 rfl ?_
      refine g_if_ne (tgt := 43) a11_about_28 rfl (fun c13 => ?_) (fun c13 => ?_)
      · have h := (if_neg c13).symm.trans h
        refine g_iload_n a11_about_43 rfl ?_
        refine g_iconst (v := 1) a11_about_44 rfl ?_
        refine g_icmp_ne (tgt := 62) a11_about_45 rfl (fun c12 => ?_) (fun c12 => ?_)
        · have h := (if_neg c12).symm.trans h
          refine g_aload_n a11_about_62 rfl ?_
          refine g_getf (v := .inr (.inr (22, 0))) a11_about_63 fs11_7 rfl ?_
          refine g_bipush (v := 40) a11_about_66 rfl ?_
          refine g_iload_n a11_about_68 rfl ?_
          refine g_iadd a11_about_69 ?_
          obtain ⟨q8, h⟩ := ck_inv h
          refine g_iald (x := (σ.1 22 0 ((40 + x1) : Int32).toNatClampNeg)) a11_about_70 (rI22 (by decide)) (inb_ok q8) rfl ?_
          refine g_aload_n a11_about_71 rfl ?_
          refine g_getf (v := .inr (.inr (22, 0))) a11_about_72 fs11_7 rfl ?_
          refine g_bipush (v := 7) a11_about_75 rfl ?_
          refine g_iald (x := (σ.1 22 0 7)) a11_about_77 (rI22 (by decide)) (inb_ok (by decide)) rfl ?_
          obtain ⟨w9, hw9, h⟩ := bnd_inv h
          refine g_S1s (v1 := .inl w9) (σ1 := σ) a11_about_78 cs11_105 (E11_bits hw9) rfl (fun o10 => ?_)
          refine g_aload_n a11_about_81 rfl ?_
          refine g_getf (v := .inr (.inr (22, 0))) a11_about_82 fs11_7 rfl ?_
          refine g_bipush (v := 9) a11_about_85 rfl ?_
          refine g_iald (x := (σ.1 22 0 9)) a11_about_87 (rI22 (by decide)) (inb_ok (by decide)) rfl ?_
          refine g_S3s (v1 := .inl (f11_needsAs (σ.1 22 0 ((40 + x1) : Int32).toNatClampNeg) w9 (σ.1 22 0 9))) (σ1 := σ) a11_about_88 cs11_108 (E11_needsAs _ _ _ _) rfl (fun o11 => ?_)
          have h := Option.some.inj h
          subst h
          exact g_retE a11_about_91 trivial rfl rfl
        · have h := (if_pos c12).symm.trans h
          refine g_aload_n a11_about_48 rfl ?_
          refine g_getf (v := .inr (.inr (22, 0))) a11_about_49 fs11_7 rfl ?_
          refine g_bipush (v := 7) a11_about_52 rfl ?_
          refine g_iald (x := (σ.1 22 0 7)) a11_about_54 (rI22 (by decide)) (inb_ok (by decide)) rfl ?_
          refine g_iload_n a11_about_55 rfl ?_
          refine g_ishr a11_about_56 ?_
          refine g_iconst (v := 1) a11_about_57 rfl ?_
          refine g_iand a11_about_58 ?_
          refine g_goto (tgt := 91) a11_about_59 rfl ?_
          have h := Option.some.inj h
          subst h
          exact g_retE a11_about_91 trivial rfl rfl
      · have h := (if_pos c13).symm.trans h
        refine g_aload_n a11_about_31 rfl ?_
        refine g_getf (v := .inr (.inr (22, 0))) a11_about_32 fs11_7 rfl ?_
        refine g_bipush (v := 40) a11_about_35 rfl ?_
        refine g_iload_n a11_about_37 rfl ?_
        refine g_iadd a11_about_38 ?_
        obtain ⟨q7, h⟩ := ck_inv h
        refine g_iald (x := (σ.1 22 0 ((40 + x1) : Int32).toNatClampNeg)) a11_about_39 (rI22 (by decide)) (inb_ok q7) rfl ?_
        refine g_goto (tgt := 91) a11_about_40 rfl ?_
        have h := Option.some.inj h
        subst h
        exact g_retE a11_about_91 trivial rfl rfl
    · have h := (if_pos c14).symm.trans h
      refine g_aload_n a11_about_20 rfl ?_
      refine g_bipush (v := (-2)) a11_about_21 rfl ?_
      obtain ⟨w5, hw5, h⟩ := lt_inv h
      refine g_V1s (v1 := .inl w5.1) (σ1 := w5.2) a11_about_23 cv11_73 (by rw [← hw5]; exact E11_bad _ _ _) rfl (fun o6 => ?_)
      have h := Option.some.inj h
      subst h
      exact g_retE a11_about_26 trivial rfl rfl
theorem a11_weather_0 : At cX11_weather 0 (.iload_n 1) 1 1 := ⟨by decide +kernel, rfl⟩
theorem a11_weather_1 : At cX11_weather 1 (.i2l) 1 2 := ⟨by decide +kernel, rfl⟩
theorem a11_weather_2 : At cX11_weather 2 (.lconst 0) 1 3 := ⟨by decide +kernel, rfl⟩
theorem a11_weather_3 : At cX11_weather 3 (.ldc2_w 65) 3 6 := ⟨by decide +kernel, rfl⟩
theorem a11_weather_6 : At cX11_weather 6 (.invokestatic 59) 3 9 := ⟨by decide +kernel, rfl⟩
theorem a11_weather_9 : At cX11_weather 9 (.ifCond .eq 13) 3 12 := ⟨by decide +kernel, rfl⟩
theorem a11_weather_12 : At cX11_weather 12 (.iload_n 2) 1 13 := ⟨by decide +kernel, rfl⟩
theorem a11_weather_13 : At cX11_weather 13 (.i2l) 1 14 := ⟨by decide +kernel, rfl⟩
theorem a11_weather_14 : At cX11_weather 14 (.lconst 0) 1 15 := ⟨by decide +kernel, rfl⟩
theorem a11_weather_15 : At cX11_weather 15 (.lconst 1) 1 16 := ⟨by decide +kernel, rfl⟩
theorem a11_weather_16 : At cX11_weather 16 (.invokestatic 59) 3 19 := ⟨by decide +kernel, rfl⟩
theorem a11_weather_19 : At cX11_weather 19 (.ifCond .ne 10) 3 22 := ⟨by decide +kernel, rfl⟩
theorem a11_weather_22 : At cX11_weather 22 (.aload_n 0) 1 23 := ⟨by decide +kernel, rfl⟩
theorem a11_weather_23 : At cX11_weather 23 (.bipush (-2)) 2 25 := ⟨by decide +kernel, rfl⟩
theorem a11_weather_25 : At cX11_weather 25 (.invokevirtual 73) 3 28 := ⟨by decide +kernel, rfl⟩
theorem a11_weather_28 : At cX11_weather 28 (.ireturn) 1 29 := ⟨by decide +kernel, rfl⟩
theorem a11_weather_29 : At cX11_weather 29 (.aload_n 0) 1 30 := ⟨by decide +kernel, rfl⟩
theorem a11_weather_30 : At cX11_weather 30 (.getfield 7) 3 33 := ⟨by decide +kernel, rfl⟩
theorem a11_weather_33 : At cX11_weather 33 (.iload_n 2) 1 34 := ⟨by decide +kernel, rfl⟩
theorem a11_weather_34 : At cX11_weather 34 (.ifCond .ne 8) 3 37 := ⟨by decide +kernel, rfl⟩
theorem a11_weather_37 : At cX11_weather 37 (.bipush 10) 2 39 := ⟨by decide +kernel, rfl⟩
theorem a11_weather_39 : At cX11_weather 39 (.goto 5) 3 42 := ⟨by decide +kernel, rfl⟩
theorem a11_weather_42 : At cX11_weather 42 (.bipush 16) 2 44 := ⟨by decide +kernel, rfl⟩
theorem a11_weather_44 : At cX11_weather 44 (.iload_n 1) 1 45 := ⟨by decide +kernel, rfl⟩
theorem a11_weather_45 : At cX11_weather 45 (.iadd) 1 46 := ⟨by decide +kernel, rfl⟩
theorem a11_weather_46 : At cX11_weather 46 (.iaload) 1 47 := ⟨by decide +kernel, rfl⟩
theorem a11_weather_47 : At cX11_weather 47 (.ireturn) 1 48 := ⟨by decide +kernel, rfl⟩
def f11_weather (k0 : Nat) (x1 : Int32) (x2 : Int32) (σ : Mem) : Option (Int32 × Mem) :=
  if (f11_in (x1.toInt64) 0 5) = 0 then
  (lt (f11_bad k0 (-2) σ) fun w2 =>
  some (w2.1, w2.2))
  else
  (if (f11_in (x2.toInt64) 0 1) = 0 then
  (lt (f11_bad k0 (-2) σ) fun w5 =>
  some (w5.1, w5.2))
  else
  (lt (if x2 = 0 then
  (10)
  else
  (16) : Int32) fun w7 =>
  ck (inb (w7 + x1) 142) <|
  some ((σ.1 22 0 ((w7 + x1) : Int32).toNatClampNeg), σ)))
theorem E11_weather {k0 : Nat} {x1 : Int32} {x2 : Int32} {σ : Mem} {w : Int32 × Mem} (h : f11_weather k0 x1 x2 σ = some w) : Ev m11_weather [.inr (.inr (11, k0)), .inl x1, .inl x2] σ (some (.inl w.1) : Option AV) w.2 := by
  unfold f11_weather at h
  show Go m11_weather 0 [some (.inr (.inr (11, k0))), some (.inl x1), some (.inl x2)] [] σ (some (.inl w.1) : Option AV) w.2
  refine g_iload_n a11_weather_0 rfl ?_
  refine g_i2l a11_weather_1 ?_
  refine g_lconst (v := 0) a11_weather_2 rfl ?_
  refine g_ldc2 (v := 5) a11_weather_3 wl11_65 ?_
  refine g_S3s (v1 := .inl (f11_in (x1.toInt64) 0 5)) (σ1 := σ) a11_weather_6 cs11_59 (E11_in _ _ _ _) rfl (fun o1 => ?_)
  refine g_if_eq (tgt := 22) a11_weather_9 rfl (fun c12 => ?_) (fun c12 => ?_)
  · have h := (if_pos c12).symm.trans h
    refine g_aload_n a11_weather_22 rfl ?_
    refine g_bipush (v := (-2)) a11_weather_23 rfl ?_
    obtain ⟨w2, hw2, h⟩ := lt_inv h
    refine g_V1s (v1 := .inl w2.1) (σ1 := w2.2) a11_weather_25 cv11_73 (by rw [← hw2]; exact E11_bad _ _ _) rfl (fun o3 => ?_)
    have h := Option.some.inj h
    subst h
    exact g_retE a11_weather_28 trivial rfl rfl
  · have h := (if_neg c12).symm.trans h
    refine g_iload_n a11_weather_12 rfl ?_
    refine g_i2l a11_weather_13 ?_
    refine g_lconst (v := 0) a11_weather_14 rfl ?_
    refine g_lconst (v := 1) a11_weather_15 rfl ?_
    refine g_S3s (v1 := .inl (f11_in (x2.toInt64) 0 1)) (σ1 := σ) a11_weather_16 cs11_59 (E11_in _ _ _ _) rfl (fun o4 => ?_)
    refine g_if_ne (tgt := 29) a11_weather_19 rfl (fun c11 => ?_) (fun c11 => ?_)
    · have h := (if_neg c11).symm.trans h
      refine g_aload_n a11_weather_29 rfl ?_
      refine g_getf (v := .inr (.inr (22, 0))) a11_weather_30 fs11_7 rfl ?_
      refine g_iload_n a11_weather_33 rfl ?_
      obtain ⟨w7, hw7, h⟩ := lt_inv h
      have J8 : Go m11_weather 44 [none, some (.inl x1), none] [.inl w7, .inr (.inr (22, 0))] σ (some (.inl w.1) : Option AV) w.2 := by
        refine g_iload_n a11_weather_44 rfl ?_
        refine g_iadd a11_weather_45 ?_
        obtain ⟨q10, h⟩ := ck_inv h
        refine g_iald (x := (σ.1 22 0 ((w7 + x1) : Int32).toNatClampNeg)) a11_weather_46 (rI22 (by decide)) (inb_ok q10) rfl ?_
        have h := Option.some.inj h
        subst h
        exact g_retE a11_weather_47 trivial rfl rfl
      clear h
      refine g_if_ne (tgt := 42) a11_weather_34 rfl (fun c9 => ?_) (fun c9 => ?_)
      · have hw7 := (if_neg c9).symm.trans hw7
        refine g_bipush (v := 16) a11_weather_42 rfl ?_
        subst hw7
        exact g_weak J8 ⟨rfl, trivial⟩
      · have hw7 := (if_pos c9).symm.trans hw7
        refine g_bipush (v := 10) a11_weather_37 rfl ?_
        refine g_goto (tgt := 44) a11_weather_39 rfl ?_
        subst hw7
        exact g_weak J8 ⟨rfl, trivial⟩
    · have h := (if_pos c11).symm.trans h
      refine g_aload_n a11_weather_22 rfl ?_
      refine g_bipush (v := (-2)) a11_weather_23 rfl ?_
      obtain ⟨w5, hw5, h⟩ := lt_inv h
      refine g_V1s (v1 := .inl w5.1) (σ1 := w5.2) a11_weather_25 cv11_73 (by rw [← hw5]; exact E11_bad _ _ _) rfl (fun o6 => ?_)
      have h := Option.some.inj h
      subst h
      exact g_retE a11_weather_28 trivial rfl rfl
theorem a11_draws_0 : At cX11_draws 0 (.aload_n 0) 1 1 := ⟨by decide +kernel, rfl⟩
theorem a11_draws_1 : At cX11_draws 1 (.iload_n 1) 1 2 := ⟨by decide +kernel, rfl⟩
theorem a11_draws_2 : At cX11_draws 2 (.invokevirtual 134) 3 5 := ⟨by decide +kernel, rfl⟩
theorem a11_draws_5 : At cX11_draws 5 (.ifCond .eq 22) 3 8 := ⟨by decide +kernel, rfl⟩
theorem a11_draws_8 : At cX11_draws 8 (.iload_n 2) 1 9 := ⟨by decide +kernel, rfl⟩
theorem a11_draws_9 : At cX11_draws 9 (.invokestatic 67) 3 12 := ⟨by decide +kernel, rfl⟩
theorem a11_draws_12 : At cX11_draws 12 (.ifCond .eq 15) 3 15 := ⟨by decide +kernel, rfl⟩
theorem a11_draws_15 : At cX11_draws 15 (.aload_n 0) 1 16 := ⟨by decide +kernel, rfl⟩
theorem a11_draws_16 : At cX11_draws 16 (.getfield 7) 3 19 := ⟨by decide +kernel, rfl⟩
theorem a11_draws_19 : At cX11_draws 19 (.iload_n 1) 1 20 := ⟨by decide +kernel, rfl⟩
theorem a11_draws_20 : At cX11_draws 20 (.iload_n 2) 1 21 := ⟨by decide +kernel, rfl⟩
theorem a11_draws_21 : At cX11_draws 21 (.invokestatic 97) 3 24 := ⟨by decide +kernel, rfl⟩
theorem a11_draws_24 : At cX11_draws 24 (.goto 9) 3 27 := ⟨by decide +kernel, rfl⟩
theorem a11_draws_27 : At cX11_draws 27 (.aload_n 0) 1 28 := ⟨by decide +kernel, rfl⟩
theorem a11_draws_28 : At cX11_draws 28 (.bipush (-2)) 2 30 := ⟨by decide +kernel, rfl⟩
theorem a11_draws_30 : At cX11_draws 30 (.invokevirtual 73) 3 33 := ⟨by decide +kernel, rfl⟩
theorem a11_draws_33 : At cX11_draws 33 (.ireturn) 1 34 := ⟨by decide +kernel, rfl⟩
def f11_draws (k0 : Nat) (x1 : Int32) (x2 : Int32) (σ : Mem) : Option (Int32 × Mem) :=
  if (f11_isThing k0 x1 σ) = 0 then
  (lt (f11_bad k0 (-2) σ) fun w2 =>
  some (w2.1, w2.2))
  else
  (if (f11_isCell x2) = 0 then
  (lt (f11_bad k0 (-2) σ) fun w5 =>
  some (w5.1, w5.2))
  else
  (bnd (f11_drawsFrom 0 x1 x2 σ) fun w7 =>
  some (w7, σ)))
theorem E11_draws {k0 : Nat} {x1 : Int32} {x2 : Int32} {σ : Mem} {w : Int32 × Mem} (h : f11_draws k0 x1 x2 σ = some w) : Ev m11_draws [.inr (.inr (11, k0)), .inl x1, .inl x2] σ (some (.inl w.1) : Option AV) w.2 := by
  unfold f11_draws at h
  show Go m11_draws 0 [some (.inr (.inr (11, k0))), some (.inl x1), some (.inl x2)] [] σ (some (.inl w.1) : Option AV) w.2
  refine g_aload_n a11_draws_0 rfl ?_
  refine g_iload_n a11_draws_1 rfl ?_
  refine g_V1s (v1 := .inl (f11_isThing k0 x1 σ)) (σ1 := σ) a11_draws_2 cv11_134 (E11_isThing _ _ _) rfl (fun o1 => ?_)
  refine g_if_eq (tgt := 27) a11_draws_5 rfl (fun c10 => ?_) (fun c10 => ?_)
  · have h := (if_pos c10).symm.trans h
    refine g_aload_n a11_draws_27 rfl ?_
    refine g_bipush (v := (-2)) a11_draws_28 rfl ?_
    obtain ⟨w2, hw2, h⟩ := lt_inv h
    refine g_V1s (v1 := .inl w2.1) (σ1 := w2.2) a11_draws_30 cv11_73 (by rw [← hw2]; exact E11_bad _ _ _) rfl (fun o3 => ?_)
    have h := Option.some.inj h
    subst h
    exact g_retE a11_draws_33 trivial rfl rfl
  · have h := (if_neg c10).symm.trans h
    refine g_iload_n a11_draws_8 rfl ?_
    refine g_S1s (v1 := .inl (f11_isCell x2)) (σ1 := σ) a11_draws_9 cs11_67 (E11_isCell _ _) rfl (fun o4 => ?_)
    refine g_if_eq (tgt := 27) a11_draws_12 rfl (fun c9 => ?_) (fun c9 => ?_)
    · have h := (if_pos c9).symm.trans h
      refine g_aload_n a11_draws_27 rfl ?_
      refine g_bipush (v := (-2)) a11_draws_28 rfl ?_
      obtain ⟨w5, hw5, h⟩ := lt_inv h
      refine g_V1s (v1 := .inl w5.1) (σ1 := w5.2) a11_draws_30 cv11_73 (by rw [← hw5]; exact E11_bad _ _ _) rfl (fun o6 => ?_)
      have h := Option.some.inj h
      subst h
      exact g_retE a11_draws_33 trivial rfl rfl
    · have h := (if_neg c9).symm.trans h
      refine g_aload_n a11_draws_15 rfl ?_
      refine g_getf (v := .inr (.inr (22, 0))) a11_draws_16 fs11_7 rfl ?_
      refine g_iload_n a11_draws_19 rfl ?_
      refine g_iload_n a11_draws_20 rfl ?_
      obtain ⟨w7, hw7, h⟩ := bnd_inv h
      refine g_S3s (v1 := .inl w7) (σ1 := σ) a11_draws_21 cs11_97 (E11_drawsFrom hw7) rfl (fun o8 => ?_)
      refine g_goto (tgt := 33) a11_draws_24 rfl ?_
      have h := Option.some.inj h
      subst h
      exact g_retE a11_draws_33 trivial rfl rfl
theorem a11_struck_0 : At cX11_struck 0 (.iload_n 1) 1 1 := ⟨by decide +kernel, rfl⟩
theorem a11_struck_1 : At cX11_struck 1 (.invokestatic 67) 3 4 := ⟨by decide +kernel, rfl⟩
theorem a11_struck_4 : At cX11_struck 4 (.ifCond .eq 21) 3 7 := ⟨by decide +kernel, rfl⟩
theorem a11_struck_7 : At cX11_struck 7 (.aload_n 0) 1 8 := ⟨by decide +kernel, rfl⟩
theorem a11_struck_8 : At cX11_struck 8 (.getfield 7) 3 11 := ⟨by decide +kernel, rfl⟩
theorem a11_struck_11 : At cX11_struck 11 (.aload_n 0) 1 12 := ⟨by decide +kernel, rfl⟩
theorem a11_struck_12 : At cX11_struck 12 (.getfield 7) 3 15 := ⟨by decide +kernel, rfl⟩
theorem a11_struck_15 : At cX11_struck 15 (.bipush 6) 2 17 := ⟨by decide +kernel, rfl⟩
theorem a11_struck_17 : At cX11_struck 17 (.iaload) 1 18 := ⟨by decide +kernel, rfl⟩
theorem a11_struck_18 : At cX11_struck 18 (.iload_n 1) 1 19 := ⟨by decide +kernel, rfl⟩
theorem a11_struck_19 : At cX11_struck 19 (.invokestatic 112) 3 22 := ⟨by decide +kernel, rfl⟩
theorem a11_struck_22 : At cX11_struck 22 (.goto 9) 3 25 := ⟨by decide +kernel, rfl⟩
theorem a11_struck_25 : At cX11_struck 25 (.aload_n 0) 1 26 := ⟨by decide +kernel, rfl⟩
theorem a11_struck_26 : At cX11_struck 26 (.bipush (-2)) 2 28 := ⟨by decide +kernel, rfl⟩
theorem a11_struck_28 : At cX11_struck 28 (.invokevirtual 73) 3 31 := ⟨by decide +kernel, rfl⟩
theorem a11_struck_31 : At cX11_struck 31 (.ireturn) 1 32 := ⟨by decide +kernel, rfl⟩
def f11_struck (k0 : Nat) (x1 : Int32) (σ : Mem) : Option (Int32 × Mem) :=
  if (f11_isCell x1) = 0 then
  (lt (f11_bad k0 (-2) σ) fun w2 =>
  some (w2.1, w2.2))
  else
  (bnd (f11_struckOf 0 (σ.1 22 0 6) x1 σ) fun w4 =>
  some (w4, σ))
theorem E11_struck {k0 : Nat} {x1 : Int32} {σ : Mem} {w : Int32 × Mem} (h : f11_struck k0 x1 σ = some w) : Ev m11_struck [.inr (.inr (11, k0)), .inl x1] σ (some (.inl w.1) : Option AV) w.2 := by
  unfold f11_struck at h
  show Go m11_struck 0 [some (.inr (.inr (11, k0))), some (.inl x1)] [] σ (some (.inl w.1) : Option AV) w.2
  refine g_iload_n a11_struck_0 rfl ?_
  refine g_S1s (v1 := .inl (f11_isCell x1)) (σ1 := σ) a11_struck_1 cs11_67 (E11_isCell _ _) rfl (fun o1 => ?_)
  refine g_if_eq (tgt := 25) a11_struck_4 rfl (fun c6 => ?_) (fun c6 => ?_)
  · have h := (if_pos c6).symm.trans h
    refine g_aload_n a11_struck_25 rfl ?_
    refine g_bipush (v := (-2)) a11_struck_26 rfl ?_
    obtain ⟨w2, hw2, h⟩ := lt_inv h
    refine g_V1s (v1 := .inl w2.1) (σ1 := w2.2) a11_struck_28 cv11_73 (by rw [← hw2]; exact E11_bad _ _ _) rfl (fun o3 => ?_)
    have h := Option.some.inj h
    subst h
    exact g_retE a11_struck_31 trivial rfl rfl
  · have h := (if_neg c6).symm.trans h
    refine g_aload_n a11_struck_7 rfl ?_
    refine g_getf (v := .inr (.inr (22, 0))) a11_struck_8 fs11_7 rfl ?_
    refine g_aload_n a11_struck_11 rfl ?_
    refine g_getf (v := .inr (.inr (22, 0))) a11_struck_12 fs11_7 rfl ?_
    refine g_bipush (v := 6) a11_struck_15 rfl ?_
    refine g_iald (x := (σ.1 22 0 6)) a11_struck_17 (rI22 (by decide)) (inb_ok (by decide)) rfl ?_
    refine g_iload_n a11_struck_18 rfl ?_
    obtain ⟨w4, hw4, h⟩ := bnd_inv h
    refine g_S3s (v1 := .inl w4) (σ1 := σ) a11_struck_19 cs11_112 (E11_struckOf hw4) rfl (fun o5 => ?_)
    refine g_goto (tgt := 31) a11_struck_22 rfl ?_
    have h := Option.some.inj h
    subst h
    exact g_retE a11_struck_31 trivial rfl rfl
theorem a11_layHand_0 : At cX11_layHand 0 (.iconst 0) 1 1 := ⟨by decide +kernel, rfl⟩
theorem a11_layHand_1 : At cX11_layHand 1 (.istore_n 1) 1 2 := ⟨by decide +kernel, rfl⟩
theorem a11_layHand_2 : At cX11_layHand 2 (.iload_n 1) 1 3 := ⟨by decide +kernel, rfl⟩
theorem a11_layHand_3 : At cX11_layHand 3 (.bipush 46) 2 5 := ⟨by decide +kernel, rfl⟩
theorem a11_layHand_5 : At cX11_layHand 5 (.if_icmp .ge 21) 3 8 := ⟨by decide +kernel, rfl⟩
theorem a11_layHand_8 : At cX11_layHand 8 (.aload_n 0) 1 9 := ⟨by decide +kernel, rfl⟩
theorem a11_layHand_9 : At cX11_layHand 9 (.getfield 27) 3 12 := ⟨by decide +kernel, rfl⟩
theorem a11_layHand_12 : At cX11_layHand 12 (.iload_n 1) 1 13 := ⟨by decide +kernel, rfl⟩
theorem a11_layHand_13 : At cX11_layHand 13 (.aload_n 0) 1 14 := ⟨by decide +kernel, rfl⟩
theorem a11_layHand_14 : At cX11_layHand 14 (.getfield 7) 3 17 := ⟨by decide +kernel, rfl⟩
theorem a11_layHand_17 : At cX11_layHand 17 (.iload_n 1) 1 18 := ⟨by decide +kernel, rfl⟩
theorem a11_layHand_18 : At cX11_layHand 18 (.iaload) 1 19 := ⟨by decide +kernel, rfl⟩
theorem a11_layHand_19 : At cX11_layHand 19 (.iastore) 1 20 := ⟨by decide +kernel, rfl⟩
theorem a11_layHand_20 : At cX11_layHand 20 (.iinc 1 1) 3 23 := ⟨by decide +kernel, rfl⟩
theorem a11_layHand_23 : At cX11_layHand 23 (.goto (-21)) 3 26 := ⟨by decide +kernel, rfl⟩
theorem a11_layHand_26 : At cX11_layHand 26 (.return_) 1 27 := ⟨by decide +kernel, rfl⟩
def l11_layHand_2 (k0 : Nat) : Nat → Int32 → Mem → Option (Int32 × Mem)
  | 0, _, _ => none
  | n + 1, x1, σ =>
  if 46 ≤ x1 then
  (some (x1, σ))
  else
  (ck (inb x1 142) <|
  ck (inb x1 46) <|
  lt (sI σ 22 4 (x1 : Int32).toNatClampNeg (σ.1 22 0 (x1 : Int32).toNatClampNeg)) fun σ3 =>
  l11_layHand_2 k0 n (x1 + 1) σ3)
theorem lE11_layHand_2 {V : Option AV} {S : Mem} (k0 : Nat) : ∀ (n : Nat) (x1 : Int32) (σ : Mem) {w : Int32 × Mem}, l11_layHand_2 k0 n x1 σ = some w → (Go m11_layHand 26 [some (.inr (.inr (11, k0))), some (.inl w.1)] [] w.2 V S) → Go m11_layHand 2 [some (.inr (.inr (11, k0))), some (.inl x1)] [] σ V S
  | 0, x1, σ, w, h, K1 => by cases h
  | n + 1, x1, σ, w, h, K1 => by
    rw [l11_layHand_2] at h
    refine g_iload_n a11_layHand_2 rfl ?_
    refine g_bipush (v := 46) a11_layHand_3 rfl ?_
    refine g_icmp_ge (tgt := 26) a11_layHand_5 rfl (fun c4 => ?_) (fun c4 => ?_)
    · have h := (if_pos c4).symm.trans h
      have h := Option.some.inj h
      subst h
      exact g_weak K1 ⟨rfl, rfl, trivial⟩
    · have h := (if_neg c4).symm.trans h
      refine g_aload_n a11_layHand_8 rfl ?_
      refine g_getf (v := .inr (.inr (22, 4))) a11_layHand_9 fs11_27 rfl ?_
      refine g_iload_n a11_layHand_12 rfl ?_
      refine g_aload_n a11_layHand_13 rfl ?_
      refine g_getf (v := .inr (.inr (22, 0))) a11_layHand_14 fs11_7 rfl ?_
      refine g_iload_n a11_layHand_17 rfl ?_
      obtain ⟨q1, h⟩ := ck_inv h
      refine g_iald (x := (σ.1 22 0 (x1 : Int32).toNatClampNeg)) a11_layHand_18 (rI22 (by decide)) (inb_ok q1) rfl ?_
      obtain ⟨q2, h⟩ := ck_inv h
      obtain ⟨σ3, eσ3, h⟩ := lt_inv h
      refine g_iast (j := (x1 : Int32).toNatClampNeg) a11_layHand_19 (rI22 (by decide)) (inb_ok q2) rfl ?_
      rw [eσ3]
      refine g_iinc (v := (x1 + 1)) (L' := [some (.inr (.inr (11, k0))), some (.inl (x1 + 1))]) a11_layHand_20 rfl rfl (Nat.le_of_ble_eq_true rfl) rfl rfl ?_
      refine g_goto (tgt := 2) a11_layHand_23 rfl ?_
      exact g_weak (lE11_layHand_2 (V := V) (S := S)  k0 n _ _ h K1) ⟨rfl, rfl, trivial⟩
def f11_layHand (k0 : Nat) (σ : Mem) : Option (Mem) :=
  bnd (l11_layHand_2 k0 2000 0 σ) fun w5 =>
  some w5.2
theorem E11_layHand {k0 : Nat} {σ : Mem} {w : Mem} (h : f11_layHand k0 σ = some w) : Ev m11_layHand [.inr (.inr (11, k0))] σ none w := by
  unfold f11_layHand at h
  show Go m11_layHand 0 [some (.inr (.inr (11, k0))), none] [] σ none w
  refine g_iconst (v := 0) a11_layHand_0 rfl ?_
  refine g_istore_n (L' := [some (.inr (.inr (11, k0))), some (.inl 0)]) a11_layHand_1 (Nat.le_of_ble_eq_true rfl) rfl rfl ?_
  obtain ⟨w5, hw5, h⟩ := bnd_inv h
  refine g_weak (lE11_layHand_2 k0 2000 _ _ hw5 ?_) ⟨rfl, rfl, trivial⟩
  have h := Option.some.inj h
  subst h
  exact g_retE a11_layHand_26 trivial rfl rfl
theorem a11_then_0 : At cX11_then 0 (.iload_n 1) 1 1 := ⟨by decide +kernel, rfl⟩
theorem a11_then_1 : At cX11_then 1 (.i2l) 1 2 := ⟨by decide +kernel, rfl⟩
theorem a11_then_2 : At cX11_then 2 (.lconst 0) 1 3 := ⟨by decide +kernel, rfl⟩
theorem a11_then_3 : At cX11_then 3 (.ldc2_w 125) 3 6 := ⟨by decide +kernel, rfl⟩
theorem a11_then_6 : At cX11_then 6 (.invokestatic 59) 3 9 := ⟨by decide +kernel, rfl⟩
theorem a11_then_9 : At cX11_then 9 (.ifCond .ne 10) 3 12 := ⟨by decide +kernel, rfl⟩
theorem a11_then_12 : At cX11_then 12 (.aload_n 0) 1 13 := ⟨by decide +kernel, rfl⟩
theorem a11_then_13 : At cX11_then 13 (.bipush (-2)) 2 15 := ⟨by decide +kernel, rfl⟩
theorem a11_then_15 : At cX11_then 15 (.invokevirtual 73) 3 18 := ⟨by decide +kernel, rfl⟩
theorem a11_then_18 : At cX11_then 18 (.ireturn) 1 19 := ⟨by decide +kernel, rfl⟩
theorem a11_then_19 : At cX11_then 19 (.aload_n 0) 1 20 := ⟨by decide +kernel, rfl⟩
theorem a11_then_20 : At cX11_then 20 (.invokevirtual 147) 3 23 := ⟨by decide +kernel, rfl⟩
theorem a11_then_23 : At cX11_then 23 (.iconst 0) 1 24 := ⟨by decide +kernel, rfl⟩
theorem a11_then_24 : At cX11_then 24 (.istore_n 2) 1 25 := ⟨by decide +kernel, rfl⟩
theorem a11_then_25 : At cX11_then 25 (.iload_n 2) 1 26 := ⟨by decide +kernel, rfl⟩
theorem a11_then_26 : At cX11_then 26 (.iload_n 1) 1 27 := ⟨by decide +kernel, rfl⟩
theorem a11_then_27 : At cX11_then 27 (.if_icmp .ge 16) 3 30 := ⟨by decide +kernel, rfl⟩
theorem a11_then_30 : At cX11_then 30 (.aload_n 0) 1 31 := ⟨by decide +kernel, rfl⟩
theorem a11_then_31 : At cX11_then 31 (.getfield 27) 3 34 := ⟨by decide +kernel, rfl⟩
theorem a11_then_34 : At cX11_then 34 (.invokestatic 122) 3 37 := ⟨by decide +kernel, rfl⟩
theorem a11_then_37 : At cX11_then 37 (.iinc 2 1) 3 40 := ⟨by decide +kernel, rfl⟩
theorem a11_then_40 : At cX11_then 40 (.goto (-15)) 3 43 := ⟨by decide +kernel, rfl⟩
theorem a11_then_43 : At cX11_then 43 (.aload_n 0) 1 44 := ⟨by decide +kernel, rfl⟩
theorem a11_then_44 : At cX11_then 44 (.getfield 27) 3 47 := ⟨by decide +kernel, rfl⟩
theorem a11_then_47 : At cX11_then 47 (.bipush 7) 2 49 := ⟨by decide +kernel, rfl⟩
theorem a11_then_49 : At cX11_then 49 (.iaload) 1 50 := ⟨by decide +kernel, rfl⟩
theorem a11_then_50 : At cX11_then 50 (.ireturn) 1 51 := ⟨by decide +kernel, rfl⟩
def l11_then_25 (k0 : Nat) (x1 : Int32) : Nat → Int32 → Mem → Option (Int32 × Mem)
  | 0, _, _ => none
  | n + 1, x2, σ =>
  if x1 ≤ x2 then
  (some (x2, σ))
  else
  (bnd (f11_goTold 4 σ) fun w6 =>
  l11_then_25 k0 x1 n (x2 + 1) w6)
theorem lE11_then_25 {V : Option AV} {S : Mem} (k0 : Nat) (x1 : Int32) : ∀ (n : Nat) (x2 : Int32) (σ : Mem) {w : Int32 × Mem}, l11_then_25 k0 x1 n x2 σ = some w → (Go m11_then 43 [some (.inr (.inr (11, k0))), some (.inl x1), some (.inl w.1)] [] w.2 V S) → Go m11_then 25 [some (.inr (.inr (11, k0))), some (.inl x1), some (.inl x2)] [] σ V S
  | 0, x2, σ, w, h, K1 => by cases h
  | n + 1, x2, σ, w, h, K1 => by
    rw [l11_then_25] at h
    refine g_iload_n a11_then_25 rfl ?_
    refine g_iload_n a11_then_26 rfl ?_
    refine g_icmp_ge (tgt := 43) a11_then_27 rfl (fun c8 => ?_) (fun c8 => ?_)
    · have h := (if_pos c8).symm.trans h
      have h := Option.some.inj h
      subst h
      exact g_weak K1 ⟨rfl, rfl, rfl, trivial⟩
    · have h := (if_neg c8).symm.trans h
      refine g_aload_n a11_then_30 rfl ?_
      refine g_getf (v := .inr (.inr (22, 4))) a11_then_31 fs11_27 rfl ?_
      obtain ⟨w6, hw6, h⟩ := bnd_inv h
      refine g_S1n (σ1 := w6) a11_then_34 cs11_122 (E11_goTold hw6) rfl (fun o7 => ?_)
      refine g_iinc (v := (x2 + 1)) (L' := [some (.inr (.inr (11, k0))), some (.inl x1), some (.inl (x2 + 1))]) a11_then_37 rfl rfl (Nat.le_of_ble_eq_true rfl) rfl rfl ?_
      refine g_goto (tgt := 25) a11_then_40 rfl ?_
      exact g_weak (lE11_then_25 (V := V) (S := S)  k0 x1 n _ _ h K1) ⟨rfl, rfl, rfl, trivial⟩
def f11_then (k0 : Nat) (x1 : Int32) (σ : Mem) : Option (Int32 × Mem) :=
  if (f11_in (x1.toInt64) 0 60) = 0 then
  (lt (f11_bad k0 (-2) σ) fun w2 =>
  some (w2.1, w2.2))
  else
  (bnd (f11_layHand k0 σ) fun w4 =>
  bnd (l11_then_25 k0 x1 2000 0 w4) fun w9 =>
  some ((w9.2.1 22 4 7), w9.2))
theorem E11_then {k0 : Nat} {x1 : Int32} {σ : Mem} {w : Int32 × Mem} (h : f11_then k0 x1 σ = some w) : Ev m11_then [.inr (.inr (11, k0)), .inl x1] σ (some (.inl w.1) : Option AV) w.2 := by
  unfold f11_then at h
  show Go m11_then 0 [some (.inr (.inr (11, k0))), some (.inl x1), none] [] σ (some (.inl w.1) : Option AV) w.2
  refine g_iload_n a11_then_0 rfl ?_
  refine g_i2l a11_then_1 ?_
  refine g_lconst (v := 0) a11_then_2 rfl ?_
  refine g_ldc2 (v := 60) a11_then_3 wl11_125 ?_
  refine g_S3s (v1 := .inl (f11_in (x1.toInt64) 0 60)) (σ1 := σ) a11_then_6 cs11_59 (E11_in _ _ _ _) rfl (fun o1 => ?_)
  refine g_if_ne (tgt := 19) a11_then_9 rfl (fun c10 => ?_) (fun c10 => ?_)
  · have h := (if_neg c10).symm.trans h
    refine g_aload_n a11_then_19 rfl ?_
    obtain ⟨w4, hw4, h⟩ := bnd_inv h
    refine g_V0n (σ1 := w4) a11_then_20 cv11_147 (E11_layHand hw4) rfl (fun o5 => ?_)
    refine g_iconst (v := 0) a11_then_23 rfl ?_
    refine g_istore_n (L' := [some (.inr (.inr (11, k0))), some (.inl x1), some (.inl 0)]) a11_then_24 (Nat.le_of_ble_eq_true rfl) rfl rfl ?_
    obtain ⟨w9, hw9, h⟩ := bnd_inv h
    refine g_weak (lE11_then_25 k0 x1 2000 _ _ hw9 ?_) ⟨rfl, rfl, rfl, trivial⟩
    refine g_aload_n a11_then_43 rfl ?_
    refine g_getf (v := .inr (.inr (22, 4))) a11_then_44 fs11_27 rfl ?_
    refine g_bipush (v := 7) a11_then_47 rfl ?_
    refine g_iald (x := (w9.2.1 22 4 7)) a11_then_49 (rI22 (by decide)) (inb_ok (by decide)) rfl ?_
    have h := Option.some.inj h
    subst h
    exact g_retE a11_then_50 trivial rfl rfl
  · have h := (if_pos c10).symm.trans h
    refine g_aload_n a11_then_12 rfl ?_
    refine g_bipush (v := (-2)) a11_then_13 rfl ?_
    obtain ⟨w2, hw2, h⟩ := lt_inv h
    refine g_V1s (v1 := .inl w2.1) (σ1 := w2.2) a11_then_15 cv11_73 (by rw [← hw2]; exact E11_bad _ _ _) rfl (fun o3 => ?_)
    have h := Option.some.inj h
    subst h
    exact g_retE a11_then_18 trivial rfl rfl
theorem a11_whenOf_0 : At cX11_whenOf 0 (.aload_n 0) 1 1 := ⟨by decide +kernel, rfl⟩
theorem a11_whenOf_1 : At cX11_whenOf 1 (.invokevirtual 147) 3 4 := ⟨by decide +kernel, rfl⟩
theorem a11_whenOf_4 : At cX11_whenOf 4 (.iconst 0) 1 5 := ⟨by decide +kernel, rfl⟩
theorem a11_whenOf_5 : At cX11_whenOf 5 (.istore_n 2) 1 6 := ⟨by decide +kernel, rfl⟩
theorem a11_whenOf_6 : At cX11_whenOf 6 (.iload_n 2) 1 7 := ⟨by decide +kernel, rfl⟩
theorem a11_whenOf_7 : At cX11_whenOf 7 (.bipush 60) 2 9 := ⟨by decide +kernel, rfl⟩
theorem a11_whenOf_9 : At cX11_whenOf 9 (.if_icmp .gt 32) 3 12 := ⟨by decide +kernel, rfl⟩
theorem a11_whenOf_12 : At cX11_whenOf 12 (.aload_n 0) 1 13 := ⟨by decide +kernel, rfl⟩
theorem a11_whenOf_13 : At cX11_whenOf 13 (.getfield 27) 3 16 := ⟨by decide +kernel, rfl⟩
theorem a11_whenOf_16 : At cX11_whenOf 16 (.bipush 7) 2 18 := ⟨by decide +kernel, rfl⟩
theorem a11_whenOf_18 : At cX11_whenOf 18 (.iaload) 1 19 := ⟨by decide +kernel, rfl⟩
theorem a11_whenOf_19 : At cX11_whenOf 19 (.iload_n 1) 1 20 := ⟨by decide +kernel, rfl⟩
theorem a11_whenOf_20 : At cX11_whenOf 20 (.invokestatic 93) 3 23 := ⟨by decide +kernel, rfl⟩
theorem a11_whenOf_23 : At cX11_whenOf 23 (.ifCond .eq 5) 3 26 := ⟨by decide +kernel, rfl⟩
theorem a11_whenOf_26 : At cX11_whenOf 26 (.iload_n 2) 1 27 := ⟨by decide +kernel, rfl⟩
theorem a11_whenOf_27 : At cX11_whenOf 27 (.ireturn) 1 28 := ⟨by decide +kernel, rfl⟩
theorem a11_whenOf_28 : At cX11_whenOf 28 (.aload_n 0) 1 29 := ⟨by decide +kernel, rfl⟩
theorem a11_whenOf_29 : At cX11_whenOf 29 (.getfield 27) 3 32 := ⟨by decide +kernel, rfl⟩
theorem a11_whenOf_32 : At cX11_whenOf 32 (.invokestatic 122) 3 35 := ⟨by decide +kernel, rfl⟩
theorem a11_whenOf_35 : At cX11_whenOf 35 (.iinc 2 1) 3 38 := ⟨by decide +kernel, rfl⟩
theorem a11_whenOf_38 : At cX11_whenOf 38 (.goto (-32)) 3 41 := ⟨by decide +kernel, rfl⟩
theorem a11_whenOf_41 : At cX11_whenOf 41 (.iconst (-1)) 1 42 := ⟨by decide +kernel, rfl⟩
theorem a11_whenOf_42 : At cX11_whenOf 42 (.ireturn) 1 43 := ⟨by decide +kernel, rfl⟩
def l11_whenOf_6 (k0 : Nat) (x1 : Int32) : Nat → Int32 → Mem → Option ((Int32 × Mem) ⊕ (Int32 × Mem))
  | 0, _, _ => none
  | n + 1, x2, σ =>
  if 60 < x2 then
  (some (.inl (x2, σ)))
  else
  (if (f11_has (σ.1 22 4 7) x1) = 0 then
  (bnd (f11_goTold 4 σ) fun w4 =>
  l11_whenOf_6 k0 x1 n (x2 + 1) w4)
  else
  (some (.inr (x2, σ))))
theorem lE11_whenOf_6 {V : Option AV} {S : Mem} (k0 : Nat) (x1 : Int32) : ∀ (n : Nat) (x2 : Int32) (σ : Mem) {w : (Int32 × Mem) ⊕ (Int32 × Mem)}, l11_whenOf_6 k0 x1 n x2 σ = some w → (∀ u, w = .inl u → Go m11_whenOf 41 [some (.inr (.inr (11, k0))), some (.inl x1), some (.inl u.1)] [] u.2 V S) → (∀ u, w = .inr u → (some (.inl u.1) : Option AV) = V ∧ u.2 = S) → Go m11_whenOf 6 [some (.inr (.inr (11, k0))), some (.inl x1), some (.inl x2)] [] σ V S
  | 0, x2, σ, w, h, K1, K2 => by cases h
  | n + 1, x2, σ, w, h, K1, K2 => by
    rw [l11_whenOf_6] at h
    refine g_iload_n a11_whenOf_6 rfl ?_
    refine g_bipush (v := 60) a11_whenOf_7 rfl ?_
    refine g_icmp_gt (tgt := 41) a11_whenOf_9 rfl (fun c7 => ?_) (fun c7 => ?_)
    · have h := (if_pos c7).symm.trans h
      have h := Option.some.inj h
      subst h
      exact g_weak (K1 _ rfl) ⟨rfl, rfl, rfl, trivial⟩
    · have h := (if_neg c7).symm.trans h
      refine g_aload_n a11_whenOf_12 rfl ?_
      refine g_getf (v := .inr (.inr (22, 4))) a11_whenOf_13 fs11_27 rfl ?_
      refine g_bipush (v := 7) a11_whenOf_16 rfl ?_
      refine g_iald (x := (σ.1 22 4 7)) a11_whenOf_18 (rI22 (by decide)) (inb_ok (by decide)) rfl ?_
      refine g_iload_n a11_whenOf_19 rfl ?_
      refine g_S2s (v1 := .inl (f11_has (σ.1 22 4 7) x1)) (σ1 := σ) a11_whenOf_20 cs11_93 (E11_has _ _ _) rfl (fun o3 => ?_)
      refine g_if_eq (tgt := 28) a11_whenOf_23 rfl (fun c6 => ?_) (fun c6 => ?_)
      · have h := (if_pos c6).symm.trans h
        refine g_aload_n a11_whenOf_28 rfl ?_
        refine g_getf (v := .inr (.inr (22, 4))) a11_whenOf_29 fs11_27 rfl ?_
        obtain ⟨w4, hw4, h⟩ := bnd_inv h
        refine g_S1n (σ1 := w4) a11_whenOf_32 cs11_122 (E11_goTold hw4) rfl (fun o5 => ?_)
        refine g_iinc (v := (x2 + 1)) (L' := [some (.inr (.inr (11, k0))), some (.inl x1), some (.inl (x2 + 1))]) a11_whenOf_35 rfl rfl (Nat.le_of_ble_eq_true rfl) rfl rfl ?_
        refine g_goto (tgt := 6) a11_whenOf_38 rfl ?_
        exact g_weak (lE11_whenOf_6 (V := V) (S := S)  k0 x1 n _ _ h K1 K2) ⟨rfl, rfl, rfl, trivial⟩
      · have h := (if_neg c6).symm.trans h
        refine g_iload_n a11_whenOf_26 rfl ?_
        have h := Option.some.inj h
        subst h
        obtain ⟨hV, hS⟩ := K2 _ rfl
        subst hV; subst hS
        exact g_retE a11_whenOf_27 trivial rfl rfl
def f11_whenOf (k0 : Nat) (x1 : Int32) (σ : Mem) : Option (Int32 × Mem) :=
  bnd (f11_layHand k0 σ) fun w1 =>
  bnd (l11_whenOf_6 k0 x1 2000 0 w1) fun w8 =>
  sm w8 (fun u9 =>
  some ((-1), u9.2)) (fun u9 => some u9)
theorem E11_whenOf {k0 : Nat} {x1 : Int32} {σ : Mem} {w : Int32 × Mem} (h : f11_whenOf k0 x1 σ = some w) : Ev m11_whenOf [.inr (.inr (11, k0)), .inl x1] σ (some (.inl w.1) : Option AV) w.2 := by
  unfold f11_whenOf at h
  show Go m11_whenOf 0 [some (.inr (.inr (11, k0))), some (.inl x1), none] [] σ (some (.inl w.1) : Option AV) w.2
  refine g_aload_n a11_whenOf_0 rfl ?_
  obtain ⟨w1, hw1, h⟩ := bnd_inv h
  refine g_V0n (σ1 := w1) a11_whenOf_1 cv11_147 (E11_layHand hw1) rfl (fun o2 => ?_)
  refine g_iconst (v := 0) a11_whenOf_4 rfl ?_
  refine g_istore_n (L' := [some (.inr (.inr (11, k0))), some (.inl x1), some (.inl 0)]) a11_whenOf_5 (Nat.le_of_ble_eq_true rfl) rfl rfl ?_
  obtain ⟨w8, hw8, h⟩ := bnd_inv h
  rcases w8 with u9 | u9
  · have h := sm_l h
    refine g_weak (lE11_whenOf_6 k0 x1 2000 _ _ hw8 (fun _ e => ?_) (fun _ e => by cases e)) ⟨rfl, rfl, rfl, trivial⟩
    cases e
    refine g_iconst (v := (-1)) a11_whenOf_41 rfl ?_
    have h := Option.some.inj h
    subst h
    exact g_retE a11_whenOf_42 trivial rfl rfl
  · have h := sm_r h
    have h := Option.some.inj h
    subst h
    exact g_weak (lE11_whenOf_6 k0 x1 2000 _ _ hw8 (fun _ e => by cases e) (fun _ e => by cases e; exact ⟨rfl, rfl⟩)) ⟨rfl, rfl, rfl, trivial⟩
theorem a11_when_0 : At cX11_when 0 (.aload_n 0) 1 1 := ⟨by decide +kernel, rfl⟩
theorem a11_when_1 : At cX11_when 1 (.iload_n 1) 1 2 := ⟨by decide +kernel, rfl⟩
theorem a11_when_2 : At cX11_when 2 (.invokevirtual 142) 3 5 := ⟨by decide +kernel, rfl⟩
theorem a11_when_5 : At cX11_when 5 (.ifCond .eq 11) 3 8 := ⟨by decide +kernel, rfl⟩
theorem a11_when_8 : At cX11_when 8 (.aload_n 0) 1 9 := ⟨by decide +kernel, rfl⟩
theorem a11_when_9 : At cX11_when 9 (.iload_n 1) 1 10 := ⟨by decide +kernel, rfl⟩
theorem a11_when_10 : At cX11_when 10 (.invokevirtual 150) 3 13 := ⟨by decide +kernel, rfl⟩
theorem a11_when_13 : At cX11_when 13 (.goto 9) 3 16 := ⟨by decide +kernel, rfl⟩
theorem a11_when_16 : At cX11_when 16 (.aload_n 0) 1 17 := ⟨by decide +kernel, rfl⟩
theorem a11_when_17 : At cX11_when 17 (.bipush (-2)) 2 19 := ⟨by decide +kernel, rfl⟩
theorem a11_when_19 : At cX11_when 19 (.invokevirtual 73) 3 22 := ⟨by decide +kernel, rfl⟩
theorem a11_when_22 : At cX11_when 22 (.ireturn) 1 23 := ⟨by decide +kernel, rfl⟩
def f11_when (k0 : Nat) (x1 : Int32) (σ : Mem) : Option (Int32 × Mem) :=
  if (f11_isPart k0 x1 σ) = 0 then
  (lt (f11_bad k0 (-2) σ) fun w2 =>
  some (w2.1, w2.2))
  else
  (bnd (f11_whenOf k0 x1 σ) fun w4 =>
  some (w4.1, w4.2))
theorem E11_when {k0 : Nat} {x1 : Int32} {σ : Mem} {w : Int32 × Mem} (h : f11_when k0 x1 σ = some w) : Ev m11_when [.inr (.inr (11, k0)), .inl x1] σ (some (.inl w.1) : Option AV) w.2 := by
  unfold f11_when at h
  show Go m11_when 0 [some (.inr (.inr (11, k0))), some (.inl x1)] [] σ (some (.inl w.1) : Option AV) w.2
  refine g_aload_n a11_when_0 rfl ?_
  refine g_iload_n a11_when_1 rfl ?_
  refine g_V1s (v1 := .inl (f11_isPart k0 x1 σ)) (σ1 := σ) a11_when_2 cv11_142 (E11_isPart _ _ _) rfl (fun o1 => ?_)
  refine g_if_eq (tgt := 16) a11_when_5 rfl (fun c6 => ?_) (fun c6 => ?_)
  · have h := (if_pos c6).symm.trans h
    refine g_aload_n a11_when_16 rfl ?_
    refine g_bipush (v := (-2)) a11_when_17 rfl ?_
    obtain ⟨w2, hw2, h⟩ := lt_inv h
    refine g_V1s (v1 := .inl w2.1) (σ1 := w2.2) a11_when_19 cv11_73 (by rw [← hw2]; exact E11_bad _ _ _) rfl (fun o3 => ?_)
    have h := Option.some.inj h
    subst h
    exact g_retE a11_when_22 trivial rfl rfl
  · have h := (if_neg c6).symm.trans h
    refine g_aload_n a11_when_8 rfl ?_
    refine g_iload_n a11_when_9 rfl ?_
    obtain ⟨w4, hw4, h⟩ := bnd_inv h
    refine g_V1s (v1 := .inl w4.1) (σ1 := w4.2) a11_when_10 cv11_150 (E11_whenOf hw4) rfl (fun o5 => ?_)
    refine g_goto (tgt := 22) a11_when_13 rfl ?_
    have h := Option.some.inj h
    subst h
    exact g_retE a11_when_22 trivial rfl rfl
theorem a11_cellsBy_0 : At cX11_cellsBy 0 (.iconst 0) 1 1 := ⟨by decide +kernel, rfl⟩
theorem a11_cellsBy_1 : At cX11_cellsBy 1 (.istore_n 2) 1 2 := ⟨by decide +kernel, rfl⟩
theorem a11_cellsBy_2 : At cX11_cellsBy 2 (.iconst 0) 1 3 := ⟨by decide +kernel, rfl⟩
theorem a11_cellsBy_3 : At cX11_cellsBy 3 (.istore_n 3) 1 4 := ⟨by decide +kernel, rfl⟩
theorem a11_cellsBy_4 : At cX11_cellsBy 4 (.iload_n 3) 1 5 := ⟨by decide +kernel, rfl⟩
theorem a11_cellsBy_5 : At cX11_cellsBy 5 (.bipush 12) 2 7 := ⟨by decide +kernel, rfl⟩
theorem a11_cellsBy_7 : At cX11_cellsBy 7 (.if_icmp .ge 31) 3 10 := ⟨by decide +kernel, rfl⟩
theorem a11_cellsBy_10 : At cX11_cellsBy 10 (.iload_n 2) 1 11 := ⟨by decide +kernel, rfl⟩
theorem a11_cellsBy_11 : At cX11_cellsBy 11 (.aload_n 0) 1 12 := ⟨by decide +kernel, rfl⟩
theorem a11_cellsBy_12 : At cX11_cellsBy 12 (.getfield 7) 3 15 := ⟨by decide +kernel, rfl⟩
theorem a11_cellsBy_15 : At cX11_cellsBy 15 (.iload_n 1) 1 16 := ⟨by decide +kernel, rfl⟩
theorem a11_cellsBy_16 : At cX11_cellsBy 16 (.iload_n 3) 1 17 := ⟨by decide +kernel, rfl⟩
theorem a11_cellsBy_17 : At cX11_cellsBy 17 (.invokestatic 112) 3 20 := ⟨by decide +kernel, rfl⟩
theorem a11_cellsBy_20 : At cX11_cellsBy 20 (.ifCond .ne 9) 3 23 := ⟨by decide +kernel, rfl⟩
theorem a11_cellsBy_23 : At cX11_cellsBy 23 (.iconst 1) 1 24 := ⟨by decide +kernel, rfl⟩
theorem a11_cellsBy_24 : At cX11_cellsBy 24 (.iload_n 3) 1 25 := ⟨by decide +kernel, rfl⟩
theorem a11_cellsBy_25 : At cX11_cellsBy 25 (.ishl) 1 26 := ⟨by decide +kernel, rfl⟩
theorem a11_cellsBy_26 : At cX11_cellsBy 26 (.goto 4) 3 29 := ⟨by decide +kernel, rfl⟩
theorem a11_cellsBy_29 : At cX11_cellsBy 29 (.iconst 0) 1 30 := ⟨by decide +kernel, rfl⟩
theorem a11_cellsBy_30 : At cX11_cellsBy 30 (.ior) 1 31 := ⟨by decide +kernel, rfl⟩
theorem a11_cellsBy_31 : At cX11_cellsBy 31 (.istore_n 2) 1 32 := ⟨by decide +kernel, rfl⟩
theorem a11_cellsBy_32 : At cX11_cellsBy 32 (.iinc 3 1) 3 35 := ⟨by decide +kernel, rfl⟩
theorem a11_cellsBy_35 : At cX11_cellsBy 35 (.goto (-31)) 3 38 := ⟨by decide +kernel, rfl⟩
theorem a11_cellsBy_38 : At cX11_cellsBy 38 (.iload_n 2) 1 39 := ⟨by decide +kernel, rfl⟩
theorem a11_cellsBy_39 : At cX11_cellsBy 39 (.ireturn) 1 40 := ⟨by decide +kernel, rfl⟩
def l11_cellsBy_4 (k0 : Nat) (x1 : Int32) (σ : Mem) : Nat → Int32 → Int32 → Option (Int32 × Int32)
  | 0, _, _ => none
  | n + 1, x2, x3 =>
  if 12 ≤ x3 then
  (some (x2, x3))
  else
  (bnd (f11_struckOf 0 x1 x3 σ) fun w1 =>
  lt (if w1 = 0 then
  ((1 <<< (x3 &&& 31)))
  else
  (0) : Int32) fun w3 =>
  l11_cellsBy_4 k0 x1 σ n (x2 ||| w3) (x3 + 1))
theorem lE11_cellsBy_4 {V : Option AV} {S : Mem} (k0 : Nat) (x1 : Int32) (σ : Mem) : ∀ (n : Nat) (x2 : Int32) (x3 : Int32) {w : Int32 × Int32}, l11_cellsBy_4 k0 x1 σ n x2 x3 = some w → (Go m11_cellsBy 38 [some (.inr (.inr (11, k0))), some (.inl x1), some (.inl w.1), some (.inl w.2)] [] σ V S) → Go m11_cellsBy 4 [some (.inr (.inr (11, k0))), some (.inl x1), some (.inl x2), some (.inl x3)] [] σ V S
  | 0, x2, x3, w, h, K1 => by cases h
  | n + 1, x2, x3, w, h, K1 => by
    rw [l11_cellsBy_4] at h
    refine g_iload_n a11_cellsBy_4 rfl ?_
    refine g_bipush (v := 12) a11_cellsBy_5 rfl ?_
    refine g_icmp_ge (tgt := 38) a11_cellsBy_7 rfl (fun c6 => ?_) (fun c6 => ?_)
    · have h := (if_pos c6).symm.trans h
      have h := Option.some.inj h
      subst h
      exact g_weak K1 ⟨rfl, rfl, rfl, rfl, trivial⟩
    · have h := (if_neg c6).symm.trans h
      refine g_iload_n a11_cellsBy_10 rfl ?_
      refine g_aload_n a11_cellsBy_11 rfl ?_
      refine g_getf (v := .inr (.inr (22, 0))) a11_cellsBy_12 fs11_7 rfl ?_
      refine g_iload_n a11_cellsBy_15 rfl ?_
      refine g_iload_n a11_cellsBy_16 rfl ?_
      obtain ⟨w1, hw1, h⟩ := bnd_inv h
      refine g_S3s (v1 := .inl w1) (σ1 := σ) a11_cellsBy_17 cs11_112 (E11_struckOf hw1) rfl (fun o2 => ?_)
      obtain ⟨w3, hw3, h⟩ := lt_inv h
      have J4 : Go m11_cellsBy 30 [some (.inr (.inr (11, k0))), some (.inl x1), none, some (.inl x3)] [.inl w3, .inl x2] σ V S := by
        refine g_ior a11_cellsBy_30 ?_
        refine g_istore_n (L' := [some (.inr (.inr (11, k0))), some (.inl x1), some (.inl (x2 ||| w3)), some (.inl x3)]) a11_cellsBy_31 (Nat.le_of_ble_eq_true rfl) rfl rfl ?_
        refine g_iinc (v := (x3 + 1)) (L' := [some (.inr (.inr (11, k0))), some (.inl x1), some (.inl (x2 ||| w3)), some (.inl (x3 + 1))]) a11_cellsBy_32 rfl rfl (Nat.le_of_ble_eq_true rfl) rfl rfl ?_
        refine g_goto (tgt := 4) a11_cellsBy_35 rfl ?_
        exact g_weak (lE11_cellsBy_4 (V := V) (S := S)  k0 x1 σ n _ _ h K1) ⟨rfl, rfl, rfl, rfl, trivial⟩
      clear h
      refine g_if_ne (tgt := 29) a11_cellsBy_20 rfl (fun c5 => ?_) (fun c5 => ?_)
      · have hw3 := (if_neg c5).symm.trans hw3
        refine g_iconst (v := 0) a11_cellsBy_29 rfl ?_
        subst hw3
        exact g_weak J4 ⟨rfl, rfl, rfl, trivial⟩
      · have hw3 := (if_pos c5).symm.trans hw3
        refine g_iconst (v := 1) a11_cellsBy_23 rfl ?_
        refine g_iload_n a11_cellsBy_24 rfl ?_
        refine g_ishl a11_cellsBy_25 ?_
        refine g_goto (tgt := 30) a11_cellsBy_26 rfl ?_
        subst hw3
        exact g_weak J4 ⟨rfl, rfl, rfl, trivial⟩
def f11_cellsBy (k0 : Nat) (x1 : Int32) (σ : Mem) : Option (Int32) :=
  bnd (l11_cellsBy_4 k0 x1 σ 2000 0 0) fun w7 =>
  some w7.1
theorem E11_cellsBy {k0 : Nat} {x1 : Int32} {σ : Mem} {w : Int32} (h : f11_cellsBy k0 x1 σ = some w) : Ev m11_cellsBy [.inr (.inr (11, k0)), .inl x1] σ (some (.inl w) : Option AV) σ := by
  unfold f11_cellsBy at h
  show Go m11_cellsBy 0 [some (.inr (.inr (11, k0))), some (.inl x1), none, none] [] σ (some (.inl w) : Option AV) σ
  refine g_iconst (v := 0) a11_cellsBy_0 rfl ?_
  refine g_istore_n (L' := [some (.inr (.inr (11, k0))), some (.inl x1), some (.inl 0), none]) a11_cellsBy_1 (Nat.le_of_ble_eq_true rfl) rfl rfl ?_
  refine g_iconst (v := 0) a11_cellsBy_2 rfl ?_
  refine g_istore_n (L' := [some (.inr (.inr (11, k0))), some (.inl x1), some (.inl 0), some (.inl 0)]) a11_cellsBy_3 (Nat.le_of_ble_eq_true rfl) rfl rfl ?_
  obtain ⟨w7, hw7, h⟩ := bnd_inv h
  refine g_weak (lE11_cellsBy_4 k0 x1 σ 2000 _ _ hw7 ?_) ⟨rfl, rfl, rfl, rfl, trivial⟩
  refine g_iload_n a11_cellsBy_38 rfl ?_
  have h := Option.some.inj h
  subst h
  exact g_retE a11_cellsBy_39 trivial rfl rfl
theorem a11_whence_0 : At cX11_whence 0 (.aload_n 0) 1 1 := ⟨by decide +kernel, rfl⟩
theorem a11_whence_1 : At cX11_whence 1 (.aload_n 0) 1 2 := ⟨by decide +kernel, rfl⟩
theorem a11_whence_2 : At cX11_whence 2 (.getfield 7) 3 5 := ⟨by decide +kernel, rfl⟩
theorem a11_whence_5 : At cX11_whence 5 (.bipush 6) 2 7 := ⟨by decide +kernel, rfl⟩
theorem a11_whence_7 : At cX11_whence 7 (.iaload) 1 8 := ⟨by decide +kernel, rfl⟩
theorem a11_whence_8 : At cX11_whence 8 (.invokevirtual 153) 3 11 := ⟨by decide +kernel, rfl⟩
theorem a11_whence_11 : At cX11_whence 11 (.ireturn) 1 12 := ⟨by decide +kernel, rfl⟩
def f11_whence (k0 : Nat) (σ : Mem) : Option (Int32) :=
  bnd (f11_cellsBy k0 (σ.1 22 0 6) σ) fun w1 =>
  some w1
theorem E11_whence {k0 : Nat} {σ : Mem} {w : Int32} (h : f11_whence k0 σ = some w) : Ev m11_whence [.inr (.inr (11, k0))] σ (some (.inl w) : Option AV) σ := by
  unfold f11_whence at h
  show Go m11_whence 0 [some (.inr (.inr (11, k0)))] [] σ (some (.inl w) : Option AV) σ
  refine g_aload_n a11_whence_0 rfl ?_
  refine g_aload_n a11_whence_1 rfl ?_
  refine g_getf (v := .inr (.inr (22, 0))) a11_whence_2 fs11_7 rfl ?_
  refine g_bipush (v := 6) a11_whence_5 rfl ?_
  refine g_iald (x := (σ.1 22 0 6)) a11_whence_7 (rI22 (by decide)) (inb_ok (by decide)) rfl ?_
  obtain ⟨w1, hw1, h⟩ := bnd_inv h
  refine g_V1s (v1 := .inl w1) (σ1 := σ) a11_whence_8 cv11_153 (E11_cellsBy hw1) rfl (fun o2 => ?_)
  have h := Option.some.inj h
  subst h
  exact g_retE a11_whence_11 trivial rfl rfl
theorem a11_lead_0 : At cX11_lead 0 (.iload_n 1) 1 1 := ⟨by decide +kernel, rfl⟩
theorem a11_lead_1 : At cX11_lead 1 (.invokestatic 67) 3 4 := ⟨by decide +kernel, rfl⟩
theorem a11_lead_4 : At cX11_lead 4 (.ifCond .ne 10) 3 7 := ⟨by decide +kernel, rfl⟩
theorem a11_lead_7 : At cX11_lead 7 (.aload_n 0) 1 8 := ⟨by decide +kernel, rfl⟩
theorem a11_lead_8 : At cX11_lead 8 (.bipush (-2)) 2 10 := ⟨by decide +kernel, rfl⟩
theorem a11_lead_10 : At cX11_lead 10 (.invokevirtual 73) 3 13 := ⟨by decide +kernel, rfl⟩
theorem a11_lead_13 : At cX11_lead 13 (.ireturn) 1 14 := ⟨by decide +kernel, rfl⟩
theorem a11_lead_14 : At cX11_lead 14 (.iconst (-1)) 1 15 := ⟨by decide +kernel, rfl⟩
theorem a11_lead_15 : At cX11_lead 15 (.istore_n 2) 1 16 := ⟨by decide +kernel, rfl⟩
theorem a11_lead_16 : At cX11_lead 16 (.iconst 0) 1 17 := ⟨by decide +kernel, rfl⟩
theorem a11_lead_17 : At cX11_lead 17 (.istore_n 3) 1 18 := ⟨by decide +kernel, rfl⟩
theorem a11_lead_18 : At cX11_lead 18 (.iload_n 3) 1 19 := ⟨by decide +kernel, rfl⟩
theorem a11_lead_19 : At cX11_lead 19 (.iconst 1) 1 20 := ⟨by decide +kernel, rfl⟩
theorem a11_lead_20 : At cX11_lead 20 (.aload_n 0) 1 21 := ⟨by decide +kernel, rfl⟩
theorem a11_lead_21 : At cX11_lead 21 (.invokevirtual 55) 3 24 := ⟨by decide +kernel, rfl⟩
theorem a11_lead_24 : At cX11_lead 24 (.ishl) 1 25 := ⟨by decide +kernel, rfl⟩
theorem a11_lead_25 : At cX11_lead 25 (.if_icmp .ge 79) 3 28 := ⟨by decide +kernel, rfl⟩
theorem a11_lead_28 : At cX11_lead 28 (.iload_n 2) 1 29 := ⟨by decide +kernel, rfl⟩
theorem a11_lead_29 : At cX11_lead 29 (.iconst (-1)) 1 30 := ⟨by decide +kernel, rfl⟩
theorem a11_lead_30 : At cX11_lead 30 (.if_icmp .eq 14) 3 33 := ⟨by decide +kernel, rfl⟩
theorem a11_lead_33 : At cX11_lead 33 (.iload_n 3) 1 34 := ⟨by decide +kernel, rfl⟩
theorem a11_lead_34 : At cX11_lead 34 (.invokestatic 105) 3 37 := ⟨by decide +kernel, rfl⟩
theorem a11_lead_37 : At cX11_lead 37 (.iload_n 2) 1 38 := ⟨by decide +kernel, rfl⟩
theorem a11_lead_38 : At cX11_lead 38 (.invokestatic 105) 3 41 := ⟨by decide +kernel, rfl⟩
theorem a11_lead_41 : At cX11_lead 41 (.if_icmp .ge 7) 3 44 := ⟨by decide +kernel, rfl⟩
theorem a11_lead_44 : At cX11_lead 44 (.iconst 1) 1 45 := ⟨by decide +kernel, rfl⟩
theorem a11_lead_45 : At cX11_lead 45 (.goto 4) 3 48 := ⟨by decide +kernel, rfl⟩
theorem a11_lead_48 : At cX11_lead 48 (.iconst 0) 1 49 := ⟨by decide +kernel, rfl⟩
theorem a11_lead_49 : At cX11_lead 49 (.istore 4) 2 51 := ⟨by decide +kernel, rfl⟩
theorem a11_lead_51 : At cX11_lead 51 (.iload 4) 2 53 := ⟨by decide +kernel, rfl⟩
theorem a11_lead_53 : At cX11_lead 53 (.ifCond .eq 43) 3 56 := ⟨by decide +kernel, rfl⟩
theorem a11_lead_56 : At cX11_lead 56 (.iload_n 3) 1 57 := ⟨by decide +kernel, rfl⟩
theorem a11_lead_57 : At cX11_lead 57 (.aload_n 0) 1 58 := ⟨by decide +kernel, rfl⟩
theorem a11_lead_58 : At cX11_lead 58 (.getfield 7) 3 61 := ⟨by decide +kernel, rfl⟩
theorem a11_lead_61 : At cX11_lead 61 (.bipush 6) 2 63 := ⟨by decide +kernel, rfl⟩
theorem a11_lead_63 : At cX11_lead 63 (.iaload) 1 64 := ⟨by decide +kernel, rfl⟩
theorem a11_lead_64 : At cX11_lead 64 (.iconst (-1)) 1 65 := ⟨by decide +kernel, rfl⟩
theorem a11_lead_65 : At cX11_lead 65 (.ixor) 1 66 := ⟨by decide +kernel, rfl⟩
theorem a11_lead_66 : At cX11_lead 66 (.iand) 1 67 := ⟨by decide +kernel, rfl⟩
theorem a11_lead_67 : At cX11_lead 67 (.ifCond .ne 29) 3 70 := ⟨by decide +kernel, rfl⟩
theorem a11_lead_70 : At cX11_lead 70 (.aload_n 0) 1 71 := ⟨by decide +kernel, rfl⟩
theorem a11_lead_71 : At cX11_lead 71 (.getfield 7) 3 74 := ⟨by decide +kernel, rfl⟩
theorem a11_lead_74 : At cX11_lead 74 (.aload_n 0) 1 75 := ⟨by decide +kernel, rfl⟩
theorem a11_lead_75 : At cX11_lead 75 (.getfield 7) 3 78 := ⟨by decide +kernel, rfl⟩
theorem a11_lead_78 : At cX11_lead 78 (.bipush 6) 2 80 := ⟨by decide +kernel, rfl⟩
theorem a11_lead_80 : At cX11_lead 80 (.iaload) 1 81 := ⟨by decide +kernel, rfl⟩
theorem a11_lead_81 : At cX11_lead 81 (.iload_n 3) 1 82 := ⟨by decide +kernel, rfl⟩
theorem a11_lead_82 : At cX11_lead 82 (.iconst (-1)) 1 83 := ⟨by decide +kernel, rfl⟩
theorem a11_lead_83 : At cX11_lead 83 (.ixor) 1 84 := ⟨by decide +kernel, rfl⟩
theorem a11_lead_84 : At cX11_lead 84 (.iand) 1 85 := ⟨by decide +kernel, rfl⟩
theorem a11_lead_85 : At cX11_lead 85 (.iload_n 1) 1 86 := ⟨by decide +kernel, rfl⟩
theorem a11_lead_86 : At cX11_lead 86 (.invokestatic 112) 3 89 := ⟨by decide +kernel, rfl⟩
theorem a11_lead_89 : At cX11_lead 89 (.ifCond .ne 7) 3 92 := ⟨by decide +kernel, rfl⟩
theorem a11_lead_92 : At cX11_lead 92 (.iload_n 3) 1 93 := ⟨by decide +kernel, rfl⟩
theorem a11_lead_93 : At cX11_lead 93 (.goto 4) 3 96 := ⟨by decide +kernel, rfl⟩
theorem a11_lead_96 : At cX11_lead 96 (.iload_n 2) 1 97 := ⟨by decide +kernel, rfl⟩
theorem a11_lead_97 : At cX11_lead 97 (.istore_n 2) 1 98 := ⟨by decide +kernel, rfl⟩
theorem a11_lead_98 : At cX11_lead 98 (.iinc 3 2) 3 101 := ⟨by decide +kernel, rfl⟩
theorem a11_lead_101 : At cX11_lead 101 (.goto (-83)) 3 104 := ⟨by decide +kernel, rfl⟩
theorem a11_lead_104 : At cX11_lead 104 (.iload_n 2) 1 105 := ⟨by decide +kernel, rfl⟩
theorem a11_lead_105 : At cX11_lead 105 (.ireturn) 1 106 := ⟨by decide +kernel, rfl⟩
def l11_lead_18 (k0 : Nat) (x1 : Int32) (σ : Mem) : Nat → Int32 → Int32 → Option (Int32 × Int32)
  | 0, _, _ => none
  | n + 1, x2, x3 =>
  if (1 <<< ((f11_many k0 σ) &&& 31)) ≤ x3 then
  (some (x2, x3))
  else
  (bnd (if x2 = (-1) then
  (some 1)
  else
  (bnd (f11_bits x3) fun w7 =>
  bnd (f11_bits x2) fun w9 =>
  if w9 ≤ w7 then
  (some 0)
  else
  (some 1)) : Option (Int32)) fun w5 =>
  bnd (if w5 = 0 then
  (some x2)
  else
  (if (x3 &&& ((σ.1 22 0 6) ^^^ (-1))) = 0 then
  (bnd (f11_struckOf 0 ((σ.1 22 0 6) &&& (x3 ^^^ (-1))) x1 σ) fun w15 =>
  if w15 = 0 then
  (some x3)
  else
  (some x2))
  else
  (some x2)) : Option (Int32)) fun w13 =>
  l11_lead_18 k0 x1 σ n w13 (x3 + 2))
theorem lE11_lead_18 {V : Option AV} {S : Mem} (k0 : Nat) (x1 : Int32) (σ : Mem) : ∀ (n : Nat) (x2 : Int32) (x3 : Int32) {w : Int32 × Int32}, l11_lead_18 k0 x1 σ n x2 x3 = some w → (Go m11_lead 104 [some (.inr (.inr (11, k0))), some (.inl x1), some (.inl w.1), some (.inl w.2), none] [] σ V S) → Go m11_lead 18 [some (.inr (.inr (11, k0))), some (.inl x1), some (.inl x2), some (.inl x3), none] [] σ V S
  | 0, x2, x3, w, h, K1 => by cases h
  | n + 1, x2, x3, w, h, K1 => by
    rw [l11_lead_18] at h
    refine g_iload_n a11_lead_18 rfl ?_
    refine g_iconst (v := 1) a11_lead_19 rfl ?_
    refine g_aload_n a11_lead_20 rfl ?_
    refine g_V0s (v1 := .inl (f11_many k0 σ)) (σ1 := σ) a11_lead_21 cv11_55 (E11_many _ _) rfl (fun o4 => ?_)
    refine g_ishl a11_lead_24 ?_
    refine g_icmp_ge (tgt := 104) a11_lead_25 rfl (fun c20 => ?_) (fun c20 => ?_)
    · have h := (if_pos c20).symm.trans h
      have h := Option.some.inj h
      subst h
      exact g_weak K1 ⟨rfl, rfl, rfl, rfl, trivial⟩
    · have h := (if_neg c20).symm.trans h
      refine g_iload_n a11_lead_28 rfl ?_
      refine g_iconst (v := (-1)) a11_lead_29 rfl ?_
      obtain ⟨w5, hw5, h⟩ := bnd_inv h
      have J6 : Go m11_lead 49 [some (.inr (.inr (11, k0))), some (.inl x1), some (.inl x2), some (.inl x3), none] [.inl w5] σ V S := by
        refine g_istore (L' := [some (.inr (.inr (11, k0))), some (.inl x1), some (.inl x2), some (.inl x3), some (.inl w5)]) a11_lead_49 (Nat.le_of_ble_eq_true rfl) rfl rfl ?_
        refine g_iload a11_lead_51 rfl ?_
        obtain ⟨w13, hw13, h⟩ := bnd_inv h
        have J14 : Go m11_lead 97 [some (.inr (.inr (11, k0))), some (.inl x1), none, some (.inl x3), none] [.inl w13] σ V S := by
          refine g_istore_n (L' := [some (.inr (.inr (11, k0))), some (.inl x1), some (.inl w13), some (.inl x3), none]) a11_lead_97 (Nat.le_of_ble_eq_true rfl) rfl rfl ?_
          refine g_iinc (v := (x3 + 2)) (L' := [some (.inr (.inr (11, k0))), some (.inl x1), some (.inl w13), some (.inl (x3 + 2)), none]) a11_lead_98 rfl rfl (Nat.le_of_ble_eq_true rfl) rfl rfl ?_
          refine g_goto (tgt := 18) a11_lead_101 rfl ?_
          exact g_weak (lE11_lead_18 (V := V) (S := S)  k0 x1 σ n _ _ h K1) ⟨rfl, rfl, rfl, rfl, trivial⟩
        clear h
        refine g_if_eq (tgt := 96) a11_lead_53 rfl (fun c19 => ?_) (fun c19 => ?_)
        · have hw13 := (if_pos c19).symm.trans hw13
          refine g_iload_n a11_lead_96 rfl ?_
          have hw13 := Option.some.inj hw13
          subst hw13
          exact g_weak J14 ⟨rfl, rfl, rfl, trivial⟩
        · have hw13 := (if_neg c19).symm.trans hw13
          refine g_iload_n a11_lead_56 rfl ?_
          refine g_aload_n a11_lead_57 rfl ?_
          refine g_getf (v := .inr (.inr (22, 0))) a11_lead_58 fs11_7 rfl ?_
          refine g_bipush (v := 6) a11_lead_61 rfl ?_
          refine g_iald (x := (σ.1 22 0 6)) a11_lead_63 (rI22 (by decide)) (inb_ok (by decide)) rfl ?_
          refine g_iconst (v := (-1)) a11_lead_64 rfl ?_
          refine g_ixor a11_lead_65 ?_
          refine g_iand a11_lead_66 ?_
          refine g_if_ne (tgt := 96) a11_lead_67 rfl (fun c18 => ?_) (fun c18 => ?_)
          · have hw13 := (if_neg c18).symm.trans hw13
            refine g_iload_n a11_lead_96 rfl ?_
            have hw13 := Option.some.inj hw13
            subst hw13
            exact g_weak J14 ⟨rfl, rfl, rfl, trivial⟩
          · have hw13 := (if_pos c18).symm.trans hw13
            refine g_aload_n a11_lead_70 rfl ?_
            refine g_getf (v := .inr (.inr (22, 0))) a11_lead_71 fs11_7 rfl ?_
            refine g_aload_n a11_lead_74 rfl ?_
            refine g_getf (v := .inr (.inr (22, 0))) a11_lead_75 fs11_7 rfl ?_
            refine g_bipush (v := 6) a11_lead_78 rfl ?_
            refine g_iald (x := (σ.1 22 0 6)) a11_lead_80 (rI22 (by decide)) (inb_ok (by decide)) rfl ?_
            refine g_iload_n a11_lead_81 rfl ?_
            refine g_iconst (v := (-1)) a11_lead_82 rfl ?_
            refine g_ixor a11_lead_83 ?_
            refine g_iand a11_lead_84 ?_
            refine g_iload_n a11_lead_85 rfl ?_
            obtain ⟨w15, hw15, hw13⟩ := bnd_inv hw13
            refine g_S3s (v1 := .inl w15) (σ1 := σ) a11_lead_86 cs11_112 (E11_struckOf hw15) rfl (fun o16 => ?_)
            refine g_if_ne (tgt := 96) a11_lead_89 rfl (fun c17 => ?_) (fun c17 => ?_)
            · have hw13 := (if_neg c17).symm.trans hw13
              refine g_iload_n a11_lead_96 rfl ?_
              have hw13 := Option.some.inj hw13
              subst hw13
              exact g_weak J14 ⟨rfl, rfl, rfl, trivial⟩
            · have hw13 := (if_pos c17).symm.trans hw13
              refine g_iload_n a11_lead_92 rfl ?_
              refine g_goto (tgt := 97) a11_lead_93 rfl ?_
              have hw13 := Option.some.inj hw13
              subst hw13
              exact g_weak J14 ⟨rfl, rfl, rfl, trivial⟩
      clear h
      refine g_icmp_eq (tgt := 44) a11_lead_30 rfl (fun c12 => ?_) (fun c12 => ?_)
      · have hw5 := (if_pos c12).symm.trans hw5
        refine g_iconst (v := 1) a11_lead_44 rfl ?_
        refine g_goto (tgt := 49) a11_lead_45 rfl ?_
        have hw5 := Option.some.inj hw5
        subst hw5
        exact J6
      · have hw5 := (if_neg c12).symm.trans hw5
        refine g_iload_n a11_lead_33 rfl ?_
        obtain ⟨w7, hw7, hw5⟩ := bnd_inv hw5
        refine g_S1s (v1 := .inl w7) (σ1 := σ) a11_lead_34 cs11_105 (E11_bits hw7) rfl (fun o8 => ?_)
        refine g_iload_n a11_lead_37 rfl ?_
        obtain ⟨w9, hw9, hw5⟩ := bnd_inv hw5
        refine g_S1s (v1 := .inl w9) (σ1 := σ) a11_lead_38 cs11_105 (E11_bits hw9) rfl (fun o10 => ?_)
        refine g_icmp_ge (tgt := 48) a11_lead_41 rfl (fun c11 => ?_) (fun c11 => ?_)
        · have hw5 := (if_pos c11).symm.trans hw5
          refine g_iconst (v := 0) a11_lead_48 rfl ?_
          have hw5 := Option.some.inj hw5
          subst hw5
          exact J6
        · have hw5 := (if_neg c11).symm.trans hw5
          refine g_iconst (v := 1) a11_lead_44 rfl ?_
          refine g_goto (tgt := 49) a11_lead_45 rfl ?_
          have hw5 := Option.some.inj hw5
          subst hw5
          exact J6
def f11_lead (k0 : Nat) (x1 : Int32) (σ : Mem) : Option (Int32 × Mem) :=
  if (f11_isCell x1) = 0 then
  (lt (f11_bad k0 (-2) σ) fun w2 =>
  some (w2.1, w2.2))
  else
  (bnd (l11_lead_18 k0 x1 σ 2000 (-1) 0) fun w21 =>
  some (w21.1, σ))
theorem E11_lead {k0 : Nat} {x1 : Int32} {σ : Mem} {w : Int32 × Mem} (h : f11_lead k0 x1 σ = some w) : Ev m11_lead [.inr (.inr (11, k0)), .inl x1] σ (some (.inl w.1) : Option AV) w.2 := by
  unfold f11_lead at h
  show Go m11_lead 0 [some (.inr (.inr (11, k0))), some (.inl x1), none, none, none] [] σ (some (.inl w.1) : Option AV) w.2
  refine g_iload_n a11_lead_0 rfl ?_
  refine g_S1s (v1 := .inl (f11_isCell x1)) (σ1 := σ) a11_lead_1 cs11_67 (E11_isCell _ _) rfl (fun o1 => ?_)
  refine g_if_ne (tgt := 14) a11_lead_4 rfl (fun c22 => ?_) (fun c22 => ?_)
  · have h := (if_neg c22).symm.trans h
    refine g_iconst (v := (-1)) a11_lead_14 rfl ?_
    refine g_istore_n (L' := [some (.inr (.inr (11, k0))), some (.inl x1), some (.inl (-1)), none, none]) a11_lead_15 (Nat.le_of_ble_eq_true rfl) rfl rfl ?_
    refine g_iconst (v := 0) a11_lead_16 rfl ?_
    refine g_istore_n (L' := [some (.inr (.inr (11, k0))), some (.inl x1), some (.inl (-1)), some (.inl 0), none]) a11_lead_17 (Nat.le_of_ble_eq_true rfl) rfl rfl ?_
    obtain ⟨w21, hw21, h⟩ := bnd_inv h
    refine g_weak (lE11_lead_18 k0 x1 σ 2000 _ _ hw21 ?_) ⟨rfl, rfl, rfl, rfl, trivial⟩
    refine g_iload_n a11_lead_104 rfl ?_
    have h := Option.some.inj h
    subst h
    exact g_retE a11_lead_105 trivial rfl rfl
  · have h := (if_pos c22).symm.trans h
    refine g_aload_n a11_lead_7 rfl ?_
    refine g_bipush (v := (-2)) a11_lead_8 rfl ?_
    obtain ⟨w2, hw2, h⟩ := lt_inv h
    refine g_V1s (v1 := .inl w2.1) (σ1 := w2.2) a11_lead_10 cv11_73 (by rw [← hw2]; exact E11_bad _ _ _) rfl (fun o3 => ?_)
    have h := Option.some.inj h
    subst h
    exact g_retE a11_lead_13 trivial rfl rfl
theorem a11_spare_0 : At cX11_spare 0 (.iconst (-1)) 1 1 := ⟨by decide +kernel, rfl⟩
theorem a11_spare_1 : At cX11_spare 1 (.istore_n 1) 1 2 := ⟨by decide +kernel, rfl⟩
theorem a11_spare_2 : At cX11_spare 2 (.iconst 0) 1 3 := ⟨by decide +kernel, rfl⟩
theorem a11_spare_3 : At cX11_spare 3 (.istore_n 2) 1 4 := ⟨by decide +kernel, rfl⟩
theorem a11_spare_4 : At cX11_spare 4 (.iload_n 2) 1 5 := ⟨by decide +kernel, rfl⟩
theorem a11_spare_5 : At cX11_spare 5 (.iconst 1) 1 6 := ⟨by decide +kernel, rfl⟩
theorem a11_spare_6 : At cX11_spare 6 (.aload_n 0) 1 7 := ⟨by decide +kernel, rfl⟩
theorem a11_spare_7 : At cX11_spare 7 (.invokevirtual 55) 3 10 := ⟨by decide +kernel, rfl⟩
theorem a11_spare_10 : At cX11_spare 10 (.ishl) 1 11 := ⟨by decide +kernel, rfl⟩
theorem a11_spare_11 : At cX11_spare 11 (.if_icmp .ge 59) 3 14 := ⟨by decide +kernel, rfl⟩
theorem a11_spare_14 : At cX11_spare 14 (.iload_n 1) 1 15 := ⟨by decide +kernel, rfl⟩
theorem a11_spare_15 : At cX11_spare 15 (.iconst (-1)) 1 16 := ⟨by decide +kernel, rfl⟩
theorem a11_spare_16 : At cX11_spare 16 (.if_icmp .eq 14) 3 19 := ⟨by decide +kernel, rfl⟩
theorem a11_spare_19 : At cX11_spare 19 (.iload_n 2) 1 20 := ⟨by decide +kernel, rfl⟩
theorem a11_spare_20 : At cX11_spare 20 (.invokestatic 105) 3 23 := ⟨by decide +kernel, rfl⟩
theorem a11_spare_23 : At cX11_spare 23 (.iload_n 1) 1 24 := ⟨by decide +kernel, rfl⟩
theorem a11_spare_24 : At cX11_spare 24 (.invokestatic 105) 3 27 := ⟨by decide +kernel, rfl⟩
theorem a11_spare_27 : At cX11_spare 27 (.if_icmp .ge 7) 3 30 := ⟨by decide +kernel, rfl⟩
theorem a11_spare_30 : At cX11_spare 30 (.iconst 1) 1 31 := ⟨by decide +kernel, rfl⟩
theorem a11_spare_31 : At cX11_spare 31 (.goto 4) 3 34 := ⟨by decide +kernel, rfl⟩
theorem a11_spare_34 : At cX11_spare 34 (.iconst 0) 1 35 := ⟨by decide +kernel, rfl⟩
theorem a11_spare_35 : At cX11_spare 35 (.istore_n 3) 1 36 := ⟨by decide +kernel, rfl⟩
theorem a11_spare_36 : At cX11_spare 36 (.iload_n 3) 1 37 := ⟨by decide +kernel, rfl⟩
theorem a11_spare_37 : At cX11_spare 37 (.ifCond .eq 25) 3 40 := ⟨by decide +kernel, rfl⟩
theorem a11_spare_40 : At cX11_spare 40 (.aload_n 0) 1 41 := ⟨by decide +kernel, rfl⟩
theorem a11_spare_41 : At cX11_spare 41 (.iload_n 2) 1 42 := ⟨by decide +kernel, rfl⟩
theorem a11_spare_42 : At cX11_spare 42 (.aload_n 0) 1 43 := ⟨by decide +kernel, rfl⟩
theorem a11_spare_43 : At cX11_spare 43 (.getfield 7) 3 46 := ⟨by decide +kernel, rfl⟩
theorem a11_spare_46 : At cX11_spare 46 (.bipush 6) 2 48 := ⟨by decide +kernel, rfl⟩
theorem a11_spare_48 : At cX11_spare 48 (.iaload) 1 49 := ⟨by decide +kernel, rfl⟩
theorem a11_spare_49 : At cX11_spare 49 (.iconst 1) 1 50 := ⟨by decide +kernel, rfl⟩
theorem a11_spare_50 : At cX11_spare 50 (.iand) 1 51 := ⟨by decide +kernel, rfl⟩
theorem a11_spare_51 : At cX11_spare 51 (.ior) 1 52 := ⟨by decide +kernel, rfl⟩
theorem a11_spare_52 : At cX11_spare 52 (.invokevirtual 153) 3 55 := ⟨by decide +kernel, rfl⟩
theorem a11_spare_55 : At cX11_spare 55 (.ifCond .ne 7) 3 58 := ⟨by decide +kernel, rfl⟩
theorem a11_spare_58 : At cX11_spare 58 (.iload_n 2) 1 59 := ⟨by decide +kernel, rfl⟩
theorem a11_spare_59 : At cX11_spare 59 (.goto 4) 3 62 := ⟨by decide +kernel, rfl⟩
theorem a11_spare_62 : At cX11_spare 62 (.iload_n 1) 1 63 := ⟨by decide +kernel, rfl⟩
theorem a11_spare_63 : At cX11_spare 63 (.istore_n 1) 1 64 := ⟨by decide +kernel, rfl⟩
theorem a11_spare_64 : At cX11_spare 64 (.iinc 2 2) 3 67 := ⟨by decide +kernel, rfl⟩
theorem a11_spare_67 : At cX11_spare 67 (.goto (-63)) 3 70 := ⟨by decide +kernel, rfl⟩
theorem a11_spare_70 : At cX11_spare 70 (.iload_n 1) 1 71 := ⟨by decide +kernel, rfl⟩
theorem a11_spare_71 : At cX11_spare 71 (.ireturn) 1 72 := ⟨by decide +kernel, rfl⟩
def l11_spare_4 (k0 : Nat) (σ : Mem) : Nat → Int32 → Int32 → Option (Int32 × Int32)
  | 0, _, _ => none
  | n + 1, x1, x2 =>
  if (1 <<< ((f11_many k0 σ) &&& 31)) ≤ x2 then
  (some (x1, x2))
  else
  (bnd (if x1 = (-1) then
  (some 1)
  else
  (bnd (f11_bits x2) fun w4 =>
  bnd (f11_bits x1) fun w6 =>
  if w6 ≤ w4 then
  (some 0)
  else
  (some 1)) : Option (Int32)) fun w2 =>
  bnd (if w2 = 0 then
  (some x1)
  else
  (bnd (f11_cellsBy k0 (x2 ||| ((σ.1 22 0 6) &&& 1)) σ) fun w12 =>
  if w12 = 0 then
  (some x2)
  else
  (some x1)) : Option (Int32)) fun w10 =>
  l11_spare_4 k0 σ n w10 (x2 + 2))
theorem lE11_spare_4 {V : Option AV} {S : Mem} (k0 : Nat) (σ : Mem) : ∀ (n : Nat) (x1 : Int32) (x2 : Int32) {w : Int32 × Int32}, l11_spare_4 k0 σ n x1 x2 = some w → (Go m11_spare 70 [some (.inr (.inr (11, k0))), some (.inl w.1), some (.inl w.2), none] [] σ V S) → Go m11_spare 4 [some (.inr (.inr (11, k0))), some (.inl x1), some (.inl x2), none] [] σ V S
  | 0, x1, x2, w, h, K1 => by cases h
  | n + 1, x1, x2, w, h, K1 => by
    rw [l11_spare_4] at h
    refine g_iload_n a11_spare_4 rfl ?_
    refine g_iconst (v := 1) a11_spare_5 rfl ?_
    refine g_aload_n a11_spare_6 rfl ?_
    refine g_V0s (v1 := .inl (f11_many k0 σ)) (σ1 := σ) a11_spare_7 cv11_55 (E11_many _ _) rfl (fun o1 => ?_)
    refine g_ishl a11_spare_10 ?_
    refine g_icmp_ge (tgt := 70) a11_spare_11 rfl (fun c16 => ?_) (fun c16 => ?_)
    · have h := (if_pos c16).symm.trans h
      have h := Option.some.inj h
      subst h
      exact g_weak K1 ⟨rfl, rfl, rfl, trivial⟩
    · have h := (if_neg c16).symm.trans h
      refine g_iload_n a11_spare_14 rfl ?_
      refine g_iconst (v := (-1)) a11_spare_15 rfl ?_
      obtain ⟨w2, hw2, h⟩ := bnd_inv h
      have J3 : Go m11_spare 35 [some (.inr (.inr (11, k0))), some (.inl x1), some (.inl x2), none] [.inl w2] σ V S := by
        refine g_istore_n (L' := [some (.inr (.inr (11, k0))), some (.inl x1), some (.inl x2), some (.inl w2)]) a11_spare_35 (Nat.le_of_ble_eq_true rfl) rfl rfl ?_
        refine g_iload_n a11_spare_36 rfl ?_
        obtain ⟨w10, hw10, h⟩ := bnd_inv h
        have J11 : Go m11_spare 63 [some (.inr (.inr (11, k0))), none, some (.inl x2), none] [.inl w10] σ V S := by
          refine g_istore_n (L' := [some (.inr (.inr (11, k0))), some (.inl w10), some (.inl x2), none]) a11_spare_63 (Nat.le_of_ble_eq_true rfl) rfl rfl ?_
          refine g_iinc (v := (x2 + 2)) (L' := [some (.inr (.inr (11, k0))), some (.inl w10), some (.inl (x2 + 2)), none]) a11_spare_64 rfl rfl (Nat.le_of_ble_eq_true rfl) rfl rfl ?_
          refine g_goto (tgt := 4) a11_spare_67 rfl ?_
          exact g_weak (lE11_spare_4 (V := V) (S := S)  k0 σ n _ _ h K1) ⟨rfl, rfl, rfl, trivial⟩
        clear h
        refine g_if_eq (tgt := 62) a11_spare_37 rfl (fun c15 => ?_) (fun c15 => ?_)
        · have hw10 := (if_pos c15).symm.trans hw10
          refine g_iload_n a11_spare_62 rfl ?_
          have hw10 := Option.some.inj hw10
          subst hw10
          exact g_weak J11 ⟨rfl, rfl, trivial⟩
        · have hw10 := (if_neg c15).symm.trans hw10
          refine g_aload_n a11_spare_40 rfl ?_
          refine g_iload_n a11_spare_41 rfl ?_
          refine g_aload_n a11_spare_42 rfl ?_
          refine g_getf (v := .inr (.inr (22, 0))) a11_spare_43 fs11_7 rfl ?_
          refine g_bipush (v := 6) a11_spare_46 rfl ?_
          refine g_iald (x := (σ.1 22 0 6)) a11_spare_48 (rI22 (by decide)) (inb_ok (by decide)) rfl ?_
          refine g_iconst (v := 1) a11_spare_49 rfl ?_
          refine g_iand a11_spare_50 ?_
          refine g_ior a11_spare_51 ?_
          obtain ⟨w12, hw12, hw10⟩ := bnd_inv hw10
          refine g_V1s (v1 := .inl w12) (σ1 := σ) a11_spare_52 cv11_153 (E11_cellsBy hw12) rfl (fun o13 => ?_)
          refine g_if_ne (tgt := 62) a11_spare_55 rfl (fun c14 => ?_) (fun c14 => ?_)
          · have hw10 := (if_neg c14).symm.trans hw10
            refine g_iload_n a11_spare_62 rfl ?_
            have hw10 := Option.some.inj hw10
            subst hw10
            exact g_weak J11 ⟨rfl, rfl, trivial⟩
          · have hw10 := (if_pos c14).symm.trans hw10
            refine g_iload_n a11_spare_58 rfl ?_
            refine g_goto (tgt := 63) a11_spare_59 rfl ?_
            have hw10 := Option.some.inj hw10
            subst hw10
            exact g_weak J11 ⟨rfl, rfl, trivial⟩
      clear h
      refine g_icmp_eq (tgt := 30) a11_spare_16 rfl (fun c9 => ?_) (fun c9 => ?_)
      · have hw2 := (if_pos c9).symm.trans hw2
        refine g_iconst (v := 1) a11_spare_30 rfl ?_
        refine g_goto (tgt := 35) a11_spare_31 rfl ?_
        have hw2 := Option.some.inj hw2
        subst hw2
        exact J3
      · have hw2 := (if_neg c9).symm.trans hw2
        refine g_iload_n a11_spare_19 rfl ?_
        obtain ⟨w4, hw4, hw2⟩ := bnd_inv hw2
        refine g_S1s (v1 := .inl w4) (σ1 := σ) a11_spare_20 cs11_105 (E11_bits hw4) rfl (fun o5 => ?_)
        refine g_iload_n a11_spare_23 rfl ?_
        obtain ⟨w6, hw6, hw2⟩ := bnd_inv hw2
        refine g_S1s (v1 := .inl w6) (σ1 := σ) a11_spare_24 cs11_105 (E11_bits hw6) rfl (fun o7 => ?_)
        refine g_icmp_ge (tgt := 34) a11_spare_27 rfl (fun c8 => ?_) (fun c8 => ?_)
        · have hw2 := (if_pos c8).symm.trans hw2
          refine g_iconst (v := 0) a11_spare_34 rfl ?_
          have hw2 := Option.some.inj hw2
          subst hw2
          exact J3
        · have hw2 := (if_neg c8).symm.trans hw2
          refine g_iconst (v := 1) a11_spare_30 rfl ?_
          refine g_goto (tgt := 35) a11_spare_31 rfl ?_
          have hw2 := Option.some.inj hw2
          subst hw2
          exact J3
def f11_spare (k0 : Nat) (σ : Mem) : Option (Int32) :=
  bnd (l11_spare_4 k0 σ 2000 (-1) 0) fun w17 =>
  some w17.1
theorem E11_spare {k0 : Nat} {σ : Mem} {w : Int32} (h : f11_spare k0 σ = some w) : Ev m11_spare [.inr (.inr (11, k0))] σ (some (.inl w) : Option AV) σ := by
  unfold f11_spare at h
  show Go m11_spare 0 [some (.inr (.inr (11, k0))), none, none, none] [] σ (some (.inl w) : Option AV) σ
  refine g_iconst (v := (-1)) a11_spare_0 rfl ?_
  refine g_istore_n (L' := [some (.inr (.inr (11, k0))), some (.inl (-1)), none, none]) a11_spare_1 (Nat.le_of_ble_eq_true rfl) rfl rfl ?_
  refine g_iconst (v := 0) a11_spare_2 rfl ?_
  refine g_istore_n (L' := [some (.inr (.inr (11, k0))), some (.inl (-1)), some (.inl 0), none]) a11_spare_3 (Nat.le_of_ble_eq_true rfl) rfl rfl ?_
  obtain ⟨w17, hw17, h⟩ := bnd_inv h
  refine g_weak (lE11_spare_4 k0 σ 2000 _ _ hw17 ?_) ⟨rfl, rfl, rfl, trivial⟩
  refine g_iload_n a11_spare_70 rfl ?_
  have h := Option.some.inj h
  subst h
  exact g_retE a11_spare_71 trivial rfl rfl
theorem a11_layMissing_0 : At cX11_layMissing 0 (.iconst 0) 1 1 := ⟨by decide +kernel, rfl⟩
theorem a11_layMissing_1 : At cX11_layMissing 1 (.istore_n 1) 1 2 := ⟨by decide +kernel, rfl⟩
theorem a11_layMissing_2 : At cX11_layMissing 2 (.iconst 0) 1 3 := ⟨by decide +kernel, rfl⟩
theorem a11_layMissing_3 : At cX11_layMissing 3 (.istore_n 2) 1 4 := ⟨by decide +kernel, rfl⟩
theorem a11_layMissing_4 : At cX11_layMissing 4 (.iload_n 2) 1 5 := ⟨by decide +kernel, rfl⟩
theorem a11_layMissing_5 : At cX11_layMissing 5 (.aload_n 0) 1 6 := ⟨by decide +kernel, rfl⟩
theorem a11_layMissing_6 : At cX11_layMissing 6 (.getfield 7) 3 9 := ⟨by decide +kernel, rfl⟩
theorem a11_layMissing_9 : At cX11_layMissing 9 (.iconst 1) 1 10 := ⟨by decide +kernel, rfl⟩
theorem a11_layMissing_10 : At cX11_layMissing 10 (.iaload) 1 11 := ⟨by decide +kernel, rfl⟩
theorem a11_layMissing_11 : At cX11_layMissing 11 (.if_icmp .ge 33) 3 14 := ⟨by decide +kernel, rfl⟩
theorem a11_layMissing_14 : At cX11_layMissing 14 (.aload_n 0) 1 15 := ⟨by decide +kernel, rfl⟩
theorem a11_layMissing_15 : At cX11_layMissing 15 (.getfield 7) 3 18 := ⟨by decide +kernel, rfl⟩
theorem a11_layMissing_18 : At cX11_layMissing 18 (.bipush 7) 2 20 := ⟨by decide +kernel, rfl⟩
theorem a11_layMissing_20 : At cX11_layMissing 20 (.iaload) 1 21 := ⟨by decide +kernel, rfl⟩
theorem a11_layMissing_21 : At cX11_layMissing 21 (.iload_n 2) 1 22 := ⟨by decide +kernel, rfl⟩
theorem a11_layMissing_22 : At cX11_layMissing 22 (.invokestatic 93) 3 25 := ⟨by decide +kernel, rfl⟩
theorem a11_layMissing_25 : At cX11_layMissing 25 (.ifCond .ne 13) 3 28 := ⟨by decide +kernel, rfl⟩
theorem a11_layMissing_28 : At cX11_layMissing 28 (.aload_n 0) 1 29 := ⟨by decide +kernel, rfl⟩
theorem a11_layMissing_29 : At cX11_layMissing 29 (.getfield 30) 3 32 := ⟨by decide +kernel, rfl⟩
theorem a11_layMissing_32 : At cX11_layMissing 32 (.iload_n 1) 1 33 := ⟨by decide +kernel, rfl⟩
theorem a11_layMissing_33 : At cX11_layMissing 33 (.iload_n 2) 1 34 := ⟨by decide +kernel, rfl⟩
theorem a11_layMissing_34 : At cX11_layMissing 34 (.iastore) 1 35 := ⟨by decide +kernel, rfl⟩
theorem a11_layMissing_35 : At cX11_layMissing 35 (.iinc 1 1) 3 38 := ⟨by decide +kernel, rfl⟩
theorem a11_layMissing_38 : At cX11_layMissing 38 (.iinc 2 1) 3 41 := ⟨by decide +kernel, rfl⟩
theorem a11_layMissing_41 : At cX11_layMissing 41 (.goto (-37)) 3 44 := ⟨by decide +kernel, rfl⟩
theorem a11_layMissing_44 : At cX11_layMissing 44 (.iload_n 1) 1 45 := ⟨by decide +kernel, rfl⟩
theorem a11_layMissing_45 : At cX11_layMissing 45 (.ireturn) 1 46 := ⟨by decide +kernel, rfl⟩
def l11_layMissing_4 (k0 : Nat) : Nat → Int32 → Int32 → Mem → Option (Int32 × Int32 × Mem)
  | 0, _, _, _ => none
  | n + 1, x1, x2, σ =>
  if (σ.1 22 0 1) ≤ x2 then
  (some (x1, x2, σ))
  else
  (bnd (if (f11_has (σ.1 22 0 7) x2) = 0 then
  (ck (inb x1 6) <|
  lt (sI σ 22 5 (x1 : Int32).toNatClampNeg x2) fun σ5 =>
  some ((x1 + 1), σ5))
  else
  (some (x1, σ)) : Option (Int32 × Mem)) fun w2 =>
  l11_layMissing_4 k0 n w2.1 (x2 + 1) w2.2)
theorem lE11_layMissing_4 {V : Option AV} {S : Mem} (k0 : Nat) : ∀ (n : Nat) (x1 : Int32) (x2 : Int32) (σ : Mem) {w : Int32 × Int32 × Mem}, l11_layMissing_4 k0 n x1 x2 σ = some w → (Go m11_layMissing 44 [some (.inr (.inr (11, k0))), some (.inl w.1), some (.inl w.2.1)] [] w.2.2 V S) → Go m11_layMissing 4 [some (.inr (.inr (11, k0))), some (.inl x1), some (.inl x2)] [] σ V S
  | 0, x1, x2, σ, w, h, K1 => by cases h
  | n + 1, x1, x2, σ, w, h, K1 => by
    rw [l11_layMissing_4] at h
    refine g_iload_n a11_layMissing_4 rfl ?_
    refine g_aload_n a11_layMissing_5 rfl ?_
    refine g_getf (v := .inr (.inr (22, 0))) a11_layMissing_6 fs11_7 rfl ?_
    refine g_iconst (v := 1) a11_layMissing_9 rfl ?_
    refine g_iald (x := (σ.1 22 0 1)) a11_layMissing_10 (rI22 (by decide)) (inb_ok (by decide)) rfl ?_
    refine g_icmp_ge (tgt := 44) a11_layMissing_11 rfl (fun c7 => ?_) (fun c7 => ?_)
    · have h := (if_pos c7).symm.trans h
      have h := Option.some.inj h
      subst h
      exact g_weak K1 ⟨rfl, rfl, rfl, trivial⟩
    · have h := (if_neg c7).symm.trans h
      refine g_aload_n a11_layMissing_14 rfl ?_
      refine g_getf (v := .inr (.inr (22, 0))) a11_layMissing_15 fs11_7 rfl ?_
      refine g_bipush (v := 7) a11_layMissing_18 rfl ?_
      refine g_iald (x := (σ.1 22 0 7)) a11_layMissing_20 (rI22 (by decide)) (inb_ok (by decide)) rfl ?_
      refine g_iload_n a11_layMissing_21 rfl ?_
      refine g_S2s (v1 := .inl (f11_has (σ.1 22 0 7) x2)) (σ1 := σ) a11_layMissing_22 cs11_93 (E11_has _ _ _) rfl (fun o1 => ?_)
      obtain ⟨w2, hw2, h⟩ := bnd_inv h
      have J3 : Go m11_layMissing 38 [some (.inr (.inr (11, k0))), some (.inl w2.1), some (.inl x2)] [] w2.2 V S := by
        refine g_iinc (v := (x2 + 1)) (L' := [some (.inr (.inr (11, k0))), some (.inl w2.1), some (.inl (x2 + 1))]) a11_layMissing_38 rfl rfl (Nat.le_of_ble_eq_true rfl) rfl rfl ?_
        refine g_goto (tgt := 4) a11_layMissing_41 rfl ?_
        exact g_weak (lE11_layMissing_4 (V := V) (S := S)  k0 n _ _ _ h K1) ⟨rfl, rfl, rfl, trivial⟩
      clear h
      refine g_if_ne (tgt := 38) a11_layMissing_25 rfl (fun c6 => ?_) (fun c6 => ?_)
      · have hw2 := (if_neg c6).symm.trans hw2
        have hw2 := Option.some.inj hw2
        subst hw2
        exact g_weak J3 ⟨rfl, rfl, rfl, trivial⟩
      · have hw2 := (if_pos c6).symm.trans hw2
        refine g_aload_n a11_layMissing_28 rfl ?_
        refine g_getf (v := .inr (.inr (22, 5))) a11_layMissing_29 fs11_30 rfl ?_
        refine g_iload_n a11_layMissing_32 rfl ?_
        refine g_iload_n a11_layMissing_33 rfl ?_
        obtain ⟨q4, hw2⟩ := ck_inv hw2
        obtain ⟨σ5, eσ5, hw2⟩ := lt_inv hw2
        refine g_iast (j := (x1 : Int32).toNatClampNeg) a11_layMissing_34 (rI22 (by decide)) (inb_ok q4) rfl ?_
        rw [eσ5]
        refine g_iinc (v := (x1 + 1)) (L' := [some (.inr (.inr (11, k0))), some (.inl (x1 + 1)), some (.inl x2)]) a11_layMissing_35 rfl rfl (Nat.le_of_ble_eq_true rfl) rfl rfl ?_
        have hw2 := Option.some.inj hw2
        subst hw2
        exact g_weak J3 ⟨rfl, rfl, rfl, trivial⟩
def f11_layMissing (k0 : Nat) (σ : Mem) : Option (Int32 × Mem) :=
  bnd (l11_layMissing_4 k0 2000 0 0 σ) fun w8 =>
  some (w8.1, w8.2.2)
theorem E11_layMissing {k0 : Nat} {σ : Mem} {w : Int32 × Mem} (h : f11_layMissing k0 σ = some w) : Ev m11_layMissing [.inr (.inr (11, k0))] σ (some (.inl w.1) : Option AV) w.2 := by
  unfold f11_layMissing at h
  show Go m11_layMissing 0 [some (.inr (.inr (11, k0))), none, none] [] σ (some (.inl w.1) : Option AV) w.2
  refine g_iconst (v := 0) a11_layMissing_0 rfl ?_
  refine g_istore_n (L' := [some (.inr (.inr (11, k0))), some (.inl 0), none]) a11_layMissing_1 (Nat.le_of_ble_eq_true rfl) rfl rfl ?_
  refine g_iconst (v := 0) a11_layMissing_2 rfl ?_
  refine g_istore_n (L' := [some (.inr (.inr (11, k0))), some (.inl 0), some (.inl 0)]) a11_layMissing_3 (Nat.le_of_ble_eq_true rfl) rfl rfl ?_
  obtain ⟨w8, hw8, h⟩ := bnd_inv h
  refine g_weak (lE11_layMissing_4 k0 2000 _ _ _ hw8 ?_) ⟨rfl, rfl, rfl, trivial⟩
  refine g_iload_n a11_layMissing_44 rfl ?_
  have h := Option.some.inj h
  subst h
  exact g_retE a11_layMissing_45 trivial rfl rfl
theorem a11_layOrder_0 : At cX11_layOrder 0 (.iconst 1) 1 1 := ⟨by decide +kernel, rfl⟩
theorem a11_layOrder_1 : At cX11_layOrder 1 (.iload_n 2) 1 2 := ⟨by decide +kernel, rfl⟩
theorem a11_layOrder_2 : At cX11_layOrder 2 (.ishl) 1 3 := ⟨by decide +kernel, rfl⟩
theorem a11_layOrder_3 : At cX11_layOrder 3 (.iconst 1) 1 4 := ⟨by decide +kernel, rfl⟩
theorem a11_layOrder_4 : At cX11_layOrder 4 (.isub) 1 5 := ⟨by decide +kernel, rfl⟩
theorem a11_layOrder_5 : At cX11_layOrder 5 (.istore_n 3) 1 6 := ⟨by decide +kernel, rfl⟩
theorem a11_layOrder_6 : At cX11_layOrder 6 (.iload_n 1) 1 7 := ⟨by decide +kernel, rfl⟩
theorem a11_layOrder_7 : At cX11_layOrder 7 (.istore 4) 2 9 := ⟨by decide +kernel, rfl⟩
theorem a11_layOrder_9 : At cX11_layOrder 9 (.iconst 1) 1 10 := ⟨by decide +kernel, rfl⟩
theorem a11_layOrder_10 : At cX11_layOrder 10 (.istore 5) 2 12 := ⟨by decide +kernel, rfl⟩
theorem a11_layOrder_12 : At cX11_layOrder 12 (.iconst 2) 1 13 := ⟨by decide +kernel, rfl⟩
theorem a11_layOrder_13 : At cX11_layOrder 13 (.istore 6) 2 15 := ⟨by decide +kernel, rfl⟩
theorem a11_layOrder_15 : At cX11_layOrder 15 (.iload 6) 2 17 := ⟨by decide +kernel, rfl⟩
theorem a11_layOrder_17 : At cX11_layOrder 17 (.iload_n 2) 1 18 := ⟨by decide +kernel, rfl⟩
theorem a11_layOrder_18 : At cX11_layOrder 18 (.if_icmp .ge 16) 3 21 := ⟨by decide +kernel, rfl⟩
theorem a11_layOrder_21 : At cX11_layOrder 21 (.iload 5) 2 23 := ⟨by decide +kernel, rfl⟩
theorem a11_layOrder_23 : At cX11_layOrder 23 (.iload 6) 2 25 := ⟨by decide +kernel, rfl⟩
theorem a11_layOrder_25 : At cX11_layOrder 25 (.imul) 1 26 := ⟨by decide +kernel, rfl⟩
theorem a11_layOrder_26 : At cX11_layOrder 26 (.istore 5) 2 28 := ⟨by decide +kernel, rfl⟩
theorem a11_layOrder_28 : At cX11_layOrder 28 (.iinc 6 1) 3 31 := ⟨by decide +kernel, rfl⟩
theorem a11_layOrder_31 : At cX11_layOrder 31 (.goto (-16)) 3 34 := ⟨by decide +kernel, rfl⟩
theorem a11_layOrder_34 : At cX11_layOrder 34 (.iconst 0) 1 35 := ⟨by decide +kernel, rfl⟩
theorem a11_layOrder_35 : At cX11_layOrder 35 (.istore 6) 2 37 := ⟨by decide +kernel, rfl⟩
theorem a11_layOrder_37 : At cX11_layOrder 37 (.iload 6) 2 39 := ⟨by decide +kernel, rfl⟩
theorem a11_layOrder_39 : At cX11_layOrder 39 (.iload_n 2) 1 40 := ⟨by decide +kernel, rfl⟩
theorem a11_layOrder_40 : At cX11_layOrder 40 (.if_icmp .ge 111) 3 43 := ⟨by decide +kernel, rfl⟩
theorem a11_layOrder_43 : At cX11_layOrder 43 (.iload 4) 2 45 := ⟨by decide +kernel, rfl⟩
theorem a11_layOrder_45 : At cX11_layOrder 45 (.iload 5) 2 47 := ⟨by decide +kernel, rfl⟩
theorem a11_layOrder_47 : At cX11_layOrder 47 (.idiv) 1 48 := ⟨by decide +kernel, rfl⟩
theorem a11_layOrder_48 : At cX11_layOrder 48 (.istore 7) 2 50 := ⟨by decide +kernel, rfl⟩
theorem a11_layOrder_50 : At cX11_layOrder 50 (.iconst 0) 1 51 := ⟨by decide +kernel, rfl⟩
theorem a11_layOrder_51 : At cX11_layOrder 51 (.istore 8) 2 53 := ⟨by decide +kernel, rfl⟩
theorem a11_layOrder_53 : At cX11_layOrder 53 (.iload 4) 2 55 := ⟨by decide +kernel, rfl⟩
theorem a11_layOrder_55 : At cX11_layOrder 55 (.iload 5) 2 57 := ⟨by decide +kernel, rfl⟩
theorem a11_layOrder_57 : At cX11_layOrder 57 (.irem) 1 58 := ⟨by decide +kernel, rfl⟩
theorem a11_layOrder_58 : At cX11_layOrder 58 (.istore 4) 2 60 := ⟨by decide +kernel, rfl⟩
theorem a11_layOrder_60 : At cX11_layOrder 60 (.iload 6) 2 62 := ⟨by decide +kernel, rfl⟩
theorem a11_layOrder_62 : At cX11_layOrder 62 (.iload_n 2) 1 63 := ⟨by decide +kernel, rfl⟩
theorem a11_layOrder_63 : At cX11_layOrder 63 (.iconst 2) 1 64 := ⟨by decide +kernel, rfl⟩
theorem a11_layOrder_64 : At cX11_layOrder 64 (.isub) 1 65 := ⟨by decide +kernel, rfl⟩
theorem a11_layOrder_65 : At cX11_layOrder 65 (.if_icmp .ge 15) 3 68 := ⟨by decide +kernel, rfl⟩
theorem a11_layOrder_68 : At cX11_layOrder 68 (.iload 5) 2 70 := ⟨by decide +kernel, rfl⟩
theorem a11_layOrder_70 : At cX11_layOrder 70 (.iload_n 2) 1 71 := ⟨by decide +kernel, rfl⟩
theorem a11_layOrder_71 : At cX11_layOrder 71 (.iconst 1) 1 72 := ⟨by decide +kernel, rfl⟩
theorem a11_layOrder_72 : At cX11_layOrder 72 (.isub) 1 73 := ⟨by decide +kernel, rfl⟩
theorem a11_layOrder_73 : At cX11_layOrder 73 (.iload 6) 2 75 := ⟨by decide +kernel, rfl⟩
theorem a11_layOrder_75 : At cX11_layOrder 75 (.isub) 1 76 := ⟨by decide +kernel, rfl⟩
theorem a11_layOrder_76 : At cX11_layOrder 76 (.idiv) 1 77 := ⟨by decide +kernel, rfl⟩
theorem a11_layOrder_77 : At cX11_layOrder 77 (.goto 4) 3 80 := ⟨by decide +kernel, rfl⟩
theorem a11_layOrder_80 : At cX11_layOrder 80 (.iconst 1) 1 81 := ⟨by decide +kernel, rfl⟩
theorem a11_layOrder_81 : At cX11_layOrder 81 (.istore 5) 2 83 := ⟨by decide +kernel, rfl⟩
theorem a11_layOrder_83 : At cX11_layOrder 83 (.iload_n 3) 1 84 := ⟨by decide +kernel, rfl⟩
theorem a11_layOrder_84 : At cX11_layOrder 84 (.iload 8) 2 86 := ⟨by decide +kernel, rfl⟩
theorem a11_layOrder_86 : At cX11_layOrder 86 (.invokestatic 93) 3 89 := ⟨by decide +kernel, rfl⟩
theorem a11_layOrder_89 : At cX11_layOrder 89 (.ifCond .eq 8) 3 92 := ⟨by decide +kernel, rfl⟩
theorem a11_layOrder_92 : At cX11_layOrder 92 (.iload 7) 2 94 := ⟨by decide +kernel, rfl⟩
theorem a11_layOrder_94 : At cX11_layOrder 94 (.ifCond .le 28) 3 97 := ⟨by decide +kernel, rfl⟩
theorem a11_layOrder_97 : At cX11_layOrder 97 (.iload 7) 2 99 := ⟨by decide +kernel, rfl⟩
theorem a11_layOrder_99 : At cX11_layOrder 99 (.iload_n 3) 1 100 := ⟨by decide +kernel, rfl⟩
theorem a11_layOrder_100 : At cX11_layOrder 100 (.iload 8) 2 102 := ⟨by decide +kernel, rfl⟩
theorem a11_layOrder_102 : At cX11_layOrder 102 (.invokestatic 93) 3 105 := ⟨by decide +kernel, rfl⟩
theorem a11_layOrder_105 : At cX11_layOrder 105 (.ifCond .eq 7) 3 108 := ⟨by decide +kernel, rfl⟩
theorem a11_layOrder_108 : At cX11_layOrder 108 (.iconst 1) 1 109 := ⟨by decide +kernel, rfl⟩
theorem a11_layOrder_109 : At cX11_layOrder 109 (.goto 4) 3 112 := ⟨by decide +kernel, rfl⟩
theorem a11_layOrder_112 : At cX11_layOrder 112 (.iconst 0) 1 113 := ⟨by decide +kernel, rfl⟩
theorem a11_layOrder_113 : At cX11_layOrder 113 (.isub) 1 114 := ⟨by decide +kernel, rfl⟩
theorem a11_layOrder_114 : At cX11_layOrder 114 (.istore 7) 2 116 := ⟨by decide +kernel, rfl⟩
theorem a11_layOrder_116 : At cX11_layOrder 116 (.iinc 8 1) 3 119 := ⟨by decide +kernel, rfl⟩
theorem a11_layOrder_119 : At cX11_layOrder 119 (.goto (-36)) 3 122 := ⟨by decide +kernel, rfl⟩
theorem a11_layOrder_122 : At cX11_layOrder 122 (.aload_n 0) 1 123 := ⟨by decide +kernel, rfl⟩
theorem a11_layOrder_123 : At cX11_layOrder 123 (.getfield 33) 3 126 := ⟨by decide +kernel, rfl⟩
theorem a11_layOrder_126 : At cX11_layOrder 126 (.iload 6) 2 128 := ⟨by decide +kernel, rfl⟩
theorem a11_layOrder_128 : At cX11_layOrder 128 (.aload_n 0) 1 129 := ⟨by decide +kernel, rfl⟩
theorem a11_layOrder_129 : At cX11_layOrder 129 (.getfield 30) 3 132 := ⟨by decide +kernel, rfl⟩
theorem a11_layOrder_132 : At cX11_layOrder 132 (.iload 8) 2 134 := ⟨by decide +kernel, rfl⟩
theorem a11_layOrder_134 : At cX11_layOrder 134 (.iaload) 1 135 := ⟨by decide +kernel, rfl⟩
theorem a11_layOrder_135 : At cX11_layOrder 135 (.iastore) 1 136 := ⟨by decide +kernel, rfl⟩
theorem a11_layOrder_136 : At cX11_layOrder 136 (.iload_n 3) 1 137 := ⟨by decide +kernel, rfl⟩
theorem a11_layOrder_137 : At cX11_layOrder 137 (.iconst 1) 1 138 := ⟨by decide +kernel, rfl⟩
theorem a11_layOrder_138 : At cX11_layOrder 138 (.iload 8) 2 140 := ⟨by decide +kernel, rfl⟩
theorem a11_layOrder_140 : At cX11_layOrder 140 (.ishl) 1 141 := ⟨by decide +kernel, rfl⟩
theorem a11_layOrder_141 : At cX11_layOrder 141 (.iconst (-1)) 1 142 := ⟨by decide +kernel, rfl⟩
theorem a11_layOrder_142 : At cX11_layOrder 142 (.ixor) 1 143 := ⟨by decide +kernel, rfl⟩
theorem a11_layOrder_143 : At cX11_layOrder 143 (.iand) 1 144 := ⟨by decide +kernel, rfl⟩
theorem a11_layOrder_144 : At cX11_layOrder 144 (.istore_n 3) 1 145 := ⟨by decide +kernel, rfl⟩
theorem a11_layOrder_145 : At cX11_layOrder 145 (.iinc 6 1) 3 148 := ⟨by decide +kernel, rfl⟩
theorem a11_layOrder_148 : At cX11_layOrder 148 (.goto (-111)) 3 151 := ⟨by decide +kernel, rfl⟩
theorem a11_layOrder_151 : At cX11_layOrder 151 (.return_) 1 152 := ⟨by decide +kernel, rfl⟩
def l11_layOrder_15 (k0 : Nat) (x2 : Int32) (x3 : Int32) (x4 : Int32) : Nat → Int32 → Int32 → Option (Int32 × Int32)
  | 0, _, _ => none
  | n + 1, x5, x6 =>
  if x2 ≤ x6 then
  (some (x5, x6))
  else
  (l11_layOrder_15 k0 x2 x3 x4 n (x5 * x6) (x6 + 1))
theorem lE11_layOrder_15 {V : Option AV} {S : Mem} (k0 : Nat) (x2 : Int32) (x3 : Int32) (x4 : Int32) {σ : Mem} : ∀ (n : Nat) (x5 : Int32) (x6 : Int32) {w : Int32 × Int32}, l11_layOrder_15 k0 x2 x3 x4 n x5 x6 = some w → (Go m11_layOrder 34 [some (.inr (.inr (11, k0))), none, some (.inl x2), some (.inl x3), some (.inl x4), some (.inl w.1), some (.inl w.2), none, none] [] σ V S) → Go m11_layOrder 15 [some (.inr (.inr (11, k0))), none, some (.inl x2), some (.inl x3), some (.inl x4), some (.inl x5), some (.inl x6), none, none] [] σ V S
  | 0, x5, x6, w, h, K1 => by cases h
  | n + 1, x5, x6, w, h, K1 => by
    rw [l11_layOrder_15] at h
    refine g_iload a11_layOrder_15 rfl ?_
    refine g_iload_n a11_layOrder_17 rfl ?_
    refine g_icmp_ge (tgt := 34) a11_layOrder_18 rfl (fun c1 => ?_) (fun c1 => ?_)
    · have h := (if_pos c1).symm.trans h
      have h := Option.some.inj h
      subst h
      exact g_weak K1 ⟨rfl, rfl, rfl, rfl, rfl, rfl, trivial⟩
    · have h := (if_neg c1).symm.trans h
      refine g_iload a11_layOrder_21 rfl ?_
      refine g_iload a11_layOrder_23 rfl ?_
      refine g_imul a11_layOrder_25 ?_
      refine g_istore (L' := [some (.inr (.inr (11, k0))), none, some (.inl x2), some (.inl x3), some (.inl x4), some (.inl (x5 * x6)), some (.inl x6), none, none]) a11_layOrder_26 (Nat.le_of_ble_eq_true rfl) rfl rfl ?_
      refine g_iinc (v := (x6 + 1)) (L' := [some (.inr (.inr (11, k0))), none, some (.inl x2), some (.inl x3), some (.inl x4), some (.inl (x5 * x6)), some (.inl (x6 + 1)), none, none]) a11_layOrder_28 rfl rfl (Nat.le_of_ble_eq_true rfl) rfl rfl ?_
      refine g_goto (tgt := 15) a11_layOrder_31 rfl ?_
      exact g_weak (lE11_layOrder_15 (V := V) (S := S)  k0 x2 x3 x4 n _ _ h K1) ⟨rfl, rfl, rfl, rfl, rfl, rfl, trivial⟩
def l11_layOrder_83 (k0 : Nat) (x2 : Int32) (x3 : Int32) (x4 : Int32) (x5 : Int32) (x6 : Int32) : Nat → Int32 → Int32 → Option (Int32 × Int32)
  | 0, _, _ => none
  | n + 1, x7, x8 =>
  if (f11_has x3 x8) = 0 then
  (lt (if (f11_has x3 x8) = 0 then
  (0)
  else
  (1) : Int32) fun w11 =>
  l11_layOrder_83 k0 x2 x3 x4 x5 x6 n (x7 - w11) (x8 + 1))
  else
  (if x7 ≤ 0 then
  (some (x7, x8))
  else
  (lt (if (f11_has x3 x8) = 0 then
  (0)
  else
  (1) : Int32) fun w16 =>
  l11_layOrder_83 k0 x2 x3 x4 x5 x6 n (x7 - w16) (x8 + 1)))
theorem lE11_layOrder_83 {V : Option AV} {S : Mem} (k0 : Nat) (x2 : Int32) (x3 : Int32) (x4 : Int32) (x5 : Int32) (x6 : Int32) {σ : Mem} : ∀ (n : Nat) (x7 : Int32) (x8 : Int32) {w : Int32 × Int32}, l11_layOrder_83 k0 x2 x3 x4 x5 x6 n x7 x8 = some w → (Go m11_layOrder 122 [some (.inr (.inr (11, k0))), none, some (.inl x2), some (.inl x3), some (.inl x4), some (.inl x5), some (.inl x6), some (.inl w.1), some (.inl w.2)] [] σ V S) → Go m11_layOrder 83 [some (.inr (.inr (11, k0))), none, some (.inl x2), some (.inl x3), some (.inl x4), some (.inl x5), some (.inl x6), some (.inl x7), some (.inl x8)] [] σ V S
  | 0, x7, x8, w, h, K1 => by cases h
  | n + 1, x7, x8, w, h, K1 => by
    rw [l11_layOrder_83] at h
    refine g_iload_n a11_layOrder_83 rfl ?_
    refine g_iload a11_layOrder_84 rfl ?_
    refine g_S2s (v1 := .inl (f11_has x3 x8)) (σ1 := σ) a11_layOrder_86 cs11_93 (E11_has _ _ _) rfl (fun o9 => ?_)
    refine g_if_eq (tgt := 97) a11_layOrder_89 rfl (fun c21 => ?_) (fun c21 => ?_)
    · have h := (if_pos c21).symm.trans h
      refine g_iload a11_layOrder_97 rfl ?_
      refine g_iload_n a11_layOrder_99 rfl ?_
      refine g_iload a11_layOrder_100 rfl ?_
      refine g_S2s (v1 := .inl (f11_has x3 x8)) (σ1 := σ) a11_layOrder_102 cs11_93 (E11_has _ _ _) rfl (fun o10 => ?_)
      obtain ⟨w11, hw11, h⟩ := lt_inv h
      have b14 : w11 = 0 ∨ w11 = 1 := by rw [← hw11]; repeat (first | exact Or.inl rfl | exact Or.inr rfl | split)
      have J12 : Go m11_layOrder 113 [some (.inr (.inr (11, k0))), none, some (.inl x2), some (.inl x3), some (.inl x4), some (.inl x5), some (.inl x6), none, some (.inl x8)] [.inl w11, .inl x7] σ V S := by
        refine g_isub a11_layOrder_113 ?_
        refine g_istore (L' := [some (.inr (.inr (11, k0))), none, some (.inl x2), some (.inl x3), some (.inl x4), some (.inl x5), some (.inl x6), some (.inl (x7 - w11)), some (.inl x8)]) a11_layOrder_114 (Nat.le_of_ble_eq_true rfl) rfl rfl ?_
        refine g_iinc (v := (x8 + 1)) (L' := [some (.inr (.inr (11, k0))), none, some (.inl x2), some (.inl x3), some (.inl x4), some (.inl x5), some (.inl x6), some (.inl (x7 - w11)), some (.inl (x8 + 1))]) a11_layOrder_116 rfl rfl (Nat.le_of_ble_eq_true rfl) rfl rfl ?_
        refine g_goto (tgt := 83) a11_layOrder_119 rfl ?_
        exact g_weak (lE11_layOrder_83 (V := V) (S := S)  k0 x2 x3 x4 x5 x6 n _ _ h K1) ⟨rfl, rfl, rfl, rfl, rfl, rfl, rfl, rfl, trivial⟩
      clear h
      refine g_if_eq (tgt := 112) a11_layOrder_105 rfl (fun c13 => ?_) (fun c13 => ?_)
      · have hw11 := (if_pos c13).symm.trans hw11
        refine g_iconst (v := 0) a11_layOrder_112 rfl ?_
        subst hw11
        exact g_weak J12 ⟨rfl, rfl, rfl, rfl, rfl, rfl, rfl, trivial⟩
      · have hw11 := (if_neg c13).symm.trans hw11
        refine g_iconst (v := 1) a11_layOrder_108 rfl ?_
        refine g_goto (tgt := 113) a11_layOrder_109 rfl ?_
        subst hw11
        exact g_weak J12 ⟨rfl, rfl, rfl, rfl, rfl, rfl, rfl, trivial⟩
    · have h := (if_neg c21).symm.trans h
      refine g_iload a11_layOrder_92 rfl ?_
      refine g_if_le (tgt := 122) a11_layOrder_94 rfl (fun c20 => ?_) (fun c20 => ?_)
      · have h := (if_pos c20).symm.trans h
        have h := Option.some.inj h
        subst h
        exact g_weak K1 ⟨rfl, rfl, rfl, rfl, rfl, rfl, rfl, rfl, trivial⟩
      · have h := (if_neg c20).symm.trans h
        refine g_iload a11_layOrder_97 rfl ?_
        refine g_iload_n a11_layOrder_99 rfl ?_
        refine g_iload a11_layOrder_100 rfl ?_
        refine g_S2s (v1 := .inl (f11_has x3 x8)) (σ1 := σ) a11_layOrder_102 cs11_93 (E11_has _ _ _) rfl (fun o15 => ?_)
        obtain ⟨w16, hw16, h⟩ := lt_inv h
        have b19 : w16 = 0 ∨ w16 = 1 := by rw [← hw16]; repeat (first | exact Or.inl rfl | exact Or.inr rfl | split)
        have J17 : Go m11_layOrder 113 [some (.inr (.inr (11, k0))), none, some (.inl x2), some (.inl x3), some (.inl x4), some (.inl x5), some (.inl x6), none, some (.inl x8)] [.inl w16, .inl x7] σ V S := by
          refine g_isub a11_layOrder_113 ?_
          refine g_istore (L' := [some (.inr (.inr (11, k0))), none, some (.inl x2), some (.inl x3), some (.inl x4), some (.inl x5), some (.inl x6), some (.inl (x7 - w16)), some (.inl x8)]) a11_layOrder_114 (Nat.le_of_ble_eq_true rfl) rfl rfl ?_
          refine g_iinc (v := (x8 + 1)) (L' := [some (.inr (.inr (11, k0))), none, some (.inl x2), some (.inl x3), some (.inl x4), some (.inl x5), some (.inl x6), some (.inl (x7 - w16)), some (.inl (x8 + 1))]) a11_layOrder_116 rfl rfl (Nat.le_of_ble_eq_true rfl) rfl rfl ?_
          refine g_goto (tgt := 83) a11_layOrder_119 rfl ?_
          exact g_weak (lE11_layOrder_83 (V := V) (S := S)  k0 x2 x3 x4 x5 x6 n _ _ h K1) ⟨rfl, rfl, rfl, rfl, rfl, rfl, rfl, rfl, trivial⟩
        clear h
        refine g_if_eq (tgt := 112) a11_layOrder_105 rfl (fun c18 => ?_) (fun c18 => ?_)
        · have hw16 := (if_pos c18).symm.trans hw16
          refine g_iconst (v := 0) a11_layOrder_112 rfl ?_
          subst hw16
          exact g_weak J17 ⟨rfl, rfl, rfl, rfl, rfl, rfl, rfl, trivial⟩
        · have hw16 := (if_neg c18).symm.trans hw16
          refine g_iconst (v := 1) a11_layOrder_108 rfl ?_
          refine g_goto (tgt := 113) a11_layOrder_109 rfl ?_
          subst hw16
          exact g_weak J17 ⟨rfl, rfl, rfl, rfl, rfl, rfl, rfl, trivial⟩
def l11_layOrder_37 (k0 : Nat) (x2 : Int32) : Nat → Int32 → Int32 → Int32 → Int32 → Mem → Option (Int32 × Int32 × Int32 × Int32 × Mem)
  | 0, _, _, _, _, _ => none
  | n + 1, x3, x4, x5, x6, σ =>
  if x2 ≤ x6 then
  (some (x3, x4, x5, x6, σ))
  else
  (ck (decide (¬ x5 = 0)) <|
  ck (decide (¬ x5 = 0)) <|
  bnd (if (x2 - 2) ≤ x6 then
  (some 1)
  else
  (ck (decide (¬ ((x2 - 1) - x6) = 0)) <|
  some (x5 / ((x2 - 1) - x6))) : Option (Int32)) fun w5 =>
  bnd (l11_layOrder_83 k0 x2 x3 (x4 - x4 / x5 * x5) w5 x6 2000 (x4 / x5) 0) fun w22 =>
  ck (inb w22.2 6) <|
  ck (inb x6 6) <|
  lt (sI σ 22 6 (x6 : Int32).toNatClampNeg (σ.1 22 5 (w22.2 : Int32).toNatClampNeg)) fun σ25 =>
  l11_layOrder_37 k0 x2 n (x3 &&& ((1 <<< (w22.2 &&& 31)) ^^^ (-1))) (x4 - x4 / x5 * x5) w5 (x6 + 1) σ25)
theorem lE11_layOrder_37 {V : Option AV} {S : Mem} (k0 : Nat) (x2 : Int32) : ∀ (n : Nat) (x3 : Int32) (x4 : Int32) (x5 : Int32) (x6 : Int32) (σ : Mem) {w : Int32 × Int32 × Int32 × Int32 × Mem}, l11_layOrder_37 k0 x2 n x3 x4 x5 x6 σ = some w → (Go m11_layOrder 151 [some (.inr (.inr (11, k0))), none, some (.inl x2), some (.inl w.1), some (.inl w.2.1), some (.inl w.2.2.1), some (.inl w.2.2.2.1), none, none] [] w.2.2.2.2 V S) → Go m11_layOrder 37 [some (.inr (.inr (11, k0))), none, some (.inl x2), some (.inl x3), some (.inl x4), some (.inl x5), some (.inl x6), none, none] [] σ V S
  | 0, x3, x4, x5, x6, σ, w, h, K1 => by cases h
  | n + 1, x3, x4, x5, x6, σ, w, h, K1 => by
    rw [l11_layOrder_37] at h
    refine g_iload a11_layOrder_37 rfl ?_
    refine g_iload_n a11_layOrder_39 rfl ?_
    refine g_icmp_ge (tgt := 151) a11_layOrder_40 rfl (fun c26 => ?_) (fun c26 => ?_)
    · have h := (if_pos c26).symm.trans h
      have h := Option.some.inj h
      subst h
      exact g_weak K1 ⟨rfl, rfl, rfl, rfl, rfl, rfl, trivial⟩
    · have h := (if_neg c26).symm.trans h
      refine g_iload a11_layOrder_43 rfl ?_
      refine g_iload a11_layOrder_45 rfl ?_
      obtain ⟨q3, h⟩ := ck_inv h
      refine g_idiv a11_layOrder_47 (of_decide_eq_true q3) ?_
      refine g_istore (L' := [some (.inr (.inr (11, k0))), none, some (.inl x2), some (.inl x3), some (.inl x4), some (.inl x5), some (.inl x6), some (.inl (x4 / x5)), none]) a11_layOrder_48 (Nat.le_of_ble_eq_true rfl) rfl rfl ?_
      refine g_iconst (v := 0) a11_layOrder_50 rfl ?_
      refine g_istore (L' := [some (.inr (.inr (11, k0))), none, some (.inl x2), some (.inl x3), some (.inl x4), some (.inl x5), some (.inl x6), some (.inl (x4 / x5)), some (.inl 0)]) a11_layOrder_51 (Nat.le_of_ble_eq_true rfl) rfl rfl ?_
      refine g_iload a11_layOrder_53 rfl ?_
      refine g_iload a11_layOrder_55 rfl ?_
      obtain ⟨q4, h⟩ := ck_inv h
      refine g_irem a11_layOrder_57 (of_decide_eq_true q4) ?_
      refine g_istore (L' := [some (.inr (.inr (11, k0))), none, some (.inl x2), some (.inl x3), some (.inl (x4 - x4 / x5 * x5)), some (.inl x5), some (.inl x6), some (.inl (x4 / x5)), some (.inl 0)]) a11_layOrder_58 (Nat.le_of_ble_eq_true rfl) rfl rfl ?_
      refine g_iload a11_layOrder_60 rfl ?_
      refine g_iload_n a11_layOrder_62 rfl ?_
      refine g_iconst (v := 2) a11_layOrder_63 rfl ?_
      refine g_isub a11_layOrder_64 ?_
      obtain ⟨w5, hw5, h⟩ := bnd_inv h
      have J6 : Go m11_layOrder 81 [some (.inr (.inr (11, k0))), none, some (.inl x2), some (.inl x3), some (.inl (x4 - x4 / x5 * x5)), none, some (.inl x6), some (.inl (x4 / x5)), some (.inl 0)] [.inl w5] σ V S := by
        refine g_istore (L' := [some (.inr (.inr (11, k0))), none, some (.inl x2), some (.inl x3), some (.inl (x4 - x4 / x5 * x5)), some (.inl w5), some (.inl x6), some (.inl (x4 / x5)), some (.inl 0)]) a11_layOrder_81 (Nat.le_of_ble_eq_true rfl) rfl rfl ?_
        obtain ⟨w22, hw22, h⟩ := bnd_inv h
        refine g_weak (lE11_layOrder_83 k0 x2 x3 (x4 - x4 / x5 * x5) w5 x6 2000 _ _ hw22 ?_) ⟨rfl, rfl, rfl, rfl, rfl, rfl, rfl, rfl, trivial⟩
        refine g_aload_n a11_layOrder_122 rfl ?_
        refine g_getf (v := .inr (.inr (22, 6))) a11_layOrder_123 fs11_33 rfl ?_
        refine g_iload a11_layOrder_126 rfl ?_
        refine g_aload_n a11_layOrder_128 rfl ?_
        refine g_getf (v := .inr (.inr (22, 5))) a11_layOrder_129 fs11_30 rfl ?_
        refine g_iload a11_layOrder_132 rfl ?_
        obtain ⟨q23, h⟩ := ck_inv h
        refine g_iald (x := (σ.1 22 5 (w22.2 : Int32).toNatClampNeg)) a11_layOrder_134 (rI22 (by decide)) (inb_ok q23) rfl ?_
        obtain ⟨q24, h⟩ := ck_inv h
        obtain ⟨σ25, eσ25, h⟩ := lt_inv h
        refine g_iast (j := (x6 : Int32).toNatClampNeg) a11_layOrder_135 (rI22 (by decide)) (inb_ok q24) rfl ?_
        rw [eσ25]
        refine g_iload_n a11_layOrder_136 rfl ?_
        refine g_iconst (v := 1) a11_layOrder_137 rfl ?_
        refine g_iload a11_layOrder_138 rfl ?_
        refine g_ishl a11_layOrder_140 ?_
        refine g_iconst (v := (-1)) a11_layOrder_141 rfl ?_
        refine g_ixor a11_layOrder_142 ?_
        refine g_iand a11_layOrder_143 ?_
        refine g_istore_n (L' := [some (.inr (.inr (11, k0))), none, some (.inl x2), some (.inl (x3 &&& ((1 <<< (w22.2 &&& 31)) ^^^ (-1)))), some (.inl (x4 - x4 / x5 * x5)), some (.inl w5), some (.inl x6), some (.inl w22.1), some (.inl w22.2)]) a11_layOrder_144 (Nat.le_of_ble_eq_true rfl) rfl rfl ?_
        refine g_iinc (v := (x6 + 1)) (L' := [some (.inr (.inr (11, k0))), none, some (.inl x2), some (.inl (x3 &&& ((1 <<< (w22.2 &&& 31)) ^^^ (-1)))), some (.inl (x4 - x4 / x5 * x5)), some (.inl w5), some (.inl (x6 + 1)), some (.inl w22.1), some (.inl w22.2)]) a11_layOrder_145 rfl rfl (Nat.le_of_ble_eq_true rfl) rfl rfl ?_
        refine g_goto (tgt := 37) a11_layOrder_148 rfl ?_
        exact g_weak (lE11_layOrder_37 (V := V) (S := S)  k0 x2 n _ _ _ _ _ h K1) ⟨rfl, rfl, rfl, rfl, rfl, rfl, trivial⟩
      clear h
      refine g_icmp_ge (tgt := 80) a11_layOrder_65 rfl (fun c8 => ?_) (fun c8 => ?_)
      · have hw5 := (if_pos c8).symm.trans hw5
        refine g_iconst (v := 1) a11_layOrder_80 rfl ?_
        have hw5 := Option.some.inj hw5
        subst hw5
        exact g_weak J6 ⟨rfl, rfl, rfl, rfl, rfl, rfl, rfl, trivial⟩
      · have hw5 := (if_neg c8).symm.trans hw5
        refine g_iload a11_layOrder_68 rfl ?_
        refine g_iload_n a11_layOrder_70 rfl ?_
        refine g_iconst (v := 1) a11_layOrder_71 rfl ?_
        refine g_isub a11_layOrder_72 ?_
        refine g_iload a11_layOrder_73 rfl ?_
        refine g_isub a11_layOrder_75 ?_
        obtain ⟨q7, hw5⟩ := ck_inv hw5
        refine g_idiv a11_layOrder_76 (of_decide_eq_true q7) ?_
        refine g_goto (tgt := 81) a11_layOrder_77 rfl ?_
        have hw5 := Option.some.inj hw5
        subst hw5
        exact g_weak J6 ⟨rfl, rfl, rfl, rfl, rfl, rfl, rfl, trivial⟩
def f11_layOrder (k0 : Nat) (x1 : Int32) (x2 : Int32) (σ : Mem) : Option (Mem) :=
  bnd (l11_layOrder_15 k0 x2 ((1 <<< (x2 &&& 31)) - 1) x1 2000 1 2) fun w2 =>
  bnd (l11_layOrder_37 k0 x2 2000 ((1 <<< (x2 &&& 31)) - 1) x1 w2.1 0 σ) fun w27 =>
  some w27.2.2.2.2
theorem E11_layOrder {k0 : Nat} {x1 : Int32} {x2 : Int32} {σ : Mem} {w : Mem} (h : f11_layOrder k0 x1 x2 σ = some w) : Ev m11_layOrder [.inr (.inr (11, k0)), .inl x1, .inl x2] σ none w := by
  unfold f11_layOrder at h
  show Go m11_layOrder 0 [some (.inr (.inr (11, k0))), some (.inl x1), some (.inl x2), none, none, none, none, none, none] [] σ none w
  refine g_iconst (v := 1) a11_layOrder_0 rfl ?_
  refine g_iload_n a11_layOrder_1 rfl ?_
  refine g_ishl a11_layOrder_2 ?_
  refine g_iconst (v := 1) a11_layOrder_3 rfl ?_
  refine g_isub a11_layOrder_4 ?_
  refine g_istore_n (L' := [some (.inr (.inr (11, k0))), some (.inl x1), some (.inl x2), some (.inl ((1 <<< (x2 &&& 31)) - 1)), none, none, none, none, none]) a11_layOrder_5 (Nat.le_of_ble_eq_true rfl) rfl rfl ?_
  refine g_iload_n a11_layOrder_6 rfl ?_
  refine g_istore (L' := [some (.inr (.inr (11, k0))), some (.inl x1), some (.inl x2), some (.inl ((1 <<< (x2 &&& 31)) - 1)), some (.inl x1), none, none, none, none]) a11_layOrder_7 (Nat.le_of_ble_eq_true rfl) rfl rfl ?_
  refine g_iconst (v := 1) a11_layOrder_9 rfl ?_
  refine g_istore (L' := [some (.inr (.inr (11, k0))), some (.inl x1), some (.inl x2), some (.inl ((1 <<< (x2 &&& 31)) - 1)), some (.inl x1), some (.inl 1), none, none, none]) a11_layOrder_10 (Nat.le_of_ble_eq_true rfl) rfl rfl ?_
  refine g_iconst (v := 2) a11_layOrder_12 rfl ?_
  refine g_istore (L' := [some (.inr (.inr (11, k0))), some (.inl x1), some (.inl x2), some (.inl ((1 <<< (x2 &&& 31)) - 1)), some (.inl x1), some (.inl 1), some (.inl 2), none, none]) a11_layOrder_13 (Nat.le_of_ble_eq_true rfl) rfl rfl ?_
  obtain ⟨w2, hw2, h⟩ := bnd_inv h
  refine g_weak (lE11_layOrder_15 k0 x2 ((1 <<< (x2 &&& 31)) - 1) x1 2000 _ _ hw2 ?_) ⟨rfl, rfl, rfl, rfl, rfl, rfl, trivial⟩
  refine g_iconst (v := 0) a11_layOrder_34 rfl ?_
  refine g_istore (L' := [some (.inr (.inr (11, k0))), none, some (.inl x2), some (.inl ((1 <<< (x2 &&& 31)) - 1)), some (.inl x1), some (.inl w2.1), some (.inl 0), none, none]) a11_layOrder_35 (Nat.le_of_ble_eq_true rfl) rfl rfl ?_
  obtain ⟨w27, hw27, h⟩ := bnd_inv h
  refine g_weak (lE11_layOrder_37 k0 x2 2000 _ _ _ _ _ hw27 ?_) ⟨rfl, rfl, rfl, rfl, rfl, rfl, trivial⟩
  have h := Option.some.inj h
  subst h
  exact g_retE a11_layOrder_151 trivial rfl rfl
theorem a11_comeBy_0 : At cX11_comeBy 0 (.iload_n 2) 1 1 := ⟨by decide +kernel, rfl⟩
theorem a11_comeBy_1 : At cX11_comeBy 1 (.istore_n 3) 1 2 := ⟨by decide +kernel, rfl⟩
theorem a11_comeBy_2 : At cX11_comeBy 2 (.aload_n 0) 1 3 := ⟨by decide +kernel, rfl⟩
theorem a11_comeBy_3 : At cX11_comeBy 3 (.getfield 7) 3 6 := ⟨by decide +kernel, rfl⟩
theorem a11_comeBy_6 : At cX11_comeBy 6 (.bipush 7) 2 8 := ⟨by decide +kernel, rfl⟩
theorem a11_comeBy_8 : At cX11_comeBy 8 (.iaload) 1 9 := ⟨by decide +kernel, rfl⟩
theorem a11_comeBy_9 : At cX11_comeBy 9 (.invokestatic 105) 3 12 := ⟨by decide +kernel, rfl⟩
theorem a11_comeBy_12 : At cX11_comeBy 12 (.istore 4) 2 14 := ⟨by decide +kernel, rfl⟩
theorem a11_comeBy_14 : At cX11_comeBy 14 (.iconst 0) 1 15 := ⟨by decide +kernel, rfl⟩
theorem a11_comeBy_15 : At cX11_comeBy 15 (.istore 5) 2 17 := ⟨by decide +kernel, rfl⟩
theorem a11_comeBy_17 : At cX11_comeBy 17 (.iload 5) 2 19 := ⟨by decide +kernel, rfl⟩
theorem a11_comeBy_19 : At cX11_comeBy 19 (.iload_n 1) 1 20 := ⟨by decide +kernel, rfl⟩
theorem a11_comeBy_20 : At cX11_comeBy 20 (.if_icmp .ge 76) 3 23 := ⟨by decide +kernel, rfl⟩
theorem a11_comeBy_23 : At cX11_comeBy 23 (.iload_n 3) 1 24 := ⟨by decide +kernel, rfl⟩
theorem a11_comeBy_24 : At cX11_comeBy 24 (.aload_n 0) 1 25 := ⟨by decide +kernel, rfl⟩
theorem a11_comeBy_25 : At cX11_comeBy 25 (.getfield 7) 3 28 := ⟨by decide +kernel, rfl⟩
theorem a11_comeBy_28 : At cX11_comeBy 28 (.bipush 40) 2 30 := ⟨by decide +kernel, rfl⟩
theorem a11_comeBy_30 : At cX11_comeBy 30 (.aload_n 0) 1 31 := ⟨by decide +kernel, rfl⟩
theorem a11_comeBy_31 : At cX11_comeBy 31 (.getfield 33) 3 34 := ⟨by decide +kernel, rfl⟩
theorem a11_comeBy_34 : At cX11_comeBy 34 (.iload 5) 2 36 := ⟨by decide +kernel, rfl⟩
theorem a11_comeBy_36 : At cX11_comeBy 36 (.iaload) 1 37 := ⟨by decide +kernel, rfl⟩
theorem a11_comeBy_37 : At cX11_comeBy 37 (.iadd) 1 38 := ⟨by decide +kernel, rfl⟩
theorem a11_comeBy_38 : At cX11_comeBy 38 (.iaload) 1 39 := ⟨by decide +kernel, rfl⟩
theorem a11_comeBy_39 : At cX11_comeBy 39 (.iload 4) 2 41 := ⟨by decide +kernel, rfl⟩
theorem a11_comeBy_41 : At cX11_comeBy 41 (.iload 5) 2 43 := ⟨by decide +kernel, rfl⟩
theorem a11_comeBy_43 : At cX11_comeBy 43 (.iadd) 1 44 := ⟨by decide +kernel, rfl⟩
theorem a11_comeBy_44 : At cX11_comeBy 44 (.aload_n 0) 1 45 := ⟨by decide +kernel, rfl⟩
theorem a11_comeBy_45 : At cX11_comeBy 45 (.getfield 7) 3 48 := ⟨by decide +kernel, rfl⟩
theorem a11_comeBy_48 : At cX11_comeBy 48 (.bipush 9) 2 50 := ⟨by decide +kernel, rfl⟩
theorem a11_comeBy_50 : At cX11_comeBy 50 (.iaload) 1 51 := ⟨by decide +kernel, rfl⟩
theorem a11_comeBy_51 : At cX11_comeBy 51 (.invokestatic 108) 3 54 := ⟨by decide +kernel, rfl⟩
theorem a11_comeBy_54 : At cX11_comeBy 54 (.if_icmp .lt 42) 3 57 := ⟨by decide +kernel, rfl⟩
theorem a11_comeBy_57 : At cX11_comeBy 57 (.iload_n 3) 1 58 := ⟨by decide +kernel, rfl⟩
theorem a11_comeBy_58 : At cX11_comeBy 58 (.aload_n 0) 1 59 := ⟨by decide +kernel, rfl⟩
theorem a11_comeBy_59 : At cX11_comeBy 59 (.getfield 7) 3 62 := ⟨by decide +kernel, rfl⟩
theorem a11_comeBy_62 : At cX11_comeBy 62 (.bipush 40) 2 64 := ⟨by decide +kernel, rfl⟩
theorem a11_comeBy_64 : At cX11_comeBy 64 (.aload_n 0) 1 65 := ⟨by decide +kernel, rfl⟩
theorem a11_comeBy_65 : At cX11_comeBy 65 (.getfield 33) 3 68 := ⟨by decide +kernel, rfl⟩
theorem a11_comeBy_68 : At cX11_comeBy 68 (.iload 5) 2 70 := ⟨by decide +kernel, rfl⟩
theorem a11_comeBy_70 : At cX11_comeBy 70 (.iaload) 1 71 := ⟨by decide +kernel, rfl⟩
theorem a11_comeBy_71 : At cX11_comeBy 71 (.iadd) 1 72 := ⟨by decide +kernel, rfl⟩
theorem a11_comeBy_72 : At cX11_comeBy 72 (.iaload) 1 73 := ⟨by decide +kernel, rfl⟩
theorem a11_comeBy_73 : At cX11_comeBy 73 (.iload 4) 2 75 := ⟨by decide +kernel, rfl⟩
theorem a11_comeBy_75 : At cX11_comeBy 75 (.iload 5) 2 77 := ⟨by decide +kernel, rfl⟩
theorem a11_comeBy_77 : At cX11_comeBy 77 (.iadd) 1 78 := ⟨by decide +kernel, rfl⟩
theorem a11_comeBy_78 : At cX11_comeBy 78 (.aload_n 0) 1 79 := ⟨by decide +kernel, rfl⟩
theorem a11_comeBy_79 : At cX11_comeBy 79 (.getfield 7) 3 82 := ⟨by decide +kernel, rfl⟩
theorem a11_comeBy_82 : At cX11_comeBy 82 (.bipush 9) 2 84 := ⟨by decide +kernel, rfl⟩
theorem a11_comeBy_84 : At cX11_comeBy 84 (.iaload) 1 85 := ⟨by decide +kernel, rfl⟩
theorem a11_comeBy_85 : At cX11_comeBy 85 (.invokestatic 108) 3 88 := ⟨by decide +kernel, rfl⟩
theorem a11_comeBy_88 : At cX11_comeBy 88 (.isub) 1 89 := ⟨by decide +kernel, rfl⟩
theorem a11_comeBy_89 : At cX11_comeBy 89 (.istore_n 3) 1 90 := ⟨by decide +kernel, rfl⟩
theorem a11_comeBy_90 : At cX11_comeBy 90 (.iinc 5 1) 3 93 := ⟨by decide +kernel, rfl⟩
theorem a11_comeBy_93 : At cX11_comeBy 93 (.goto (-76)) 3 96 := ⟨by decide +kernel, rfl⟩
theorem a11_comeBy_96 : At cX11_comeBy 96 (.iload 5) 2 98 := ⟨by decide +kernel, rfl⟩
theorem a11_comeBy_98 : At cX11_comeBy 98 (.ireturn) 1 99 := ⟨by decide +kernel, rfl⟩
def l11_comeBy_17 (k0 : Nat) (x1 : Int32) (x4 : Int32) (σ : Mem) : Nat → Int32 → Int32 → Option (Int32 × Int32)
  | 0, _, _ => none
  | n + 1, x3, x5 =>
  if x1 ≤ x5 then
  (some (x3, x5))
  else
  (ck (inb x5 6) <|
  ck (inb (40 + (σ.1 22 6 (x5 : Int32).toNatClampNeg)) 142) <|
  if x3 < (f11_needsAs (σ.1 22 0 ((40 + (σ.1 22 6 (x5 : Int32).toNatClampNeg)) : Int32).toNatClampNeg) (x4 + x5) (σ.1 22 0 9)) then
  (some (x3, x5))
  else
  (ck (inb x5 6) <|
  ck (inb (40 + (σ.1 22 6 (x5 : Int32).toNatClampNeg)) 142) <|
  lt ((x3 - (f11_needsAs (σ.1 22 0 ((40 + (σ.1 22 6 (x5 : Int32).toNatClampNeg)) : Int32).toNatClampNeg) (x4 + x5) (σ.1 22 0 9))) : Int32) fun y9 =>
  l11_comeBy_17 k0 x1 x4 σ n y9 (x5 + 1)))
theorem lE11_comeBy_17 {V : Option AV} {S : Mem} (k0 : Nat) (x1 : Int32) (x4 : Int32) (σ : Mem) : ∀ (n : Nat) (x3 : Int32) (x5 : Int32) {w : Int32 × Int32}, l11_comeBy_17 k0 x1 x4 σ n x3 x5 = some w → (Go m11_comeBy 96 [some (.inr (.inr (11, k0))), some (.inl x1), none, some (.inl w.1), some (.inl x4), some (.inl w.2)] [] σ V S) → Go m11_comeBy 17 [some (.inr (.inr (11, k0))), some (.inl x1), none, some (.inl x3), some (.inl x4), some (.inl x5)] [] σ V S
  | 0, x3, x5, w, h, K1 => by cases h
  | n + 1, x3, x5, w, h, K1 => by
    rw [l11_comeBy_17] at h
    refine g_iload a11_comeBy_17 rfl ?_
    refine g_iload_n a11_comeBy_19 rfl ?_
    refine g_icmp_ge (tgt := 96) a11_comeBy_20 rfl (fun c11 => ?_) (fun c11 => ?_)
    · have h := (if_pos c11).symm.trans h
      have h := Option.some.inj h
      subst h
      exact g_weak K1 ⟨rfl, rfl, rfl, rfl, rfl, trivial⟩
    · have h := (if_neg c11).symm.trans h
      refine g_iload_n a11_comeBy_23 rfl ?_
      refine g_aload_n a11_comeBy_24 rfl ?_
      refine g_getf (v := .inr (.inr (22, 0))) a11_comeBy_25 fs11_7 rfl ?_
      refine g_bipush (v := 40) a11_comeBy_28 rfl ?_
      refine g_aload_n a11_comeBy_30 rfl ?_
      refine g_getf (v := .inr (.inr (22, 6))) a11_comeBy_31 fs11_33 rfl ?_
      refine g_iload a11_comeBy_34 rfl ?_
      obtain ⟨q3, h⟩ := ck_inv h
      refine g_iald (x := (σ.1 22 6 (x5 : Int32).toNatClampNeg)) a11_comeBy_36 (rI22 (by decide)) (inb_ok q3) rfl ?_
      refine g_iadd a11_comeBy_37 ?_
      obtain ⟨q4, h⟩ := ck_inv h
      refine g_iald (x := (σ.1 22 0 ((40 + (σ.1 22 6 (x5 : Int32).toNatClampNeg)) : Int32).toNatClampNeg)) a11_comeBy_38 (rI22 (by decide)) (inb_ok q4) rfl ?_
      refine g_iload a11_comeBy_39 rfl ?_
      refine g_iload a11_comeBy_41 rfl ?_
      refine g_iadd a11_comeBy_43 ?_
      refine g_aload_n a11_comeBy_44 rfl ?_
      refine g_getf (v := .inr (.inr (22, 0))) a11_comeBy_45 fs11_7 rfl ?_
      refine g_bipush (v := 9) a11_comeBy_48 rfl ?_
      refine g_iald (x := (σ.1 22 0 9)) a11_comeBy_50 (rI22 (by decide)) (inb_ok (by decide)) rfl ?_
      refine g_S3s (v1 := .inl (f11_needsAs (σ.1 22 0 ((40 + (σ.1 22 6 (x5 : Int32).toNatClampNeg)) : Int32).toNatClampNeg) (x4 + x5) (σ.1 22 0 9))) (σ1 := σ) a11_comeBy_51 cs11_108 (E11_needsAs _ _ _ _) rfl (fun o5 => ?_)
      refine g_icmp_lt (tgt := 96) a11_comeBy_54 rfl (fun c10 => ?_) (fun c10 => ?_)
      · have h := (if_pos c10).symm.trans h
        have h := Option.some.inj h
        subst h
        exact g_weak K1 ⟨rfl, rfl, rfl, rfl, rfl, trivial⟩
      · have h := (if_neg c10).symm.trans h
        refine g_iload_n a11_comeBy_57 rfl ?_
        refine g_aload_n a11_comeBy_58 rfl ?_
        refine g_getf (v := .inr (.inr (22, 0))) a11_comeBy_59 fs11_7 rfl ?_
        refine g_bipush (v := 40) a11_comeBy_62 rfl ?_
        refine g_aload_n a11_comeBy_64 rfl ?_
        refine g_getf (v := .inr (.inr (22, 6))) a11_comeBy_65 fs11_33 rfl ?_
        refine g_iload a11_comeBy_68 rfl ?_
        obtain ⟨q6, h⟩ := ck_inv h
        refine g_iald (x := (σ.1 22 6 (x5 : Int32).toNatClampNeg)) a11_comeBy_70 (rI22 (by decide)) (inb_ok q6) rfl ?_
        refine g_iadd a11_comeBy_71 ?_
        obtain ⟨q7, h⟩ := ck_inv h
        refine g_iald (x := (σ.1 22 0 ((40 + (σ.1 22 6 (x5 : Int32).toNatClampNeg)) : Int32).toNatClampNeg)) a11_comeBy_72 (rI22 (by decide)) (inb_ok q7) rfl ?_
        refine g_iload a11_comeBy_73 rfl ?_
        refine g_iload a11_comeBy_75 rfl ?_
        refine g_iadd a11_comeBy_77 ?_
        refine g_aload_n a11_comeBy_78 rfl ?_
        refine g_getf (v := .inr (.inr (22, 0))) a11_comeBy_79 fs11_7 rfl ?_
        refine g_bipush (v := 9) a11_comeBy_82 rfl ?_
        refine g_iald (x := (σ.1 22 0 9)) a11_comeBy_84 (rI22 (by decide)) (inb_ok (by decide)) rfl ?_
        refine g_S3s (v1 := .inl (f11_needsAs (σ.1 22 0 ((40 + (σ.1 22 6 (x5 : Int32).toNatClampNeg)) : Int32).toNatClampNeg) (x4 + x5) (σ.1 22 0 9))) (σ1 := σ) a11_comeBy_85 cs11_108 (E11_needsAs _ _ _ _) rfl (fun o8 => ?_)
        refine g_isub a11_comeBy_88 ?_
        obtain ⟨y9, ey9, h⟩ := lt_inv h
        rw [ey9]
        refine g_istore_n (L' := [some (.inr (.inr (11, k0))), some (.inl x1), none, some (.inl y9), some (.inl x4), some (.inl x5)]) a11_comeBy_89 (Nat.le_of_ble_eq_true rfl) rfl rfl ?_
        refine g_iinc (v := (x5 + 1)) (L' := [some (.inr (.inr (11, k0))), some (.inl x1), none, some (.inl y9), some (.inl x4), some (.inl (x5 + 1))]) a11_comeBy_90 rfl rfl (Nat.le_of_ble_eq_true rfl) rfl rfl ?_
        refine g_goto (tgt := 17) a11_comeBy_93 rfl ?_
        exact g_weak (lE11_comeBy_17 (V := V) (S := S)  k0 x1 x4 σ n _ _ h K1) ⟨rfl, rfl, rfl, rfl, rfl, trivial⟩
def f11_comeBy (k0 : Nat) (x1 : Int32) (x2 : Int32) (σ : Mem) : Option (Int32) :=
  bnd (f11_bits (σ.1 22 0 7)) fun w1 =>
  bnd (l11_comeBy_17 k0 x1 w1 σ 2000 x2 0) fun w12 =>
  some w12.2
theorem E11_comeBy {k0 : Nat} {x1 : Int32} {x2 : Int32} {σ : Mem} {w : Int32} (h : f11_comeBy k0 x1 x2 σ = some w) : Ev m11_comeBy [.inr (.inr (11, k0)), .inl x1, .inl x2] σ (some (.inl w) : Option AV) σ := by
  unfold f11_comeBy at h
  show Go m11_comeBy 0 [some (.inr (.inr (11, k0))), some (.inl x1), some (.inl x2), none, none, none] [] σ (some (.inl w) : Option AV) σ
  refine g_iload_n a11_comeBy_0 rfl ?_
  refine g_istore_n (L' := [some (.inr (.inr (11, k0))), some (.inl x1), some (.inl x2), some (.inl x2), none, none]) a11_comeBy_1 (Nat.le_of_ble_eq_true rfl) rfl rfl ?_
  refine g_aload_n a11_comeBy_2 rfl ?_
  refine g_getf (v := .inr (.inr (22, 0))) a11_comeBy_3 fs11_7 rfl ?_
  refine g_bipush (v := 7) a11_comeBy_6 rfl ?_
  refine g_iald (x := (σ.1 22 0 7)) a11_comeBy_8 (rI22 (by decide)) (inb_ok (by decide)) rfl ?_
  obtain ⟨w1, hw1, h⟩ := bnd_inv h
  refine g_S1s (v1 := .inl w1) (σ1 := σ) a11_comeBy_9 cs11_105 (E11_bits hw1) rfl (fun o2 => ?_)
  refine g_istore (L' := [some (.inr (.inr (11, k0))), some (.inl x1), some (.inl x2), some (.inl x2), some (.inl w1), none]) a11_comeBy_12 (Nat.le_of_ble_eq_true rfl) rfl rfl ?_
  refine g_iconst (v := 0) a11_comeBy_14 rfl ?_
  refine g_istore (L' := [some (.inr (.inr (11, k0))), some (.inl x1), some (.inl x2), some (.inl x2), some (.inl w1), some (.inl 0)]) a11_comeBy_15 (Nat.le_of_ble_eq_true rfl) rfl rfl ?_
  obtain ⟨w12, hw12, h⟩ := bnd_inv h
  refine g_weak (lE11_comeBy_17 k0 x1 w1 σ 2000 _ _ hw12 ?_) ⟨rfl, rfl, rfl, rfl, rfl, trivial⟩
  refine g_iload a11_comeBy_96 rfl ?_
  have h := Option.some.inj h
  subst h
  exact g_retE a11_comeBy_98 trivial rfl rfl
