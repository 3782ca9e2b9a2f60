theorem a10_read_0 : At cX10_read 0 (.aload_n 0) 1 1 := ⟨by decide +kernel, rfl⟩
theorem a10_read_1 : At cX10_read 1 (.getfield 16) 3 4 := ⟨by decide +kernel, rfl⟩
theorem a10_read_4 : At cX10_read 4 (.invokevirtual 86) 3 7 := ⟨by decide +kernel, rfl⟩
theorem a10_read_7 : At cX10_read 7 (.aload_n 0) 1 8 := ⟨by decide +kernel, rfl⟩
theorem a10_read_8 : At cX10_read 8 (.getfield 44) 3 11 := ⟨by decide +kernel, rfl⟩
theorem a10_read_11 : At cX10_read 11 (.aload_n 0) 1 12 := ⟨by decide +kernel, rfl⟩
theorem a10_read_12 : At cX10_read 12 (.getfield 16) 3 15 := ⟨by decide +kernel, rfl⟩
theorem a10_read_15 : At cX10_read 15 (.invokevirtual 148) 3 18 := ⟨by decide +kernel, rfl⟩
theorem a10_read_18 : At cX10_read 18 (.istore_n 1) 1 19 := ⟨by decide +kernel, rfl⟩
theorem a10_read_19 : At cX10_read 19 (.iload_n 1) 1 20 := ⟨by decide +kernel, rfl⟩
theorem a10_read_20 : At cX10_read 20 (.ifCond .lt 14) 3 23 := ⟨by decide +kernel, rfl⟩
theorem a10_read_23 : At cX10_read 23 (.aload_n 0) 1 24 := ⟨by decide +kernel, rfl⟩
theorem a10_read_24 : At cX10_read 24 (.getfield 10) 3 27 := ⟨by decide +kernel, rfl⟩
theorem a10_read_27 : At cX10_read 27 (.aload_n 0) 1 28 := ⟨by decide +kernel, rfl⟩
theorem a10_read_28 : At cX10_read 28 (.getfield 16) 3 31 := ⟨by decide +kernel, rfl⟩
theorem a10_read_31 : At cX10_read 31 (.invokevirtual 152) 3 34 := ⟨by decide +kernel, rfl⟩
theorem a10_read_34 : At cX10_read 34 (.iload_n 1) 1 35 := ⟨by decide +kernel, rfl⟩
theorem a10_read_35 : At cX10_read 35 (.ireturn) 1 36 := ⟨by decide +kernel, rfl⟩
def f10_read (k0 : Nat) (σ : Mem) : Option (Int32 × Mem) :=
  bnd (f9_begin 1 σ) fun w1 =>
  bnd (f8_tellTo 0 1 w1) fun w3 =>
  bnd (if w3.1 < 0 then
  (some w3.2)
  else
  (bnd (f9_takeFrom 0 1 w3.2) fun w7 =>
  some w7) : Option (Mem)) fun w5 =>
  some (w3.1, w5)
theorem E10_read {k0 : Nat} {σ : Mem} {w : Int32 × Mem} (h : f10_read k0 σ = some w) : Ev m10_read [.inr (.inr (10, k0))] σ (some (.inl w.1) : Option AV) w.2 := by
  unfold f10_read at h
  show Go m10_read 0 [some (.inr (.inr (10, k0))), none] [] σ (some (.inl w.1) : Option AV) w.2
  refine g_aload_n a10_read_0 rfl ?_
  refine g_getf (v := .inr (.inr (9, 1))) a10_read_1 fs10_16 rfl ?_
  obtain ⟨w1, hw1, h⟩ := bnd_inv h
  refine g_V0n (σ1 := w1) a10_read_4 cv10_86 (E9_begin hw1) rfl (fun o2 => ?_)
  refine g_aload_n a10_read_7 rfl ?_
  refine g_getf (v := .inr (.inr (8, 0))) a10_read_8 fs10_44 rfl ?_
  refine g_aload_n a10_read_11 rfl ?_
  refine g_getf (v := .inr (.inr (9, 1))) a10_read_12 fs10_16 rfl ?_
  obtain ⟨w3, hw3, h⟩ := bnd_inv h
  refine g_V1s (v1 := .inl w3.1) (σ1 := w3.2) a10_read_15 cv10_148 (E8_tellTo hw3) rfl (fun o4 => ?_)
  refine g_istore_n (L' := [some (.inr (.inr (10, k0))), some (.inl w3.1)]) a10_read_18 (Nat.le_of_ble_eq_true rfl) rfl rfl ?_
  refine g_iload_n a10_read_19 rfl ?_
  obtain ⟨w5, hw5, h⟩ := bnd_inv h
  have J6 : Go m10_read 34 [none, some (.inl w3.1)] [] w5 (some (.inl w.1) : Option AV) w.2 := by
    refine g_iload_n a10_read_34 rfl ?_
    have h := Option.some.inj h
    subst h
    exact g_retE a10_read_35 trivial rfl rfl
  clear h
  refine g_if_lt (tgt := 34) a10_read_20 rfl (fun c9 => ?_) (fun c9 => ?_)
  · have hw5 := (if_pos c9).symm.trans hw5
    have hw5 := Option.some.inj hw5
    subst hw5
    exact g_weak J6 ⟨rfl, trivial⟩
  · have hw5 := (if_neg c9).symm.trans hw5
    refine g_aload_n a10_read_23 rfl ?_
    refine g_getf (v := .inr (.inr (9, 0))) a10_read_24 fs10_10 rfl ?_
    refine g_aload_n a10_read_27 rfl ?_
    refine g_getf (v := .inr (.inr (9, 1))) a10_read_28 fs10_16 rfl ?_
    obtain ⟨w7, hw7, hw5⟩ := bnd_inv hw5
    refine g_V1n (σ1 := w7) a10_read_31 cv10_152 (E9_takeFrom hw7) rfl (fun o8 => ?_)
    have hw5 := Option.some.inj hw5
    subst hw5
    exact g_weak J6 ⟨rfl, trivial⟩
theorem a7_dropLast_0 : At cX7_dropLast 0 (.aload_n 0) 1 1 := ⟨by decide +kernel, rfl⟩
theorem a7_dropLast_1 : At cX7_dropLast 1 (.aload_n 0) 1 2 := ⟨by decide +kernel, rfl⟩
theorem a7_dropLast_2 : At cX7_dropLast 2 (.getfield 26) 3 5 := ⟨by decide +kernel, rfl⟩
theorem a7_dropLast_5 : At cX7_dropLast 5 (.iconst 1) 1 6 := ⟨by decide +kernel, rfl⟩
theorem a7_dropLast_6 : At cX7_dropLast 6 (.isub) 1 7 := ⟨by decide +kernel, rfl⟩
theorem a7_dropLast_7 : At cX7_dropLast 7 (.iconst 0) 1 8 := ⟨by decide +kernel, rfl⟩
theorem a7_dropLast_8 : At cX7_dropLast 8 (.invokestatic 16) 3 11 := ⟨by decide +kernel, rfl⟩
theorem a7_dropLast_11 : At cX7_dropLast 11 (.putfield 26) 3 14 := ⟨by decide +kernel, rfl⟩
theorem a7_dropLast_14 : At cX7_dropLast 14 (.return_) 1 15 := ⟨by decide +kernel, rfl⟩
def f7_dropLast (k0 : Nat) (σ : Mem) : Mem :=
  lt (sI σ 7 k0 3 (mxI ((σ.1 7 k0 3) - 1) 0)) fun σ1 =>
  σ1
theorem E7_dropLast (k0 : Nat) (σ : Mem) : Ev m7_dropLast [.inr (.inr (7, k0))] σ none (f7_dropLast k0 σ) := by
  obtain ⟨w, h⟩ : ∃ w, f7_dropLast k0 σ = w := ⟨_, rfl⟩
  rw [h]
  unfold f7_dropLast at h
  show Go m7_dropLast 0 [some (.inr (.inr (7, k0)))] [] σ none w
  refine g_aload_n a7_dropLast_0 rfl ?_
  refine g_aload_n a7_dropLast_1 rfl ?_
  refine g_getf (v := .inl (σ.1 7 k0 3)) a7_dropLast_2 fs7_26 rfl ?_
  refine g_iconst (v := 1) a7_dropLast_5 rfl ?_
  refine g_isub a7_dropLast_6 ?_
  refine g_iconst (v := 0) a7_dropLast_7 rfl ?_
  refine g_max a7_dropLast_8 cm7_16 rfl ?_
  obtain ⟨σ1, eσ1, h⟩ := lt_inv h
  refine g_puti a7_dropLast_11 fs7_26 ps7_3 (fun _ _ _ => rfl) ?_
  rw [eσ1]
  subst h
  exact g_retE a7_dropLast_14 trivial rfl rfl
theorem a7_dropFirst_0 : At cX7_dropFirst 0 (.iconst 1) 1 1 := ⟨by decide +kernel, rfl⟩
theorem a7_dropFirst_1 : At cX7_dropFirst 1 (.istore_n 1) 1 2 := ⟨by decide +kernel, rfl⟩
theorem a7_dropFirst_2 : At cX7_dropFirst 2 (.iload_n 1) 1 3 := ⟨by decide +kernel, rfl⟩
theorem a7_dropFirst_3 : At cX7_dropFirst 3 (.aload_n 0) 1 4 := ⟨by decide +kernel, rfl⟩
theorem a7_dropFirst_4 : At cX7_dropFirst 4 (.getfield 26) 3 7 := ⟨by decide +kernel, rfl⟩
theorem a7_dropFirst_7 : At cX7_dropFirst 7 (.if_icmp .ge 39) 3 10 := ⟨by decide +kernel, rfl⟩
theorem a7_dropFirst_10 : At cX7_dropFirst 10 (.iconst 0) 1 11 := ⟨by decide +kernel, rfl⟩
theorem a7_dropFirst_11 : At cX7_dropFirst 11 (.istore_n 2) 1 12 := ⟨by decide +kernel, rfl⟩
theorem a7_dropFirst_12 : At cX7_dropFirst 12 (.iload_n 2) 1 13 := ⟨by decide +kernel, rfl⟩
theorem a7_dropFirst_13 : At cX7_dropFirst 13 (.aload_n 0) 1 14 := ⟨by decide +kernel, rfl⟩
theorem a7_dropFirst_14 : At cX7_dropFirst 14 (.getfield 13) 3 17 := ⟨by decide +kernel, rfl⟩
theorem a7_dropFirst_17 : At cX7_dropFirst 17 (.if_icmp .ge 23) 3 20 := ⟨by decide +kernel, rfl⟩
theorem a7_dropFirst_20 : At cX7_dropFirst 20 (.aload_n 0) 1 21 := ⟨by decide +kernel, rfl⟩
theorem a7_dropFirst_21 : At cX7_dropFirst 21 (.iload_n 1) 1 22 := ⟨by decide +kernel, rfl⟩
theorem a7_dropFirst_22 : At cX7_dropFirst 22 (.iconst 1) 1 23 := ⟨by decide +kernel, rfl⟩
theorem a7_dropFirst_23 : At cX7_dropFirst 23 (.isub) 1 24 := ⟨by decide +kernel, rfl⟩
theorem a7_dropFirst_24 : At cX7_dropFirst 24 (.iload_n 2) 1 25 := ⟨by decide +kernel, rfl⟩
theorem a7_dropFirst_25 : At cX7_dropFirst 25 (.aload_n 0) 1 26 := ⟨by decide +kernel, rfl⟩
theorem a7_dropFirst_26 : At cX7_dropFirst 26 (.iload_n 1) 1 27 := ⟨by decide +kernel, rfl⟩
theorem a7_dropFirst_27 : At cX7_dropFirst 27 (.iload_n 2) 1 28 := ⟨by decide +kernel, rfl⟩
theorem a7_dropFirst_28 : At cX7_dropFirst 28 (.invokevirtual 37) 3 31 := ⟨by decide +kernel, rfl⟩
theorem a7_dropFirst_31 : At cX7_dropFirst 31 (.invokevirtual 33) 3 34 := ⟨by decide +kernel, rfl⟩
theorem a7_dropFirst_34 : At cX7_dropFirst 34 (.iinc 2 1) 3 37 := ⟨by decide +kernel, rfl⟩
theorem a7_dropFirst_37 : At cX7_dropFirst 37 (.goto (-25)) 3 40 := ⟨by decide +kernel, rfl⟩
theorem a7_dropFirst_40 : At cX7_dropFirst 40 (.iinc 1 1) 3 43 := ⟨by decide +kernel, rfl⟩
theorem a7_dropFirst_43 : At cX7_dropFirst 43 (.goto (-41)) 3 46 := ⟨by decide +kernel, rfl⟩
theorem a7_dropFirst_46 : At cX7_dropFirst 46 (.aload_n 0) 1 47 := ⟨by decide +kernel, rfl⟩
theorem a7_dropFirst_47 : At cX7_dropFirst 47 (.invokevirtual 40) 3 50 := ⟨by decide +kernel, rfl⟩
theorem a7_dropFirst_50 : At cX7_dropFirst 50 (.return_) 1 51 := ⟨by decide +kernel, rfl⟩
def l7_dropFirst_12 (k0 : Nat) (x1 : Int32) : Nat → Int32 → Mem → Option (Int32 × Mem)
  | 0, _, _ => none
  | n + 1, x2, σ =>
  if (σ.1 7 k0 1) ≤ x2 then
  (some (x2, σ))
  else
  (bnd (f7_at k0 x1 x2 σ) fun w1 =>
  bnd (f7_put k0 (x1 - 1) x2 w1 σ) fun w3 =>
  l7_dropFirst_12 k0 x1 n (x2 + 1) w3)
theorem lE7_dropFirst_12 {V : Option AV} {S : Mem} (k0 : Nat) (x1 : Int32) : ∀ (n : Nat) (x2 : Int32) (σ : Mem) {w : Int32 × Mem}, l7_dropFirst_12 k0 x1 n x2 σ = some w → (Go m7_dropFirst 40 [some (.inr (.inr (7, k0))), some (.inl x1), some (.inl w.1)] [] w.2 V S) → Go m7_dropFirst 12 [some (.inr (.inr (7, k0))), some (.inl x1), some (.inl x2)] [] σ V S
  | 0, x2, σ, w, h, K1 => by cases h
  | n + 1, x2, σ, w, h, K1 => by
    rw [l7_dropFirst_12] at h
    refine g_iload_n a7_dropFirst_12 rfl ?_
    refine g_aload_n a7_dropFirst_13 rfl ?_
    refine g_getf (v := .inl (σ.1 7 k0 1)) a7_dropFirst_14 fs7_13 rfl ?_
    refine g_icmp_ge (tgt := 40) a7_dropFirst_17 rfl (fun c5 => ?_) (fun c5 => ?_)
    · have h := (if_pos c5).symm.trans h
      have h := Option.some.inj h
      subst h
      exact g_weak K1 ⟨rfl, rfl, rfl, trivial⟩
    · have h := (if_neg c5).symm.trans h
      refine g_aload_n a7_dropFirst_20 rfl ?_
      refine g_iload_n a7_dropFirst_21 rfl ?_
      refine g_iconst (v := 1) a7_dropFirst_22 rfl ?_
      refine g_isub a7_dropFirst_23 ?_
      refine g_iload_n a7_dropFirst_24 rfl ?_
      refine g_aload_n a7_dropFirst_25 rfl ?_
      refine g_iload_n a7_dropFirst_26 rfl ?_
      refine g_iload_n a7_dropFirst_27 rfl ?_
      obtain ⟨w1, hw1, h⟩ := bnd_inv h
      refine g_V2s (v1 := .inl w1) (σ1 := σ) a7_dropFirst_28 cv7_37 (E7_at hw1) rfl (fun o2 => ?_)
      obtain ⟨w3, hw3, h⟩ := bnd_inv h
      refine g_V3n (σ1 := w3) a7_dropFirst_31 cv7_33 (E7_put hw3) rfl (fun o4 => ?_)
      refine g_iinc (v := (x2 + 1)) (L' := [some (.inr (.inr (7, k0))), some (.inl x1), some (.inl (x2 + 1))]) a7_dropFirst_34 rfl rfl (Nat.le_of_ble_eq_true rfl) rfl rfl ?_
      refine g_goto (tgt := 12) a7_dropFirst_37 rfl ?_
      exact g_weak (lE7_dropFirst_12 (V := V) (S := S)  k0 x1 n _ _ h K1) ⟨rfl, rfl, rfl, trivial⟩
def l7_dropFirst_2 (k0 : Nat) : Nat → Int32 → Mem → Option (Int32 × Mem)
  | 0, _, _ => none
  | n + 1, x1, σ =>
  if (σ.1 7 k0 3) ≤ x1 then
  (some (x1, σ))
  else
  (bnd (l7_dropFirst_12 k0 x1 2000 0 σ) fun w6 =>
  l7_dropFirst_2 k0 n (x1 + 1) w6.2)
theorem lE7_dropFirst_2 {V : Option AV} {S : Mem} (k0 : Nat) : ∀ (n : Nat) (x1 : Int32) (σ : Mem) {w : Int32 × Mem}, l7_dropFirst_2 k0 n x1 σ = some w → (Go m7_dropFirst 46 [some (.inr (.inr (7, k0))), some (.inl w.1), none] [] w.2 V S) → Go m7_dropFirst 2 [some (.inr (.inr (7, k0))), some (.inl x1), none] [] σ V S
  | 0, x1, σ, w, h, K1 => by cases h
  | n + 1, x1, σ, w, h, K1 => by
    rw [l7_dropFirst_2] at h
    refine g_iload_n a7_dropFirst_2 rfl ?_
    refine g_aload_n a7_dropFirst_3 rfl ?_
    refine g_getf (v := .inl (σ.1 7 k0 3)) a7_dropFirst_4 fs7_26 rfl ?_
    refine g_icmp_ge (tgt := 46) a7_dropFirst_7 rfl (fun c7 => ?_) (fun c7 => ?_)
    · have h := (if_pos c7).symm.trans h
      have h := Option.some.inj h
      subst h
      exact g_weak K1 ⟨rfl, rfl, trivial⟩
    · have h := (if_neg c7).symm.trans h
      refine g_iconst (v := 0) a7_dropFirst_10 rfl ?_
      refine g_istore_n (L' := [some (.inr (.inr (7, k0))), some (.inl x1), some (.inl 0)]) a7_dropFirst_11 (Nat.le_of_ble_eq_true rfl) rfl rfl ?_
      obtain ⟨w6, hw6, h⟩ := bnd_inv h
      refine g_weak (lE7_dropFirst_12 k0 x1 2000 _ _ hw6 ?_) ⟨rfl, rfl, rfl, trivial⟩
      refine g_iinc (v := (x1 + 1)) (L' := [some (.inr (.inr (7, k0))), some (.inl (x1 + 1)), some (.inl w6.1)]) a7_dropFirst_40 rfl rfl (Nat.le_of_ble_eq_true rfl) rfl rfl ?_
      refine g_goto (tgt := 2) a7_dropFirst_43 rfl ?_
      exact g_weak (lE7_dropFirst_2 (V := V) (S := S)  k0 n _ _ h K1) ⟨rfl, rfl, trivial⟩
def f7_dropFirst (k0 : Nat) (σ : Mem) : Option (Mem) :=
  bnd (l7_dropFirst_2 k0 2000 1 σ) fun w8 =>
  lt (f7_dropLast k0 w8.2) fun w9 =>
  some w9
theorem E7_dropFirst {k0 : Nat} {σ : Mem} {w : Mem} (h : f7_dropFirst k0 σ = some w) : Ev m7_dropFirst [.inr (.inr (7, k0))] σ none w := by
  unfold f7_dropFirst at h
  show Go m7_dropFirst 0 [some (.inr (.inr (7, k0))), none, none] [] σ none w
  refine g_iconst (v := 1) a7_dropFirst_0 rfl ?_
  refine g_istore_n (L' := [some (.inr (.inr (7, k0))), some (.inl 1), none]) a7_dropFirst_1 (Nat.le_of_ble_eq_true rfl) rfl rfl ?_
  obtain ⟨w8, hw8, h⟩ := bnd_inv h
  refine g_weak (lE7_dropFirst_2 k0 2000 _ _ hw8 ?_) ⟨rfl, rfl, trivial⟩
  refine g_aload_n a7_dropFirst_46 rfl ?_
  obtain ⟨w9, hw9, h⟩ := lt_inv h
  refine g_V0n (σ1 := w9) a7_dropFirst_47 cv7_40 (by rw [← hw9]; exact E7_dropLast _ _) rfl (fun o10 => ?_)
  have h := Option.some.inj h
  subst h
  exact g_retE a7_dropFirst_50 trivial rfl rfl
theorem a9_remember_0 : At cX9_remember 0 (.aload_n 0) 1 1 := ⟨by decide +kernel, rfl⟩
theorem a9_remember_1 : At cX9_remember 1 (.getfield 35) 3 4 := ⟨by decide +kernel, rfl⟩
theorem a9_remember_4 : At cX9_remember 4 (.invokevirtual 78) 3 7 := ⟨by decide +kernel, rfl⟩
theorem a9_remember_7 : At cX9_remember 7 (.ifCond .eq 10) 3 10 := ⟨by decide +kernel, rfl⟩
theorem a9_remember_10 : At cX9_remember 10 (.aload_n 0) 1 11 := ⟨by decide +kernel, rfl⟩
theorem a9_remember_11 : At cX9_remember 11 (.getfield 35) 3 14 := ⟨by decide +kernel, rfl⟩
theorem a9_remember_14 : At cX9_remember 14 (.invokevirtual 82) 3 17 := ⟨by decide +kernel, rfl⟩
theorem a9_remember_17 : At cX9_remember 17 (.aload_n 0) 1 18 := ⟨by decide +kernel, rfl⟩
theorem a9_remember_18 : At cX9_remember 18 (.getfield 35) 3 21 := ⟨by decide +kernel, rfl⟩
theorem a9_remember_21 : At cX9_remember 21 (.aload_n 0) 1 22 := ⟨by decide +kernel, rfl⟩
theorem a9_remember_22 : At cX9_remember 22 (.getfield 41) 3 25 := ⟨by decide +kernel, rfl⟩
theorem a9_remember_25 : At cX9_remember 25 (.getfield 74) 3 28 := ⟨by decide +kernel, rfl⟩
theorem a9_remember_28 : At cX9_remember 28 (.aload_n 0) 1 29 := ⟨by decide +kernel, rfl⟩
theorem a9_remember_29 : At cX9_remember 29 (.getfield 41) 3 32 := ⟨by decide +kernel, rfl⟩
theorem a9_remember_32 : At cX9_remember 32 (.getfield 85) 3 35 := ⟨by decide +kernel, rfl⟩
theorem a9_remember_35 : At cX9_remember 35 (.aload_n 0) 1 36 := ⟨by decide +kernel, rfl⟩
theorem a9_remember_36 : At cX9_remember 36 (.getfield 41) 3 39 := ⟨by decide +kernel, rfl⟩
theorem a9_remember_39 : At cX9_remember 39 (.getfield 88) 3 42 := ⟨by decide +kernel, rfl⟩
theorem a9_remember_42 : At cX9_remember 42 (.aload_n 0) 1 43 := ⟨by decide +kernel, rfl⟩
theorem a9_remember_43 : At cX9_remember 43 (.getfield 41) 3 46 := ⟨by decide +kernel, rfl⟩
theorem a9_remember_46 : At cX9_remember 46 (.getfield 91) 3 49 := ⟨by decide +kernel, rfl⟩
theorem a9_remember_49 : At cX9_remember 49 (.iconst 0) 1 50 := ⟨by decide +kernel, rfl⟩
theorem a9_remember_50 : At cX9_remember 50 (.invokevirtual 51) 3 53 := ⟨by decide +kernel, rfl⟩
theorem a9_remember_53 : At cX9_remember 53 (.return_) 1 54 := ⟨by decide +kernel, rfl⟩
def f9_remember (k0 : Nat) (σ : Mem) : Option (Mem) :=
  bnd (if (f7_isFull (7 * k0 + 6) σ) = 0 then
  (some σ)
  else
  (bnd (f7_dropFirst (7 * k0 + 6) σ) fun w4 =>
  some w4) : Option (Mem)) fun w2 =>
  bnd (f7_add (7 * k0 + 6) (w2.1 4 k0 0) (w2.1 4 k0 1) (w2.1 4 k0 2) (w2.1 4 k0 3) 0 w2) fun w7 =>
  some w7
theorem E9_remember {k0 : Nat} {σ : Mem} {w : Mem} (h : f9_remember k0 σ = some w) : Ev m9_remember [.inr (.inr (9, k0))] σ none w := by
  unfold f9_remember at h
  show Go m9_remember 0 [some (.inr (.inr (9, k0)))] [] σ none w
  refine g_aload_n a9_remember_0 rfl ?_
  refine g_getf (v := .inr (.inr (7, (7 * k0 + 6)))) a9_remember_1 fs9_35 rfl ?_
  refine g_V0s (v1 := .inl (f7_isFull (7 * k0 + 6) σ)) (σ1 := σ) a9_remember_4 cv9_78 (E7_isFull _ _) rfl (fun o1 => ?_)
  obtain ⟨w2, hw2, h⟩ := bnd_inv h
  have J3 : Go m9_remember 17 [some (.inr (.inr (9, k0)))] [] w2 none w := by
    refine g_aload_n a9_remember_17 rfl ?_
    refine g_getf (v := .inr (.inr (7, (7 * k0 + 6)))) a9_remember_18 fs9_35 rfl ?_
    refine g_aload_n a9_remember_21 rfl ?_
    refine g_getf (v := .inr (.inr (4, k0))) a9_remember_22 fs9_41 rfl ?_
    refine g_getf (v := .inl (w2.1 4 k0 0)) a9_remember_25 fs9_74 rfl ?_
    refine g_aload_n a9_remember_28 rfl ?_
    refine g_getf (v := .inr (.inr (4, k0))) a9_remember_29 fs9_41 rfl ?_
    refine g_getf (v := .inl (w2.1 4 k0 1)) a9_remember_32 fs9_85 rfl ?_
    refine g_aload_n a9_remember_35 rfl ?_
    refine g_getf (v := .inr (.inr (4, k0))) a9_remember_36 fs9_41 rfl ?_
    refine g_getf (v := .inl (w2.1 4 k0 2)) a9_remember_39 fs9_88 rfl ?_
    refine g_aload_n a9_remember_42 rfl ?_
    refine g_getf (v := .inr (.inr (4, k0))) a9_remember_43 fs9_41 rfl ?_
    refine g_getf (v := .inl (w2.1 4 k0 3)) a9_remember_46 fs9_91 rfl ?_
    refine g_iconst (v := 0) a9_remember_49 rfl ?_
    obtain ⟨w7, hw7, h⟩ := bnd_inv h
    refine g_V5n (σ1 := w7) a9_remember_50 cv9_51 (E7_add hw7) rfl (fun o8 => ?_)
    have h := Option.some.inj h
    subst h
    exact g_retE a9_remember_53 trivial rfl rfl
  clear h
  refine g_if_eq (tgt := 17) a9_remember_7 rfl (fun c6 => ?_) (fun c6 => ?_)
  · have hw2 := (if_pos c6).symm.trans hw2
    have hw2 := Option.some.inj hw2
    subst hw2
    exact J3
  · have hw2 := (if_neg c6).symm.trans hw2
    refine g_aload_n a9_remember_10 rfl ?_
    refine g_getf (v := .inr (.inr (7, (7 * k0 + 6)))) a9_remember_11 fs9_35 rfl ?_
    obtain ⟨w4, hw4, hw2⟩ := bnd_inv hw2
    refine g_V0n (σ1 := w4) a9_remember_14 cv9_82 (E7_dropFirst hw4) rfl (fun o5 => ?_)
    have hw2 := Option.some.inj hw2
    subst hw2
    exact J3
theorem a10_summers_0 : At cX10_summers 0 (.iload_n 1) 1 1 := ⟨by decide +kernel, rfl⟩
theorem a10_summers_1 : At cX10_summers 1 (.iconst 1) 1 2 := ⟨by decide +kernel, rfl⟩
theorem a10_summers_2 : At cX10_summers 2 (.bipush 60) 2 4 := ⟨by decide +kernel, rfl⟩
theorem a10_summers_4 : At cX10_summers 4 (.invokestatic 96) 3 7 := ⟨by decide +kernel, rfl⟩
theorem a10_summers_7 : At cX10_summers 7 (.ifCond .ne 8) 3 10 := ⟨by decide +kernel, rfl⟩
theorem a10_summers_10 : At cX10_summers 10 (.aload_n 0) 1 11 := ⟨by decide +kernel, rfl⟩
theorem a10_summers_11 : At cX10_summers 11 (.invokevirtual 100) 3 14 := ⟨by decide +kernel, rfl⟩
theorem a10_summers_14 : At cX10_summers 14 (.ireturn) 1 15 := ⟨by decide +kernel, rfl⟩
theorem a10_summers_15 : At cX10_summers 15 (.aload_n 0) 1 16 := ⟨by decide +kernel, rfl⟩
theorem a10_summers_16 : At cX10_summers 16 (.getfield 10) 3 19 := ⟨by decide +kernel, rfl⟩
theorem a10_summers_19 : At cX10_summers 19 (.invokevirtual 156) 3 22 := ⟨by decide +kernel, rfl⟩
theorem a10_summers_22 : At cX10_summers 22 (.aload_n 0) 1 23 := ⟨by decide +kernel, rfl⟩
theorem a10_summers_23 : At cX10_summers 23 (.getfield 10) 3 26 := ⟨by decide +kernel, rfl⟩
theorem a10_summers_26 : At cX10_summers 26 (.aload_n 0) 1 27 := ⟨by decide +kernel, rfl⟩
theorem a10_summers_27 : At cX10_summers 27 (.getfield 10) 3 30 := ⟨by decide +kernel, rfl⟩
theorem a10_summers_30 : At cX10_summers 30 (.getfield 159) 3 33 := ⟨by decide +kernel, rfl⟩
theorem a10_summers_33 : At cX10_summers 33 (.iload_n 1) 1 34 := ⟨by decide +kernel, rfl⟩
theorem a10_summers_34 : At cX10_summers 34 (.sipush 999) 3 37 := ⟨by decide +kernel, rfl⟩
theorem a10_summers_37 : At cX10_summers 37 (.invokevirtual 162) 3 40 := ⟨by decide +kernel, rfl⟩
theorem a10_summers_40 : At cX10_summers 40 (.aload_n 0) 1 41 := ⟨by decide +kernel, rfl⟩
theorem a10_summers_41 : At cX10_summers 41 (.getfield 10) 3 44 := ⟨by decide +kernel, rfl⟩
theorem a10_summers_44 : At cX10_summers 44 (.getfield 159) 3 47 := ⟨by decide +kernel, rfl⟩
theorem a10_summers_47 : At cX10_summers 47 (.invokevirtual 166) 3 50 := ⟨by decide +kernel, rfl⟩
theorem a10_summers_50 : At cX10_summers 50 (.ireturn) 1 51 := ⟨by decide +kernel, rfl⟩
def f10_summers (k0 : Nat) (x1 : Int32) (σ : Mem) : Option (Int32 × Mem) :=
  if (f10_within x1 1 60) = 0 then
  (lt (f10_refuseBad k0 σ) fun w2 =>
  some (w2.1, w2.2))
  else
  (bnd (f9_remember 0 σ) fun w4 =>
  bnd (f9_passTold 0 0 x1 999 w4) fun w6 =>
  some ((f4_partsThere 0 w6), w6))
theorem E10_summers {k0 : Nat} {x1 : Int32} {σ : Mem} {w : Int32 × Mem} (h : f10_summers k0 x1 σ = some w) : Ev m10_summers [.inr (.inr (10, k0)), .inl x1] σ (some (.inl w.1) : Option AV) w.2 := by
  unfold f10_summers at h
  show Go m10_summers 0 [some (.inr (.inr (10, k0))), some (.inl x1)] [] σ (some (.inl w.1) : Option AV) w.2
  refine g_iload_n a10_summers_0 rfl ?_
  refine g_iconst (v := 1) a10_summers_1 rfl ?_
  refine g_bipush (v := 60) a10_summers_2 rfl ?_
  refine g_S3s (v1 := .inl (f10_within x1 1 60)) (σ1 := σ) a10_summers_4 cs10_96 (E10_within _ _ _ _) rfl (fun o1 => ?_)
  refine g_if_ne (tgt := 15) a10_summers_7 rfl (fun c9 => ?_) (fun c9 => ?_)
  · have h := (if_neg c9).symm.trans h
    refine g_aload_n a10_summers_15 rfl ?_
    refine g_getf (v := .inr (.inr (9, 0))) a10_summers_16 fs10_10 rfl ?_
    obtain ⟨w4, hw4, h⟩ := bnd_inv h
    refine g_V0n (σ1 := w4) a10_summers_19 cv10_156 (E9_remember hw4) rfl (fun o5 => ?_)
    refine g_aload_n a10_summers_22 rfl ?_
    refine g_getf (v := .inr (.inr (9, 0))) a10_summers_23 fs10_10 rfl ?_
    refine g_aload_n a10_summers_26 rfl ?_
    refine g_getf (v := .inr (.inr (9, 0))) a10_summers_27 fs10_10 rfl ?_
    refine g_getf (v := .inr (.inr (4, 0))) a10_summers_30 fs10_159 rfl ?_
    refine g_iload_n a10_summers_33 rfl ?_
    refine g_sipush (v := 999) a10_summers_34 rfl ?_
    obtain ⟨w6, hw6, h⟩ := bnd_inv h
    refine g_V3n (σ1 := w6) a10_summers_37 cv10_162 (E9_passTold hw6) rfl (fun o7 => ?_)
    refine g_aload_n a10_summers_40 rfl ?_
    refine g_getf (v := .inr (.inr (9, 0))) a10_summers_41 fs10_10 rfl ?_
    refine g_getf (v := .inr (.inr (4, 0))) a10_summers_44 fs10_159 rfl ?_
    refine g_V0s (v1 := .inl (f4_partsThere 0 w6)) (σ1 := w6) a10_summers_47 cv10_166 (E4_partsThere _ _) rfl (fun o8 => ?_)
    have h := Option.some.inj h
    subst h
    exact g_retE a10_summers_50 trivial rfl rfl
  · have h := (if_pos c9).symm.trans h
    refine g_aload_n a10_summers_10 rfl ?_
    obtain ⟨w2, hw2, h⟩ := lt_inv h
    refine g_V0s (v1 := .inl w2.1) (σ1 := w2.2) a10_summers_11 cv10_100 (by rw [← hw2]; exact E10_refuseBad _ _) rfl (fun o3 => ?_)
    have h := Option.some.inj h
    subst h
    exact g_retE a10_summers_14 trivial rfl rfl
theorem a10_isThing_0 : At cX10_isThing 0 (.iload_n 1) 1 1 := ⟨by decide +kernel, rfl⟩
theorem a10_isThing_1 : At cX10_isThing 1 (.iconst 0) 1 2 := ⟨by decide +kernel, rfl⟩
theorem a10_isThing_2 : At cX10_isThing 2 (.aload_n 0) 1 3 := ⟨by decide +kernel, rfl⟩
theorem a10_isThing_3 : At cX10_isThing 3 (.getfield 10) 3 6 := ⟨by decide +kernel, rfl⟩
theorem a10_isThing_6 : At cX10_isThing 6 (.getfield 76) 3 9 := ⟨by decide +kernel, rfl⟩
theorem a10_isThing_9 : At cX10_isThing 9 (.invokevirtual 80) 3 12 := ⟨by decide +kernel, rfl⟩
theorem a10_isThing_12 : At cX10_isThing 12 (.iconst 1) 1 13 := ⟨by decide +kernel, rfl⟩
theorem a10_isThing_13 : At cX10_isThing 13 (.isub) 1 14 := ⟨by decide +kernel, rfl⟩
theorem a10_isThing_14 : At cX10_isThing 14 (.invokestatic 96) 3 17 := ⟨by decide +kernel, rfl⟩
theorem a10_isThing_17 : At cX10_isThing 17 (.ireturn) 1 18 := ⟨by decide +kernel, rfl⟩
def f10_isThing (k0 : Nat) (x1 : Int32) (σ : Mem) : Int32 :=
  (f10_within x1 0 ((f7_size 1 σ) - 1))
theorem E10_isThing (k0 : Nat) (x1 : Int32) (σ : Mem) : Ev m10_isThing [.inr (.inr (10, k0)), .inl x1] σ (some (.inl (f10_isThing k0 x1 σ)) : Option AV) σ := by
  obtain ⟨w, h⟩ : ∃ w, f10_isThing k0 x1 σ = w := ⟨_, rfl⟩
  rw [h]
  unfold f10_isThing at h
  show Go m10_isThing 0 [some (.inr (.inr (10, k0))), some (.inl x1)] [] σ (some (.inl w) : Option AV) σ
  refine g_iload_n a10_isThing_0 rfl ?_
  refine g_iconst (v := 0) a10_isThing_1 rfl ?_
  refine g_aload_n a10_isThing_2 rfl ?_
  refine g_getf (v := .inr (.inr (9, 0))) a10_isThing_3 fs10_10 rfl ?_
  refine g_getf (v := .inr (.inr (7, 1))) a10_isThing_6 fs10_76 rfl ?_
  refine g_V0s (v1 := .inl (f7_size 1 σ)) (σ1 := σ) a10_isThing_9 cv10_80 (E7_size _ _) rfl (fun o1 => ?_)
  refine g_iconst (v := 1) a10_isThing_12 rfl ?_
  refine g_isub a10_isThing_13 ?_
  refine g_S3s (v1 := .inl (f10_within x1 0 ((f7_size 1 σ) - 1))) (σ1 := σ) a10_isThing_14 cs10_96 (E10_within _ _ _ _) rfl (fun o2 => ?_)
  subst h
  exact g_retE a10_isThing_17 o2 rfl rfl
theorem a10_takes_0 : At cX10_takes 0 (.aload_n 0) 1 1 := ⟨by decide +kernel, rfl⟩
theorem a10_takes_1 : At cX10_takes 1 (.iload_n 1) 1 2 := ⟨by decide +kernel, rfl⟩
theorem a10_takes_2 : At cX10_takes 2 (.invokevirtual 169) 3 5 := ⟨by decide +kernel, rfl⟩
theorem a10_takes_5 : At cX10_takes 5 (.ifCond .ne 8) 3 8 := ⟨by decide +kernel, rfl⟩
theorem a10_takes_8 : At cX10_takes 8 (.aload_n 0) 1 9 := ⟨by decide +kernel, rfl⟩
theorem a10_takes_9 : At cX10_takes 9 (.invokevirtual 100) 3 12 := ⟨by decide +kernel, rfl⟩
theorem a10_takes_12 : At cX10_takes 12 (.ireturn) 1 13 := ⟨by decide +kernel, rfl⟩
theorem a10_takes_13 : At cX10_takes 13 (.aload_n 0) 1 14 := ⟨by decide +kernel, rfl⟩
theorem a10_takes_14 : At cX10_takes 14 (.getfield 10) 3 17 := ⟨by decide +kernel, rfl⟩
theorem a10_takes_17 : At cX10_takes 17 (.invokevirtual 156) 3 20 := ⟨by decide +kernel, rfl⟩
theorem a10_takes_20 : At cX10_takes 20 (.aload_n 0) 1 21 := ⟨by decide +kernel, rfl⟩
theorem a10_takes_21 : At cX10_takes 21 (.getfield 10) 3 24 := ⟨by decide +kernel, rfl⟩
theorem a10_takes_24 : At cX10_takes 24 (.iload_n 1) 1 25 := ⟨by decide +kernel, rfl⟩
theorem a10_takes_25 : At cX10_takes 25 (.invokevirtual 172) 3 28 := ⟨by decide +kernel, rfl⟩
theorem a10_takes_28 : At cX10_takes 28 (.aload_n 0) 1 29 := ⟨by decide +kernel, rfl⟩
theorem a10_takes_29 : At cX10_takes 29 (.getfield 10) 3 32 := ⟨by decide +kernel, rfl⟩
theorem a10_takes_32 : At cX10_takes 32 (.getfield 159) 3 35 := ⟨by decide +kernel, rfl⟩
theorem a10_takes_35 : At cX10_takes 35 (.iload_n 1) 1 36 := ⟨by decide +kernel, rfl⟩
theorem a10_takes_36 : At cX10_takes 36 (.invokevirtual 175) 3 39 := ⟨by decide +kernel, rfl⟩
theorem a10_takes_39 : At cX10_takes 39 (.ifCond .eq 7) 3 42 := ⟨by decide +kernel, rfl⟩
theorem a10_takes_42 : At cX10_takes 42 (.iconst 1) 1 43 := ⟨by decide +kernel, rfl⟩
theorem a10_takes_43 : At cX10_takes 43 (.goto 4) 3 46 := ⟨by decide +kernel, rfl⟩
theorem a10_takes_46 : At cX10_takes 46 (.iconst 0) 1 47 := ⟨by decide +kernel, rfl⟩
theorem a10_takes_47 : At cX10_takes 47 (.ireturn) 1 48 := ⟨by decide +kernel, rfl⟩
def f10_takes (k0 : Nat) (x1 : Int32) (σ : Mem) : Option (Int32 × Mem) :=
  if (f10_isThing k0 x1 σ) = 0 then
  (lt (f10_refuseBad k0 σ) fun w2 =>
  some (w2.1, w2.2))
  else
  (bnd (f9_remember 0 σ) fun w4 =>
  lt (f9_turn 0 x1 w4) fun w6 =>
  if (f4_isUp 0 x1 w6) = 0 then
  (some (0, w6))
  else
  (some (1, w6)))
theorem E10_takes {k0 : Nat} {x1 : Int32} {σ : Mem} {w : Int32 × Mem} (h : f10_takes k0 x1 σ = some w) : Ev m10_takes [.inr (.inr (10, k0)), .inl x1] σ (some (.inl w.1) : Option AV) w.2 := by
  unfold f10_takes at h
  show Go m10_takes 0 [some (.inr (.inr (10, k0))), some (.inl x1)] [] σ (some (.inl w.1) : Option AV) w.2
  refine g_aload_n a10_takes_0 rfl ?_
  refine g_iload_n a10_takes_1 rfl ?_
  refine g_V1s (v1 := .inl (f10_isThing k0 x1 σ)) (σ1 := σ) a10_takes_2 cv10_169 (E10_isThing _ _ _) rfl (fun o1 => ?_)
  refine g_if_ne (tgt := 13) a10_takes_5 rfl (fun c10 => ?_) (fun c10 => ?_)
  · have h := (if_neg c10).symm.trans h
    refine g_aload_n a10_takes_13 rfl ?_
    refine g_getf (v := .inr (.inr (9, 0))) a10_takes_14 fs10_10 rfl ?_
    obtain ⟨w4, hw4, h⟩ := bnd_inv h
    refine g_V0n (σ1 := w4) a10_takes_17 cv10_156 (E9_remember hw4) rfl (fun o5 => ?_)
    refine g_aload_n a10_takes_20 rfl ?_
    refine g_getf (v := .inr (.inr (9, 0))) a10_takes_21 fs10_10 rfl ?_
    refine g_iload_n a10_takes_24 rfl ?_
    obtain ⟨w6, hw6, h⟩ := lt_inv h
    refine g_V1n (σ1 := w6) a10_takes_25 cv10_172 (by rw [← hw6]; exact E9_turn _ _ _) rfl (fun o7 => ?_)
    refine g_aload_n a10_takes_28 rfl ?_
    refine g_getf (v := .inr (.inr (9, 0))) a10_takes_29 fs10_10 rfl ?_
    refine g_getf (v := .inr (.inr (4, 0))) a10_takes_32 fs10_159 rfl ?_
    refine g_iload_n a10_takes_35 rfl ?_
    refine g_V1s (v1 := .inl (f4_isUp 0 x1 w6)) (σ1 := w6) a10_takes_36 cv10_175 (E4_isUp _ _ _) rfl (fun o8 => ?_)
    refine g_if_eq (tgt := 46) a10_takes_39 rfl (fun c9 => ?_) (fun c9 => ?_)
    · have h := (if_pos c9).symm.trans h
      refine g_iconst (v := 0) a10_takes_46 rfl ?_
      have h := Option.some.inj h
      subst h
      exact g_retE a10_takes_47 trivial rfl rfl
    · have h := (if_neg c9).symm.trans h
      refine g_iconst (v := 1) a10_takes_42 rfl ?_
      refine g_goto (tgt := 47) a10_takes_43 rfl ?_
      have h := Option.some.inj h
      subst h
      exact g_retE a10_takes_47 trivial rfl rfl
  · have h := (if_pos c10).symm.trans h
    refine g_aload_n a10_takes_8 rfl ?_
    obtain ⟨w2, hw2, h⟩ := lt_inv h
    refine g_V0s (v1 := .inl w2.1) (σ1 := w2.2) a10_takes_9 cv10_100 (by rw [← hw2]; exact E10_refuseBad _ _) rfl (fun o3 => ?_)
    have h := Option.some.inj h
    subst h
    exact g_retE a10_takes_12 trivial rfl rfl
theorem a10_refuseNo_0 : At cX10_refuseNo 0 (.aload_n 0) 1 1 := ⟨by decide +kernel, rfl⟩
theorem a10_refuseNo_1 : At cX10_refuseNo 1 (.dup) 1 2 := ⟨by decide +kernel, rfl⟩
theorem a10_refuseNo_2 : At cX10_refuseNo 2 (.getfield 340) 3 5 := ⟨by decide +kernel, rfl⟩
theorem a10_refuseNo_5 : At cX10_refuseNo 5 (.iconst 1) 1 6 := ⟨by decide +kernel, rfl⟩
theorem a10_refuseNo_6 : At cX10_refuseNo 6 (.iadd) 1 7 := ⟨by decide +kernel, rfl⟩
theorem a10_refuseNo_7 : At cX10_refuseNo 7 (.putfield 340) 3 10 := ⟨by decide +kernel, rfl⟩
theorem a10_refuseNo_10 : At cX10_refuseNo 10 (.bipush (-3)) 2 12 := ⟨by decide +kernel, rfl⟩
theorem a10_refuseNo_12 : At cX10_refuseNo 12 (.ireturn) 1 13 := ⟨by decide +kernel, rfl⟩
def f10_refuseNo (k0 : Nat) (σ : Mem) : Int32 × Mem :=
  lt (sI σ 10 k0 14 ((σ.1 10 k0 14) + 1)) fun σ1 =>
  ((-3), σ1)
theorem E10_refuseNo (k0 : Nat) (σ : Mem) : Ev m10_refuseNo [.inr (.inr (10, k0))] σ (some (.inl ((f10_refuseNo k0 σ).1)) : Option AV) (f10_refuseNo k0 σ).2 := by
  obtain ⟨w, h⟩ : ∃ w, f10_refuseNo k0 σ = w := ⟨_, rfl⟩
  rw [h]
  unfold f10_refuseNo at h
  show Go m10_refuseNo 0 [some (.inr (.inr (10, k0)))] [] σ (some (.inl w.1) : Option AV) w.2
  refine g_aload_n a10_refuseNo_0 rfl ?_
  refine g_dup a10_refuseNo_1 (fun _ => rfl) ?_
  refine g_getf (v := .inl (σ.1 10 k0 14)) a10_refuseNo_2 fs10_340 rfl ?_
  refine g_iconst (v := 1) a10_refuseNo_5 rfl ?_
  refine g_iadd a10_refuseNo_6 ?_
  obtain ⟨σ1, eσ1, h⟩ := lt_inv h
  refine g_puti a10_refuseNo_7 fs10_340 ps10_14 (fun _ _ _ => rfl) ?_
  rw [eσ1]
  refine g_bipush (v := (-3)) a10_refuseNo_10 rfl ?_
  subst h
  exact g_retE a10_refuseNo_12 trivial rfl rfl
theorem a9_goBack_0 : At cX9_goBack 0 (.aload_n 0) 1 1 := ⟨by decide +kernel, rfl⟩
theorem a9_goBack_1 : At cX9_goBack 1 (.getfield 35) 3 4 := ⟨by decide +kernel, rfl⟩
theorem a9_goBack_4 : At cX9_goBack 4 (.invokevirtual 70) 3 7 := ⟨by decide +kernel, rfl⟩
theorem a9_goBack_7 : At cX9_goBack 7 (.iconst 1) 1 8 := ⟨by decide +kernel, rfl⟩
theorem a9_goBack_8 : At cX9_goBack 8 (.isub) 1 9 := ⟨by decide +kernel, rfl⟩
theorem a9_goBack_9 : At cX9_goBack 9 (.istore_n 1) 1 10 := ⟨by decide +kernel, rfl⟩
theorem a9_goBack_10 : At cX9_goBack 10 (.aload_n 0) 1 11 := ⟨by decide +kernel, rfl⟩
theorem a9_goBack_11 : At cX9_goBack 11 (.getfield 41) 3 14 := ⟨by decide +kernel, rfl⟩
theorem a9_goBack_14 : At cX9_goBack 14 (.aload_n 0) 1 15 := ⟨by decide +kernel, rfl⟩
theorem a9_goBack_15 : At cX9_goBack 15 (.getfield 35) 3 18 := ⟨by decide +kernel, rfl⟩
theorem a9_goBack_18 : At cX9_goBack 18 (.iload_n 1) 1 19 := ⟨by decide +kernel, rfl⟩
theorem a9_goBack_19 : At cX9_goBack 19 (.iconst 0) 1 20 := ⟨by decide +kernel, rfl⟩
theorem a9_goBack_20 : At cX9_goBack 20 (.invokevirtual 94) 3 23 := ⟨by decide +kernel, rfl⟩
theorem a9_goBack_23 : At cX9_goBack 23 (.aload_n 0) 1 24 := ⟨by decide +kernel, rfl⟩
theorem a9_goBack_24 : At cX9_goBack 24 (.getfield 35) 3 27 := ⟨by decide +kernel, rfl⟩
theorem a9_goBack_27 : At cX9_goBack 27 (.iload_n 1) 1 28 := ⟨by decide +kernel, rfl⟩
theorem a9_goBack_28 : At cX9_goBack 28 (.iconst 1) 1 29 := ⟨by decide +kernel, rfl⟩
theorem a9_goBack_29 : At cX9_goBack 29 (.invokevirtual 94) 3 32 := ⟨by decide +kernel, rfl⟩
theorem a9_goBack_32 : At cX9_goBack 32 (.aload_n 0) 1 33 := ⟨by decide +kernel, rfl⟩
theorem a9_goBack_33 : At cX9_goBack 33 (.getfield 35) 3 36 := ⟨by decide +kernel, rfl⟩
theorem a9_goBack_36 : At cX9_goBack 36 (.iload_n 1) 1 37 := ⟨by decide +kernel, rfl⟩
theorem a9_goBack_37 : At cX9_goBack 37 (.iconst 2) 1 38 := ⟨by decide +kernel, rfl⟩
theorem a9_goBack_38 : At cX9_goBack 38 (.invokevirtual 94) 3 41 := ⟨by decide +kernel, rfl⟩
theorem a9_goBack_41 : At cX9_goBack 41 (.aload_n 0) 1 42 := ⟨by decide +kernel, rfl⟩
theorem a9_goBack_42 : At cX9_goBack 42 (.getfield 35) 3 45 := ⟨by decide +kernel, rfl⟩
theorem a9_goBack_45 : At cX9_goBack 45 (.iload_n 1) 1 46 := ⟨by decide +kernel, rfl⟩
theorem a9_goBack_46 : At cX9_goBack 46 (.iconst 3) 1 47 := ⟨by decide +kernel, rfl⟩
theorem a9_goBack_47 : At cX9_goBack 47 (.invokevirtual 94) 3 50 := ⟨by decide +kernel, rfl⟩
theorem a9_goBack_50 : At cX9_goBack 50 (.invokevirtual 55) 3 53 := ⟨by decide +kernel, rfl⟩
theorem a9_goBack_53 : At cX9_goBack 53 (.aload_n 0) 1 54 := ⟨by decide +kernel, rfl⟩
theorem a9_goBack_54 : At cX9_goBack 54 (.getfield 35) 3 57 := ⟨by decide +kernel, rfl⟩
theorem a9_goBack_57 : At cX9_goBack 57 (.invokevirtual 98) 3 60 := ⟨by decide +kernel, rfl⟩
theorem a9_goBack_60 : At cX9_goBack 60 (.return_) 1 61 := ⟨by decide +kernel, rfl⟩
def f9_goBack (k0 : Nat) (σ : Mem) : Option (Mem) :=
  bnd (f7_at (7 * k0 + 6) ((f7_size (7 * k0 + 6) σ) - 1) 0 σ) fun w2 =>
  bnd (f7_at (7 * k0 + 6) ((f7_size (7 * k0 + 6) σ) - 1) 1 σ) fun w4 =>
  bnd (f7_at (7 * k0 + 6) ((f7_size (7 * k0 + 6) σ) - 1) 2 σ) fun w6 =>
  bnd (f7_at (7 * k0 + 6) ((f7_size (7 * k0 + 6) σ) - 1) 3 σ) fun w8 =>
  lt (f4_set k0 w2 w4 w6 w8 σ) fun w10 =>
  lt (f7_dropLast (7 * k0 + 6) w10) fun w12 =>
  some w12
theorem E9_goBack {k0 : Nat} {σ : Mem} {w : Mem} (h : f9_goBack k0 σ = some w) : Ev m9_goBack [.inr (.inr (9, k0))] σ none w := by
  unfold f9_goBack at h
  show Go m9_goBack 0 [some (.inr (.inr (9, k0))), none] [] σ none w
  refine g_aload_n a9_goBack_0 rfl ?_
  refine g_getf (v := .inr (.inr (7, (7 * k0 + 6)))) a9_goBack_1 fs9_35 rfl ?_
  refine g_V0s (v1 := .inl (f7_size (7 * k0 + 6) σ)) (σ1 := σ) a9_goBack_4 cv9_70 (E7_size _ _) rfl (fun o1 => ?_)
  refine g_iconst (v := 1) a9_goBack_7 rfl ?_
  refine g_isub a9_goBack_8 ?_
  refine g_istore_n (L' := [some (.inr (.inr (9, k0))), some (.inl ((f7_size (7 * k0 + 6) σ) - 1))]) a9_goBack_9 (Nat.le_of_ble_eq_true rfl) rfl rfl ?_
  refine g_aload_n a9_goBack_10 rfl ?_
  refine g_getf (v := .inr (.inr (4, k0))) a9_goBack_11 fs9_41 rfl ?_
  refine g_aload_n a9_goBack_14 rfl ?_
  refine g_getf (v := .inr (.inr (7, (7 * k0 + 6)))) a9_goBack_15 fs9_35 rfl ?_
  refine g_iload_n a9_goBack_18 rfl ?_
  refine g_iconst (v := 0) a9_goBack_19 rfl ?_
  obtain ⟨w2, hw2, h⟩ := bnd_inv h
  refine g_V2s (v1 := .inl w2) (σ1 := σ) a9_goBack_20 cv9_94 (E7_at hw2) rfl (fun o3 => ?_)
  refine g_aload_n a9_goBack_23 rfl ?_
  refine g_getf (v := .inr (.inr (7, (7 * k0 + 6)))) a9_goBack_24 fs9_35 rfl ?_
  refine g_iload_n a9_goBack_27 rfl ?_
  refine g_iconst (v := 1) a9_goBack_28 rfl ?_
  obtain ⟨w4, hw4, h⟩ := bnd_inv h
  refine g_V2s (v1 := .inl w4) (σ1 := σ) a9_goBack_29 cv9_94 (E7_at hw4) rfl (fun o5 => ?_)
  refine g_aload_n a9_goBack_32 rfl ?_
  refine g_getf (v := .inr (.inr (7, (7 * k0 + 6)))) a9_goBack_33 fs9_35 rfl ?_
  refine g_iload_n a9_goBack_36 rfl ?_
  refine g_iconst (v := 2) a9_goBack_37 rfl ?_
  obtain ⟨w6, hw6, h⟩ := bnd_inv h
  refine g_V2s (v1 := .inl w6) (σ1 := σ) a9_goBack_38 cv9_94 (E7_at hw6) rfl (fun o7 => ?_)
  refine g_aload_n a9_goBack_41 rfl ?_
  refine g_getf (v := .inr (.inr (7, (7 * k0 + 6)))) a9_goBack_42 fs9_35 rfl ?_
  refine g_iload_n a9_goBack_45 rfl ?_
  refine g_iconst (v := 3) a9_goBack_46 rfl ?_
  obtain ⟨w8, hw8, h⟩ := bnd_inv h
  refine g_V2s (v1 := .inl w8) (σ1 := σ) a9_goBack_47 cv9_94 (E7_at hw8) rfl (fun o9 => ?_)
  obtain ⟨w10, hw10, h⟩ := lt_inv h
  refine g_V4n (σ1 := w10) a9_goBack_50 cv9_55 (by rw [← hw10]; exact E4_set _ _ _ _ _ _) rfl (fun o11 => ?_)
  refine g_aload_n a9_goBack_53 rfl ?_
  refine g_getf (v := .inr (.inr (7, (7 * k0 + 6)))) a9_goBack_54 fs9_35 rfl ?_
  obtain ⟨w12, hw12, h⟩ := lt_inv h
  refine g_V0n (σ1 := w12) a9_goBack_57 cv9_98 (by rw [← hw12]; exact E7_dropLast _ _) rfl (fun o13 => ?_)
  have h := Option.some.inj h
  subst h
  exact g_retE a9_goBack_60 trivial rfl rfl
theorem a10_undo_0 : At cX10_undo 0 (.aload_n 0) 1 1 := ⟨by decide +kernel, rfl⟩
theorem a10_undo_1 : At cX10_undo 1 (.getfield 10) 3 4 := ⟨by decide +kernel, rfl⟩
theorem a10_undo_4 : At cX10_undo 4 (.getfield 178) 3 7 := ⟨by decide +kernel, rfl⟩
theorem a10_undo_7 : At cX10_undo 7 (.invokevirtual 80) 3 10 := ⟨by decide +kernel, rfl⟩
theorem a10_undo_10 : At cX10_undo 10 (.ifCond .ne 8) 3 13 := ⟨by decide +kernel, rfl⟩
theorem a10_undo_13 : At cX10_undo 13 (.aload_n 0) 1 14 := ⟨by decide +kernel, rfl⟩
theorem a10_undo_14 : At cX10_undo 14 (.invokevirtual 181) 3 17 := ⟨by decide +kernel, rfl⟩
theorem a10_undo_17 : At cX10_undo 17 (.ireturn) 1 18 := ⟨by decide +kernel, rfl⟩
theorem a10_undo_18 : At cX10_undo 18 (.aload_n 0) 1 19 := ⟨by decide +kernel, rfl⟩
theorem a10_undo_19 : At cX10_undo 19 (.getfield 10) 3 22 := ⟨by decide +kernel, rfl⟩
theorem a10_undo_22 : At cX10_undo 22 (.invokevirtual 184) 3 25 := ⟨by decide +kernel, rfl⟩
theorem a10_undo_25 : At cX10_undo 25 (.aload_n 0) 1 26 := ⟨by decide +kernel, rfl⟩
theorem a10_undo_26 : At cX10_undo 26 (.getfield 10) 3 29 := ⟨by decide +kernel, rfl⟩
theorem a10_undo_29 : At cX10_undo 29 (.getfield 159) 3 32 := ⟨by decide +kernel, rfl⟩
theorem a10_undo_32 : At cX10_undo 32 (.getfield 187) 3 35 := ⟨by decide +kernel, rfl⟩
theorem a10_undo_35 : At cX10_undo 35 (.ireturn) 1 36 := ⟨by decide +kernel, rfl⟩
def f10_undo (k0 : Nat) (σ : Mem) : Option (Int32 × Mem) :=
  if (f7_size 6 σ) = 0 then
  (lt (f10_refuseNo k0 σ) fun w2 =>
  some (w2.1, w2.2))
  else
  (bnd (f9_goBack 0 σ) fun w4 =>
  some ((w4.1 4 0 3), w4))
theorem E10_undo {k0 : Nat} {σ : Mem} {w : Int32 × Mem} (h : f10_undo k0 σ = some w) : Ev m10_undo [.inr (.inr (10, k0))] σ (some (.inl w.1) : Option AV) w.2 := by
  unfold f10_undo at h
  show Go m10_undo 0 [some (.inr (.inr (10, k0)))] [] σ (some (.inl w.1) : Option AV) w.2
  refine g_aload_n a10_undo_0 rfl ?_
  refine g_getf (v := .inr (.inr (9, 0))) a10_undo_1 fs10_10 rfl ?_
  refine g_getf (v := .inr (.inr (7, 6))) a10_undo_4 fs10_178 rfl ?_
  refine g_V0s (v1 := .inl (f7_size 6 σ)) (σ1 := σ) a10_undo_7 cv10_80 (E7_size _ _) rfl (fun o1 => ?_)
  refine g_if_ne (tgt := 18) a10_undo_10 rfl (fun c6 => ?_) (fun c6 => ?_)
  · have h := (if_neg c6).symm.trans h
    refine g_aload_n a10_undo_18 rfl ?_
    refine g_getf (v := .inr (.inr (9, 0))) a10_undo_19 fs10_10 rfl ?_
    obtain ⟨w4, hw4, h⟩ := bnd_inv h
    refine g_V0n (σ1 := w4) a10_undo_22 cv10_184 (E9_goBack hw4) rfl (fun o5 => ?_)
    refine g_aload_n a10_undo_25 rfl ?_
    refine g_getf (v := .inr (.inr (9, 0))) a10_undo_26 fs10_10 rfl ?_
    refine g_getf (v := .inr (.inr (4, 0))) a10_undo_29 fs10_159 rfl ?_
    refine g_getf (v := .inl (w4.1 4 0 3)) a10_undo_32 fs10_187 rfl ?_
    have h := Option.some.inj h
    subst h
    exact g_retE a10_undo_35 trivial rfl rfl
  · have h := (if_pos c6).symm.trans h
    refine g_aload_n a10_undo_13 rfl ?_
    obtain ⟨w2, hw2, h⟩ := lt_inv h
    refine g_V0s (v1 := .inl w2.1) (σ1 := w2.2) a10_undo_14 cv10_181 (by rw [← hw2]; exact E10_refuseNo _ _) rfl (fun o3 => ?_)
    have h := Option.some.inj h
    subst h
    exact g_retE a10_undo_17 trivial rfl rfl
theorem a10_of_0 : At cX10_of 0 (.aload_n 0) 1 1 := ⟨by decide +kernel, rfl⟩
theorem a10_of_1 : At cX10_of 1 (.iload_n 1) 1 2 := ⟨by decide +kernel, rfl⟩
theorem a10_of_2 : At cX10_of 2 (.invokevirtual 169) 3 5 := ⟨by decide +kernel, rfl⟩
theorem a10_of_5 : At cX10_of 5 (.ifCond .eq 12) 3 8 := ⟨by decide +kernel, rfl⟩
theorem a10_of_8 : At cX10_of 8 (.iload_n 2) 1 9 := ⟨by decide +kernel, rfl⟩
theorem a10_of_9 : At cX10_of 9 (.iconst 0) 1 10 := ⟨by decide +kernel, rfl⟩
theorem a10_of_10 : At cX10_of 10 (.iconst 3) 1 11 := ⟨by decide +kernel, rfl⟩
theorem a10_of_11 : At cX10_of 11 (.invokestatic 96) 3 14 := ⟨by decide +kernel, rfl⟩
theorem a10_of_14 : At cX10_of 14 (.ifCond .ne 8) 3 17 := ⟨by decide +kernel, rfl⟩
theorem a10_of_17 : At cX10_of 17 (.aload_n 0) 1 18 := ⟨by decide +kernel, rfl⟩
theorem a10_of_18 : At cX10_of 18 (.invokevirtual 100) 3 21 := ⟨by decide +kernel, rfl⟩
theorem a10_of_21 : At cX10_of 21 (.ireturn) 1 22 := ⟨by decide +kernel, rfl⟩
theorem a10_of_22 : At cX10_of 22 (.iload_n 2) 1 23 := ⟨by decide +kernel, rfl⟩
theorem a10_of_23 : At cX10_of 23 (.iconst 3) 1 24 := ⟨by decide +kernel, rfl⟩
theorem a10_of_24 : At cX10_of 24 (.if_icmp .ne 23) 3 27 := ⟨by decide +kernel, rfl⟩
theorem a10_of_27 : At cX10_of 27 (.aload_n 0) 1 28 := ⟨by decide +kernel, rfl⟩
theorem a10_of_28 : At cX10_of 28 (.getfield 10) 3 31 := ⟨by decide +kernel, rfl⟩
theorem a10_of_31 : At cX10_of 31 (.getfield 159) 3 34 := ⟨by decide +kernel, rfl⟩
theorem a10_of_34 : At cX10_of 34 (.iload_n 1) 1 35 := ⟨by decide +kernel, rfl⟩
theorem a10_of_35 : At cX10_of 35 (.invokevirtual 175) 3 38 := ⟨by decide +kernel, rfl⟩
theorem a10_of_38 : At cX10_of 38 (.ifCond .eq 7) 3 41 := ⟨by decide +kernel, rfl⟩
theorem a10_of_41 : At cX10_of 41 (.iconst 1) 1 42 := ⟨by decide +kernel, rfl⟩
theorem a10_of_42 : At cX10_of 42 (.goto 4) 3 45 := ⟨by decide +kernel, rfl⟩
theorem a10_of_45 : At cX10_of 45 (.iconst 0) 1 46 := ⟨by decide +kernel, rfl⟩
theorem a10_of_46 : At cX10_of 46 (.ireturn) 1 47 := ⟨by decide +kernel, rfl⟩
theorem a10_of_47 : At cX10_of 47 (.aload_n 0) 1 48 := ⟨by decide +kernel, rfl⟩
theorem a10_of_48 : At cX10_of 48 (.getfield 10) 3 51 := ⟨by decide +kernel, rfl⟩
theorem a10_of_51 : At cX10_of 51 (.getfield 76) 3 54 := ⟨by decide +kernel, rfl⟩
theorem a10_of_54 : At cX10_of 54 (.iload_n 1) 1 55 := ⟨by decide +kernel, rfl⟩
theorem a10_of_55 : At cX10_of 55 (.iload_n 2) 1 56 := ⟨by decide +kernel, rfl⟩
theorem a10_of_56 : At cX10_of 56 (.invokevirtual 106) 3 59 := ⟨by decide +kernel, rfl⟩
theorem a10_of_59 : At cX10_of 59 (.ireturn) 1 60 := ⟨by decide +kernel, rfl⟩
def f10_of (k0 : Nat) (x1 : Int32) (x2 : Int32) (σ : Mem) : Option (Int32 × Mem) :=
  if (f10_isThing k0 x1 σ) = 0 then
  (lt (f10_refuseBad k0 σ) fun w2 =>
  some (w2.1, w2.2))
  else
  (if (f10_within x2 0 3) = 0 then
  (lt (f10_refuseBad k0 σ) fun w5 =>
  some (w5.1, w5.2))
  else
  (if x2 = 3 then
  (if (f4_isUp 0 x1 σ) = 0 then
  (some (0, σ))
  else
  (some (1, σ)))
  else
  (bnd (f7_at 1 x1 x2 σ) fun w9 =>
  some (w9, σ))))
theorem E10_of {k0 : Nat} {x1 : Int32} {x2 : Int32} {σ : Mem} {w : Int32 × Mem} (h : f10_of k0 x1 x2 σ = some w) : Ev m10_of [.inr (.inr (10, k0)), .inl x1, .inl x2] σ (some (.inl w.1) : Option AV) w.2 := by
  unfold f10_of at h
  show Go m10_of 0 [some (.inr (.inr (10, k0))), some (.inl x1), some (.inl x2)] [] σ (some (.inl w.1) : Option AV) w.2
  refine g_aload_n a10_of_0 rfl ?_
  refine g_iload_n a10_of_1 rfl ?_
  refine g_V1s (v1 := .inl (f10_isThing k0 x1 σ)) (σ1 := σ) a10_of_2 cv10_169 (E10_isThing _ _ _) rfl (fun o1 => ?_)
  refine g_if_eq (tgt := 17) a10_of_5 rfl (fun c13 => ?_) (fun c13 => ?_)
  · have h := (if_pos c13).symm.trans h
    refine g_aload_n a10_of_17 rfl ?_
    obtain ⟨w2, hw2, h⟩ := lt_inv h
    refine g_V0s (v1 := .inl w2.1) (σ1 := w2.2) a10_of_18 cv10_100 (by rw [← hw2]; exact E10_refuseBad _ _) rfl (fun o3 => ?_)
    have h := Option.some.inj h
    subst h
    exact g_retE a10_of_21 trivial rfl rfl
  · have h := (if_neg c13).symm.trans h
    refine g_iload_n a10_of_8 rfl ?_
    refine g_iconst (v := 0) a10_of_9 rfl ?_
    refine g_iconst (v := 3) a10_of_10 rfl ?_
    refine g_S3s (v1 := .inl (f10_within x2 0 3)) (σ1 := σ) a10_of_11 cs10_96 (E10_within _ _ _ _) rfl (fun o4 => ?_)
    refine g_if_ne (tgt := 22) a10_of_14 rfl (fun c12 => ?_) (fun c12 => ?_)
    · have h := (if_neg c12).symm.trans h
      refine g_iload_n a10_of_22 rfl ?_
      refine g_iconst (v := 3) a10_of_23 rfl ?_
      refine g_icmp_ne (tgt := 47) a10_of_24 rfl (fun c11 => ?_) (fun c11 => ?_)
      · have h := (if_neg c11).symm.trans h
        refine g_aload_n a10_of_47 rfl ?_
        refine g_getf (v := .inr (.inr (9, 0))) a10_of_48 fs10_10 rfl ?_
        refine g_getf (v := .inr (.inr (7, 1))) a10_of_51 fs10_76 rfl ?_
        refine g_iload_n a10_of_54 rfl ?_
        refine g_iload_n a10_of_55 rfl ?_
        obtain ⟨w9, hw9, h⟩ := bnd_inv h
        refine g_V2s (v1 := .inl w9) (σ1 := σ) a10_of_56 cv10_106 (E7_at hw9) rfl (fun o10 => ?_)
        have h := Option.some.inj h
        subst h
        exact g_retE a10_of_59 trivial rfl rfl
      · have h := (if_pos c11).symm.trans h
        refine g_aload_n a10_of_27 rfl ?_
        refine g_getf (v := .inr (.inr (9, 0))) a10_of_28 fs10_10 rfl ?_
        refine g_getf (v := .inr (.inr (4, 0))) a10_of_31 fs10_159 rfl ?_
        refine g_iload_n a10_of_34 rfl ?_
        refine g_V1s (v1 := .inl (f4_isUp 0 x1 σ)) (σ1 := σ) a10_of_35 cv10_175 (E4_isUp _ _ _) rfl (fun o7 => ?_)
        refine g_if_eq (tgt := 45) a10_of_38 rfl (fun c8 => ?_) (fun c8 => ?_)
        · have h := (if_pos c8).symm.trans h
          refine g_iconst (v := 0) a10_of_45 rfl ?_
          have h := Option.some.inj h
          subst h
          exact g_retE a10_of_46 trivial rfl rfl
        · have h := (if_neg c8).symm.trans h
          refine g_iconst (v := 1) a10_of_41 rfl ?_
          refine g_goto (tgt := 46) a10_of_42 rfl ?_
          have h := Option.some.inj h
          subst h
          exact g_retE a10_of_46 trivial rfl rfl
    · have h := (if_pos c12).symm.trans h
      refine g_aload_n a10_of_17 rfl ?_
      obtain ⟨w5, hw5, h⟩ := lt_inv h
      refine g_V0s (v1 := .inl w5.1) (σ1 := w5.2) a10_of_18 cv10_100 (by rw [← hw5]; exact E10_refuseBad _ _) rfl (fun o6 => ?_)
      have h := Option.some.inj h
      subst h
      exact g_retE a10_of_21 trivial rfl rfl
theorem a10_isPart_0 : At cX10_isPart 0 (.iload_n 1) 1 1 := ⟨by decide +kernel, rfl⟩
theorem a10_isPart_1 : At cX10_isPart 1 (.iconst 0) 1 2 := ⟨by decide +kernel, rfl⟩
theorem a10_isPart_2 : At cX10_isPart 2 (.aload_n 0) 1 3 := ⟨by decide +kernel, rfl⟩
theorem a10_isPart_3 : At cX10_isPart 3 (.getfield 10) 3 6 := ⟨by decide +kernel, rfl⟩
theorem a10_isPart_6 : At cX10_isPart 6 (.getfield 131) 3 9 := ⟨by decide +kernel, rfl⟩
theorem a10_isPart_9 : At cX10_isPart 9 (.invokevirtual 80) 3 12 := ⟨by decide +kernel, rfl⟩
theorem a10_isPart_12 : At cX10_isPart 12 (.iconst 1) 1 13 := ⟨by decide +kernel, rfl⟩
theorem a10_isPart_13 : At cX10_isPart 13 (.isub) 1 14 := ⟨by decide +kernel, rfl⟩
theorem a10_isPart_14 : At cX10_isPart 14 (.invokestatic 96) 3 17 := ⟨by decide +kernel, rfl⟩
theorem a10_isPart_17 : At cX10_isPart 17 (.ireturn) 1 18 := ⟨by decide +kernel, rfl⟩
def f10_isPart (k0 : Nat) (x1 : Int32) (σ : Mem) : Int32 :=
  (f10_within x1 0 ((f7_size 2 σ) - 1))
theorem E10_isPart (k0 : Nat) (x1 : Int32) (σ : Mem) : Ev m10_isPart [.inr (.inr (10, k0)), .inl x1] σ (some (.inl (f10_isPart k0 x1 σ)) : Option AV) σ := by
  obtain ⟨w, h⟩ : ∃ w, f10_isPart k0 x1 σ = w := ⟨_, rfl⟩
  rw [h]
  unfold f10_isPart at h
  show Go m10_isPart 0 [some (.inr (.inr (10, k0))), some (.inl x1)] [] σ (some (.inl w) : Option AV) σ
  refine g_iload_n a10_isPart_0 rfl ?_
  refine g_iconst (v := 0) a10_isPart_1 rfl ?_
  refine g_aload_n a10_isPart_2 rfl ?_
  refine g_getf (v := .inr (.inr (9, 0))) a10_isPart_3 fs10_10 rfl ?_
  refine g_getf (v := .inr (.inr (7, 2))) a10_isPart_6 fs10_131 rfl ?_
  refine g_V0s (v1 := .inl (f7_size 2 σ)) (σ1 := σ) a10_isPart_9 cv10_80 (E7_size _ _) rfl (fun o1 => ?_)
  refine g_iconst (v := 1) a10_isPart_12 rfl ?_
  refine g_isub a10_isPart_13 ?_
  refine g_S3s (v1 := .inl (f10_within x1 0 ((f7_size 2 σ) - 1))) (σ1 := σ) a10_isPart_14 cs10_96 (E10_within _ _ _ _) rfl (fun o2 => ?_)
  subst h
  exact g_retE a10_isPart_17 o2 rfl rfl
theorem a9_needOf_0 : At cX9_needOf 0 (.aload_n 0) 1 1 := ⟨by decide +kernel, rfl⟩
theorem a9_needOf_1 : At cX9_needOf 1 (.getfield 23) 3 4 := ⟨by decide +kernel, rfl⟩
theorem a9_needOf_4 : At cX9_needOf 4 (.iload_n 1) 1 5 := ⟨by decide +kernel, rfl⟩
theorem a9_needOf_5 : At cX9_needOf 5 (.iconst 0) 1 6 := ⟨by decide +kernel, rfl⟩
theorem a9_needOf_6 : At cX9_needOf 6 (.invokevirtual 94) 3 9 := ⟨by decide +kernel, rfl⟩
theorem a9_needOf_9 : At cX9_needOf 9 (.iload_n 2) 1 10 := ⟨by decide +kernel, rfl⟩
theorem a9_needOf_10 : At cX9_needOf 10 (.iload_n 3) 1 11 := ⟨by decide +kernel, rfl⟩
theorem a9_needOf_11 : At cX9_needOf 11 (.invokestatic 117) 3 14 := ⟨by decide +kernel, rfl⟩
theorem a9_needOf_14 : At cX9_needOf 14 (.ireturn) 1 15 := ⟨by decide +kernel, rfl⟩
def f9_needOf (k0 : Nat) (x1 : Int32) (x2 : Int32) (x3 : Int32) (σ : Mem) : Option (Int32) :=
  bnd (f7_at (7 * k0 + 2) x1 0 σ) fun w1 =>
  some (f3_need w1 x2 x3)
theorem E9_needOf {k0 : Nat} {x1 : Int32} {x2 : Int32} {x3 : Int32} {σ : Mem} {w : Int32} (h : f9_needOf k0 x1 x2 x3 σ = some w) : Ev m9_needOf [.inr (.inr (9, k0)), .inl x1, .inl x2, .inl x3] σ (some (.inl w) : Option AV) σ := by
  unfold f9_needOf at h
  show Go m9_needOf 0 [some (.inr (.inr (9, k0))), some (.inl x1), some (.inl x2), some (.inl x3)] [] σ (some (.inl w) : Option AV) σ
  refine g_aload_n a9_needOf_0 rfl ?_
  refine g_getf (v := .inr (.inr (7, (7 * k0 + 2)))) a9_needOf_1 fs9_23 rfl ?_
  refine g_iload_n a9_needOf_4 rfl ?_
  refine g_iconst (v := 0) a9_needOf_5 rfl ?_
  obtain ⟨w1, hw1, h⟩ := bnd_inv h
  refine g_V2s (v1 := .inl w1) (σ1 := σ) a9_needOf_6 cv9_94 (E7_at hw1) rfl (fun o2 => ?_)
  refine g_iload_n a9_needOf_9 rfl ?_
  refine g_iload_n a9_needOf_10 rfl ?_
  refine g_S3s (v1 := .inl (f3_need w1 x2 x3)) (σ1 := σ) a9_needOf_11 cs9_117 (E3_need _ _ _ _) rfl (fun o3 => ?_)
  have h := Option.some.inj h
  subst h
  exact g_retE a9_needOf_14 trivial rfl rfl
theorem a10_about_0 : At cX10_about 0 (.aload_n 0) 1 1 := ⟨by decide +kernel, rfl⟩
theorem a10_about_1 : At cX10_about 1 (.iload_n 1) 1 2 := ⟨by decide +kernel, rfl⟩
theorem a10_about_2 : At cX10_about 2 (.invokevirtual 191) 3 5 := ⟨by decide +kernel, rfl⟩
theorem a10_about_5 : At cX10_about 5 (.ifCond .eq 12) 3 8 := ⟨by decide +kernel, rfl⟩
theorem a10_about_8 : At cX10_about 8 (.iload_n 2) 1 9 := ⟨by decide +kernel, rfl⟩
theorem a10_about_9 : At cX10_about 9 (.iconst 0) 1 10 := ⟨by decide +kernel, rfl⟩
theorem a10_about_10 : At cX10_about 10 (.iconst 2) 1 11 := ⟨by decide +kernel, rfl⟩
theorem a10_about_11 : At cX10_about 11 (.invokestatic 96) 3 14 := ⟨by decide +kernel, rfl⟩
theorem a10_about_14 : At cX10_about 14 (.ifCond .ne 8) 3 17 := ⟨by decide +kernel, rfl⟩
theorem a10_about_17 : At cX10_about 17 (.aload_n 0) 1 18 := ⟨by decide +kernel, rfl⟩
theorem a10_about_18 : At cX10_about 18 (.invokevirtual 100) 3 21 := ⟨by decide +kernel, rfl⟩
theorem a10_about_21 : At cX10_about 21 (.ireturn) 1 22 := ⟨by decide +kernel, rfl⟩
theorem a10_about_22 : At cX10_about 22 (.iload_n 2) 1 23 := ⟨by decide +kernel, rfl⟩
theorem a10_about_23 : At cX10_about 23 (.lookupswitch 58 #[(0, 25), (1, 38)]) 25 48 := ⟨by decide +kernel, rfl⟩
theorem a10_about_48 : At cX10_about 48 (.aload_n 0) 1 49 := ⟨by decide +kernel, rfl⟩
theorem a10_about_49 : At cX10_about 49 (.getfield 10) 3 52 := ⟨by decide +kernel, rfl⟩
theorem a10_about_52 : At cX10_about 52 (.getfield 131) 3 55 := ⟨by decide +kernel, rfl⟩
theorem a10_about_55 : At cX10_about 55 (.iload_n 1) 1 56 := ⟨by decide +kernel, rfl⟩
theorem a10_about_56 : At cX10_about 56 (.iconst 0) 1 57 := ⟨by decide +kernel, rfl⟩
theorem a10_about_57 : At cX10_about 57 (.invokevirtual 106) 3 60 := ⟨by decide +kernel, rfl⟩
theorem a10_about_60 : At cX10_about 60 (.ireturn) 1 61 := ⟨by decide +kernel, rfl⟩
theorem a10_about_61 : At cX10_about 61 (.aload_n 0) 1 62 := ⟨by decide +kernel, rfl⟩
theorem a10_about_62 : At cX10_about 62 (.getfield 10) 3 65 := ⟨by decide +kernel, rfl⟩
theorem a10_about_65 : At cX10_about 65 (.getfield 159) 3 68 := ⟨by decide +kernel, rfl⟩
theorem a10_about_68 : At cX10_about 68 (.iload_n 1) 1 69 := ⟨by decide +kernel, rfl⟩
theorem a10_about_69 : At cX10_about 69 (.invokevirtual 194) 3 72 := ⟨by decide +kernel, rfl⟩
theorem a10_about_72 : At cX10_about 72 (.ifCond .eq 7) 3 75 := ⟨by decide +kernel, rfl⟩
theorem a10_about_75 : At cX10_about 75 (.iconst 1) 1 76 := ⟨by decide +kernel, rfl⟩
theorem a10_about_76 : At cX10_about 76 (.goto 4) 3 79 := ⟨by decide +kernel, rfl⟩
theorem a10_about_79 : At cX10_about 79 (.iconst 0) 1 80 := ⟨by decide +kernel, rfl⟩
theorem a10_about_80 : At cX10_about 80 (.ireturn) 1 81 := ⟨by decide +kernel, rfl⟩
theorem a10_about_81 : At cX10_about 81 (.aload_n 0) 1 82 := ⟨by decide +kernel, rfl⟩
theorem a10_about_82 : At cX10_about 82 (.getfield 10) 3 85 := ⟨by decide +kernel, rfl⟩
theorem a10_about_85 : At cX10_about 85 (.iload_n 1) 1 86 := ⟨by decide +kernel, rfl⟩
theorem a10_about_86 : At cX10_about 86 (.aload_n 0) 1 87 := ⟨by decide +kernel, rfl⟩
theorem a10_about_87 : At cX10_about 87 (.getfield 10) 3 90 := ⟨by decide +kernel, rfl⟩
theorem a10_about_90 : At cX10_about 90 (.getfield 159) 3 93 := ⟨by decide +kernel, rfl⟩
theorem a10_about_93 : At cX10_about 93 (.invokevirtual 166) 3 96 := ⟨by decide +kernel, rfl⟩
theorem a10_about_96 : At cX10_about 96 (.aload_n 0) 1 97 := ⟨by decide +kernel, rfl⟩
theorem a10_about_97 : At cX10_about 97 (.getfield 10) 3 100 := ⟨by decide +kernel, rfl⟩
theorem a10_about_100 : At cX10_about 100 (.getfield 159) 3 103 := ⟨by decide +kernel, rfl⟩
theorem a10_about_103 : At cX10_about 103 (.getfield 187) 3 106 := ⟨by decide +kernel, rfl⟩
theorem a10_about_106 : At cX10_about 106 (.invokevirtual 197) 3 109 := ⟨by decide +kernel, rfl⟩
theorem a10_about_109 : At cX10_about 109 (.ireturn) 1 110 := ⟨by decide +kernel, rfl⟩
def f10_about (k0 : Nat) (x1 : Int32) (x2 : Int32) (σ : Mem) : Option (Int32 × Mem) :=
  if (f10_isPart k0 x1 σ) = 0 then
  (lt (f10_refuseBad k0 σ) fun w2 =>
  some (w2.1, w2.2))
  else
  (if (f10_within x2 0 2) = 0 then
  (lt (f10_refuseBad k0 σ) fun w5 =>
  some (w5.1, w5.2))
  else
  (if x2 = 0 then
  (bnd (f7_at 2 x1 0 σ) fun w7 =>
  some (w7, σ))
  else if x2 = 1 then
  (if (f4_isThere 0 x1 σ) = 0 then
  (some (0, σ))
  else
  (some (1, σ)))
  else 
  (bnd (f9_needOf 0 x1 (f4_partsThere 0 σ) (σ.1 4 0 3) σ) fun w12 =>
  some (w12, σ))))
theorem E10_about {k0 : Nat} {x1 : Int32} {x2 : Int32} {σ : Mem} {w : Int32 × Mem} (h : f10_about k0 x1 x2 σ = some w) : Ev m10_about [.inr (.inr (10, k0)), .inl x1, .inl x2] σ (some (.inl w.1) : Option AV) w.2 := by
  unfold f10_about at h
  show Go m10_about 0 [some (.inr (.inr (10, k0))), some (.inl x1), some (.inl x2)] [] σ (some (.inl w.1) : Option AV) w.2
  refine g_aload_n a10_about_0 rfl ?_
  refine g_iload_n a10_about_1 rfl ?_
  refine g_V1s (v1 := .inl (f10_isPart k0 x1 σ)) (σ1 := σ) a10_about_2 cv10_191 (E10_isPart _ _ _) rfl (fun o1 => ?_)
  refine g_if_eq (tgt := 17) a10_about_5 rfl (fun c17 => ?_) (fun c17 => ?_)
  · have h := (if_pos c17).symm.trans h
    refine g_aload_n a10_about_17 rfl ?_
    obtain ⟨w2, hw2, h⟩ := lt_inv h
    refine g_V0s (v1 := .inl w2.1) (σ1 := w2.2) a10_about_18 cv10_100 (by rw [← hw2]; exact E10_refuseBad _ _) rfl (fun o3 => ?_)
    have h := Option.some.inj h
    subst h
    exact g_retE a10_about_21 trivial rfl rfl
  · have h := (if_neg c17).symm.trans h
    refine g_iload_n a10_about_8 rfl ?_
    refine g_iconst (v := 0) a10_about_9 rfl ?_
    refine g_iconst (v := 2) a10_about_10 rfl ?_
    refine g_S3s (v1 := .inl (f10_within x2 0 2)) (σ1 := σ) a10_about_11 cs10_96 (E10_within _ _ _ _) rfl (fun o4 => ?_)
    refine g_if_ne (tgt := 22) a10_about_14 rfl (fun c16 => ?_) (fun c16 => ?_)
    · have h := (if_neg c16).symm.trans h
      refine g_iload_n a10_about_22 rfl ?_
      rcases Decidable.em (x2 = 0) with c14 | c14
      · have h := (if_pos c14).symm.trans h
        refine g_lsw (tgt := 48) (off := 25) a10_about_23 rfl (by rw [c14]; rfl) rfl ?_
        refine g_aload_n a10_about_48 rfl ?_
        refine g_getf (v := .inr (.inr (9, 0))) a10_about_49 fs10_10 rfl ?_
        refine g_getf (v := .inr (.inr (7, 2))) a10_about_52 fs10_131 rfl ?_
        refine g_iload_n a10_about_55 rfl ?_
        refine g_iconst (v := 0) a10_about_56 rfl ?_
        obtain ⟨w7, hw7, h⟩ := bnd_inv h
        refine g_V2s (v1 := .inl w7) (σ1 := σ) a10_about_57 cv10_106 (E7_at hw7) rfl (fun o8 => ?_)
        have h := Option.some.inj h
        subst h
        exact g_retE a10_about_60 trivial rfl rfl
      have h := (if_neg c14).symm.trans h
      rcases Decidable.em (x2 = 1) with c15 | c15
      · have h := (if_pos c15).symm.trans h
        refine g_lsw (tgt := 61) (off := 38) a10_about_23 rfl (by rw [c15]; rfl) rfl ?_
        refine g_aload_n a10_about_61 rfl ?_
        refine g_getf (v := .inr (.inr (9, 0))) a10_about_62 fs10_10 rfl ?_
        refine g_getf (v := .inr (.inr (4, 0))) a10_about_65 fs10_159 rfl ?_
        refine g_iload_n a10_about_68 rfl ?_
        refine g_V1s (v1 := .inl (f4_isThere 0 x1 σ)) (σ1 := σ) a10_about_69 cv10_194 (E4_isThere _ _ _) rfl (fun o9 => ?_)
        refine g_if_eq (tgt := 79) a10_about_72 rfl (fun c10 => ?_) (fun c10 => ?_)
        · have h := (if_pos c10).symm.trans h
          refine g_iconst (v := 0) a10_about_79 rfl ?_
          have h := Option.some.inj h
          subst h
          exact g_retE a10_about_80 trivial rfl rfl
        · have h := (if_neg c10).symm.trans h
          refine g_iconst (v := 1) a10_about_75 rfl ?_
          refine g_goto (tgt := 80) a10_about_76 rfl ?_
          have h := Option.some.inj h
          subst h
          exact g_retE a10_about_80 trivial rfl rfl
      have h := (if_neg c15).symm.trans h
      refine g_lsw (tgt := 81) (off := 58) a10_about_23 rfl ((lv_osw c14 rfl).trans ((lv_osw c15 rfl).trans rfl)) rfl ?_
      refine g_aload_n a10_about_81 rfl ?_
      refine g_getf (v := .inr (.inr (9, 0))) a10_about_82 fs10_10 rfl ?_
      refine g_iload_n a10_about_85 rfl ?_
      refine g_aload_n a10_about_86 rfl ?_
      refine g_getf (v := .inr (.inr (9, 0))) a10_about_87 fs10_10 rfl ?_
      refine g_getf (v := .inr (.inr (4, 0))) a10_about_90 fs10_159 rfl ?_
      refine g_V0s (v1 := .inl (f4_partsThere 0 σ)) (σ1 := σ) a10_about_93 cv10_166 (E4_partsThere _ _) rfl (fun o11 => ?_)
      refine g_aload_n a10_about_96 rfl ?_
      refine g_getf (v := .inr (.inr (9, 0))) a10_about_97 fs10_10 rfl ?_
      refine g_getf (v := .inr (.inr (4, 0))) a10_about_100 fs10_159 rfl ?_
      refine g_getf (v := .inl (σ.1 4 0 3)) a10_about_103 fs10_187 rfl ?_
      obtain ⟨w12, hw12, h⟩ := bnd_inv h
      refine g_V3s (v1 := .inl w12) (σ1 := σ) a10_about_106 cv10_197 (E9_needOf hw12) rfl (fun o13 => ?_)
      have h := Option.some.inj h
      subst h
      exact g_retE a10_about_109 trivial rfl rfl
    · have h := (if_pos c16).symm.trans h
      refine g_aload_n a10_about_17 rfl ?_
      obtain ⟨w5, hw5, h⟩ := lt_inv h
      refine g_V0s (v1 := .inl w5.1) (σ1 := w5.2) a10_about_18 cv10_100 (by rw [← hw5]; exact E10_refuseBad _ _) rfl (fun o6 => ?_)
      have h := Option.some.inj h
      subst h
      exact g_retE a10_about_21 trivial rfl rfl
theorem a10_weather_0 : At cX10_weather 0 (.iload_n 1) 1 1 := ⟨by decide +kernel, rfl⟩
theorem a10_weather_1 : At cX10_weather 1 (.invokestatic 89) 3 4 := ⟨by decide +kernel, rfl⟩
theorem a10_weather_4 : At cX10_weather 4 (.ifCond .eq 12) 3 7 := ⟨by decide +kernel, rfl⟩
theorem a10_weather_7 : At cX10_weather 7 (.iload_n 2) 1 8 := ⟨by decide +kernel, rfl⟩
theorem a10_weather_8 : At cX10_weather 8 (.iconst 0) 1 9 := ⟨by decide +kernel, rfl⟩
theorem a10_weather_9 : At cX10_weather 9 (.iconst 1) 1 10 := ⟨by decide +kernel, rfl⟩
theorem a10_weather_10 : At cX10_weather 10 (.invokestatic 96) 3 13 := ⟨by decide +kernel, rfl⟩
theorem a10_weather_13 : At cX10_weather 13 (.ifCond .ne 8) 3 16 := ⟨by decide +kernel, rfl⟩
theorem a10_weather_16 : At cX10_weather 16 (.aload_n 0) 1 17 := ⟨by decide +kernel, rfl⟩
theorem a10_weather_17 : At cX10_weather 17 (.invokevirtual 100) 3 20 := ⟨by decide +kernel, rfl⟩
theorem a10_weather_20 : At cX10_weather 20 (.ireturn) 1 21 := ⟨by decide +kernel, rfl⟩
theorem a10_weather_21 : At cX10_weather 21 (.aload_n 0) 1 22 := ⟨by decide +kernel, rfl⟩
theorem a10_weather_22 : At cX10_weather 22 (.getfield 10) 3 25 := ⟨by decide +kernel, rfl⟩
theorem a10_weather_25 : At cX10_weather 25 (.getfield 103) 3 28 := ⟨by decide +kernel, rfl⟩
theorem a10_weather_28 : At cX10_weather 28 (.iload_n 1) 1 29 := ⟨by decide +kernel, rfl⟩
theorem a10_weather_29 : At cX10_weather 29 (.iload_n 2) 1 30 := ⟨by decide +kernel, rfl⟩
theorem a10_weather_30 : At cX10_weather 30 (.invokevirtual 106) 3 33 := ⟨by decide +kernel, rfl⟩
theorem a10_weather_33 : At cX10_weather 33 (.ireturn) 1 34 := ⟨by decide +kernel, rfl⟩
def f10_weather (k0 : Nat) (x1 : Int32) (x2 : Int32) (σ : Mem) : Option (Int32 × Mem) :=
  if (f10_isStorm x1) = 0 then
  (lt (f10_refuseBad k0 σ) fun w2 =>
  some (w2.1, w2.2))
  else
  (if (f10_within x2 0 1) = 0 then
  (lt (f10_refuseBad k0 σ) fun w5 =>
  some (w5.1, w5.2))
  else
  (bnd (f7_at 0 x1 x2 σ) fun w7 =>
  some (w7, σ)))
theorem E10_weather {k0 : Nat} {x1 : Int32} {x2 : Int32} {σ : Mem} {w : Int32 × Mem} (h : f10_weather k0 x1 x2 σ = some w) : Ev m10_weather [.inr (.inr (10, k0)), .inl x1, .inl x2] σ (some (.inl w.1) : Option AV) w.2 := by
  unfold f10_weather at h
  show Go m10_weather 0 [some (.inr (.inr (10, k0))), some (.inl x1), some (.inl x2)] [] σ (some (.inl w.1) : Option AV) w.2
  refine g_iload_n a10_weather_0 rfl ?_
  refine g_S1s (v1 := .inl (f10_isStorm x1)) (σ1 := σ) a10_weather_1 cs10_89 (E10_isStorm _ _) rfl (fun o1 => ?_)
  refine g_if_eq (tgt := 16) a10_weather_4 rfl (fun c10 => ?_) (fun c10 => ?_)
  · have h := (if_pos c10).symm.trans h
    refine g_aload_n a10_weather_16 rfl ?_
    obtain ⟨w2, hw2, h⟩ := lt_inv h
    refine g_V0s (v1 := .inl w2.1) (σ1 := w2.2) a10_weather_17 cv10_100 (by rw [← hw2]; exact E10_refuseBad _ _) rfl (fun o3 => ?_)
    have h := Option.some.inj h
    subst h
    exact g_retE a10_weather_20 trivial rfl rfl
  · have h := (if_neg c10).symm.trans h
    refine g_iload_n a10_weather_7 rfl ?_
    refine g_iconst (v := 0) a10_weather_8 rfl ?_
    refine g_iconst (v := 1) a10_weather_9 rfl ?_
    refine g_S3s (v1 := .inl (f10_within x2 0 1)) (σ1 := σ) a10_weather_10 cs10_96 (E10_within _ _ _ _) rfl (fun o4 => ?_)
    refine g_if_ne (tgt := 21) a10_weather_13 rfl (fun c9 => ?_) (fun c9 => ?_)
    · have h := (if_neg c9).symm.trans h
      refine g_aload_n a10_weather_21 rfl ?_
      refine g_getf (v := .inr (.inr (9, 0))) a10_weather_22 fs10_10 rfl ?_
      refine g_getf (v := .inr (.inr (7, 0))) a10_weather_25 fs10_103 rfl ?_
      refine g_iload_n a10_weather_28 rfl ?_
      refine g_iload_n a10_weather_29 rfl ?_
      obtain ⟨w7, hw7, h⟩ := bnd_inv h
      refine g_V2s (v1 := .inl w7) (σ1 := σ) a10_weather_30 cv10_106 (E7_at hw7) rfl (fun o8 => ?_)
      have h := Option.some.inj h
      subst h
      exact g_retE a10_weather_33 trivial rfl rfl
    · have h := (if_pos c9).symm.trans h
      refine g_aload_n a10_weather_16 rfl ?_
      obtain ⟨w5, hw5, h⟩ := lt_inv h
      refine g_V0s (v1 := .inl w5.1) (σ1 := w5.2) a10_weather_17 cv10_100 (by rw [← hw5]; exact E10_refuseBad _ _) rfl (fun o6 => ?_)
      have h := Option.some.inj h
      subst h
      exact g_retE a10_weather_20 trivial rfl rfl
theorem a9_drawOf_0 : At cX9_drawOf 0 (.aload_n 0) 1 1 := ⟨by decide +kernel, rfl⟩
theorem a9_drawOf_1 : At cX9_drawOf 1 (.getfield 20) 3 4 := ⟨by decide +kernel, rfl⟩
theorem a9_drawOf_4 : At cX9_drawOf 4 (.iload_n 1) 1 5 := ⟨by decide +kernel, rfl⟩
theorem a9_drawOf_5 : At cX9_drawOf 5 (.iconst 2) 1 6 := ⟨by decide +kernel, rfl⟩
theorem a9_drawOf_6 : At cX9_drawOf 6 (.invokevirtual 94) 3 9 := ⟨by decide +kernel, rfl⟩
theorem a9_drawOf_9 : At cX9_drawOf 9 (.iload_n 2) 1 10 := ⟨by decide +kernel, rfl⟩
theorem a9_drawOf_10 : At cX9_drawOf 10 (.isub) 1 11 := ⟨by decide +kernel, rfl⟩
theorem a9_drawOf_11 : At cX9_drawOf 11 (.invokestatic 123) 3 14 := ⟨by decide +kernel, rfl⟩
theorem a9_drawOf_14 : At cX9_drawOf 14 (.istore_n 3) 1 15 := ⟨by decide +kernel, rfl⟩
theorem a9_drawOf_15 : At cX9_drawOf 15 (.aload_n 0) 1 16 := ⟨by decide +kernel, rfl⟩
theorem a9_drawOf_16 : At cX9_drawOf 16 (.getfield 20) 3 19 := ⟨by decide +kernel, rfl⟩
theorem a9_drawOf_19 : At cX9_drawOf 19 (.iload_n 1) 1 20 := ⟨by decide +kernel, rfl⟩
theorem a9_drawOf_20 : At cX9_drawOf 20 (.iconst 0) 1 21 := ⟨by decide +kernel, rfl⟩
theorem a9_drawOf_21 : At cX9_drawOf 21 (.invokevirtual 94) 3 24 := ⟨by decide +kernel, rfl⟩
theorem a9_drawOf_24 : At cX9_drawOf 24 (.aload_n 0) 1 25 := ⟨by decide +kernel, rfl⟩
theorem a9_drawOf_25 : At cX9_drawOf 25 (.getfield 20) 3 28 := ⟨by decide +kernel, rfl⟩
theorem a9_drawOf_28 : At cX9_drawOf 28 (.iload_n 1) 1 29 := ⟨by decide +kernel, rfl⟩
theorem a9_drawOf_29 : At cX9_drawOf 29 (.iconst 1) 1 30 := ⟨by decide +kernel, rfl⟩
theorem a9_drawOf_30 : At cX9_drawOf 30 (.invokevirtual 94) 3 33 := ⟨by decide +kernel, rfl⟩
theorem a9_drawOf_33 : At cX9_drawOf 33 (.iload_n 3) 1 34 := ⟨by decide +kernel, rfl⟩
theorem a9_drawOf_34 : At cX9_drawOf 34 (.aload_n 0) 1 35 := ⟨by decide +kernel, rfl⟩
theorem a9_drawOf_35 : At cX9_drawOf 35 (.getfield 41) 3 38 := ⟨by decide +kernel, rfl⟩
theorem a9_drawOf_38 : At cX9_drawOf 38 (.getfield 91) 3 41 := ⟨by decide +kernel, rfl⟩
theorem a9_drawOf_41 : At cX9_drawOf 41 (.invokestatic 127) 3 44 := ⟨by decide +kernel, rfl⟩
theorem a9_drawOf_44 : At cX9_drawOf 44 (.ireturn) 1 45 := ⟨by decide +kernel, rfl⟩
def f9_drawOf (k0 : Nat) (x1 : Int32) (x2 : Int32) (σ : Mem) : Option (Int32) :=
  bnd (f7_at (7 * k0 + 1) x1 2 σ) fun w1 =>
  bnd (f7_at (7 * k0 + 1) x1 0 σ) fun w3 =>
  bnd (f7_at (7 * k0 + 1) x1 1 σ) fun w5 =>
  some (f3_draw w3 w5 (abI (w1 - x2)) (σ.1 4 k0 3))
theorem E9_drawOf {k0 : Nat} {x1 : Int32} {x2 : Int32} {σ : Mem} {w : Int32} (h : f9_drawOf k0 x1 x2 σ = some w) : Ev m9_drawOf [.inr (.inr (9, k0)), .inl x1, .inl x2] σ (some (.inl w) : Option AV) σ := by
  unfold f9_drawOf at h
  show Go m9_drawOf 0 [some (.inr (.inr (9, k0))), some (.inl x1), some (.inl x2), none] [] σ (some (.inl w) : Option AV) σ
  refine g_aload_n a9_drawOf_0 rfl ?_
  refine g_getf (v := .inr (.inr (7, (7 * k0 + 1)))) a9_drawOf_1 fs9_20 rfl ?_
  refine g_iload_n a9_drawOf_4 rfl ?_
  refine g_iconst (v := 2) a9_drawOf_5 rfl ?_
  obtain ⟨w1, hw1, h⟩ := bnd_inv h
  refine g_V2s (v1 := .inl w1) (σ1 := σ) a9_drawOf_6 cv9_94 (E7_at hw1) rfl (fun o2 => ?_)
  refine g_iload_n a9_drawOf_9 rfl ?_
  refine g_isub a9_drawOf_10 ?_
  refine g_abs a9_drawOf_11 cm9_123 rfl ?_
  refine g_istore_n (L' := [some (.inr (.inr (9, k0))), some (.inl x1), some (.inl x2), some (.inl (abI (w1 - x2)))]) a9_drawOf_14 (Nat.le_of_ble_eq_true rfl) rfl rfl ?_
  refine g_aload_n a9_drawOf_15 rfl ?_
  refine g_getf (v := .inr (.inr (7, (7 * k0 + 1)))) a9_drawOf_16 fs9_20 rfl ?_
  refine g_iload_n a9_drawOf_19 rfl ?_
  refine g_iconst (v := 0) a9_drawOf_20 rfl ?_
  obtain ⟨w3, hw3, h⟩ := bnd_inv h
  refine g_V2s (v1 := .inl w3) (σ1 := σ) a9_drawOf_21 cv9_94 (E7_at hw3) rfl (fun o4 => ?_)
  refine g_aload_n a9_drawOf_24 rfl ?_
  refine g_getf (v := .inr (.inr (7, (7 * k0 + 1)))) a9_drawOf_25 fs9_20 rfl ?_
  refine g_iload_n a9_drawOf_28 rfl ?_
  refine g_iconst (v := 1) a9_drawOf_29 rfl ?_
  obtain ⟨w5, hw5, h⟩ := bnd_inv h
  refine g_V2s (v1 := .inl w5) (σ1 := σ) a9_drawOf_30 cv9_94 (E7_at hw5) rfl (fun o6 => ?_)
  refine g_iload_n a9_drawOf_33 rfl ?_
  refine g_aload_n a9_drawOf_34 rfl ?_
  refine g_getf (v := .inr (.inr (4, k0))) a9_drawOf_35 fs9_41 rfl ?_
  refine g_getf (v := .inl (σ.1 4 k0 3)) a9_drawOf_38 fs9_91 rfl ?_
  refine g_S4s (v1 := .inl (f3_draw w3 w5 (abI (w1 - x2)) (σ.1 4 k0 3))) (σ1 := σ) a9_drawOf_41 cs9_127 (E3_draw _ _ _ _ _) rfl (fun o7 => ?_)
  have h := Option.some.inj h
  subst h
  exact g_retE a9_drawOf_44 trivial rfl rfl
theorem a10_draws_0 : At cX10_draws 0 (.aload_n 0) 1 1 := ⟨by decide +kernel, rfl⟩
theorem a10_draws_1 : At cX10_draws 1 (.iload_n 1) 1 2 := ⟨by decide +kernel, rfl⟩
theorem a10_draws_2 : At cX10_draws 2 (.invokevirtual 169) 3 5 := ⟨by decide +kernel, rfl⟩
theorem a10_draws_5 : At cX10_draws 5 (.ifCond .eq 10) 3 8 := ⟨by decide +kernel, rfl⟩
theorem a10_draws_8 : At cX10_draws 8 (.iload_n 2) 1 9 := ⟨by decide +kernel, rfl⟩
theorem a10_draws_9 : At cX10_draws 9 (.invokestatic 93) 3 12 := ⟨by decide +kernel, rfl⟩
theorem a10_draws_12 : At cX10_draws 12 (.ifCond .ne 8) 3 15 := ⟨by decide +kernel, rfl⟩
theorem a10_draws_15 : At cX10_draws 15 (.aload_n 0) 1 16 := ⟨by decide +kernel, rfl⟩
theorem a10_draws_16 : At cX10_draws 16 (.invokevirtual 100) 3 19 := ⟨by decide +kernel, rfl⟩
theorem a10_draws_19 : At cX10_draws 19 (.ireturn) 1 20 := ⟨by decide +kernel, rfl⟩
theorem a10_draws_20 : At cX10_draws 20 (.aload_n 0) 1 21 := ⟨by decide +kernel, rfl⟩
theorem a10_draws_21 : At cX10_draws 21 (.getfield 10) 3 24 := ⟨by decide +kernel, rfl⟩
theorem a10_draws_24 : At cX10_draws 24 (.iload_n 1) 1 25 := ⟨by decide +kernel, rfl⟩
theorem a10_draws_25 : At cX10_draws 25 (.iload_n 2) 1 26 := ⟨by decide +kernel, rfl⟩
theorem a10_draws_26 : At cX10_draws 26 (.invokevirtual 200) 3 29 := ⟨by decide +kernel, rfl⟩
theorem a10_draws_29 : At cX10_draws 29 (.ireturn) 1 30 := ⟨by decide +kernel, rfl⟩
def f10_draws (k0 : Nat) (x1 : Int32) (x2 : Int32) (σ : Mem) : Option (Int32 × Mem) :=
  if (f10_isThing k0 x1 σ) = 0 then
  (lt (f10_refuseBad k0 σ) fun w2 =>
  some (w2.1, w2.2))
  else
  (if (f10_isCell x2) = 0 then
  (lt (f10_refuseBad k0 σ) fun w5 =>
  some (w5.1, w5.2))
  else
  (bnd (f9_drawOf 0 x1 x2 σ) fun w7 =>
  some (w7, σ)))
theorem E10_draws {k0 : Nat} {x1 : Int32} {x2 : Int32} {σ : Mem} {w : Int32 × Mem} (h : f10_draws k0 x1 x2 σ = some w) : Ev m10_draws [.inr (.inr (10, k0)), .inl x1, .inl x2] σ (some (.inl w.1) : Option AV) w.2 := by
  unfold f10_draws at h
  show Go m10_draws 0 [some (.inr (.inr (10, k0))), some (.inl x1), some (.inl x2)] [] σ (some (.inl w.1) : Option AV) w.2
  refine g_aload_n a10_draws_0 rfl ?_
  refine g_iload_n a10_draws_1 rfl ?_
  refine g_V1s (v1 := .inl (f10_isThing k0 x1 σ)) (σ1 := σ) a10_draws_2 cv10_169 (E10_isThing _ _ _) rfl (fun o1 => ?_)
  refine g_if_eq (tgt := 15) a10_draws_5 rfl (fun c10 => ?_) (fun c10 => ?_)
  · have h := (if_pos c10).symm.trans h
    refine g_aload_n a10_draws_15 rfl ?_
    obtain ⟨w2, hw2, h⟩ := lt_inv h
    refine g_V0s (v1 := .inl w2.1) (σ1 := w2.2) a10_draws_16 cv10_100 (by rw [← hw2]; exact E10_refuseBad _ _) rfl (fun o3 => ?_)
    have h := Option.some.inj h
    subst h
    exact g_retE a10_draws_19 trivial rfl rfl
  · have h := (if_neg c10).symm.trans h
    refine g_iload_n a10_draws_8 rfl ?_
    refine g_S1s (v1 := .inl (f10_isCell x2)) (σ1 := σ) a10_draws_9 cs10_93 (E10_isCell _ _) rfl (fun o4 => ?_)
    refine g_if_ne (tgt := 20) a10_draws_12 rfl (fun c9 => ?_) (fun c9 => ?_)
    · have h := (if_neg c9).symm.trans h
      refine g_aload_n a10_draws_20 rfl ?_
      refine g_getf (v := .inr (.inr (9, 0))) a10_draws_21 fs10_10 rfl ?_
      refine g_iload_n a10_draws_24 rfl ?_
      refine g_iload_n a10_draws_25 rfl ?_
      obtain ⟨w7, hw7, h⟩ := bnd_inv h
      refine g_V2s (v1 := .inl w7) (σ1 := σ) a10_draws_26 cv10_200 (E9_drawOf hw7) rfl (fun o8 => ?_)
      have h := Option.some.inj h
      subst h
      exact g_retE a10_draws_29 trivial rfl rfl
    · have h := (if_pos c9).symm.trans h
      refine g_aload_n a10_draws_15 rfl ?_
      obtain ⟨w5, hw5, h⟩ := lt_inv h
      refine g_V0s (v1 := .inl w5.1) (σ1 := w5.2) a10_draws_16 cv10_100 (by rw [← hw5]; exact E10_refuseBad _ _) rfl (fun o6 => ?_)
      have h := Option.some.inj h
      subst h
      exact g_retE a10_draws_19 trivial rfl rfl
theorem a9_struckNow_0 : At cX9_struckNow 0 (.aload_n 0) 1 1 := ⟨by decide +kernel, rfl⟩
theorem a9_struckNow_1 : At cX9_struckNow 1 (.iload_n 1) 1 2 := ⟨by decide +kernel, rfl⟩
theorem a9_struckNow_2 : At cX9_struckNow 2 (.aload_n 0) 1 3 := ⟨by decide +kernel, rfl⟩
theorem a9_struckNow_3 : At cX9_struckNow 3 (.getfield 41) 3 6 := ⟨by decide +kernel, rfl⟩
theorem a9_struckNow_6 : At cX9_struckNow 6 (.iconst (-1)) 1 7 := ⟨by decide +kernel, rfl⟩
theorem a9_struckNow_7 : At cX9_struckNow 7 (.iconst 0) 1 8 := ⟨by decide +kernel, rfl⟩
theorem a9_struckNow_8 : At cX9_struckNow 8 (.invokevirtual 105) 3 11 := ⟨by decide +kernel, rfl⟩
theorem a9_struckNow_11 : At cX9_struckNow 11 (.ireturn) 1 12 := ⟨by decide +kernel, rfl⟩
def f9_struckNow (k0 : Nat) (x1 : Int32) (σ : Mem) : Option (Int32) :=
  bnd (f9_struckIf k0 x1 k0 (-1) 0 σ) fun w1 =>
  some w1
theorem E9_struckNow {k0 : Nat} {x1 : Int32} {σ : Mem} {w : Int32} (h : f9_struckNow k0 x1 σ = some w) : Ev m9_struckNow [.inr (.inr (9, k0)), .inl x1] σ (some (.inl w) : Option AV) σ := by
  unfold f9_struckNow at h
  show Go m9_struckNow 0 [some (.inr (.inr (9, k0))), some (.inl x1)] [] σ (some (.inl w) : Option AV) σ
  refine g_aload_n a9_struckNow_0 rfl ?_
  refine g_iload_n a9_struckNow_1 rfl ?_
  refine g_aload_n a9_struckNow_2 rfl ?_
  refine g_getf (v := .inr (.inr (4, k0))) a9_struckNow_3 fs9_41 rfl ?_
  refine g_iconst (v := (-1)) a9_struckNow_6 rfl ?_
  refine g_iconst (v := 0) a9_struckNow_7 rfl ?_
  obtain ⟨w1, hw1, h⟩ := bnd_inv h
  refine g_V4s (v1 := .inl w1) (σ1 := σ) a9_struckNow_8 cv9_105 (E9_struckIf hw1) rfl (fun o2 => ?_)
  have h := Option.some.inj h
  subst h
  exact g_retE a9_struckNow_11 trivial rfl rfl
theorem a10_struck_0 : At cX10_struck 0 (.iload_n 1) 1 1 := ⟨by decide +kernel, rfl⟩
theorem a10_struck_1 : At cX10_struck 1 (.invokestatic 93) 3 4 := ⟨by decide +kernel, rfl⟩
theorem a10_struck_4 : At cX10_struck 4 (.ifCond .ne 8) 3 7 := ⟨by decide +kernel, rfl⟩
theorem a10_struck_7 : At cX10_struck 7 (.aload_n 0) 1 8 := ⟨by decide +kernel, rfl⟩
theorem a10_struck_8 : At cX10_struck 8 (.invokevirtual 100) 3 11 := ⟨by decide +kernel, rfl⟩
theorem a10_struck_11 : At cX10_struck 11 (.ireturn) 1 12 := ⟨by decide +kernel, rfl⟩
theorem a10_struck_12 : At cX10_struck 12 (.aload_n 0) 1 13 := ⟨by decide +kernel, rfl⟩
theorem a10_struck_13 : At cX10_struck 13 (.getfield 10) 3 16 := ⟨by decide +kernel, rfl⟩
theorem a10_struck_16 : At cX10_struck 16 (.iload_n 1) 1 17 := ⟨by decide +kernel, rfl⟩
theorem a10_struck_17 : At cX10_struck 17 (.invokevirtual 203) 3 20 := ⟨by decide +kernel, rfl⟩
theorem a10_struck_20 : At cX10_struck 20 (.ireturn) 1 21 := ⟨by decide +kernel, rfl⟩
def f10_struck (k0 : Nat) (x1 : Int32) (σ : Mem) : Option (Int32 × Mem) :=
  if (f10_isCell x1) = 0 then
  (lt (f10_refuseBad k0 σ) fun w2 =>
  some (w2.1, w2.2))
  else
  (bnd (f9_struckNow 0 x1 σ) fun w4 =>
  some (w4, σ))
theorem E10_struck {k0 : Nat} {x1 : Int32} {σ : Mem} {w : Int32 × Mem} (h : f10_struck k0 x1 σ = some w) : Ev m10_struck [.inr (.inr (10, k0)), .inl x1] σ (some (.inl w.1) : Option AV) w.2 := by
  unfold f10_struck at h
  show Go m10_struck 0 [some (.inr (.inr (10, k0))), some (.inl x1)] [] σ (some (.inl w.1) : Option AV) w.2
  refine g_iload_n a10_struck_0 rfl ?_
  refine g_S1s (v1 := .inl (f10_isCell x1)) (σ1 := σ) a10_struck_1 cs10_93 (E10_isCell _ _) rfl (fun o1 => ?_)
  refine g_if_ne (tgt := 12) a10_struck_4 rfl (fun c6 => ?_) (fun c6 => ?_)
  · have h := (if_neg c6).symm.trans h
    refine g_aload_n a10_struck_12 rfl ?_
    refine g_getf (v := .inr (.inr (9, 0))) a10_struck_13 fs10_10 rfl ?_
    refine g_iload_n a10_struck_16 rfl ?_
    obtain ⟨w4, hw4, h⟩ := bnd_inv h
    refine g_V1s (v1 := .inl w4) (σ1 := σ) a10_struck_17 cv10_203 (E9_struckNow hw4) rfl (fun o5 => ?_)
    have h := Option.some.inj h
    subst h
    exact g_retE a10_struck_20 trivial rfl rfl
  · have h := (if_pos c6).symm.trans h
    refine g_aload_n a10_struck_7 rfl ?_
    obtain ⟨w2, hw2, h⟩ := lt_inv h
    refine g_V0s (v1 := .inl w2.1) (σ1 := w2.2) a10_struck_8 cv10_100 (by rw [← hw2]; exact E10_refuseBad _ _) rfl (fun o3 => ?_)
    have h := Option.some.inj h
    subst h
    exact g_retE a10_struck_11 trivial rfl rfl
theorem a10_then_0 : At cX10_then 0 (.iload_n 1) 1 1 := ⟨by decide +kernel, rfl⟩
theorem a10_then_1 : At cX10_then 1 (.iconst 0) 1 2 := ⟨by decide +kernel, rfl⟩
theorem a10_then_2 : At cX10_then 2 (.bipush 60) 2 4 := ⟨by decide +kernel, rfl⟩
theorem a10_then_4 : At cX10_then 4 (.invokestatic 96) 3 7 := ⟨by decide +kernel, rfl⟩
theorem a10_then_7 : At cX10_then 7 (.ifCond .ne 8) 3 10 := ⟨by decide +kernel, rfl⟩
theorem a10_then_10 : At cX10_then 10 (.aload_n 0) 1 11 := ⟨by decide +kernel, rfl⟩
theorem a10_then_11 : At cX10_then 11 (.invokevirtual 100) 3 14 := ⟨by decide +kernel, rfl⟩
theorem a10_then_14 : At cX10_then 14 (.ireturn) 1 15 := ⟨by decide +kernel, rfl⟩
theorem a10_then_15 : At cX10_then 15 (.aload_n 0) 1 16 := ⟨by decide +kernel, rfl⟩
theorem a10_then_16 : At cX10_then 16 (.getfield 28) 3 19 := ⟨by decide +kernel, rfl⟩
theorem a10_then_19 : At cX10_then 19 (.aload_n 0) 1 20 := ⟨by decide +kernel, rfl⟩
theorem a10_then_20 : At cX10_then 20 (.getfield 10) 3 23 := ⟨by decide +kernel, rfl⟩
theorem a10_then_23 : At cX10_then 23 (.getfield 159) 3 26 := ⟨by decide +kernel, rfl⟩
theorem a10_then_26 : At cX10_then 26 (.invokevirtual 206) 3 29 := ⟨by decide +kernel, rfl⟩
theorem a10_then_29 : At cX10_then 29 (.aload_n 0) 1 30 := ⟨by decide +kernel, rfl⟩
theorem a10_then_30 : At cX10_then 30 (.getfield 10) 3 33 := ⟨by decide +kernel, rfl⟩
theorem a10_then_33 : At cX10_then 33 (.aload_n 0) 1 34 := ⟨by decide +kernel, rfl⟩
theorem a10_then_34 : At cX10_then 34 (.getfield 28) 3 37 := ⟨by decide +kernel, rfl⟩
theorem a10_then_37 : At cX10_then 37 (.iload_n 1) 1 38 := ⟨by decide +kernel, rfl⟩
theorem a10_then_38 : At cX10_then 38 (.ldc 209) 2 40 := ⟨by decide +kernel, rfl⟩
theorem a10_then_40 : At cX10_then 40 (.invokevirtual 162) 3 43 := ⟨by decide +kernel, rfl⟩
theorem a10_then_43 : At cX10_then 43 (.aload_n 0) 1 44 := ⟨by decide +kernel, rfl⟩
theorem a10_then_44 : At cX10_then 44 (.getfield 28) 3 47 := ⟨by decide +kernel, rfl⟩
theorem a10_then_47 : At cX10_then 47 (.getfield 210) 3 50 := ⟨by decide +kernel, rfl⟩
theorem a10_then_50 : At cX10_then 50 (.ireturn) 1 51 := ⟨by decide +kernel, rfl⟩
def f10_then (k0 : Nat) (x1 : Int32) (σ : Mem) : Option (Int32 × Mem) :=
  if (f10_within x1 0 60) = 0 then
  (lt (f10_refuseBad k0 σ) fun w2 =>
  some (w2.1, w2.2))
  else
  (lt (f4_takeFrom 4 0 σ) fun w4 =>
  bnd (f9_passTold 0 4 x1 1000000 w4) fun w6 =>
  some ((w6.1 4 4 1), w6))
theorem E10_then {k0 : Nat} {x1 : Int32} {σ : Mem} {w : Int32 × Mem} (h : f10_then k0 x1 σ = some w) : Ev m10_then [.inr (.inr (10, k0)), .inl x1] σ (some (.inl w.1) : Option AV) w.2 := by
  unfold f10_then at h
  show Go m10_then 0 [some (.inr (.inr (10, k0))), some (.inl x1)] [] σ (some (.inl w.1) : Option AV) w.2
  refine g_iload_n a10_then_0 rfl ?_
  refine g_iconst (v := 0) a10_then_1 rfl ?_
  refine g_bipush (v := 60) a10_then_2 rfl ?_
  refine g_S3s (v1 := .inl (f10_within x1 0 60)) (σ1 := σ) a10_then_4 cs10_96 (E10_within _ _ _ _) rfl (fun o1 => ?_)
  refine g_if_ne (tgt := 15) a10_then_7 rfl (fun c8 => ?_) (fun c8 => ?_)
  · have h := (if_neg c8).symm.trans h
    refine g_aload_n a10_then_15 rfl ?_
    refine g_getf (v := .inr (.inr (4, 4))) a10_then_16 fs10_28 rfl ?_
    refine g_aload_n a10_then_19 rfl ?_
    refine g_getf (v := .inr (.inr (9, 0))) a10_then_20 fs10_10 rfl ?_
    refine g_getf (v := .inr (.inr (4, 0))) a10_then_23 fs10_159 rfl ?_
    obtain ⟨w4, hw4, h⟩ := lt_inv h
    refine g_V1n (σ1 := w4) a10_then_26 cv10_206 (by rw [← hw4]; exact E4_takeFrom _ _ _) rfl (fun o5 => ?_)
    refine g_aload_n a10_then_29 rfl ?_
    refine g_getf (v := .inr (.inr (9, 0))) a10_then_30 fs10_10 rfl ?_
    refine g_aload_n a10_then_33 rfl ?_
    refine g_getf (v := .inr (.inr (4, 4))) a10_then_34 fs10_28 rfl ?_
    refine g_iload_n a10_then_37 rfl ?_
    refine g_ldc (v := 1000000) a10_then_38 wc10_209 ?_
    obtain ⟨w6, hw6, h⟩ := bnd_inv h
    refine g_V3n (σ1 := w6) a10_then_40 cv10_162 (E9_passTold hw6) rfl (fun o7 => ?_)
    refine g_aload_n a10_then_43 rfl ?_
    refine g_getf (v := .inr (.inr (4, 4))) a10_then_44 fs10_28 rfl ?_
    refine g_getf (v := .inl (w6.1 4 4 1)) a10_then_47 fs10_210 rfl ?_
    have h := Option.some.inj h
    subst h
    exact g_retE a10_then_50 trivial rfl rfl
  · have h := (if_pos c8).symm.trans h
    refine g_aload_n a10_then_10 rfl ?_
    obtain ⟨w2, hw2, h⟩ := lt_inv h
    refine g_V0s (v1 := .inl w2.1) (σ1 := w2.2) a10_then_11 cv10_100 (by rw [← hw2]; exact E10_refuseBad _ _) rfl (fun o3 => ?_)
    have h := Option.some.inj h
    subst h
    exact g_retE a10_then_14 trivial rfl rfl
theorem a10_summersUntil_0 : At cX10_summersUntil 0 (.aload_n 0) 1 1 := ⟨by decide +kernel, rfl⟩
theorem a10_summersUntil_1 : At cX10_summersUntil 1 (.getfield 28) 3 4 := ⟨by decide +kernel, rfl⟩
theorem a10_summersUntil_4 : At cX10_summersUntil 4 (.aload_n 0) 1 5 := ⟨by decide +kernel, rfl⟩
theorem a10_summersUntil_5 : At cX10_summersUntil 5 (.getfield 10) 3 8 := ⟨by decide +kernel, rfl⟩
theorem a10_summersUntil_8 : At cX10_summersUntil 8 (.getfield 159) 3 11 := ⟨by decide +kernel, rfl⟩
theorem a10_summersUntil_11 : At cX10_summersUntil 11 (.invokevirtual 206) 3 14 := ⟨by decide +kernel, rfl⟩
theorem a10_summersUntil_14 : At cX10_summersUntil 14 (.iconst 0) 1 15 := ⟨by decide +kernel, rfl⟩
theorem a10_summersUntil_15 : At cX10_summersUntil 15 (.istore_n 2) 1 16 := ⟨by decide +kernel, rfl⟩
theorem a10_summersUntil_16 : At cX10_summersUntil 16 (.iload_n 2) 1 17 := ⟨by decide +kernel, rfl⟩
theorem a10_summersUntil_17 : At cX10_summersUntil 17 (.bipush 60) 2 19 := ⟨by decide +kernel, rfl⟩
theorem a10_summersUntil_19 : At cX10_summersUntil 19 (.if_icmp .gt 36) 3 22 := ⟨by decide +kernel, rfl⟩
theorem a10_summersUntil_22 : At cX10_summersUntil 22 (.aload_n 0) 1 23 := ⟨by decide +kernel, rfl⟩
theorem a10_summersUntil_23 : At cX10_summersUntil 23 (.getfield 28) 3 26 := ⟨by decide +kernel, rfl⟩
theorem a10_summersUntil_26 : At cX10_summersUntil 26 (.iload_n 1) 1 27 := ⟨by decide +kernel, rfl⟩
theorem a10_summersUntil_27 : At cX10_summersUntil 27 (.invokevirtual 194) 3 30 := ⟨by decide +kernel, rfl⟩
theorem a10_summersUntil_30 : At cX10_summersUntil 30 (.ifCond .eq 5) 3 33 := ⟨by decide +kernel, rfl⟩
theorem a10_summersUntil_33 : At cX10_summersUntil 33 (.iload_n 2) 1 34 := ⟨by decide +kernel, rfl⟩
theorem a10_summersUntil_34 : At cX10_summersUntil 34 (.ireturn) 1 35 := ⟨by decide +kernel, rfl⟩
theorem a10_summersUntil_35 : At cX10_summersUntil 35 (.aload_n 0) 1 36 := ⟨by decide +kernel, rfl⟩
theorem a10_summersUntil_36 : At cX10_summersUntil 36 (.getfield 10) 3 39 := ⟨by decide +kernel, rfl⟩
theorem a10_summersUntil_39 : At cX10_summersUntil 39 (.aload_n 0) 1 40 := ⟨by decide +kernel, rfl⟩
theorem a10_summersUntil_40 : At cX10_summersUntil 40 (.getfield 28) 3 43 := ⟨by decide +kernel, rfl⟩
theorem a10_summersUntil_43 : At cX10_summersUntil 43 (.iconst 1) 1 44 := ⟨by decide +kernel, rfl⟩
theorem a10_summersUntil_44 : At cX10_summersUntil 44 (.ldc 209) 2 46 := ⟨by decide +kernel, rfl⟩
theorem a10_summersUntil_46 : At cX10_summersUntil 46 (.invokevirtual 162) 3 49 := ⟨by decide +kernel, rfl⟩
theorem a10_summersUntil_49 : At cX10_summersUntil 49 (.iinc 2 1) 3 52 := ⟨by decide +kernel, rfl⟩
theorem a10_summersUntil_52 : At cX10_summersUntil 52 (.goto (-36)) 3 55 := ⟨by decide +kernel, rfl⟩
theorem a10_summersUntil_55 : At cX10_summersUntil 55 (.iconst (-1)) 1 56 := ⟨by decide +kernel, rfl⟩
theorem a10_summersUntil_56 : At cX10_summersUntil 56 (.ireturn) 1 57 := ⟨by decide +kernel, rfl⟩
def l10_summersUntil_16 (k0 : Nat) (x1 : Int32) : Nat → Int32 → Mem → Option ((Int32 × Mem) ⊕ (Int32 × Mem))
  | 0, _, _ => none
  | n + 1, x2, σ =>
  if 60 < x2 then
  (some (.inl (x2, σ)))
  else
  (if (f4_isThere 4 x1 σ) = 0 then
  (bnd (f9_passTold 0 4 1 1000000 σ) fun w4 =>
  l10_summersUntil_16 k0 x1 n (x2 + 1) w4)
  else
  (some (.inr (x2, σ))))
theorem lE10_summersUntil_16 {V : Option AV} {S : Mem} (k0 : Nat) (x1 : Int32) : ∀ (n : Nat) (x2 : Int32) (σ : Mem) {w : (Int32 × Mem) ⊕ (Int32 × Mem)}, l10_summersUntil_16 k0 x1 n x2 σ = some w → (∀ u, w = .inl u → Go m10_summersUntil 55 [some (.inr (.inr (10, k0))), some (.inl x1), some (.inl u.1)] [] u.2 V S) → (∀ u, w = .inr u → (some (.inl u.1) : Option AV) = V ∧ u.2 = S) → Go m10_summersUntil 16 [some (.inr (.inr (10, k0))), some (.inl x1), some (.inl x2)] [] σ V S
  | 0, x2, σ, w, h, K1, K2 => by cases h
  | n + 1, x2, σ, w, h, K1, K2 => by
    rw [l10_summersUntil_16] at h
    refine g_iload_n a10_summersUntil_16 rfl ?_
    refine g_bipush (v := 60) a10_summersUntil_17 rfl ?_
    refine g_icmp_gt (tgt := 55) a10_summersUntil_19 rfl (fun c7 => ?_) (fun c7 => ?_)
    · have h := (if_pos c7).symm.trans h
      have h := Option.some.inj h
      subst h
      exact g_weak (K1 _ rfl) ⟨rfl, rfl, rfl, trivial⟩
    · have h := (if_neg c7).symm.trans h
      refine g_aload_n a10_summersUntil_22 rfl ?_
      refine g_getf (v := .inr (.inr (4, 4))) a10_summersUntil_23 fs10_28 rfl ?_
      refine g_iload_n a10_summersUntil_26 rfl ?_
      refine g_V1s (v1 := .inl (f4_isThere 4 x1 σ)) (σ1 := σ) a10_summersUntil_27 cv10_194 (E4_isThere _ _ _) rfl (fun o3 => ?_)
      refine g_if_eq (tgt := 35) a10_summersUntil_30 rfl (fun c6 => ?_) (fun c6 => ?_)
      · have h := (if_pos c6).symm.trans h
        refine g_aload_n a10_summersUntil_35 rfl ?_
        refine g_getf (v := .inr (.inr (9, 0))) a10_summersUntil_36 fs10_10 rfl ?_
        refine g_aload_n a10_summersUntil_39 rfl ?_
        refine g_getf (v := .inr (.inr (4, 4))) a10_summersUntil_40 fs10_28 rfl ?_
        refine g_iconst (v := 1) a10_summersUntil_43 rfl ?_
        refine g_ldc (v := 1000000) a10_summersUntil_44 wc10_209 ?_
        obtain ⟨w4, hw4, h⟩ := bnd_inv h
        refine g_V3n (σ1 := w4) a10_summersUntil_46 cv10_162 (E9_passTold hw4) rfl (fun o5 => ?_)
        refine g_iinc (v := (x2 + 1)) (L' := [some (.inr (.inr (10, k0))), some (.inl x1), some (.inl (x2 + 1))]) a10_summersUntil_49 rfl rfl (Nat.le_of_ble_eq_true rfl) rfl rfl ?_
        refine g_goto (tgt := 16) a10_summersUntil_52 rfl ?_
        exact g_weak (lE10_summersUntil_16 (V := V) (S := S)  k0 x1 n _ _ h K1 K2) ⟨rfl, rfl, rfl, trivial⟩
      · have h := (if_neg c6).symm.trans h
        refine g_iload_n a10_summersUntil_33 rfl ?_
        have h := Option.some.inj h
        subst h
        obtain ⟨hV, hS⟩ := K2 _ rfl
        subst hV; subst hS
        exact g_retE a10_summersUntil_34 trivial rfl rfl
def f10_summersUntil (k0 : Nat) (x1 : Int32) (σ : Mem) : Option (Int32 × Mem) :=
  lt (f4_takeFrom 4 0 σ) fun w1 =>
  bnd (l10_summersUntil_16 k0 x1 2000 0 w1) fun w8 =>
  sm w8 (fun u9 =>
  some ((-1), u9.2)) (fun u9 => some u9)
theorem E10_summersUntil {k0 : Nat} {x1 : Int32} {σ : Mem} {w : Int32 × Mem} (h : f10_summersUntil k0 x1 σ = some w) : Ev m10_summersUntil [.inr (.inr (10, k0)), .inl x1] σ (some (.inl w.1) : Option AV) w.2 := by
  unfold f10_summersUntil at h
  show Go m10_summersUntil 0 [some (.inr (.inr (10, k0))), some (.inl x1), none] [] σ (some (.inl w.1) : Option AV) w.2
  refine g_aload_n a10_summersUntil_0 rfl ?_
  refine g_getf (v := .inr (.inr (4, 4))) a10_summersUntil_1 fs10_28 rfl ?_
  refine g_aload_n a10_summersUntil_4 rfl ?_
  refine g_getf (v := .inr (.inr (9, 0))) a10_summersUntil_5 fs10_10 rfl ?_
  refine g_getf (v := .inr (.inr (4, 0))) a10_summersUntil_8 fs10_159 rfl ?_
  obtain ⟨w1, hw1, h⟩ := lt_inv h
  refine g_V1n (σ1 := w1) a10_summersUntil_11 cv10_206 (by rw [← hw1]; exact E4_takeFrom _ _ _) rfl (fun o2 => ?_)
  refine g_iconst (v := 0) a10_summersUntil_14 rfl ?_
  refine g_istore_n (L' := [some (.inr (.inr (10, k0))), some (.inl x1), some (.inl 0)]) a10_summersUntil_15 (Nat.le_of_ble_eq_true rfl) rfl rfl ?_
  obtain ⟨w8, hw8, h⟩ := bnd_inv h
  rcases w8 with u9 | u9
  · have h := sm_l h
    refine g_weak (lE10_summersUntil_16 k0 x1 2000 _ _ hw8 (fun _ e => ?_) (fun _ e => by cases e)) ⟨rfl, rfl, rfl, trivial⟩
    cases e
    refine g_iconst (v := (-1)) a10_summersUntil_55 rfl ?_
    have h := Option.some.inj h
    subst h
    exact g_retE a10_summersUntil_56 trivial rfl rfl
  · have h := sm_r h
    have h := Option.some.inj h
    subst h
    exact g_weak (lE10_summersUntil_16 k0 x1 2000 _ _ hw8 (fun _ e => by cases e) (fun _ e => by cases e; exact ⟨rfl, rfl⟩)) ⟨rfl, rfl, rfl, trivial⟩
theorem a10_when_0 : At cX10_when 0 (.aload_n 0) 1 1 := ⟨by decide +kernel, rfl⟩
theorem a10_when_1 : At cX10_when 1 (.iload_n 1) 1 2 := ⟨by decide +kernel, rfl⟩
theorem a10_when_2 : At cX10_when 2 (.invokevirtual 191) 3 5 := ⟨by decide +kernel, rfl⟩
theorem a10_when_5 : At cX10_when 5 (.ifCond .ne 8) 3 8 := ⟨by decide +kernel, rfl⟩
theorem a10_when_8 : At cX10_when 8 (.aload_n 0) 1 9 := ⟨by decide +kernel, rfl⟩
theorem a10_when_9 : At cX10_when 9 (.invokevirtual 100) 3 12 := ⟨by decide +kernel, rfl⟩
theorem a10_when_12 : At cX10_when 12 (.ireturn) 1 13 := ⟨by decide +kernel, rfl⟩
theorem a10_when_13 : At cX10_when 13 (.aload_n 0) 1 14 := ⟨by decide +kernel, rfl⟩
theorem a10_when_14 : At cX10_when 14 (.iload_n 1) 1 15 := ⟨by decide +kernel, rfl⟩
theorem a10_when_15 : At cX10_when 15 (.invokevirtual 213) 3 18 := ⟨by decide +kernel, rfl⟩
theorem a10_when_18 : At cX10_when 18 (.ireturn) 1 19 := ⟨by decide +kernel, rfl⟩
def f10_when (k0 : Nat) (x1 : Int32) (σ : Mem) : Option (Int32 × Mem) :=
  if (f10_isPart k0 x1 σ) = 0 then
  (lt (f10_refuseBad k0 σ) fun w2 =>
  some (w2.1, w2.2))
  else
  (bnd (f10_summersUntil k0 x1 σ) fun w4 =>
  some (w4.1, w4.2))
theorem E10_when {k0 : Nat} {x1 : Int32} {σ : Mem} {w : Int32 × Mem} (h : f10_when k0 x1 σ = some w) : Ev m10_when [.inr (.inr (10, k0)), .inl x1] σ (some (.inl w.1) : Option AV) w.2 := by
  unfold f10_when at h
  show Go m10_when 0 [some (.inr (.inr (10, k0))), some (.inl x1)] [] σ (some (.inl w.1) : Option AV) w.2
  refine g_aload_n a10_when_0 rfl ?_
  refine g_iload_n a10_when_1 rfl ?_
  refine g_V1s (v1 := .inl (f10_isPart k0 x1 σ)) (σ1 := σ) a10_when_2 cv10_191 (E10_isPart _ _ _) rfl (fun o1 => ?_)
  refine g_if_ne (tgt := 13) a10_when_5 rfl (fun c6 => ?_) (fun c6 => ?_)
  · have h := (if_neg c6).symm.trans h
    refine g_aload_n a10_when_13 rfl ?_
    refine g_iload_n a10_when_14 rfl ?_
    obtain ⟨w4, hw4, h⟩ := bnd_inv h
    refine g_V1s (v1 := .inl w4.1) (σ1 := w4.2) a10_when_15 cv10_213 (E10_summersUntil hw4) rfl (fun o5 => ?_)
    have h := Option.some.inj h
    subst h
    exact g_retE a10_when_18 trivial rfl rfl
  · have h := (if_pos c6).symm.trans h
    refine g_aload_n a10_when_8 rfl ?_
    obtain ⟨w2, hw2, h⟩ := lt_inv h
    refine g_V0s (v1 := .inl w2.1) (σ1 := w2.2) a10_when_9 cv10_100 (by rw [← hw2]; exact E10_refuseBad _ _) rfl (fun o3 => ?_)
    have h := Option.some.inj h
    subst h
    exact g_retE a10_when_12 trivial rfl rfl
theorem a10_whence_0 : At cX10_whence 0 (.iconst 0) 1 1 := ⟨by decide +kernel, rfl⟩
theorem a10_whence_1 : At cX10_whence 1 (.istore_n 1) 1 2 := ⟨by decide +kernel, rfl⟩
theorem a10_whence_2 : At cX10_whence 2 (.iconst 0) 1 3 := ⟨by decide +kernel, rfl⟩
theorem a10_whence_3 : At cX10_whence 3 (.istore_n 2) 1 4 := ⟨by decide +kernel, rfl⟩
theorem a10_whence_4 : At cX10_whence 4 (.iload_n 2) 1 5 := ⟨by decide +kernel, rfl⟩
theorem a10_whence_5 : At cX10_whence 5 (.bipush 12) 2 7 := ⟨by decide +kernel, rfl⟩
theorem a10_whence_7 : At cX10_whence 7 (.if_icmp .ge 26) 3 10 := ⟨by decide +kernel, rfl⟩
theorem a10_whence_10 : At cX10_whence 10 (.aload_n 0) 1 11 := ⟨by decide +kernel, rfl⟩
theorem a10_whence_11 : At cX10_whence 11 (.getfield 10) 3 14 := ⟨by decide +kernel, rfl⟩
theorem a10_whence_14 : At cX10_whence 14 (.iload_n 2) 1 15 := ⟨by decide +kernel, rfl⟩
theorem a10_whence_15 : At cX10_whence 15 (.invokevirtual 203) 3 18 := ⟨by decide +kernel, rfl⟩
theorem a10_whence_18 : At cX10_whence 18 (.ifCond .ne 9) 3 21 := ⟨by decide +kernel, rfl⟩
theorem a10_whence_21 : At cX10_whence 21 (.iload_n 1) 1 22 := ⟨by decide +kernel, rfl⟩
theorem a10_whence_22 : At cX10_whence 22 (.iconst 1) 1 23 := ⟨by decide +kernel, rfl⟩
theorem a10_whence_23 : At cX10_whence 23 (.iload_n 2) 1 24 := ⟨by decide +kernel, rfl⟩
theorem a10_whence_24 : At cX10_whence 24 (.ishl) 1 25 := ⟨by decide +kernel, rfl⟩
theorem a10_whence_25 : At cX10_whence 25 (.ior) 1 26 := ⟨by decide +kernel, rfl⟩
theorem a10_whence_26 : At cX10_whence 26 (.istore_n 1) 1 27 := ⟨by decide +kernel, rfl⟩
theorem a10_whence_27 : At cX10_whence 27 (.iinc 2 1) 3 30 := ⟨by decide +kernel, rfl⟩
theorem a10_whence_30 : At cX10_whence 30 (.goto (-26)) 3 33 := ⟨by decide +kernel, rfl⟩
theorem a10_whence_33 : At cX10_whence 33 (.iload_n 1) 1 34 := ⟨by decide +kernel, rfl⟩
theorem a10_whence_34 : At cX10_whence 34 (.ireturn) 1 35 := ⟨by decide +kernel, rfl⟩
def l10_whence_4 (k0 : Nat) (σ : Mem) : Nat → Int32 → Int32 → Option (Int32 × Int32)
  | 0, _, _ => none
  | n + 1, x1, x2 =>
  if 12 ≤ x2 then
  (some (x1, x2))
  else
  (bnd (f9_struckNow 0 x2 σ) fun w1 =>
  lt (if w1 = 0 then
  ((x1 ||| (1 <<< (x2 &&& 31))))
  else
  (x1) : Int32) fun w3 =>
  l10_whence_4 k0 σ n w3 (x2 + 1))
theorem lE10_whence_4 {V : Option AV} {S : Mem} (k0 : Nat) (σ : Mem) : ∀ (n : Nat) (x1 : Int32) (x2 : Int32) {w : Int32 × Int32}, l10_whence_4 k0 σ n x1 x2 = some w → (Go m10_whence 33 [some (.inr (.inr (10, k0))), some (.inl w.1), some (.inl w.2)] [] σ V S) → Go m10_whence 4 [some (.inr (.inr (10, k0))), some (.inl x1), some (.inl x2)] [] σ V S
  | 0, x1, x2, w, h, K1 => by cases h
  | n + 1, x1, x2, w, h, K1 => by
    rw [l10_whence_4] at h
    refine g_iload_n a10_whence_4 rfl ?_
    refine g_bipush (v := 12) a10_whence_5 rfl ?_
    refine g_icmp_ge (tgt := 33) a10_whence_7 rfl (fun c6 => ?_) (fun c6 => ?_)
    · have h := (if_pos c6).symm.trans h
      have h := Option.some.inj h
      subst h
      exact g_weak K1 ⟨rfl, rfl, rfl, trivial⟩
    · have h := (if_neg c6).symm.trans h
      refine g_aload_n a10_whence_10 rfl ?_
      refine g_getf (v := .inr (.inr (9, 0))) a10_whence_11 fs10_10 rfl ?_
      refine g_iload_n a10_whence_14 rfl ?_
      obtain ⟨w1, hw1, h⟩ := bnd_inv h
      refine g_V1s (v1 := .inl w1) (σ1 := σ) a10_whence_15 cv10_203 (E9_struckNow hw1) rfl (fun o2 => ?_)
      obtain ⟨w3, hw3, h⟩ := lt_inv h
      have J4 : Go m10_whence 27 [some (.inr (.inr (10, k0))), some (.inl w3), some (.inl x2)] [] σ V S := by
        refine g_iinc (v := (x2 + 1)) (L' := [some (.inr (.inr (10, k0))), some (.inl w3), some (.inl (x2 + 1))]) a10_whence_27 rfl rfl (Nat.le_of_ble_eq_true rfl) rfl rfl ?_
        refine g_goto (tgt := 4) a10_whence_30 rfl ?_
        exact g_weak (lE10_whence_4 (V := V) (S := S)  k0 σ n _ _ h K1) ⟨rfl, rfl, rfl, trivial⟩
      clear h
      refine g_if_ne (tgt := 27) a10_whence_18 rfl (fun c5 => ?_) (fun c5 => ?_)
      · have hw3 := (if_neg c5).symm.trans hw3
        subst hw3
        exact g_weak J4 ⟨rfl, rfl, rfl, trivial⟩
      · have hw3 := (if_pos c5).symm.trans hw3
        refine g_iload_n a10_whence_21 rfl ?_
        refine g_iconst (v := 1) a10_whence_22 rfl ?_
        refine g_iload_n a10_whence_23 rfl ?_
        refine g_ishl a10_whence_24 ?_
        refine g_ior a10_whence_25 ?_
        refine g_istore_n (L' := [some (.inr (.inr (10, k0))), some (.inl (x1 ||| (1 <<< (x2 &&& 31)))), some (.inl x2)]) a10_whence_26 (Nat.le_of_ble_eq_true rfl) rfl rfl ?_
        subst hw3
        exact g_weak J4 ⟨rfl, rfl, rfl, trivial⟩
def f10_whence (k0 : Nat) (σ : Mem) : Option (Int32) :=
  bnd (l10_whence_4 k0 σ 2000 0 0) fun w7 =>
  some w7.1
theorem E10_whence {k0 : Nat} {σ : Mem} {w : Int32} (h : f10_whence k0 σ = some w) : Ev m10_whence [.inr (.inr (10, k0))] σ (some (.inl w) : Option AV) σ := by
  unfold f10_whence at h
  show Go m10_whence 0 [some (.inr (.inr (10, k0))), none, none] [] σ (some (.inl w) : Option AV) σ
  refine g_iconst (v := 0) a10_whence_0 rfl ?_
  refine g_istore_n (L' := [some (.inr (.inr (10, k0))), some (.inl 0), none]) a10_whence_1 (Nat.le_of_ble_eq_true rfl) rfl rfl ?_
  refine g_iconst (v := 0) a10_whence_2 rfl ?_
  refine g_istore_n (L' := [some (.inr (.inr (10, k0))), some (.inl 0), some (.inl 0)]) a10_whence_3 (Nat.le_of_ble_eq_true rfl) rfl rfl ?_
  obtain ⟨w7, hw7, h⟩ := bnd_inv h
  refine g_weak (lE10_whence_4 k0 σ 2000 _ _ hw7 ?_) ⟨rfl, rfl, rfl, trivial⟩
  refine g_iload_n a10_whence_33 rfl ?_
  have h := Option.some.inj h
  subst h
  exact g_retE a10_whence_34 trivial rfl rfl
theorem a9_mayBeHim_0 : At cX9_mayBeHim 0 (.aload_n 0) 1 1 := ⟨by decide +kernel, rfl⟩
theorem a9_mayBeHim_1 : At cX9_mayBeHim 1 (.getfield 41) 3 4 := ⟨by decide +kernel, rfl⟩
theorem a9_mayBeHim_4 : At cX9_mayBeHim 4 (.iconst 0) 1 5 := ⟨by decide +kernel, rfl⟩
theorem a9_mayBeHim_5 : At cX9_mayBeHim 5 (.invokevirtual 131) 3 8 := ⟨by decide +kernel, rfl⟩
theorem a9_mayBeHim_8 : At cX9_mayBeHim 8 (.ifCond .eq 17) 3 11 := ⟨by decide +kernel, rfl⟩
theorem a9_mayBeHim_11 : At cX9_mayBeHim 11 (.aload_n 0) 1 12 := ⟨by decide +kernel, rfl⟩
theorem a9_mayBeHim_12 : At cX9_mayBeHim 12 (.iconst 0) 1 13 := ⟨by decide +kernel, rfl⟩
theorem a9_mayBeHim_13 : At cX9_mayBeHim 13 (.iload_n 1) 1 14 := ⟨by decide +kernel, rfl⟩
theorem a9_mayBeHim_14 : At cX9_mayBeHim 14 (.invokevirtual 135) 3 17 := ⟨by decide +kernel, rfl⟩
theorem a9_mayBeHim_17 : At cX9_mayBeHim 17 (.iconst 1) 1 18 := ⟨by decide +kernel, rfl⟩
theorem a9_mayBeHim_18 : At cX9_mayBeHim 18 (.if_icmp .lt 7) 3 21 := ⟨by decide +kernel, rfl⟩
theorem a9_mayBeHim_21 : At cX9_mayBeHim 21 (.iconst 1) 1 22 := ⟨by decide +kernel, rfl⟩
theorem a9_mayBeHim_22 : At cX9_mayBeHim 22 (.goto 4) 3 25 := ⟨by decide +kernel, rfl⟩
theorem a9_mayBeHim_25 : At cX9_mayBeHim 25 (.iconst 0) 1 26 := ⟨by decide +kernel, rfl⟩
theorem a9_mayBeHim_26 : At cX9_mayBeHim 26 (.ireturn) 1 27 := ⟨by decide +kernel, rfl⟩
def f9_mayBeHim (k0 : Nat) (x1 : Int32) (σ : Mem) : Option (Int32) :=
  if (f4_isUp k0 0 σ) = 0 then
  (some 0)
  else
  (bnd (f9_drawOf k0 0 x1 σ) fun w2 =>
  if w2 < 1 then
  (some 0)
  else
  (some 1))
theorem E9_mayBeHim {k0 : Nat} {x1 : Int32} {σ : Mem} {w : Int32} (h : f9_mayBeHim k0 x1 σ = some w) : Ev m9_mayBeHim [.inr (.inr (9, k0)), .inl x1] σ (some (.inl w) : Option AV) σ := by
  unfold f9_mayBeHim at h
  show Go m9_mayBeHim 0 [some (.inr (.inr (9, k0))), some (.inl x1)] [] σ (some (.inl w) : Option AV) σ
  refine g_aload_n a9_mayBeHim_0 rfl ?_
  refine g_getf (v := .inr (.inr (4, k0))) a9_mayBeHim_1 fs9_41 rfl ?_
  refine g_iconst (v := 0) a9_mayBeHim_4 rfl ?_
  refine g_V1s (v1 := .inl (f4_isUp k0 0 σ)) (σ1 := σ) a9_mayBeHim_5 cv9_131 (E4_isUp _ _ _) rfl (fun o1 => ?_)
  refine g_if_eq (tgt := 25) a9_mayBeHim_8 rfl (fun c5 => ?_) (fun c5 => ?_)
  · have h := (if_pos c5).symm.trans h
    refine g_iconst (v := 0) a9_mayBeHim_25 rfl ?_
    have h := Option.some.inj h
    subst h
    exact g_retE a9_mayBeHim_26 (Or.inl rfl) rfl rfl
  · have h := (if_neg c5).symm.trans h
    refine g_aload_n a9_mayBeHim_11 rfl ?_
    refine g_iconst (v := 0) a9_mayBeHim_12 rfl ?_
    refine g_iload_n a9_mayBeHim_13 rfl ?_
    obtain ⟨w2, hw2, h⟩ := bnd_inv h
    refine g_V2s (v1 := .inl w2) (σ1 := σ) a9_mayBeHim_14 cv9_135 (E9_drawOf hw2) rfl (fun o3 => ?_)
    refine g_iconst (v := 1) a9_mayBeHim_17 rfl ?_
    refine g_icmp_lt (tgt := 25) a9_mayBeHim_18 rfl (fun c4 => ?_) (fun c4 => ?_)
    · have h := (if_pos c4).symm.trans h
      refine g_iconst (v := 0) a9_mayBeHim_25 rfl ?_
      have h := Option.some.inj h
      subst h
      exact g_retE a9_mayBeHim_26 (Or.inl rfl) rfl rfl
    · have h := (if_neg c4).symm.trans h
      refine g_iconst (v := 1) a9_mayBeHim_21 rfl ?_
      refine g_goto (tgt := 26) a9_mayBeHim_22 rfl ?_
      have h := Option.some.inj h
      subst h
      exact g_retE a9_mayBeHim_26 (Or.inr rfl) rfl rfl
theorem a9_stronger_0 : At cX9_stronger 0 (.aload_n 0) 1 1 := ⟨by decide +kernel, rfl⟩
theorem a9_stronger_1 : At cX9_stronger 1 (.iconst 0) 1 2 := ⟨by decide +kernel, rfl⟩
theorem a9_stronger_2 : At cX9_stronger 2 (.iload_n 1) 1 3 := ⟨by decide +kernel, rfl⟩
theorem a9_stronger_3 : At cX9_stronger 3 (.invokevirtual 135) 3 6 := ⟨by decide +kernel, rfl⟩
theorem a9_stronger_6 : At cX9_stronger 6 (.istore_n 2) 1 7 := ⟨by decide +kernel, rfl⟩
theorem a9_stronger_7 : At cX9_stronger 7 (.iconst 0) 1 8 := ⟨by decide +kernel, rfl⟩
theorem a9_stronger_8 : At cX9_stronger 8 (.istore_n 3) 1 9 := ⟨by decide +kernel, rfl⟩
theorem a9_stronger_9 : At cX9_stronger 9 (.iconst 1) 1 10 := ⟨by decide +kernel, rfl⟩
theorem a9_stronger_10 : At cX9_stronger 10 (.istore 4) 2 12 := ⟨by decide +kernel, rfl⟩
theorem a9_stronger_12 : At cX9_stronger 12 (.iload 4) 2 14 := ⟨by decide +kernel, rfl⟩
theorem a9_stronger_14 : At cX9_stronger 14 (.aload_n 0) 1 15 := ⟨by decide +kernel, rfl⟩
theorem a9_stronger_15 : At cX9_stronger 15 (.getfield 20) 3 18 := ⟨by decide +kernel, rfl⟩
theorem a9_stronger_18 : At cX9_stronger 18 (.invokevirtual 70) 3 21 := ⟨by decide +kernel, rfl⟩
theorem a9_stronger_21 : At cX9_stronger 21 (.if_icmp .ge 27) 3 24 := ⟨by decide +kernel, rfl⟩
theorem a9_stronger_24 : At cX9_stronger 24 (.aload_n 0) 1 25 := ⟨by decide +kernel, rfl⟩
theorem a9_stronger_25 : At cX9_stronger 25 (.iload 4) 2 27 := ⟨by decide +kernel, rfl⟩
theorem a9_stronger_27 : At cX9_stronger 27 (.iload_n 1) 1 28 := ⟨by decide +kernel, rfl⟩
theorem a9_stronger_28 : At cX9_stronger 28 (.invokevirtual 135) 3 31 := ⟨by decide +kernel, rfl⟩
theorem a9_stronger_31 : At cX9_stronger 31 (.iload_n 2) 1 32 := ⟨by decide +kernel, rfl⟩
theorem a9_stronger_32 : At cX9_stronger 32 (.if_icmp .le 10) 3 35 := ⟨by decide +kernel, rfl⟩
theorem a9_stronger_35 : At cX9_stronger 35 (.iload_n 3) 1 36 := ⟨by decide +kernel, rfl⟩
theorem a9_stronger_36 : At cX9_stronger 36 (.iconst 1) 1 37 := ⟨by decide +kernel, rfl⟩
theorem a9_stronger_37 : At cX9_stronger 37 (.iload 4) 2 39 := ⟨by decide +kernel, rfl⟩
theorem a9_stronger_39 : At cX9_stronger 39 (.ishl) 1 40 := ⟨by decide +kernel, rfl⟩
theorem a9_stronger_40 : At cX9_stronger 40 (.ior) 1 41 := ⟨by decide +kernel, rfl⟩
theorem a9_stronger_41 : At cX9_stronger 41 (.istore_n 3) 1 42 := ⟨by decide +kernel, rfl⟩
theorem a9_stronger_42 : At cX9_stronger 42 (.iinc 4 1) 3 45 := ⟨by decide +kernel, rfl⟩
theorem a9_stronger_45 : At cX9_stronger 45 (.goto (-33)) 3 48 := ⟨by decide +kernel, rfl⟩
theorem a9_stronger_48 : At cX9_stronger 48 (.iload_n 3) 1 49 := ⟨by decide +kernel, rfl⟩
theorem a9_stronger_49 : At cX9_stronger 49 (.ireturn) 1 50 := ⟨by decide +kernel, rfl⟩
def l9_stronger_12 (k0 : Nat) (x1 : Int32) (x2 : Int32) (σ : Mem) : Nat → Int32 → Int32 → Option (Int32 × Int32)
  | 0, _, _ => none
  | n + 1, x3, x4 =>
  if (f7_size (7 * k0 + 1) σ) ≤ x4 then
  (some (x3, x4))
  else
  (bnd (f9_drawOf k0 x4 x1 σ) fun w4 =>
  lt (if w4 ≤ x2 then
  (x3)
  else
  ((x3 ||| (1 <<< (x4 &&& 31)))) : Int32) fun w6 =>
  l9_stronger_12 k0 x1 x2 σ n w6 (x4 + 1))
theorem lE9_stronger_12 {V : Option AV} {S : Mem} (k0 : Nat) (x1 : Int32) (x2 : Int32) (σ : Mem) : ∀ (n : Nat) (x3 : Int32) (x4 : Int32) {w : Int32 × Int32}, l9_stronger_12 k0 x1 x2 σ n x3 x4 = some w → (Go m9_stronger 48 [some (.inr (.inr (9, k0))), some (.inl x1), some (.inl x2), some (.inl w.1), some (.inl w.2)] [] σ V S) → Go m9_stronger 12 [some (.inr (.inr (9, k0))), some (.inl x1), some (.inl x2), some (.inl x3), some (.inl x4)] [] σ V S
  | 0, x3, x4, w, h, K1 => by cases h
  | n + 1, x3, x4, w, h, K1 => by
    rw [l9_stronger_12] at h
    refine g_iload a9_stronger_12 rfl ?_
    refine g_aload_n a9_stronger_14 rfl ?_
    refine g_getf (v := .inr (.inr (7, (7 * k0 + 1)))) a9_stronger_15 fs9_20 rfl ?_
    refine g_V0s (v1 := .inl (f7_size (7 * k0 + 1) σ)) (σ1 := σ) a9_stronger_18 cv9_70 (E7_size _ _) rfl (fun o3 => ?_)
    refine g_icmp_ge (tgt := 48) a9_stronger_21 rfl (fun c9 => ?_) (fun c9 => ?_)
    · have h := (if_pos c9).symm.trans h
      have h := Option.some.inj h
      subst h
      exact g_weak K1 ⟨rfl, rfl, rfl, rfl, rfl, trivial⟩
    · have h := (if_neg c9).symm.trans h
      refine g_aload_n a9_stronger_24 rfl ?_
      refine g_iload a9_stronger_25 rfl ?_
      refine g_iload_n a9_stronger_27 rfl ?_
      obtain ⟨w4, hw4, h⟩ := bnd_inv h
      refine g_V2s (v1 := .inl w4) (σ1 := σ) a9_stronger_28 cv9_135 (E9_drawOf hw4) rfl (fun o5 => ?_)
      refine g_iload_n a9_stronger_31 rfl ?_
      obtain ⟨w6, hw6, h⟩ := lt_inv h
      have J7 : Go m9_stronger 42 [some (.inr (.inr (9, k0))), some (.inl x1), some (.inl x2), some (.inl w6), some (.inl x4)] [] σ V S := by
        refine g_iinc (v := (x4 + 1)) (L' := [some (.inr (.inr (9, k0))), some (.inl x1), some (.inl x2), some (.inl w6), some (.inl (x4 + 1))]) a9_stronger_42 rfl rfl (Nat.le_of_ble_eq_true rfl) rfl rfl ?_
        refine g_goto (tgt := 12) a9_stronger_45 rfl ?_
        exact g_weak (lE9_stronger_12 (V := V) (S := S)  k0 x1 x2 σ n _ _ h K1) ⟨rfl, rfl, rfl, rfl, rfl, trivial⟩
      clear h
      refine g_icmp_le (tgt := 42) a9_stronger_32 rfl (fun c8 => ?_) (fun c8 => ?_)
      · have hw6 := (if_pos c8).symm.trans hw6
        subst hw6
        exact g_weak J7 ⟨rfl, rfl, rfl, rfl, rfl, trivial⟩
      · have hw6 := (if_neg c8).symm.trans hw6
        refine g_iload_n a9_stronger_35 rfl ?_
        refine g_iconst (v := 1) a9_stronger_36 rfl ?_
        refine g_iload a9_stronger_37 rfl ?_
        refine g_ishl a9_stronger_39 ?_
        refine g_ior a9_stronger_40 ?_
        refine g_istore_n (L' := [some (.inr (.inr (9, k0))), some (.inl x1), some (.inl x2), some (.inl (x3 ||| (1 <<< (x4 &&& 31)))), some (.inl x4)]) a9_stronger_41 (Nat.le_of_ble_eq_true rfl) rfl rfl ?_
        subst hw6
        exact g_weak J7 ⟨rfl, rfl, rfl, rfl, rfl, trivial⟩
def f9_stronger (k0 : Nat) (x1 : Int32) (σ : Mem) : Option (Int32) :=
  bnd (f9_drawOf k0 0 x1 σ) fun w1 =>
  bnd (l9_stronger_12 k0 x1 w1 σ 2000 0 1) fun w10 =>
  some w10.1
theorem E9_stronger {k0 : Nat} {x1 : Int32} {σ : Mem} {w : Int32} (h : f9_stronger k0 x1 σ = some w) : Ev m9_stronger [.inr (.inr (9, k0)), .inl x1] σ (some (.inl w) : Option AV) σ := by
  unfold f9_stronger at h
  show Go m9_stronger 0 [some (.inr (.inr (9, k0))), some (.inl x1), none, none, none] [] σ (some (.inl w) : Option AV) σ
  refine g_aload_n a9_stronger_0 rfl ?_
  refine g_iconst (v := 0) a9_stronger_1 rfl ?_
  refine g_iload_n a9_stronger_2 rfl ?_
  obtain ⟨w1, hw1, h⟩ := bnd_inv h
  refine g_V2s (v1 := .inl w1) (σ1 := σ) a9_stronger_3 cv9_135 (E9_drawOf hw1) rfl (fun o2 => ?_)
  refine g_istore_n (L' := [some (.inr (.inr (9, k0))), some (.inl x1), some (.inl w1), none, none]) a9_stronger_6 (Nat.le_of_ble_eq_true rfl) rfl rfl ?_
  refine g_iconst (v := 0) a9_stronger_7 rfl ?_
  refine g_istore_n (L' := [some (.inr (.inr (9, k0))), some (.inl x1), some (.inl w1), some (.inl 0), none]) a9_stronger_8 (Nat.le_of_ble_eq_true rfl) rfl rfl ?_
  refine g_iconst (v := 1) a9_stronger_9 rfl ?_
  refine g_istore (L' := [some (.inr (.inr (9, k0))), some (.inl x1), some (.inl w1), some (.inl 0), some (.inl 1)]) a9_stronger_10 (Nat.le_of_ble_eq_true rfl) rfl rfl ?_
  obtain ⟨w10, hw10, h⟩ := bnd_inv h
  refine g_weak (lE9_stronger_12 k0 x1 w1 σ 2000 _ _ hw10 ?_) ⟨rfl, rfl, rfl, rfl, rfl, trivial⟩
  refine g_iload_n a9_stronger_48 rfl ?_
  have h := Option.some.inj h
  subst h
  exact g_retE a9_stronger_49 trivial rfl rfl
theorem a10_lead_0 : At cX10_lead 0 (.iload_n 1) 1 1 := ⟨by decide +kernel, rfl⟩
theorem a10_lead_1 : At cX10_lead 1 (.invokestatic 93) 3 4 := ⟨by decide +kernel, rfl⟩
theorem a10_lead_4 : At cX10_lead 4 (.ifCond .ne 8) 3 7 := ⟨by decide +kernel, rfl⟩
theorem a10_lead_7 : At cX10_lead 7 (.aload_n 0) 1 8 := ⟨by decide +kernel, rfl⟩
theorem a10_lead_8 : At cX10_lead 8 (.invokevirtual 100) 3 11 := ⟨by decide +kernel, rfl⟩
theorem a10_lead_11 : At cX10_lead 11 (.ireturn) 1 12 := ⟨by decide +kernel, rfl⟩
theorem a10_lead_12 : At cX10_lead 12 (.aload_n 0) 1 13 := ⟨by decide +kernel, rfl⟩
theorem a10_lead_13 : At cX10_lead 13 (.getfield 10) 3 16 := ⟨by decide +kernel, rfl⟩
theorem a10_lead_16 : At cX10_lead 16 (.iload_n 1) 1 17 := ⟨by decide +kernel, rfl⟩
theorem a10_lead_17 : At cX10_lead 17 (.invokevirtual 216) 3 20 := ⟨by decide +kernel, rfl⟩
theorem a10_lead_20 : At cX10_lead 20 (.ifCond .ne 5) 3 23 := ⟨by decide +kernel, rfl⟩
theorem a10_lead_23 : At cX10_lead 23 (.iconst (-1)) 1 24 := ⟨by decide +kernel, rfl⟩
theorem a10_lead_24 : At cX10_lead 24 (.ireturn) 1 25 := ⟨by decide +kernel, rfl⟩
theorem a10_lead_25 : At cX10_lead 25 (.aload_n 0) 1 26 := ⟨by decide +kernel, rfl⟩
theorem a10_lead_26 : At cX10_lead 26 (.getfield 10) 3 29 := ⟨by decide +kernel, rfl⟩
theorem a10_lead_29 : At cX10_lead 29 (.iload_n 1) 1 30 := ⟨by decide +kernel, rfl⟩
theorem a10_lead_30 : At cX10_lead 30 (.invokevirtual 219) 3 33 := ⟨by decide +kernel, rfl⟩
theorem a10_lead_33 : At cX10_lead 33 (.aload_n 0) 1 34 := ⟨by decide +kernel, rfl⟩
theorem a10_lead_34 : At cX10_lead 34 (.getfield 10) 3 37 := ⟨by decide +kernel, rfl⟩
theorem a10_lead_37 : At cX10_lead 37 (.getfield 159) 3 40 := ⟨by decide +kernel, rfl⟩
theorem a10_lead_40 : At cX10_lead 40 (.getfield 222) 3 43 := ⟨by decide +kernel, rfl⟩
theorem a10_lead_43 : At cX10_lead 43 (.iand) 1 44 := ⟨by decide +kernel, rfl⟩
theorem a10_lead_44 : At cX10_lead 44 (.ireturn) 1 45 := ⟨by decide +kernel, rfl⟩
def f10_lead (k0 : Nat) (x1 : Int32) (σ : Mem) : Option (Int32 × Mem) :=
  if (f10_isCell x1) = 0 then
  (lt (f10_refuseBad k0 σ) fun w2 =>
  some (w2.1, w2.2))
  else
  (bnd (f9_mayBeHim 0 x1 σ) fun w4 =>
  if w4 = 0 then
  (some ((-1), σ))
  else
  (bnd (f9_stronger 0 x1 σ) fun w6 =>
  some ((w6 &&& (σ.1 4 0 0)), σ)))
theorem E10_lead {k0 : Nat} {x1 : Int32} {σ : Mem} {w : Int32 × Mem} (h : f10_lead k0 x1 σ = some w) : Ev m10_lead [.inr (.inr (10, k0)), .inl x1] σ (some (.inl w.1) : Option AV) w.2 := by
  unfold f10_lead at h
  show Go m10_lead 0 [some (.inr (.inr (10, k0))), some (.inl x1)] [] σ (some (.inl w.1) : Option AV) w.2
  refine g_iload_n a10_lead_0 rfl ?_
  refine g_S1s (v1 := .inl (f10_isCell x1)) (σ1 := σ) a10_lead_1 cs10_93 (E10_isCell _ _) rfl (fun o1 => ?_)
  refine g_if_ne (tgt := 12) a10_lead_4 rfl (fun c9 => ?_) (fun c9 => ?_)
  · have h := (if_neg c9).symm.trans h
    refine g_aload_n a10_lead_12 rfl ?_
    refine g_getf (v := .inr (.inr (9, 0))) a10_lead_13 fs10_10 rfl ?_
    refine g_iload_n a10_lead_16 rfl ?_
    obtain ⟨w4, hw4, h⟩ := bnd_inv h
    refine g_V1s (v1 := .inl w4) (σ1 := σ) a10_lead_17 cv10_216 (E9_mayBeHim hw4) rfl (fun o5 => ?_)
    refine g_if_ne (tgt := 25) a10_lead_20 rfl (fun c8 => ?_) (fun c8 => ?_)
    · have h := (if_neg c8).symm.trans h
      refine g_aload_n a10_lead_25 rfl ?_
      refine g_getf (v := .inr (.inr (9, 0))) a10_lead_26 fs10_10 rfl ?_
      refine g_iload_n a10_lead_29 rfl ?_
      obtain ⟨w6, hw6, h⟩ := bnd_inv h
      refine g_V1s (v1 := .inl w6) (σ1 := σ) a10_lead_30 cv10_219 (E9_stronger hw6) rfl (fun o7 => ?_)
      refine g_aload_n a10_lead_33 rfl ?_
      refine g_getf (v := .inr (.inr (9, 0))) a10_lead_34 fs10_10 rfl ?_
      refine g_getf (v := .inr (.inr (4, 0))) a10_lead_37 fs10_159 rfl ?_
      refine g_getf (v := .inl (σ.1 4 0 0)) a10_lead_40 fs10_222 rfl ?_
      refine g_iand a10_lead_43 ?_
      have h := Option.some.inj h
      subst h
      exact g_retE a10_lead_44 trivial rfl rfl
    · have h := (if_pos c8).symm.trans h
      refine g_iconst (v := (-1)) a10_lead_23 rfl ?_
      have h := Option.some.inj h
      subst h
      exact g_retE a10_lead_24 trivial rfl rfl
  · have h := (if_pos c9).symm.trans h
    refine g_aload_n a10_lead_7 rfl ?_
    obtain ⟨w2, hw2, h⟩ := lt_inv h
    refine g_V0s (v1 := .inl w2.1) (σ1 := w2.2) a10_lead_8 cv10_100 (by rw [← hw2]; exact E10_refuseBad _ _) rfl (fun o3 => ?_)
    have h := Option.some.inj h
    subst h
    exact g_retE a10_lead_11 trivial rfl rfl
theorem a10_isSparedBy_0 : At cX10_isSparedBy 0 (.iconst 0) 1 1 := ⟨by decide +kernel, rfl⟩
theorem a10_isSparedBy_1 : At cX10_isSparedBy 1 (.istore_n 2) 1 2 := ⟨by decide +kernel, rfl⟩
theorem a10_isSparedBy_2 : At cX10_isSparedBy 2 (.iload_n 2) 1 3 := ⟨by decide +kernel, rfl⟩
theorem a10_isSparedBy_3 : At cX10_isSparedBy 3 (.bipush 12) 2 5 := ⟨by decide +kernel, rfl⟩
theorem a10_isSparedBy_5 : At cX10_isSparedBy 5 (.if_icmp .ge 26) 3 8 := ⟨by decide +kernel, rfl⟩
theorem a10_isSparedBy_8 : At cX10_isSparedBy 8 (.iload_n 1) 1 9 := ⟨by decide +kernel, rfl⟩
theorem a10_isSparedBy_9 : At cX10_isSparedBy 9 (.iconst 1) 1 10 := ⟨by decide +kernel, rfl⟩
theorem a10_isSparedBy_10 : At cX10_isSparedBy 10 (.ior) 1 11 := ⟨by decide +kernel, rfl⟩
theorem a10_isSparedBy_11 : At cX10_isSparedBy 11 (.aload_n 0) 1 12 := ⟨by decide +kernel, rfl⟩
theorem a10_isSparedBy_12 : At cX10_isSparedBy 12 (.getfield 37) 3 15 := ⟨by decide +kernel, rfl⟩
theorem a10_isSparedBy_15 : At cX10_isSparedBy 15 (.iload_n 2) 1 16 := ⟨by decide +kernel, rfl⟩
theorem a10_isSparedBy_16 : At cX10_isSparedBy 16 (.invokevirtual 358) 3 19 := ⟨by decide +kernel, rfl⟩
theorem a10_isSparedBy_19 : At cX10_isSparedBy 19 (.iand) 1 20 := ⟨by decide +kernel, rfl⟩
theorem a10_isSparedBy_20 : At cX10_isSparedBy 20 (.ifCond .ne 5) 3 23 := ⟨by decide +kernel, rfl⟩
theorem a10_isSparedBy_23 : At cX10_isSparedBy 23 (.iconst 0) 1 24 := ⟨by decide +kernel, rfl⟩
theorem a10_isSparedBy_24 : At cX10_isSparedBy 24 (.ireturn) 1 25 := ⟨by decide +kernel, rfl⟩
theorem a10_isSparedBy_25 : At cX10_isSparedBy 25 (.iinc 2 1) 3 28 := ⟨by decide +kernel, rfl⟩
theorem a10_isSparedBy_28 : At cX10_isSparedBy 28 (.goto (-26)) 3 31 := ⟨by decide +kernel, rfl⟩
theorem a10_isSparedBy_31 : At cX10_isSparedBy 31 (.iconst 1) 1 32 := ⟨by decide +kernel, rfl⟩
theorem a10_isSparedBy_32 : At cX10_isSparedBy 32 (.ireturn) 1 33 := ⟨by decide +kernel, rfl⟩
def l10_isSparedBy_2 (k0 : Nat) (x1 : Int32) (σ : Mem) : Nat → Int32 → Option ((Int32) ⊕ (Int32))
  | 0, _ => none
  | n + 1, x2 =>
  if 12 ≤ x2 then
  (some (.inl x2))
  else
  (bnd (f6_at 0 x2 σ) fun w1 =>
  if ((x1 ||| 1) &&& w1) = 0 then
  (some (.inr 0))
  else
  (l10_isSparedBy_2 k0 x1 σ n (x2 + 1)))
theorem lE10_isSparedBy_2 {V : Option AV} {S : Mem} (k0 : Nat) (x1 : Int32) (σ : Mem) : ∀ (n : Nat) (x2 : Int32) {w : (Int32) ⊕ (Int32)}, l10_isSparedBy_2 k0 x1 σ n x2 = some w → (∀ u, w = .inl u → Go m10_isSparedBy 31 [some (.inr (.inr (10, k0))), some (.inl x1), some (.inl u)] [] σ V S) → (∀ u, w = .inr u → (some (.inl u) : Option AV) = V ∧ σ = S) → Go m10_isSparedBy 2 [some (.inr (.inr (10, k0))), some (.inl x1), some (.inl x2)] [] σ V S
  | 0, x2, w, h, K1, K2 => by cases h
  | n + 1, x2, w, h, K1, K2 => by
    rw [l10_isSparedBy_2] at h
    refine g_iload_n a10_isSparedBy_2 rfl ?_
    refine g_bipush (v := 12) a10_isSparedBy_3 rfl ?_
    refine g_icmp_ge (tgt := 31) a10_isSparedBy_5 rfl (fun c4 => ?_) (fun c4 => ?_)
    · have h := (if_pos c4).symm.trans h
      have h := Option.some.inj h
      subst h
      exact g_weak (K1 _ rfl) ⟨rfl, rfl, rfl, trivial⟩
    · have h := (if_neg c4).symm.trans h
      refine g_iload_n a10_isSparedBy_8 rfl ?_
      refine g_iconst (v := 1) a10_isSparedBy_9 rfl ?_
      refine g_ior a10_isSparedBy_10 ?_
      refine g_aload_n a10_isSparedBy_11 rfl ?_
      refine g_getf (v := .inr (.inr (6, 0))) a10_isSparedBy_12 fs10_37 rfl ?_
      refine g_iload_n a10_isSparedBy_15 rfl ?_
      obtain ⟨w1, hw1, h⟩ := bnd_inv h
      refine g_V1s (v1 := .inl w1) (σ1 := σ) a10_isSparedBy_16 cv10_358 (E6_at hw1) rfl (fun o2 => ?_)
      refine g_iand a10_isSparedBy_19 ?_
      refine g_if_ne (tgt := 25) a10_isSparedBy_20 rfl (fun c3 => ?_) (fun c3 => ?_)
      · have h := (if_neg c3).symm.trans h
        refine g_iinc (v := (x2 + 1)) (L' := [some (.inr (.inr (10, k0))), some (.inl x1), some (.inl (x2 + 1))]) a10_isSparedBy_25 rfl rfl (Nat.le_of_ble_eq_true rfl) rfl rfl ?_
        refine g_goto (tgt := 2) a10_isSparedBy_28 rfl ?_
        exact g_weak (lE10_isSparedBy_2 (V := V) (S := S)  k0 x1 σ n _ h K1 K2) ⟨rfl, rfl, rfl, trivial⟩
      · have h := (if_pos c3).symm.trans h
        refine g_iconst (v := 0) a10_isSparedBy_23 rfl ?_
        have h := Option.some.inj h
        subst h
        obtain ⟨hV, hS⟩ := K2 _ rfl
        subst hV; subst hS
        exact g_retE a10_isSparedBy_24 (Or.inl rfl) rfl rfl
def f10_isSparedBy (k0 : Nat) (x1 : Int32) (σ : Mem) : Option (Int32) :=
  bnd (l10_isSparedBy_2 k0 x1 σ 2000 0) fun w5 =>
  sm w5 (fun u6 =>
  some 1) (fun u6 => some u6)
theorem E10_isSparedBy {k0 : Nat} {x1 : Int32} {σ : Mem} {w : Int32} (h : f10_isSparedBy k0 x1 σ = some w) : Ev m10_isSparedBy [.inr (.inr (10, k0)), .inl x1] σ (some (.inl w) : Option AV) σ := by
  unfold f10_isSparedBy at h
  show Go m10_isSparedBy 0 [some (.inr (.inr (10, k0))), some (.inl x1), none] [] σ (some (.inl w) : Option AV) σ
  refine g_iconst (v := 0) a10_isSparedBy_0 rfl ?_
  refine g_istore_n (L' := [some (.inr (.inr (10, k0))), some (.inl x1), some (.inl 0)]) a10_isSparedBy_1 (Nat.le_of_ble_eq_true rfl) rfl rfl ?_
  obtain ⟨w5, hw5, h⟩ := bnd_inv h
  rcases w5 with u6 | u6
  · have h := sm_l h
    refine g_weak (lE10_isSparedBy_2 k0 x1 σ 2000 _ hw5 (fun _ e => ?_) (fun _ e => by cases e)) ⟨rfl, rfl, rfl, trivial⟩
    cases e
    refine g_iconst (v := 1) a10_isSparedBy_31 rfl ?_
    have h := Option.some.inj h
    subst h
    exact g_retE a10_isSparedBy_32 (Or.inr rfl) rfl rfl
  · have h := sm_r h
    have h := Option.some.inj h
    subst h
    exact g_weak (lE10_isSparedBy_2 k0 x1 σ 2000 _ hw5 (fun _ e => by cases e) (fun _ e => by cases e; exact ⟨rfl, rfl⟩)) ⟨rfl, rfl, rfl, trivial⟩
theorem a10_spare_0 : At cX10_spare 0 (.iconst 0) 1 1 := ⟨by decide +kernel, rfl⟩
theorem a10_spare_1 : At cX10_spare 1 (.istore_n 1) 1 2 := ⟨by decide +kernel, rfl⟩
theorem a10_spare_2 : At cX10_spare 2 (.iload_n 1) 1 3 := ⟨by decide +kernel, rfl⟩
theorem a10_spare_3 : At cX10_spare 3 (.bipush 12) 2 5 := ⟨by decide +kernel, rfl⟩
theorem a10_spare_5 : At cX10_spare 5 (.if_icmp .ge 40) 3 8 := ⟨by decide +kernel, rfl⟩
theorem a10_spare_8 : At cX10_spare 8 (.aload_n 0) 1 9 := ⟨by decide +kernel, rfl⟩
theorem a10_spare_9 : At cX10_spare 9 (.getfield 37) 3 12 := ⟨by decide +kernel, rfl⟩
theorem a10_spare_12 : At cX10_spare 12 (.iload_n 1) 1 13 := ⟨by decide +kernel, rfl⟩
theorem a10_spare_13 : At cX10_spare 13 (.aload_n 0) 1 14 := ⟨by decide +kernel, rfl⟩
theorem a10_spare_14 : At cX10_spare 14 (.getfield 10) 3 17 := ⟨by decide +kernel, rfl⟩
theorem a10_spare_17 : At cX10_spare 17 (.iload_n 1) 1 18 := ⟨by decide +kernel, rfl⟩
theorem a10_spare_18 : At cX10_spare 18 (.invokevirtual 216) 3 21 := ⟨by decide +kernel, rfl⟩
theorem a10_spare_21 : At cX10_spare 21 (.ifCond .eq 14) 3 24 := ⟨by decide +kernel, rfl⟩
theorem a10_spare_24 : At cX10_spare 24 (.aload_n 0) 1 25 := ⟨by decide +kernel, rfl⟩
theorem a10_spare_25 : At cX10_spare 25 (.getfield 10) 3 28 := ⟨by decide +kernel, rfl⟩
theorem a10_spare_28 : At cX10_spare 28 (.iload_n 1) 1 29 := ⟨by decide +kernel, rfl⟩
theorem a10_spare_29 : At cX10_spare 29 (.invokevirtual 219) 3 32 := ⟨by decide +kernel, rfl⟩
theorem a10_spare_32 : At cX10_spare 32 (.goto 4) 3 35 := ⟨by decide +kernel, rfl⟩
theorem a10_spare_35 : At cX10_spare 35 (.iconst 1) 1 36 := ⟨by decide +kernel, rfl⟩
theorem a10_spare_36 : At cX10_spare 36 (.invokevirtual 225) 3 39 := ⟨by decide +kernel, rfl⟩
theorem a10_spare_39 : At cX10_spare 39 (.iinc 1 1) 3 42 := ⟨by decide +kernel, rfl⟩
theorem a10_spare_42 : At cX10_spare 42 (.goto (-40)) 3 45 := ⟨by decide +kernel, rfl⟩
theorem a10_spare_45 : At cX10_spare 45 (.iconst (-1)) 1 46 := ⟨by decide +kernel, rfl⟩
theorem a10_spare_46 : At cX10_spare 46 (.istore_n 1) 1 47 := ⟨by decide +kernel, rfl⟩
theorem a10_spare_47 : At cX10_spare 47 (.iconst 1) 1 48 := ⟨by decide +kernel, rfl⟩
theorem a10_spare_48 : At cX10_spare 48 (.aload_n 0) 1 49 := ⟨by decide +kernel, rfl⟩
theorem a10_spare_49 : At cX10_spare 49 (.getfield 10) 3 52 := ⟨by decide +kernel, rfl⟩
theorem a10_spare_52 : At cX10_spare 52 (.getfield 76) 3 55 := ⟨by decide +kernel, rfl⟩
theorem a10_spare_55 : At cX10_spare 55 (.invokevirtual 80) 3 58 := ⟨by decide +kernel, rfl⟩
theorem a10_spare_58 : At cX10_spare 58 (.ishl) 1 59 := ⟨by decide +kernel, rfl⟩
theorem a10_spare_59 : At cX10_spare 59 (.istore_n 2) 1 60 := ⟨by decide +kernel, rfl⟩
theorem a10_spare_60 : At cX10_spare 60 (.iconst 0) 1 61 := ⟨by decide +kernel, rfl⟩
theorem a10_spare_61 : At cX10_spare 61 (.istore_n 3) 1 62 := ⟨by decide +kernel, rfl⟩
theorem a10_spare_62 : At cX10_spare 62 (.iload_n 3) 1 63 := ⟨by decide +kernel, rfl⟩
theorem a10_spare_63 : At cX10_spare 63 (.iload_n 2) 1 64 := ⟨by decide +kernel, rfl⟩
theorem a10_spare_64 : At cX10_spare 64 (.if_icmp .ge 47) 3 67 := ⟨by decide +kernel, rfl⟩
theorem a10_spare_67 : At cX10_spare 67 (.iload_n 1) 1 68 := ⟨by decide +kernel, rfl⟩
theorem a10_spare_68 : At cX10_spare 68 (.iconst (-1)) 1 69 := ⟨by decide +kernel, rfl⟩
theorem a10_spare_69 : At cX10_spare 69 (.if_icmp .eq 14) 3 72 := ⟨by decide +kernel, rfl⟩
theorem a10_spare_72 : At cX10_spare 72 (.iload_n 3) 1 73 := ⟨by decide +kernel, rfl⟩
theorem a10_spare_73 : At cX10_spare 73 (.invokestatic 229) 3 76 := ⟨by decide +kernel, rfl⟩
theorem a10_spare_76 : At cX10_spare 76 (.iload_n 1) 1 77 := ⟨by decide +kernel, rfl⟩
theorem a10_spare_77 : At cX10_spare 77 (.invokestatic 229) 3 80 := ⟨by decide +kernel, rfl⟩
theorem a10_spare_80 : At cX10_spare 80 (.if_icmp .ge 7) 3 83 := ⟨by decide +kernel, rfl⟩
theorem a10_spare_83 : At cX10_spare 83 (.iconst 1) 1 84 := ⟨by decide +kernel, rfl⟩
theorem a10_spare_84 : At cX10_spare 84 (.goto 4) 3 87 := ⟨by decide +kernel, rfl⟩
theorem a10_spare_87 : At cX10_spare 87 (.iconst 0) 1 88 := ⟨by decide +kernel, rfl⟩
theorem a10_spare_88 : At cX10_spare 88 (.istore 4) 2 90 := ⟨by decide +kernel, rfl⟩
theorem a10_spare_90 : At cX10_spare 90 (.iload 4) 2 92 := ⟨by decide +kernel, rfl⟩
theorem a10_spare_92 : At cX10_spare 92 (.ifCond .eq 13) 3 95 := ⟨by decide +kernel, rfl⟩
theorem a10_spare_95 : At cX10_spare 95 (.aload_n 0) 1 96 := ⟨by decide +kernel, rfl⟩
theorem a10_spare_96 : At cX10_spare 96 (.iload_n 3) 1 97 := ⟨by decide +kernel, rfl⟩
theorem a10_spare_97 : At cX10_spare 97 (.invokevirtual 234) 3 100 := ⟨by decide +kernel, rfl⟩
theorem a10_spare_100 : At cX10_spare 100 (.ifCond .eq 5) 3 103 := ⟨by decide +kernel, rfl⟩
theorem a10_spare_103 : At cX10_spare 103 (.iload_n 3) 1 104 := ⟨by decide +kernel, rfl⟩
theorem a10_spare_104 : At cX10_spare 104 (.istore_n 1) 1 105 := ⟨by decide +kernel, rfl⟩
theorem a10_spare_105 : At cX10_spare 105 (.iinc 3 2) 3 108 := ⟨by decide +kernel, rfl⟩
theorem a10_spare_108 : At cX10_spare 108 (.goto (-46)) 3 111 := ⟨by decide +kernel, rfl⟩
theorem a10_spare_111 : At cX10_spare 111 (.iload_n 1) 1 112 := ⟨by decide +kernel, rfl⟩
theorem a10_spare_112 : At cX10_spare 112 (.ireturn) 1 113 := ⟨by decide +kernel, rfl⟩
def l10_spare_2 (k0 : Nat) : Nat → Int32 → Mem → Option (Int32 × Mem)
  | 0, _, _ => none
  | n + 1, x1, σ =>
  if 12 ≤ x1 then
  (some (x1, σ))
  else
  (bnd (f9_mayBeHim 0 x1 σ) fun w1 =>
  bnd (if w1 = 0 then
  (some 1)
  else
  (bnd (f9_stronger 0 x1 σ) fun w5 =>
  some w5) : Option (Int32)) fun w3 =>
  bnd (f6_put 0 x1 w3 σ) fun w8 =>
  l10_spare_2 k0 n (x1 + 1) w8)
theorem lE10_spare_2 {V : Option AV} {S : Mem} (k0 : Nat) : ∀ (n : Nat) (x1 : Int32) (σ : Mem) {w : Int32 × Mem}, l10_spare_2 k0 n x1 σ = some w → (Go m10_spare 45 [some (.inr (.inr (10, k0))), some (.inl w.1), none, none, none] [] w.2 V S) → Go m10_spare 2 [some (.inr (.inr (10, k0))), some (.inl x1), none, none, none] [] σ V S
  | 0, x1, σ, w, h, K1 => by cases h
  | n + 1, x1, σ, w, h, K1 => by
    rw [l10_spare_2] at h
    refine g_iload_n a10_spare_2 rfl ?_
    refine g_bipush (v := 12) a10_spare_3 rfl ?_
    refine g_icmp_ge (tgt := 45) a10_spare_5 rfl (fun c10 => ?_) (fun c10 => ?_)
    · have h := (if_pos c10).symm.trans h
      have h := Option.some.inj h
      subst h
      exact g_weak K1 ⟨rfl, rfl, trivial⟩
    · have h := (if_neg c10).symm.trans h
      refine g_aload_n a10_spare_8 rfl ?_
      refine g_getf (v := .inr (.inr (6, 0))) a10_spare_9 fs10_37 rfl ?_
      refine g_iload_n a10_spare_12 rfl ?_
      refine g_aload_n a10_spare_13 rfl ?_
      refine g_getf (v := .inr (.inr (9, 0))) a10_spare_14 fs10_10 rfl ?_
      refine g_iload_n a10_spare_17 rfl ?_
      obtain ⟨w1, hw1, h⟩ := bnd_inv h
      refine g_V1s (v1 := .inl w1) (σ1 := σ) a10_spare_18 cv10_216 (E9_mayBeHim hw1) rfl (fun o2 => ?_)
      obtain ⟨w3, hw3, h⟩ := bnd_inv h
      have J4 : Go m10_spare 36 [some (.inr (.inr (10, k0))), some (.inl x1), none, none, none] [.inl w3, .inl x1, .inr (.inr (6, 0))] σ V S := by
        obtain ⟨w8, hw8, h⟩ := bnd_inv h
        refine g_V2n (σ1 := w8) a10_spare_36 cv10_225 (E6_put hw8) rfl (fun o9 => ?_)
        refine g_iinc (v := (x1 + 1)) (L' := [some (.inr (.inr (10, k0))), some (.inl (x1 + 1)), none, none, none]) a10_spare_39 rfl rfl (Nat.le_of_ble_eq_true rfl) rfl rfl ?_
        refine g_goto (tgt := 2) a10_spare_42 rfl ?_
        exact g_weak (lE10_spare_2 (V := V) (S := S)  k0 n _ _ h K1) ⟨rfl, rfl, trivial⟩
      clear h
      refine g_if_eq (tgt := 35) a10_spare_21 rfl (fun c7 => ?_) (fun c7 => ?_)
      · have hw3 := (if_pos c7).symm.trans hw3
        refine g_iconst (v := 1) a10_spare_35 rfl ?_
        have hw3 := Option.some.inj hw3
        subst hw3
        exact J4
      · have hw3 := (if_neg c7).symm.trans hw3
        refine g_aload_n a10_spare_24 rfl ?_
        refine g_getf (v := .inr (.inr (9, 0))) a10_spare_25 fs10_10 rfl ?_
        refine g_iload_n a10_spare_28 rfl ?_
        obtain ⟨w5, hw5, hw3⟩ := bnd_inv hw3
        refine g_V1s (v1 := .inl w5) (σ1 := σ) a10_spare_29 cv10_219 (E9_stronger hw5) rfl (fun o6 => ?_)
        refine g_goto (tgt := 36) a10_spare_32 rfl ?_
        have hw3 := Option.some.inj hw3
        subst hw3
        exact J4
def l10_spare_62 (k0 : Nat) (x2 : Int32) (σ : Mem) : Nat → Int32 → Int32 → Option (Int32 × Int32)
  | 0, _, _ => none
  | n + 1, x1, x3 =>
  if x2 ≤ x3 then
  (some (x1, x3))
  else
  (lt (if x1 = (-1) then
  (1)
  else
  (if (fJ6_bitCount x1) ≤ (fJ6_bitCount x3) then
  (0)
  else
  (1)) : Int32) fun w13 =>
  bnd (if w13 = 0 then
  (some x1)
  else
  (bnd (f10_isSparedBy k0 x3 σ) fun w22 =>
  if w22 = 0 then
  (some x1)
  else
  (some x3)) : Option (Int32)) fun w20 =>
  l10_spare_62 k0 x2 σ n w20 (x3 + 2))
theorem lE10_spare_62 {V : Option AV} {S : Mem} (k0 : Nat) (x2 : Int32) (σ : Mem) : ∀ (n : Nat) (x1 : Int32) (x3 : Int32) {w : Int32 × Int32}, l10_spare_62 k0 x2 σ n x1 x3 = some w → (Go m10_spare 111 [some (.inr (.inr (10, k0))), some (.inl w.1), some (.inl x2), some (.inl w.2), none] [] σ V S) → Go m10_spare 62 [some (.inr (.inr (10, k0))), some (.inl x1), some (.inl x2), some (.inl x3), none] [] σ V S
  | 0, x1, x3, w, h, K1 => by cases h
  | n + 1, x1, x3, w, h, K1 => by
    rw [l10_spare_62] at h
    refine g_iload_n a10_spare_62 rfl ?_
    refine g_iload_n a10_spare_63 rfl ?_
    refine g_icmp_ge (tgt := 111) a10_spare_64 rfl (fun c26 => ?_) (fun c26 => ?_)
    · have h := (if_pos c26).symm.trans h
      have h := Option.some.inj h
      subst h
      exact g_weak K1 ⟨rfl, rfl, rfl, rfl, trivial⟩
    · have h := (if_neg c26).symm.trans h
      refine g_iload_n a10_spare_67 rfl ?_
      refine g_iconst (v := (-1)) a10_spare_68 rfl ?_
      obtain ⟨w13, hw13, h⟩ := lt_inv h
      have b19 : w13 = 0 ∨ w13 = 1 := by rw [← hw13]; repeat (first | exact Or.inl rfl | exact Or.inr rfl | split)
      have J14 : Go m10_spare 88 [some (.inr (.inr (10, k0))), some (.inl x1), some (.inl x2), some (.inl x3), none] [.inl w13] σ V S := by
        refine g_istore (L' := [some (.inr (.inr (10, k0))), some (.inl x1), some (.inl x2), some (.inl x3), some (.inl w13)]) a10_spare_88 (Nat.le_of_ble_eq_true rfl) rfl rfl ?_
        refine g_iload a10_spare_90 rfl ?_
        obtain ⟨w20, hw20, h⟩ := bnd_inv h
        have J21 : Go m10_spare 105 [some (.inr (.inr (10, k0))), some (.inl w20), some (.inl x2), some (.inl x3), none] [] σ V S := by
          refine g_iinc (v := (x3 + 2)) (L' := [some (.inr (.inr (10, k0))), some (.inl w20), some (.inl x2), some (.inl (x3 + 2)), none]) a10_spare_105 rfl rfl (Nat.le_of_ble_eq_true rfl) rfl rfl ?_
          refine g_goto (tgt := 62) a10_spare_108 rfl ?_
          exact g_weak (lE10_spare_62 (V := V) (S := S)  k0 x2 σ n _ _ h K1) ⟨rfl, rfl, rfl, rfl, trivial⟩
        clear h
        refine g_if_eq (tgt := 105) a10_spare_92 rfl (fun c25 => ?_) (fun c25 => ?_)
        · have hw20 := (if_pos c25).symm.trans hw20
          have hw20 := Option.some.inj hw20
          subst hw20
          exact g_weak J21 ⟨rfl, rfl, rfl, rfl, trivial⟩
        · have hw20 := (if_neg c25).symm.trans hw20
          refine g_aload_n a10_spare_95 rfl ?_
          refine g_iload_n a10_spare_96 rfl ?_
          obtain ⟨w22, hw22, hw20⟩ := bnd_inv hw20
          refine g_V1s (v1 := .inl w22) (σ1 := σ) a10_spare_97 cv10_234 (E10_isSparedBy hw22) rfl (fun o23 => ?_)
          refine g_if_eq (tgt := 105) a10_spare_100 rfl (fun c24 => ?_) (fun c24 => ?_)
          · have hw20 := (if_pos c24).symm.trans hw20
            have hw20 := Option.some.inj hw20
            subst hw20
            exact g_weak J21 ⟨rfl, rfl, rfl, rfl, trivial⟩
          · have hw20 := (if_neg c24).symm.trans hw20
            refine g_iload_n a10_spare_103 rfl ?_
            refine g_istore_n (L' := [some (.inr (.inr (10, k0))), some (.inl x3), some (.inl x2), some (.inl x3), some (.inl w13)]) a10_spare_104 (Nat.le_of_ble_eq_true rfl) rfl rfl ?_
            have hw20 := Option.some.inj hw20
            subst hw20
            exact g_weak J21 ⟨rfl, rfl, rfl, rfl, trivial⟩
      clear h
      refine g_icmp_eq (tgt := 83) a10_spare_69 rfl (fun c18 => ?_) (fun c18 => ?_)
      · have hw13 := (if_pos c18).symm.trans hw13
        refine g_iconst (v := 1) a10_spare_83 rfl ?_
        refine g_goto (tgt := 88) a10_spare_84 rfl ?_
        subst hw13
        exact J14
      · have hw13 := (if_neg c18).symm.trans hw13
        refine g_iload_n a10_spare_72 rfl ?_
        refine g_S1s (v1 := .inl (fJ6_bitCount x3)) (σ1 := σ) a10_spare_73 cs10_229 (EJ6_bitCount _ _) rfl (fun o15 => ?_)
        refine g_iload_n a10_spare_76 rfl ?_
        refine g_S1s (v1 := .inl (fJ6_bitCount x1)) (σ1 := σ) a10_spare_77 cs10_229 (EJ6_bitCount _ _) rfl (fun o16 => ?_)
        refine g_icmp_ge (tgt := 87) a10_spare_80 rfl (fun c17 => ?_) (fun c17 => ?_)
        · have hw13 := (if_pos c17).symm.trans hw13
          refine g_iconst (v := 0) a10_spare_87 rfl ?_
          subst hw13
          exact J14
        · have hw13 := (if_neg c17).symm.trans hw13
          refine g_iconst (v := 1) a10_spare_83 rfl ?_
          refine g_goto (tgt := 88) a10_spare_84 rfl ?_
          subst hw13
          exact J14
def f10_spare (k0 : Nat) (σ : Mem) : Option (Int32 × Mem) :=
  bnd (l10_spare_2 k0 2000 0 σ) fun w11 =>
  bnd (l10_spare_62 k0 (1 <<< ((f7_size 1 w11.2) &&& 31)) w11.2 2000 (-1) 0) fun w27 =>
  some (w27.1, w11.2)
theorem E10_spare {k0 : Nat} {σ : Mem} {w : Int32 × Mem} (h : f10_spare k0 σ = some w) : Ev m10_spare [.inr (.inr (10, k0))] σ (some (.inl w.1) : Option AV) w.2 := by
  unfold f10_spare at h
  show Go m10_spare 0 [some (.inr (.inr (10, k0))), none, none, none, none] [] σ (some (.inl w.1) : Option AV) w.2
  refine g_iconst (v := 0) a10_spare_0 rfl ?_
  refine g_istore_n (L' := [some (.inr (.inr (10, k0))), some (.inl 0), none, none, none]) a10_spare_1 (Nat.le_of_ble_eq_true rfl) rfl rfl ?_
  obtain ⟨w11, hw11, h⟩ := bnd_inv h
  refine g_weak (lE10_spare_2 k0 2000 _ _ hw11 ?_) ⟨rfl, rfl, trivial⟩
  refine g_iconst (v := (-1)) a10_spare_45 rfl ?_
  refine g_istore_n (L' := [some (.inr (.inr (10, k0))), some (.inl (-1)), none, none, none]) a10_spare_46 (Nat.le_of_ble_eq_true rfl) rfl rfl ?_
  refine g_iconst (v := 1) a10_spare_47 rfl ?_
  refine g_aload_n a10_spare_48 rfl ?_
  refine g_getf (v := .inr (.inr (9, 0))) a10_spare_49 fs10_10 rfl ?_
  refine g_getf (v := .inr (.inr (7, 1))) a10_spare_52 fs10_76 rfl ?_
  refine g_V0s (v1 := .inl (f7_size 1 w11.2)) (σ1 := w11.2) a10_spare_55 cv10_80 (E7_size _ _) rfl (fun o12 => ?_)
  refine g_ishl a10_spare_58 ?_
  refine g_istore_n (L' := [some (.inr (.inr (10, k0))), some (.inl (-1)), some (.inl (1 <<< ((f7_size 1 w11.2) &&& 31))), none, none]) a10_spare_59 (Nat.le_of_ble_eq_true rfl) rfl rfl ?_
  refine g_iconst (v := 0) a10_spare_60 rfl ?_
  refine g_istore_n (L' := [some (.inr (.inr (10, k0))), some (.inl (-1)), some (.inl (1 <<< ((f7_size 1 w11.2) &&& 31))), some (.inl 0), none]) a10_spare_61 (Nat.le_of_ble_eq_true rfl) rfl rfl ?_
  obtain ⟨w27, hw27, h⟩ := bnd_inv h
  refine g_weak (lE10_spare_62 k0 (1 <<< ((f7_size 1 w11.2) &&& 31)) w11.2 2000 _ _ hw27 ?_) ⟨rfl, rfl, rfl, rfl, trivial⟩
  refine g_iload_n a10_spare_111 rfl ?_
  have h := Option.some.inj h
  subst h
  exact g_retE a10_spare_112 trivial rfl rfl
theorem a10_refuseBadTen_0 : At cX10_refuseBadTen 0 (.aload_n 0) 1 1 := ⟨by decide +kernel, rfl⟩
theorem a10_refuseBadTen_1 : At cX10_refuseBadTen 1 (.dup) 1 2 := ⟨by decide +kernel, rfl⟩
theorem a10_refuseBadTen_2 : At cX10_refuseBadTen 2 (.getfield 337) 3 5 := ⟨by decide +kernel, rfl⟩
theorem a10_refuseBadTen_5 : At cX10_refuseBadTen 5 (.iconst 1) 1 6 := ⟨by decide +kernel, rfl⟩
theorem a10_refuseBadTen_6 : At cX10_refuseBadTen 6 (.iadd) 1 7 := ⟨by decide +kernel, rfl⟩
theorem a10_refuseBadTen_7 : At cX10_refuseBadTen 7 (.putfield 337) 3 10 := ⟨by decide +kernel, rfl⟩
theorem a10_refuseBadTen_10 : At cX10_refuseBadTen 10 (.bipush (-10)) 2 12 := ⟨by decide +kernel, rfl⟩
theorem a10_refuseBadTen_12 : At cX10_refuseBadTen 12 (.ireturn) 1 13 := ⟨by decide +kernel, rfl⟩
def f10_refuseBadTen (k0 : Nat) (σ : Mem) : Int32 × Mem :=
  lt (sI σ 10 k0 13 ((σ.1 10 k0 13) + 1)) fun σ1 =>
  ((-10), σ1)
theorem E10_refuseBadTen (k0 : Nat) (σ : Mem) : Ev m10_refuseBadTen [.inr (.inr (10, k0))] σ (some (.inl ((f10_refuseBadTen k0 σ).1)) : Option AV) (f10_refuseBadTen k0 σ).2 := by
  obtain ⟨w, h⟩ : ∃ w, f10_refuseBadTen k0 σ = w := ⟨_, rfl⟩
  rw [h]
  unfold f10_refuseBadTen at h
  show Go m10_refuseBadTen 0 [some (.inr (.inr (10, k0)))] [] σ (some (.inl w.1) : Option AV) w.2
  refine g_aload_n a10_refuseBadTen_0 rfl ?_
  refine g_dup a10_refuseBadTen_1 (fun _ => rfl) ?_
  refine g_getf (v := .inl (σ.1 10 k0 13)) a10_refuseBadTen_2 fs10_337 rfl ?_
  refine g_iconst (v := 1) a10_refuseBadTen_5 rfl ?_
  refine g_iadd a10_refuseBadTen_6 ?_
  obtain ⟨σ1, eσ1, h⟩ := lt_inv h
  refine g_puti a10_refuseBadTen_7 fs10_337 ps10_13 (fun _ _ _ => rfl) ?_
  rw [eσ1]
  refine g_bipush (v := (-10)) a10_refuseBadTen_10 rfl ?_
  subst h
  exact g_retE a10_refuseBadTen_12 trivial rfl rfl
theorem a6_fill_0 : At cX6_fill 0 (.iconst 0) 1 1 := ⟨by decide +kernel, rfl⟩
theorem a6_fill_1 : At cX6_fill 1 (.istore_n 2) 1 2 := ⟨by decide +kernel, rfl⟩
theorem a6_fill_2 : At cX6_fill 2 (.iload_n 2) 1 3 := ⟨by decide +kernel, rfl⟩
theorem a6_fill_3 : At cX6_fill 3 (.aload_n 0) 1 4 := ⟨by decide +kernel, rfl⟩
theorem a6_fill_4 : At cX6_fill 4 (.getfield 13) 3 7 := ⟨by decide +kernel, rfl⟩
theorem a6_fill_7 : At cX6_fill 7 (.arraylength) 1 8 := ⟨by decide +kernel, rfl⟩
theorem a6_fill_8 : At cX6_fill 8 (.if_icmp .ge 16) 3 11 := ⟨by decide +kernel, rfl⟩
theorem a6_fill_11 : At cX6_fill 11 (.aload_n 0) 1 12 := ⟨by decide +kernel, rfl⟩
theorem a6_fill_12 : At cX6_fill 12 (.getfield 13) 3 15 := ⟨by decide +kernel, rfl⟩
theorem a6_fill_15 : At cX6_fill 15 (.iload_n 2) 1 16 := ⟨by decide +kernel, rfl⟩
theorem a6_fill_16 : At cX6_fill 16 (.iload_n 1) 1 17 := ⟨by decide +kernel, rfl⟩
theorem a6_fill_17 : At cX6_fill 17 (.iastore) 1 18 := ⟨by decide +kernel, rfl⟩
theorem a6_fill_18 : At cX6_fill 18 (.iinc 2 1) 3 21 := ⟨by decide +kernel, rfl⟩
theorem a6_fill_21 : At cX6_fill 21 (.goto (-19)) 3 24 := ⟨by decide +kernel, rfl⟩
theorem a6_fill_24 : At cX6_fill 24 (.return_) 1 25 := ⟨by decide +kernel, rfl⟩
def l6_fill_2 (k0 : Nat) (x1 : Int32) : Nat → Int32 → Mem → Option (Int32 × Mem)
  | 0, _, _ => none
  | n + 1, x2, σ =>
  if (Int32.ofNat (alen 21 k0)) ≤ x2 then
  (some (x2, σ))
  else
  (ck (inb x2 (alen 21 k0)) <|
  lt (sI σ 21 k0 (x2 : Int32).toNatClampNeg x1) fun σ2 =>
  l6_fill_2 k0 x1 n (x2 + 1) σ2)
theorem lE6_fill_2 {V : Option AV} {S : Mem} (k0 : Nat) (x1 : Int32) : ∀ (n : Nat) (x2 : Int32) (σ : Mem) {w : Int32 × Mem}, l6_fill_2 k0 x1 n x2 σ = some w → (Go m6_fill 24 [some (.inr (.inr (6, k0))), some (.inl x1), some (.inl w.1)] [] w.2 V S) → Go m6_fill 2 [some (.inr (.inr (6, k0))), some (.inl x1), some (.inl x2)] [] σ V S
  | 0, x2, σ, w, h, K1 => by cases h
  | n + 1, x2, σ, w, h, K1 => by
    rw [l6_fill_2] at h
    refine g_iload_n a6_fill_2 rfl ?_
    refine g_aload_n a6_fill_3 rfl ?_
    refine g_getf (v := .inr (.inr (21, k0))) a6_fill_4 fs6_13 rfl ?_
    refine g_alen (x := (Int32.ofNat (alen 21 k0))) a6_fill_7 (rI21 _) rfl ?_
    refine g_icmp_ge (tgt := 24) a6_fill_8 rfl (fun c3 => ?_) (fun c3 => ?_)
    · have h := (if_pos c3).symm.trans h
      have h := Option.some.inj h
      subst h
      exact g_weak K1 ⟨rfl, rfl, rfl, trivial⟩
    · have h := (if_neg c3).symm.trans h
      refine g_aload_n a6_fill_11 rfl ?_
      refine g_getf (v := .inr (.inr (21, k0))) a6_fill_12 fs6_13 rfl ?_
      refine g_iload_n a6_fill_15 rfl ?_
      refine g_iload_n a6_fill_16 rfl ?_
      obtain ⟨q1, h⟩ := ck_inv h
      obtain ⟨σ2, eσ2, h⟩ := lt_inv h
      refine g_iast (j := (x2 : Int32).toNatClampNeg) a6_fill_17 (rI21 _) (inb_ok q1) rfl ?_
      rw [eσ2]
      refine g_iinc (v := (x2 + 1)) (L' := [some (.inr (.inr (6, k0))), some (.inl x1), some (.inl (x2 + 1))]) a6_fill_18 rfl rfl (Nat.le_of_ble_eq_true rfl) rfl rfl ?_
      refine g_goto (tgt := 2) a6_fill_21 rfl ?_
      exact g_weak (lE6_fill_2 (V := V) (S := S)  k0 x1 n _ _ h K1) ⟨rfl, rfl, rfl, trivial⟩
def f6_fill (k0 : Nat) (x1 : Int32) (σ : Mem) : Option (Mem) :=
  bnd (l6_fill_2 k0 x1 2000 0 σ) fun w4 =>
  some w4.2
theorem E6_fill {k0 : Nat} {x1 : Int32} {σ : Mem} {w : Mem} (h : f6_fill k0 x1 σ = some w) : Ev m6_fill [.inr (.inr (6, k0)), .inl x1] σ none w := by
  unfold f6_fill at h
  show Go m6_fill 0 [some (.inr (.inr (6, k0))), some (.inl x1), none] [] σ none w
  refine g_iconst (v := 0) a6_fill_0 rfl ?_
  refine g_istore_n (L' := [some (.inr (.inr (6, k0))), some (.inl x1), some (.inl 0)]) a6_fill_1 (Nat.le_of_ble_eq_true rfl) rfl rfl ?_
  obtain ⟨w4, hw4, h⟩ := bnd_inv h
  refine g_weak (lE6_fill_2 k0 x1 2000 _ _ hw4 ?_) ⟨rfl, rfl, rfl, trivial⟩
  have h := Option.some.inj h
  subst h
  exact g_retE a6_fill_24 trivial rfl rfl
theorem a5_needBehind_0 : At cX5_needBehind 0 (.aload_n 0) 1 1 := ⟨by decide +kernel, rfl⟩
theorem a5_needBehind_1 : At cX5_needBehind 1 (.iload_n 2) 1 2 := ⟨by decide +kernel, rfl⟩
theorem a5_needBehind_2 : At cX5_needBehind 2 (.iload_n 1) 1 3 := ⟨by decide +kernel, rfl⟩
theorem a5_needBehind_3 : At cX5_needBehind 3 (.invokestatic 58) 3 6 := ⟨by decide +kernel, rfl⟩
theorem a5_needBehind_6 : At cX5_needBehind 6 (.aload_n 0) 1 7 := ⟨by decide +kernel, rfl⟩
theorem a5_needBehind_7 : At cX5_needBehind 7 (.getfield 37) 3 10 := ⟨by decide +kernel, rfl⟩
theorem a5_needBehind_10 : At cX5_needBehind 10 (.getfield 101) 3 13 := ⟨by decide +kernel, rfl⟩
theorem a5_needBehind_13 : At cX5_needBehind 13 (.invokevirtual 104) 3 16 := ⟨by decide +kernel, rfl⟩
theorem a5_needBehind_16 : At cX5_needBehind 16 (.ireturn) 1 17 := ⟨by decide +kernel, rfl⟩
def f5_needBehind (k0 : Nat) (x1 : Int32) (x2 : Int32) (σ : Mem) : Option (Int32) :=
  bnd (f9_needOf k0 x2 (fJ6_bitCount x1) (σ.1 4 k0 3) σ) fun w2 =>
  some w2
theorem E5_needBehind {k0 : Nat} {x1 : Int32} {x2 : Int32} {σ : Mem} {w : Int32} (h : f5_needBehind k0 x1 x2 σ = some w) : Ev m5_needBehind [.inr (.inr (9, k0)), .inl x1, .inl x2] σ (some (.inl w) : Option AV) σ := by
  unfold f5_needBehind at h
  show Go m5_needBehind 0 [some (.inr (.inr (9, k0))), some (.inl x1), some (.inl x2)] [] σ (some (.inl w) : Option AV) σ
  refine g_aload_n a5_needBehind_0 rfl ?_
  refine g_iload_n a5_needBehind_1 rfl ?_
  refine g_iload_n a5_needBehind_2 rfl ?_
  refine g_S1s (v1 := .inl (fJ6_bitCount x1)) (σ1 := σ) a5_needBehind_3 cs5_58 (EJ6_bitCount _ _) rfl (fun o1 => ?_)
  refine g_aload_n a5_needBehind_6 rfl ?_
  refine g_getf (v := .inr (.inr (4, k0))) a5_needBehind_7 fs5_37 rfl ?_
  refine g_getf (v := .inl (σ.1 4 k0 3)) a5_needBehind_10 fs5_101 rfl ?_
  obtain ⟨w2, hw2, h⟩ := bnd_inv h
  refine g_V3s (v1 := .inl w2) (σ1 := σ) a5_needBehind_13 cv5_104 (E9_needOf hw2) rfl (fun o3 => ?_)
  have h := Option.some.inj h
  subst h
  exact g_retE a5_needBehind_16 trivial rfl rfl
