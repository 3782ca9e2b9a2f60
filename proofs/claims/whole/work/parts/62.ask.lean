/-! of -/
theorem wi_thing {x : Int32} {t : Nat} (ht : t < 1000) (h : ¬ f10_within x 0 (nI t - 1) = 0) : ∃ k, k < t ∧ x = nI k := by
  rcases t with _ | t
  · exfalso
    unfold f10_within at h
    split at h
    · exact h rfl
    · rename_i h1
      obtain ⟨y, hy, rfl⟩ := nI_of h1
      rw [if_pos (by
        rw [Int32.lt_iff_toInt_lt, nI_toInt hy, show (nI 0 - 1).toInt = -1 by decide]
        omega)] at h
      exact h rfl
  · rw [nI_pred] at h
    obtain ⟨y, hy, rfl⟩ := wi_yes (by omega) h
    exact ⟨y, by omega, rfl⟩
theorem bit01 : ∀ u, u < 64 → ∀ k, k < 6 → (nI u >>> (nI k &&& 31)) &&& 1 = 0 ∨ (nI u >>> (nI k &&& 31)) &&& 1 = 1 := by decide +kernel
theorem in03 (x : Int32) : f11_in x.toInt64 0 3 = f10_within x 0 (nI 3) := in_within x 0 3
theorem in0t (x y : Int32) : f11_in x.toInt64 0 y.toInt64 = f10_within x 0 y := in_within x 0 y
theorem pow6 {t u : Nat} (ht : t ≤ 6) (hu : u < 2 ^ t) : u < 64 := Nat.lt_of_lt_of_le hu (show 2 ^ t ≤ 2 ^ 6 from Nat.pow_le_pow_right (by decide) ht)
theorem isT {σ : Mem} {t p s n m e : Nat} (hv : VR 0 σ (σ.1 22 0) t p s n m e) (x : Int32) : f10_isThing 0 x σ = f10_within x 0 (nI t - 1) := by
  unfold f10_isThing f7_size
  rw [show σ.1 7 1 3 = nI t from hv.2.1.2.1]
theorem isT11 {a : Mem} {t : Nat} (h : a.1 22 0 0 = nI t) (x : Int32) : f11_isThing 0 x a = f10_within x 0 (nI t - 1) := by
  unfold f11_isThing f11_many
  rw [in0t, h]
theorem ok_of {σ : Mem} (x1 x2 : Int32) (h : Inv σ) : OKc (f10_of 0 x1 x2) (f11_of 0 x1 x2) σ := by
  obtain ⟨t, p, s, n, m, e, hv, hr⟩ := h.vr
  have a0 := hr.1.1
  have b1 := hr.2.1.1
  by_cases c1 : f10_within x1 0 (nI t - 1) = 0
  · refine ok_bad h ?_ ?_
    · unfold f10_of
      rw [isT hv, if_pos c1]; rfl
    · unfold f11_of
      rw [isT11 (t := t) (by show (sI σ 10 0 13 _).1 22 0 0 = nI t; rw [rdI, if_neg (by omega)]; exact a0), if_pos c1]; rfl
  obtain ⟨k, hk, rfl⟩ := wi_thing (by omega) c1
  by_cases c2 : f10_within x2 0 (nI 3) = 0
  · refine ok_bad h ?_ ?_
    · unfold f10_of
      rw [isT hv, if_neg c1, n3, if_pos c2]; rfl
    · unfold f11_of
      rw [isT11 (t := t) (by show (sI σ 10 0 13 _).1 22 0 0 = nI t; rw [rdI, if_neg (by omega)]; exact a0), if_neg c1, in03, if_pos c2]; rfl
  obtain ⟨z, hz, rfl⟩ := wi_yes (by decide) c2
  obtain ⟨u, hu, hu6⟩ := hr.2.2.2.2.2.1.1
  have hup : σ.1 4 0 0 = nI u := (hv.2.2.1 0 (by decide)).trans hu6
  by_cases z3 : z = 3
  · subst z3
    refine ok_ask ((nI u >>> (nI k &&& 31)) &&& 1) h ?_ ?_
    · unfold f10_of f4_isUp
      rw [isT hv, if_neg c1, n3, if_neg c2, if_pos rfl, hup]
      rcases bit01 u (pow6 b1 hu) k (by omega) with q | q <;> rw [q] <;> rfl
    · unfold f11_of
      rw [isT11 a0, if_neg c1, in03, if_neg c2, n3, if_pos rfl, hu6]
  · have hat : f7_at 1 (nI k) (nI z) σ = some (σ.1 20 1 (k * 3 + z)) := at_ok (w := 3) (N := 18) hv.2.1.2.1 (hv.1 1 (by decide)).2 rfl hk (by omega) (by omega) (by omega)
    have hn : ¬ nI z = nI 3 := fun q => z3 ((nI_eq (by omega) (by decide)).mp q)
    obtain ⟨v1, v2, v3⟩ := hv.2.2.2.2.1 k hk
    refine ok_ask (σ.1 20 1 (k * 3 + z)) h ?_ ?_
    · unfold f10_of
      rw [isT hv, if_neg c1, n3, if_neg c2, if_neg hn, hat, bnd_s]
    · unfold f11_of
      rw [isT11 a0, if_neg c1, in03, if_neg c2, n3, if_neg hn, lt_e]
      rcases (show z = 0 ∨ z = 1 ∨ z = 2 by omega) with rfl | rfl | rfl
      · rw [if_pos (show nI 0 = 0 by decide), show (22 : Int32) = nI 22 by decide, nI_add, inb_nI (by omega) (by decide), ck_t, nI_clamp (by omega), ← v1, Nat.mul_comm 3 k]; rfl
      · rw [if_neg (show ¬ nI 1 = 0 by decide), if_pos (show nI 1 = 1 by decide), show (28 : Int32) = nI 28 by decide, nI_add, inb_nI (by omega) (by decide), ck_t, nI_clamp (by omega), ← v2, Nat.mul_comm 3 k]
      · rw [if_neg (show ¬ nI 2 = 0 by decide), if_neg (show ¬ nI 2 = 1 by decide), show (34 : Int32) = nI 34 by decide, nI_add, inb_nI (by omega) (by decide), ck_t, nI_clamp (by omega), ← v3, Nat.mul_comm 3 k]
