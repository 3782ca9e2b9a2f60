/-! village, storm -/
theorem ok_village {σ : Mem} (h : Inv σ) : OKc (f10_village 0) (f11_village 0) σ := by
  obtain ⟨t, p, s, n, m, e, hv, hr⟩ := h.vr
  have e1 := begin_ok (v := 0) (σ := σ) (hv.1 0 (by decide)).2 (hv.1 0 (by decide)).1
  obtain ⟨τ, hτ⟩ : ∃ τ : Mem, τ = (fun c k j => bgnM 0 σ c k j, σ.2) := ⟨_, rfl⟩
  rw [← hτ] at e1
  have r1 : ∀ c k j, τ.1 c k j = bgnM 0 σ c k j := fun c k j => by rw [hτ]
  have e2 := begin11_ok (k0 := 0) (σ := τ) (by decide) (by decide)
  obtain ⟨τ2, hτ2⟩ : ∃ τ2 : Mem, τ2 = (fun c k j => bgnR 0 τ c k j, τ.2) := ⟨_, rfl⟩
  rw [← hτ2] at e2
  have r2 : ∀ c k j, τ2.1 c k j = if c = 22 ∧ k = 0 ∧ j < 110 then 0 else if c = 7 ∧ k = 0 ∧ j = 3 then nI 6 else if c = 20 ∧ k = 0 ∧ j < 12 then 0 else if c = 7 ∧ (0 < k ∧ k < 7) ∧ j = 3 then 0 else if c = 4 ∧ k = 0 ∧ j < 4 then 0 else σ.1 c k j := fun c k j => by
    rw [hτ2]
    show (if c = 22 ∧ k = 0 ∧ j < 110 then 0 else τ.1 c k j) = _
    rw [r1]
    unfold bgnM
    simp only [Nat.mul_zero, Nat.zero_add]
  have z2 : τ2.2 = σ.2 := by rw [hτ2, hτ]
  refine ⟨nI t, τ, τ2, ?_, ?_, Inv.step0 h ⟨0, 0, 0, 0, 0, 0, ⟨fun j hj => ?_, ⟨?_, ?_, ?_, ?_, ?_, ?_, ?_⟩, fun j hj => ?_, fun y hy => ?_, fun k hk => absurd hk (Nat.not_lt_zero k), fun k hk => absurd hk (Nat.not_lt_zero k), fun k hk => absurd hk (by omega), fun k hk => absurd hk (by omega), fun k hk => absurd hk (by omega), fun k hk => absurd hk (by omega)⟩, ⟨⟨?_, ?_, ?_, ?_, ?_, ?_⟩, ⟨by omega, by omega, by omega, by omega, by omega, by omega⟩, fun y hy => ⟨⟨0, by omega, ?_⟩, ⟨0, by omega, ?_⟩⟩, fun k hk => absurd hk (Nat.not_lt_zero k), fun k hk => absurd hk (Nat.not_lt_zero k), ⟨⟨0, by decide, ?_⟩, ⟨0, by decide, ?_⟩, ⟨0, by decide, ?_⟩, ⟨0, by decide, ?_⟩⟩, fun k hk => absurd hk (Nat.not_lt_zero k), RX.none _⟩⟩ (fun c k j ho => ?_) z2, ?_, ?_⟩
  · unfold f10_village
    rw [e1, bnd_s]
    show some (σ.1 7 1 3, τ) = _
    rw [hv.2.1.2.1]
  · unfold f11_village
    rw [e2, bnd_s]
    show some (τ.1 22 0 0, τ2) = _
    rw [r1, show bgnM 0 σ 22 0 0 = σ.1 22 0 0 from rfl, hr.1.1]
  · rw [r2, r2, if_neg (by omega), if_neg (by omega), if_neg (by omega), if_neg (by omega), if_neg (by omega), if_neg (by omega), if_neg (by omega), if_neg (by omega), if_neg (by omega), if_neg (by omega)]
    exact hv.1 j hj
  · rw [r2, if_neg (by omega), if_pos (by omega)]
  · rw [r2, if_neg (by omega), if_neg (by omega), if_neg (by omega), if_pos (by omega)]; rfl
  · rw [r2, if_neg (by omega), if_neg (by omega), if_neg (by omega), if_pos (by omega)]; rfl
  · rw [r2, if_neg (by omega), if_neg (by omega), if_neg (by omega), if_pos (by omega)]; rfl
  · rw [r2, if_neg (by omega), if_neg (by omega), if_neg (by omega), if_pos (by omega)]; rfl
  · rw [r2, if_neg (by omega), if_neg (by omega), if_neg (by omega), if_pos (by omega)]; rfl
  · rw [r2, if_neg (by omega), if_neg (by omega), if_neg (by omega), if_pos (by omega)]; rfl
  · rw [r2, r2, if_neg (by omega), if_neg (by omega), if_neg (by omega), if_neg (by omega), if_pos (by omega), if_pos (by omega)]
  · rw [r2, r2, r2, r2, if_neg (by omega), if_neg (by omega), if_pos (by omega), if_pos (by omega), if_neg (by omega), if_neg (by omega), if_pos (by omega), if_pos (by omega)]
    exact ⟨rfl, rfl⟩
  all_goals first
    | (rw [r2, if_pos (by omega)]; rfl)
    | skip
  · unfold outB at ho
    rw [r2]
    simp (disch := omega) only [if_neg]
  · funext k j
    rw [r1]; rfl
  · funext k j
    rw [r2, if_neg (by omega), if_neg (by omega), if_neg (by omega), if_neg (by omega), if_neg (by omega)]
theorem ok_storm {σ : Mem} (x1 x2 x3 : Int32) (h : Inv σ) : OKc (f10_storm 0 x1 x2 x3) (f11_storm 0 x1 x2 x3) σ := by
  obtain ⟨t, p, s, n, m, e, hv, hr⟩ := h.vr
  by_cases c1 : f10_within x1 0 (nI 5) = 0
  · refine ok_bad h ?_ ?_
    · unfold f10_storm f10_isStorm
      rw [show (5 : Int32) = nI 5 from n5, if_pos c1]; rfl
    · unfold f11_storm
      rw [in05, if_pos c1]; rfl
  obtain ⟨y, hy, rfl⟩ := wi_yes (by decide) c1
  by_cases c2 : f10_within x2 0 (nI 11) = 0
  · refine ok_bad h ?_ ?_
    · unfold f10_storm f10_isStorm f10_isCell
      rw [show (5 : Int32) = nI 5 from n5, if_neg c1, show (11 : Int32) = nI 11 by decide, if_pos c2]; rfl
    · unfold f11_storm f11_isCell
      rw [in05, if_neg c1, in011, if_pos c2]; rfl
  obtain ⟨c, hc, rfl⟩ := wi_yes (by decide) c2
  by_cases c3 : f10_within x3 0 (nI 9) = 0
  · refine ok_bad h ?_ ?_
    · unfold f10_storm f10_isStorm f10_isCell
      rw [show (5 : Int32) = nI 5 from n5, if_neg c1, show (11 : Int32) = nI 11 by decide, if_neg c2, show (9 : Int32) = nI 9 by decide, if_pos c3]; rfl
    · unfold f11_storm f11_isCell
      rw [in05, if_neg c1, in011, if_neg c2, in09, if_pos c3]; rfl
  obtain ⟨g, hg, rfl⟩ := wi_yes (by decide) c3
  obtain ⟨τ, hτ⟩ : ∃ τ : Mem, τ = sI (sI (sI σ 20 0 (y * 2 + 0) (nI c)) 20 0 (y * 2 + 1) (nI g)) 7 6 3 0 := ⟨_, rfl⟩
  obtain ⟨τ2, hτ2⟩ : ∃ τ2 : Mem, τ2 = sI (sI (sI τ 22 0 (10 + y) (nI c)) 22 0 (16 + y) (nI g)) 22 0 5 0 := ⟨_, rfl⟩
  have e1 : f9_tellStorm 0 (nI y) (nI c) (nI g) σ = some τ := by
    unfold f9_tellStorm f7_empty
    rw [show (f7_put (7 * 0) (nI y) 0 (nI c) σ) = _ from put_ok (j := 0) (N := 12) (w := 2) hv.2.1.1 (hv.1 0 (by decide)).2 rfl (by omega) (by omega) (by omega) (by decide), bnd_s,
      show (f7_put (7 * 0) (nI y) 1 (nI g) (sI σ 20 (7 * 0) (y * 2 + 0) (nI c))) = _ from put_ok (j := 1) (N := 12) (n := 6) (w := 2) (by rw [rdI, if_neg (by omega)]; exact hv.2.1.1) (by rw [rdI, if_neg (by omega)]; exact (hv.1 0 (by decide)).2) rfl (by omega) (by omega) (by omega) (by decide), bnd_s, lt_e, hτ]
    rfl
  have r2 : ∀ c' k j, τ2.1 c' k j = if c' = 22 ∧ k = 0 ∧ j = 5 then 0 else if c' = 22 ∧ k = 0 ∧ j = 16 + y then nI g else if c' = 22 ∧ k = 0 ∧ j = 10 + y then nI c else if c' = 7 ∧ k = 6 ∧ j = 3 then 0 else if c' = 20 ∧ k = 0 ∧ j = y * 2 + 1 then nI g else if c' = 20 ∧ k = 0 ∧ j = y * 2 + 0 then nI c else σ.1 c' k j := fun c' k j => by
    rw [hτ2, hτ]
    simp only [rdI]
  have z2 : τ2.2 = σ.2 := by rw [hτ2, hτ]; rfl
  have k1 : τ.1 24 = σ.1 24 := by
    rw [hτ]; rfl
  have k2 : τ2.1 24 = σ.1 24 := by
    rw [hτ2, hτ]; rfl
  obtain ⟨w1, ⟨s0, s1, s2, s3, s4, s5, s6⟩, w3, w4, w5, w6, w7, w8, w9, w10⟩ := hv
  obtain ⟨⟨a0, a1, a2, a3, a4, a5⟩, hb, q3, q4, q5, ⟨d1, d2, d3, d4⟩, q7⟩ := hr
  obtain ⟨b1, b2, b3, b4, b5, b6⟩ := id hb
  refine ⟨σ.1 20 0 (y * 2 + 1), τ, τ2, ?_, ?_, Inv.step0 h ⟨t, p, s, n, m, 0, ⟨fun j hj => ?_, ⟨?_, ?_, ?_, ?_, ?_, ?_, ?_⟩, fun j hj => ?_, fun y' hy' => ?_, fun k hk => ?_, fun k hk => ?_, fun k hk => ?_, fun k hk => ?_, fun k hk => ?_, fun k hk => absurd hk (by omega)⟩, ⟨⟨?_, ?_, ?_, ?_, ?_, ?_⟩, ⟨b1, b2, b3, b4, b5, by omega⟩, fun y' hy' => ?_, fun k hk => ?_, fun k hk => ?_, ⟨?_, ?_, ?_, ?_⟩, fun k hk => absurd hk (Nat.not_lt_zero k), q7.2.congr ⟨b3, b4, b5⟩ (fun j _ _ => by simp (disch := omega) only [r2, if_neg])⟩⟩ (fun c k j ho => ?_) z2, k1, k2⟩
  · unfold f10_storm f10_isStorm f10_isCell
    rw [show (5 : Int32) = nI 5 from n5, if_neg c1, show (11 : Int32) = nI 11 by decide, if_neg c2, show (9 : Int32) = nI 9 by decide, if_neg c3, show f7_at 0 (nI y) 1 σ = _ from at_ok (j := 1) (N := 12) (w := 2) s0 (w1 0 (by decide)).2 rfl (by omega) (by omega) (by omega) (by decide), bnd_s, e1, bnd_s]
  · unfold f11_storm f11_isCell
    rw [in05, if_neg c1, in011, if_neg c2, in09, if_neg c3, show (10 : Int32) = nI 10 by decide, show (16 : Int32) = nI 16 by decide, nI_add, nI_add, inb_nI (by omega) (by decide), inb_nI (by omega) (by decide), ck_t, ck_t, nI_clamp (by omega), nI_clamp (by omega), lt_e, ck_t, lt_e, lt_e, hτ]
    simp (disch := omega) only [rdI, if_neg]
    rw [hτ2, hτ, show y * 2 + 1 = 2 * y + 1 by omega, show σ.1 20 0 (2 * y + 1) = σ.1 22 0 (16 + y) from (w4 y (by omega)).2]
  · simp (disch := omega) only [r2, if_neg]; exact w1 j hj
  · simp (disch := omega) only [r2, if_neg]; exact s0
  · simp (disch := omega) only [r2, if_neg]; exact s1
  · simp (disch := omega) only [r2, if_neg]; exact s2
  · simp (disch := omega) only [r2, if_neg]; exact s3
  · simp (disch := omega) only [r2, if_neg]; exact s4
  · simp (disch := omega) only [r2, if_neg]; exact s5
  · simp (disch := omega) only [r2, if_neg, if_pos]; rfl
  · simp (disch := omega) only [r2, if_neg]; exact w3 j hj
  · by_cases q : y' = y
    · subst q
      simp (disch := omega) only [r2, if_neg, if_pos, true_and, if_true]
    · simp (disch := omega) only [r2, if_neg]; exact w4 y' hy'
  · simp (disch := omega) only [r2, if_neg]; exact w5 k hk
  · simp (disch := omega) only [r2, if_neg]; exact w6 k hk
  · simp (disch := omega) only [r2, if_neg]; exact w7 k hk
  · simp (disch := omega) only [r2, if_neg]; exact w8 k hk
  · simp (disch := omega) only [r2, if_neg]; exact w9 k hk
  · simp (disch := omega) only [r2, if_neg]; exact a0
  · simp (disch := omega) only [r2, if_neg]; exact a1
  · simp (disch := omega) only [r2, if_neg]; exact a2
  · simp (disch := omega) only [r2, if_neg]; exact a3
  · simp (disch := omega) only [r2, if_neg]; exact a4
  · simp (disch := omega) only [r2, if_neg, if_pos]; rfl
  · by_cases q : y' = y
    · subst q
      simp (disch := omega) only [r2, if_neg, if_pos]
      exact ⟨⟨c, hc, rfl⟩, ⟨g, hg, rfl⟩⟩
    · simp (disch := omega) only [r2, if_neg]; exact q3 y' hy'
  · simp (disch := omega) only [r2, if_neg]; exact q4 k hk
  · simp (disch := omega) only [r2, if_neg]; exact q5 k hk
  · simp (disch := omega) only [r2, if_neg]; exact d1
  · simp (disch := omega) only [r2, if_neg]; exact d2
  · simp (disch := omega) only [r2, if_neg]; exact d3
  · simp (disch := omega) only [r2, if_neg]; exact d4
  · unfold outB at ho
    rw [r2]
    simp (disch := omega) only [if_neg]
