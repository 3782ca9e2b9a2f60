/-! body -/
theorem ok_body {σ : Mem} (x1 : Int32) (h : Inv σ) : OKc (f10_body 0 x1) (f11_body 0 x1) σ := by
  obtain ⟨t, p, s, n, m, e, hv, hr⟩ := h.vr
  by_cases c1 : f10_within x1 0 (nI 5) = 0
  · refine ok_bad h ?_ ?_
    · unfold f10_body f10_isKind
      rw [show (5 : Int32) = nI 5 from n5, if_pos c1]; rfl
    · unfold f11_body f11_isKind
      rw [in05, if_pos c1]; rfl
  obtain ⟨d, hd, rfl⟩ := wi_yes (by decide) c1
  obtain ⟨w1, ⟨s0, s1, s2, s3, s4, s5, s6⟩, w3, w4, w5, w6, w7, w8, w9, w10⟩ := hv
  obtain ⟨⟨a0, a1, a2, a3, a4, a5⟩, hb, q3, q4, q5, ⟨d1, d2, d3, d4⟩, q7⟩ := hr
  obtain ⟨b1, b2, b3, b4, b5, b6⟩ := id hb
  have hm : σ.1 7 2 0 = nI 6 := (w1 2 (by decide)).1
  have hw : σ.1 7 2 1 = nI 1 := (w1 2 (by decide)).2
  by_cases ct : p = 6
  · subst ct
    refine ok_full h ?_ ?_
    · unfold f10_body f10_isKind
      rw [show (5 : Int32) = nI 5 from n5, if_neg c1, if_neg]
      · rfl
      · unfold f7_isFull
        rw [show σ.1 7 2 3 = nI 6 from s2, hm]
        decide
    · unfold f11_body f11_isKind
      rw [in05, if_neg c1, if_pos]
      · rfl
      · show (sI σ 10 0 15 _).1 22 0 1 = 6
        rw [rdI, if_neg (by omega), a1]
        rfl
  have hp : p < 6 := by omega
  obtain ⟨τ, hτ⟩ : ∃ τ : Mem, τ = sI (sI (sI σ 7 2 3 (nI (p + 1))) 20 2 (p * 1 + 0) (nI d)) 7 6 3 0 := ⟨_, rfl⟩
  obtain ⟨τ2, hτ2⟩ : ∃ τ2 : Mem, τ2 = sI (sI (sI τ 22 0 (40 + p) (nI d)) 22 0 1 (nI (p + 1))) 22 0 5 0 := ⟨_, rfl⟩
  have e1 : f9_addPart 0 (nI d) σ = some (nI p, τ) := by
    unfold f9_addPart f7_empty f7_size
    rw [show f7_add (7 * 0 + 2) (nI d) 0 0 0 0 σ = _ from add_ok (n := p) (w := 1) (m := 6) s2 hw hm rfl hp (by decide) (by decide) (by decide), bnd_s, lt_e, lt_e, show σ.1 7 (7 * 0 + 2) 3 = nI p from s2, hτ]
    rfl
  have r2 : ∀ c' k j, τ2.1 c' k j = if c' = 22 ∧ k = 0 ∧ j = 5 then 0 else if c' = 22 ∧ k = 0 ∧ j = 1 then nI (p + 1) else if c' = 22 ∧ k = 0 ∧ j = 40 + p then nI d else if c' = 7 ∧ k = 6 ∧ j = 3 then 0 else if c' = 20 ∧ k = 2 ∧ j = p * 1 + 0 then nI d else if c' = 7 ∧ k = 2 ∧ j = 3 then nI (p + 1) else σ.1 c' k j := fun c' k j => by
    rw [hτ2, hτ]
    simp only [rdI]
  have z2 : τ2.2 = σ.2 := by rw [hτ2, hτ]; rfl
  have k1 : τ.1 24 = σ.1 24 := by
    rw [hτ]; rfl
  have k2 : τ2.1 24 = σ.1 24 := by
    rw [hτ2, hτ]; rfl
  have t1 : τ.1 22 0 1 = nI p := by rw [hτ, rdI, if_neg (by omega), rdI, if_neg (by omega), rdI, if_neg (by omega)]; exact a1
  have u1 : (sI τ 22 0 (40 + p) (nI d)).1 22 0 1 = nI p := by rw [rdI, if_neg (by omega)]; exact t1
  refine ⟨nI p, τ, τ2, ?_, ?_, Inv.step0 h ⟨t, p + 1, s, n, m, 0, ⟨fun j hj => ?_, ⟨?_, ?_, ?_, ?_, ?_, ?_, ?_⟩, fun j hj => ?_, fun y' hy' => ?_, fun k hk => ?_, fun k hk => ?_, fun k hk => ?_, fun k hk => ?_, fun k hk => ?_, fun k hk => absurd hk (by omega)⟩, ⟨⟨?_, ?_, ?_, ?_, ?_, ?_⟩, ⟨b1, by omega, b3, b4, b5, by omega⟩, fun y' hy' => ?_, fun k hk => ?_, fun k hk => ?_, ⟨?_, ?_, ?_, ?_⟩, fun k hk => absurd hk (Nat.not_lt_zero k), q7.2.congr ⟨b3, b4, b5⟩ (fun j _ _ => by simp (disch := omega) only [r2, if_neg])⟩⟩ (fun c k j ho => ?_) z2, k1, k2⟩
  · unfold f10_body f10_isKind
    rw [show (5 : Int32) = nI 5 from n5, if_neg c1, if_pos, e1, bnd_s]
    unfold f7_isFull
    rw [show σ.1 7 2 3 = nI p from s2, hm, if_pos (nI_lt hp (by decide))]
  · unfold f11_body f11_isKind
    rw [in05, if_neg c1, if_neg (by rw [t1]; intro q; exact ct ((nI_eq (by omega) (by decide)).mp q)), t1, show (40 : Int32) = nI 40 by decide, nI_add, inb_nI (by omega) (by decide), ck_t, nI_clamp (by omega), lt_e, lt_e, lt_e, u1, nI_s, rdI, if_neg (by omega), rdI, if_pos ⟨rfl, rfl, rfl⟩, nI_pred, hτ2]
  · simp (disch := omega) only [r2, if_neg]; exact w1 j hj
  · simp (disch := omega) only [r2, if_neg]; exact s0
  · simp (disch := omega) only [r2, if_neg]; exact s1
  · simp (disch := omega) only [r2, if_neg, if_pos, true_and, if_true]
  · simp (disch := omega) only [r2, if_neg]; exact s3
  · simp (disch := omega) only [r2, if_neg]; exact s4
  · simp (disch := omega) only [r2, if_neg]; exact s5
  · simp (disch := omega) only [r2, if_neg, if_pos, true_and, if_true]; rfl
  · simp (disch := omega) only [r2, if_neg]; exact w3 j hj
  · simp (disch := omega) only [r2, if_neg]; exact w4 y' hy'
  · simp (disch := omega) only [r2, if_neg]; exact w5 k hk
  · by_cases q : k = p
    · subst q
      rw [r2, if_neg (by omega), if_neg (by omega), if_neg (by omega), if_neg (by omega), if_pos (by omega), r2, if_neg (by omega), if_neg (by omega), if_pos (by omega)]
    · simp (disch := omega) only [r2, if_neg]; exact w6 k (by omega)
  · simp (disch := omega) only [r2, if_neg]; exact w7 k hk
  · simp (disch := omega) only [r2, if_neg]; exact w8 k hk
  · simp (disch := omega) only [r2, if_neg]; exact w9 k hk
  · simp (disch := omega) only [r2, if_neg]; exact a0
  · simp (disch := omega) only [r2, if_neg, if_pos, true_and, if_true]
  · simp (disch := omega) only [r2, if_neg]; exact a2
  · simp (disch := omega) only [r2, if_neg]; exact a3
  · simp (disch := omega) only [r2, if_neg]; exact a4
  · rw [r2, if_pos ⟨rfl, rfl, rfl⟩]; rfl
  · simp (disch := omega) only [r2, if_neg]; exact q3 y' hy'
  · simp (disch := omega) only [r2, if_neg]; exact q4 k hk
  · by_cases q : k = p
    · subst q
      exact ⟨d, hd, by rw [r2, if_neg (by omega), if_neg (by omega), if_pos (by omega)]⟩
    · simp (disch := omega) only [r2, if_neg]; exact q5 k (by omega)
  · simp (disch := omega) only [r2, if_neg]; exact d1
  · obtain ⟨w, hw1, hw2⟩ := d2
    exact ⟨w, Nat.lt_of_lt_of_le hw1 (Nat.pow_le_pow_right (by decide) (by omega)), by simp (disch := omega) only [r2, if_neg]; exact hw2⟩
  · simp (disch := omega) only [r2, if_neg]; exact d3
  · simp (disch := omega) only [r2, if_neg]; exact d4
  · unfold outB at ho
    rw [r2]
    simp (disch := omega) only [if_neg]
