/-! the class is told what the text gives -/
theorem q64 {A : Nat → Nat} {q : QT} (hA : AR A) (hq : QR A q) : q.1 < 64 := Nat.lt_of_lt_of_le hq.1 (Nat.pow_le_pow_right (by decide) (show A 0 ≤ 6 from hA.1.1))
theorem DR.mk {τ : Mem} {A : Nat → Nat} {q : QT} (hT : TC 1 τ) (hH : HV 1 τ A) (hM : Mo (τ.1 4 1) q) (h0 : τ.1 7 10 3 = 0) (h1 : τ.1 7 11 3 = 0) (h2 : τ.1 7 12 3 = 0) (h3 : τ.1 7 13 3 = 0) : DR τ (A, q) := ⟨hT, hH, hM, h0, h1, h2, h3⟩
theorem tell_ok {σ : Mem} {w : Nat} {vs : List Nat} {d : DT} (hd : DOK d) (hD : DR σ d) (hw : 5 ≤ w ∧ w ≤ 9) (hm : mayw w d.1 = true) (hv : ∀ k, k < (bnds w d.1).length → ((bnds w d.1).getD k (0, 0)).1 ≤ vs.getD k 0 ∧ vs.getD k 0 < ((bnds w d.1).getD k (0, 0)).2) (ht : ∀ k, k < (bnds w d.1).length → σ.1 21 2 k = nI (vs.getD k 0)) :
    ∃ τ, f8_tell 0 (nI w) 1 σ = some τ ∧ DR τ (eff w vs d) ∧ Fq σ τ ∧ τ.1 8 = σ.1 8 := by
  obtain ⟨hA, h1, hq, hy⟩ := hd
  obtain ⟨⟨a1, a2⟩, a3, a4, a5⟩ := id hA
  obtain ⟨hT, hH, hM, z10, z11, z12, z13⟩ := hD
  obtain ⟨⟨s1, s2⟩, ⟨s3, s4⟩, ⟨s5, s6⟩, s7, s8, s9⟩ := id hH
  have at0 : f6_at 2 0 σ = some (σ.1 21 2 0) := at_row (N := 3) (i := 0) rfl (by decide) (by decide)
  have at1 : f6_at 2 1 σ = some (σ.1 21 2 1) := at_row (N := 3) (i := 1) rfl (by decide) (by decide)
  have at2 : f6_at 2 2 σ = some (σ.1 21 2 2) := at_row (N := 3) (i := 2) rfl (by decide) (by decide)
  unfold eff
  unfold mayw at hm
  unfold bnds at hv ht
  unfold f8_tell
  by_cases w5 : w = 5
  · rw [if_pos w5] at hv hm ht ⊢
    rw [w5, if_pos (show nI 5 = 5 from rfl), at0, at1, at2, bnd_s, bnd_s, bnd_s, ht 0 (by decide), ht 1 (by decide), ht 2 (by decide)]
    have v0 : vs.getD 0 0 < 6 := (hv 0 (by decide)).2
    generalize vs.getD 0 0 = y at v0 ⊢
    generalize vs.getD 1 0 = c
    generalize vs.getD 2 0 = g
    obtain ⟨A', hA'⟩ : ∃ A', A' = updN (updN d.1 (10 + y) c) (16 + y) g := ⟨_, rfl⟩
    have e : ∀ j, ¬ j = 10 + y → ¬ j = 16 + y → A' j = d.1 j := fun j j1 j2 => by rw [hA', un_n j2, un_n j1]
    have e1 : A' (10 + y) = c := by rw [hA', un_n (by omega), un_s]
    have e2 : A' (16 + y) = g := by rw [hA', un_s]
    rw [← hA']
    obtain ⟨τ, hτ⟩ : ∃ τ : Mem, τ = sI (sI (sI σ 20 7 (y * 2 + 0) (nI c)) 20 7 (y * 2 + 1) (nI g)) 7 13 3 0 := ⟨_, rfl⟩
    have r : ∀ c' k j, τ.1 c' k j = if c' = 7 ∧ k = 13 ∧ j = 3 then 0 else if c' = 20 ∧ k = 7 ∧ j = y * 2 + 1 then nI g else if c' = 20 ∧ k = 7 ∧ j = y * 2 + 0 then nI c else σ.1 c' k j := fun c' k j => by
      rw [hτ]
      simp only [rdI]
    have e9 : f9_tellStorm 1 (nI y) (nI c) (nI g) σ = some τ := by
      unfold f9_tellStorm f7_empty
      rw [show (f7_put (7 * 1) (nI y) 0 (nI c) σ) = _ from put_ok (j := 0) (N := 12) (w := 2) s1 (hT 0 (by decide)).2 rfl (by omega) (by omega) (by omega) (by decide), bnd_s,
        show (f7_put (7 * 1) (nI y) 1 (nI g) (sI σ 20 (7 * 1) (y * 2 + 0) (nI c))) = _ from put_ok (j := 1) (N := 12) (n := 6) (w := 2) (by rw [rdI, if_neg (by omega)]; exact s1) (by rw [rdI, if_neg (by omega)]; exact (hT 0 (by decide)).2) rfl (by omega) (by omega) (by omega) (by decide), bnd_s, lt_e, hτ]
      rfl
    rw [e9, bnd_s]
    refine ⟨τ, rfl, DR.mk (hT.congr (fun k _ _ => ?_)) ⟨⟨?_, ?_⟩, ⟨?_, ?_⟩, ⟨?_, ?_⟩, fun y' hy' => ?_, fun k hk => ?_, fun k hk => ?_⟩ ?_ ?_ ?_ ?_ ?_, ⟨by rw [hτ]; rfl, fun c k j n1 n2 n3 n4 n5 => ?_⟩, ?_⟩
    · simp (disch := omega) only [r, if_neg]; exact ⟨trivial, trivial⟩
    · simp (disch := omega) only [r, if_neg]; exact s1
    · simp (disch := omega) only [r, if_neg]; exact s2
    · rw [e 0 (by omega) (by omega)]; simp (disch := omega) only [r, if_neg]; exact s3
    · simp (disch := omega) only [r, if_neg]; exact s4
    · rw [e 1 (by omega) (by omega)]; simp (disch := omega) only [r, if_neg]; exact s5
    · simp (disch := omega) only [r, if_neg]; exact s6
    · by_cases q : y' = y
      · subst q
        rw [e1, e2]
        refine ⟨?_, ?_⟩
        · rw [r, if_neg (by omega), if_neg (by omega), if_pos (by omega)]
        · rw [r, if_neg (by omega), if_pos (by omega)]
      · rw [e _ (by omega) (by omega), e _ (by omega) (by omega)]
        simp (disch := omega) only [r, if_neg]; exact s7 y' hy'
    · rw [e 0 (by omega) (by omega)] at hk
      rw [e _ (by omega) (by omega), e _ (by omega) (by omega), e _ (by omega) (by omega)]
      simp (disch := omega) only [r, if_neg]; exact s8 k hk
    · rw [e 1 (by omega) (by omega)] at hk
      rw [e _ (by omega) (by omega)]
      simp (disch := omega) only [r, if_neg]; exact s9 k hk
    · rw [show τ.1 4 1 = σ.1 4 1 by rw [hτ]; rfl]; exact hM
    · simp (disch := omega) only [r, if_neg]; exact z10
    · simp (disch := omega) only [r, if_neg]; exact z11
    · simp (disch := omega) only [r, if_neg]; exact z12
    · rw [r, if_pos ⟨rfl, rfl, rfl⟩]
    · simp (disch := omega) only [r, if_neg]
    · rw [hτ]; rfl
  rw [if_neg (neR w 5 w5)]
  rw [if_neg w5] at hv hm ht ⊢
  by_cases w6 : w = 6
  · rw [if_pos w6] at hv hm ht ⊢
    rw [w6, if_pos (show nI 6 = 6 from rfl), at0, at1, at2, bnd_s, bnd_s, bnd_s, ht 0 (by decide), ht 1 (by decide), ht 2 (by decide)]
    have hlt := blt_of hm
    generalize vs.getD 0 0 = x
    generalize vs.getD 1 0 = g
    generalize vs.getD 2 0 = c
    obtain ⟨A', hA'⟩ : ∃ A', A' = updN (updN (updN (updN d.1 (22 + d.1 0) x) (28 + d.1 0) g) (34 + d.1 0) c) 0 (d.1 0 + 1) := ⟨_, rfl⟩
    have e : ∀ j, ¬ j = 0 → ¬ j = 22 + d.1 0 → ¬ j = 28 + d.1 0 → ¬ j = 34 + d.1 0 → A' j = d.1 j := fun j j0 j1 j2 j3 => by rw [hA', un_n j0, un_n j3, un_n j2, un_n j1]
    have e0 : A' 0 = d.1 0 + 1 := by rw [hA', un_s]
    have x1 : A' (22 + d.1 0) = x := by rw [hA', un_n (by omega), un_n (by omega), un_n (by omega), un_s]
    have x2 : A' (28 + d.1 0) = g := by rw [hA', un_n (by omega), un_n (by omega), un_s]
    have x3 : A' (34 + d.1 0) = c := by rw [hA', un_n (by omega), un_s]
    rw [← hA']
    obtain ⟨τ, e9, t2, r, r0, r1, r2, r3⟩ := addThing_C (v := 1) (d := x) (g := g) (c := c) hT s3 hlt (q64 hA hq) hM.1
    rw [e9, bnd_s]
    refine ⟨τ, rfl, DR.mk (hT.congr (fun k _ _ => ?_)) ⟨⟨?_, ?_⟩, ⟨?_, ?_⟩, ⟨?_, ?_⟩, fun y' hy' => ?_, fun k hk => ?_, fun k hk => ?_⟩ ⟨?_, ?_, ?_, ?_⟩ ?_ ?_ ?_ ?_, ⟨t2, fun c k j n1 n2 n3 n4 n5 => ?_⟩, ?_⟩
    · exact ⟨by rw [r]; simp (disch := omega) only [if_neg], by rw [r]; simp (disch := omega) only [if_neg]⟩
    · rw [r]; simp (disch := omega) only [if_neg]; exact s1
    · rw [r]; simp (disch := omega) only [if_neg]; exact s2
    · rw [r, e0, if_neg (by omega), if_neg (by omega), if_neg (by omega), if_pos ⟨rfl, rfl, rfl⟩]
    · rw [r]; simp (disch := omega) only [if_neg]; exact s4
    · rw [e 1 (by omega) (by omega) (by omega) (by omega), r]; simp (disch := omega) only [if_neg]; exact s5
    · rw [r]; simp (disch := omega) only [if_neg]; exact s6
    · rw [e _ (by omega) (by omega) (by omega) (by omega), e _ (by omega) (by omega) (by omega) (by omega)]
      exact ⟨by rw [r]; simp (disch := omega) only [if_neg]; exact (s7 y' hy').1, by rw [r]; simp (disch := omega) only [if_neg]; exact (s7 y' hy').2⟩
    · rw [e0] at hk
      by_cases z : k = d.1 0
      · rw [z, x1, x2, x3, show 3 * d.1 0 = d.1 0 * 3 + 0 by omega, r1, show d.1 0 * 3 + 0 + 1 = d.1 0 * 3 + 1 by omega, r2, show d.1 0 * 3 + 0 + 2 = d.1 0 * 3 + 2 by omega, r3]
        exact ⟨rfl, rfl, rfl⟩
      · rw [e _ (by omega) (by omega) (by omega) (by omega), e _ (by omega) (by omega) (by omega) (by omega), e _ (by omega) (by omega) (by omega) (by omega), r0 _ (by omega), r0 _ (by omega), r0 _ (by omega)]
        exact s8 k (by omega)
    · rw [e 1 (by omega) (by omega) (by omega) (by omega)] at hk
      rw [e _ (by omega) (by omega) (by omega) (by omega), r]
      simp (disch := omega) only [if_neg]; exact s9 k hk
    · rw [r, if_neg (by omega), if_pos ⟨rfl, rfl, rfl⟩]
    · rw [r]; simp (disch := omega) only [if_neg]; exact hM.2.1
    · rw [r]; simp (disch := omega) only [if_neg]; exact hM.2.2.1
    · rw [r]; simp (disch := omega) only [if_neg]; exact hM.2.2.2
    · rw [r]; simp (disch := omega) only [if_neg]; exact z10
    · rw [r]; simp (disch := omega) only [if_neg]; exact z11
    · rw [r]; simp (disch := omega) only [if_neg]; exact z12
    · rw [r, if_pos ⟨rfl, rfl, rfl⟩]
    · rw [r]; simp (disch := omega) only [if_neg]
    · funext k j
      rw [r]; simp (disch := omega) only [if_neg]
  rw [if_neg (neR w 6 w6)]
  rw [if_neg w6] at hv hm ht ⊢
  by_cases w7 : w = 7
  · rw [if_pos w7] at hv hm ht ⊢
    rw [w7, if_pos (show nI 7 = 7 from rfl), at0, bnd_s, ht 0 (by decide)]
    have hlt := blt_of hm
    generalize vs.getD 0 0 = x
    obtain ⟨A', hA'⟩ : ∃ A', A' = updN (updN d.1 (40 + d.1 1) x) 1 (d.1 1 + 1) := ⟨_, rfl⟩
    have e : ∀ j, ¬ j = 1 → ¬ j = 40 + d.1 1 → A' j = d.1 j := fun j j0 j1 => by rw [hA', un_n j0, un_n j1]
    have e1 : A' 1 = d.1 1 + 1 := by rw [hA', un_s]
    have x1 : A' (40 + d.1 1) = x := by rw [hA', un_n (by omega), un_s]
    rw [← hA']
    obtain ⟨f, e8, f1, f2⟩ := add_row (q := 9) (x1 := nI x) (x2 := 0) (x3 := 0) (x4 := 0) (x5 := 0) s5 s6 (hT 2 (by decide)).1 (alen20 (v := 1) (j := 2) (by decide)) hlt (by decide) (by decide) (by decide)
    obtain ⟨τ, hτ⟩ : ∃ τ : Mem, τ = sI (sA (sI σ 7 9 3 (nI (d.1 1 + 1))) 20 9 f) 7 13 3 0 := ⟨_, rfl⟩
    have r : ∀ c' k j, τ.1 c' k j = if c' = 7 ∧ k = 13 ∧ j = 3 then 0 else if c' = 20 ∧ k = 9 then f j else if c' = 7 ∧ k = 9 ∧ j = 3 then nI (d.1 1 + 1) else σ.1 c' k j := fun c' k j => by
      rw [hτ, rdI, rdA, rdI]
    have e9 : f9_addPart 1 (nI x) σ = some (f7_size 9 σ, τ) := by
      unfold f9_addPart f7_empty
      rw [show f7_add (7 * 1 + 2) (nI x) 0 0 0 0 σ = _ from e8, bnd_s, lt_e, lt_e, hτ]
    rw [e9, bnd_s]
    refine ⟨τ, rfl, DR.mk (hT.congr (fun k _ _ => ?_)) ⟨⟨?_, ?_⟩, ⟨?_, ?_⟩, ⟨?_, ?_⟩, fun y' hy' => ?_, fun k hk => ?_, fun k hk => ?_⟩ ?_ ?_ ?_ ?_ ?_, ⟨by rw [hτ]; rfl, fun c k j n1 n2 n3 n4 n5 => ?_⟩, ?_⟩
    · simp (disch := omega) only [r, if_neg]; exact ⟨trivial, trivial⟩
    · simp (disch := omega) only [r, if_neg]; exact s1
    · simp (disch := omega) only [r, if_neg]; exact s2
    · rw [e 0 (by omega) (by omega)]; simp (disch := omega) only [r, if_neg]; exact s3
    · simp (disch := omega) only [r, if_neg]; exact s4
    · rw [e1, r, if_neg (by omega), if_neg (by omega), if_pos ⟨rfl, rfl, rfl⟩]
    · simp (disch := omega) only [r, if_neg]; exact s6
    · rw [e _ (by omega) (by omega), e _ (by omega) (by omega)]
      simp (disch := omega) only [r, if_neg]; exact s7 y' hy'
    · rw [e 0 (by omega) (by omega)] at hk
      rw [e _ (by omega) (by omega), e _ (by omega) (by omega), e _ (by omega) (by omega)]
      simp (disch := omega) only [r, if_neg]; exact s8 k hk
    · rw [e1] at hk
      rw [r, if_neg (by omega), if_pos ⟨rfl, rfl⟩]
      by_cases z : k = d.1 1
      · rw [z, x1]
        have := f2 0 (by decide)
        rw [show d.1 1 * 1 + 0 = d.1 1 by omega] at this
        exact this
      · rw [e _ (by omega) (by omega), f1 _ (by omega)]
        exact s9 k (by omega)
    · rw [show τ.1 4 1 = σ.1 4 1 by rw [hτ]; rfl]; exact hM
    · simp (disch := omega) only [r, if_neg]; exact z10
    · simp (disch := omega) only [r, if_neg]; exact z11
    · simp (disch := omega) only [r, if_neg]; exact z12
    · rw [r, if_pos ⟨rfl, rfl, rfl⟩]
    · simp (disch := omega) only [r, if_neg]
    · rw [hτ]; rfl
  rw [if_neg (neR w 7 w7)]
  rw [if_neg w7] at hv hm ht ⊢
  by_cases w8 : w = 8
  · rw [if_pos w8] at hv hm ht ⊢
    have v0 : vs.getD 0 0 < d.1 0 := (hv 0 Nat.one_pos).2
    rw [w8, if_pos (show nI 8 = 8 from rfl), at0, bnd_s, ht 0 Nat.one_pos]
    unfold f9_turn
    rw [hM.1, xorN _ (q64 hA hq) _ (by omega), lt_e, lt_e]
    refine ⟨_, rfl, ⟨hT, hH, ⟨?_, hM.2.1, hM.2.2.1, hM.2.2.2⟩, z10, z11, z12, z13⟩, ⟨rfl, fun c k j n1 n2 n3 n4 n5 => ?_⟩, rfl⟩
    · rw [rdI, if_pos ⟨rfl, rfl, rfl⟩]
    · rw [rdI, if_neg (by omega)]
  rw [if_neg (neR w 8 w8)]
  rw [if_neg w8] at hv hm ht ⊢
  obtain rfl : w = 9 := by omega
  have v0 : 1 ≤ vs.getD 0 0 ∧ vs.getD 0 0 < 100 := hv 0 (by decide)
  rw [if_pos (show nI 9 = 9 from rfl), at0, bnd_s, ht 0 (by decide)]
  obtain ⟨f', e1, e2⟩ := passTold_ok (k1 := 1) (N := vs.getD 0 0) (L := 999) hH hA (by omega) (by decide) hq (by omega) hM
  rw [sA_self] at e1
  rw [show f9_passTold 1 1 (nI (vs.getD 0 0)) 999 σ = _ from e1, bnd_s]
  refine ⟨_, rfl, ⟨hT, hH, ?_, z10, z11, z12, z13⟩, ⟨rfl, fun c k j n1 n2 n3 n4 n5 => ?_⟩, rfl⟩
  · rw [sA_at]; exact e2
  · rw [rdA, if_neg (by omega)]
