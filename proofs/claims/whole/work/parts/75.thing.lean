/-! thing -/
theorem addThing_q {v : Nat} {σ τ : Mem} {a b : Nat → Int32} {t p s n m e d g c u : Nat} (hv : VR v σ a t p s n m e) (hr : Ro a t p s n m e) (ht : t < 6) (hd : d ≤ 5) (hg1 : 1 ≤ g) (hg : g ≤ 30) (hc : c ≤ 11) (hu : u < 2 ^ t) (hu6 : a 6 = nI u)
    (h7 : ∀ k j, 7 * v ≤ k → k < 7 * v + 7 → ¬ (k = 7 * v + 1 ∧ j = 3) → ¬ (k = 7 * v + 6 ∧ j = 3) → τ.1 7 k j = σ.1 7 k j) (h71 : τ.1 7 (7 * v + 1) 3 = nI (t + 1)) (h76 : τ.1 7 (7 * v + 6) 3 = 0)
    (h20 : ∀ k j, 7 * v ≤ k → k < 7 * v + 7 → ¬ k = 7 * v + 1 → τ.1 20 k j = σ.1 20 k j) (h21 : ∀ j, j < t * 3 → τ.1 20 (7 * v + 1) j = σ.1 20 (7 * v + 1) j) (h2c : τ.1 20 (7 * v + 1) (t * 3 + 0) = nI d ∧ τ.1 20 (7 * v + 1) (t * 3 + 1) = nI g ∧ τ.1 20 (7 * v + 1) (t * 3 + 2) = nI c)
    (h4 : ∀ j, τ.1 4 v j = if j = 0 then nI (u ||| 2 ^ t) else σ.1 4 v j)
    (hb : b 0 = nI (t + 1) ∧ b 5 = 0 ∧ b 6 = nI (u ||| 2 ^ t) ∧ b (22 + t) = nI d ∧ b (28 + t) = nI g ∧ b (34 + t) = nI c) (hab : ∀ j, ¬ j = 0 → ¬ j = 5 → ¬ j = 6 → ¬ j = 22 + t → ¬ j = 28 + t → ¬ j = 34 + t → j < 110 → b j = a j) :
    VR v τ b (t + 1) p s n m 0 ∧ Ro b (t + 1) p s n m 0 := by
  obtain ⟨w1, ⟨s0, s1, s2, s3, s4, s5, s6⟩, w3, w4, w5, w6, w7, w8, w9, w10⟩ := hv
  obtain ⟨⟨a0, a1, a2, a3, a4, a5⟩, ⟨b1, b2, b3, b4, b5, b6⟩, q3, q4, q5, ⟨d1, d2, d3, d4⟩, q7, q8⟩ := hr
  obtain ⟨v0, v5, v6, vd, vg, vc⟩ := hb
  refine ⟨⟨fun j hj => ?_, ⟨?_, h71, ?_, ?_, ?_, ?_, h76⟩, fun j hj => ?_, fun y hy => ?_, fun k hk => ?_, fun k hk => ?_, fun i hi => ?_, fun i hi => ?_, fun i hi => ?_, fun i hi => absurd hi (by omega)⟩, ⟨⟨v0, ?_, ?_, ?_, ?_, v5⟩, ⟨by omega, b2, b3, b4, b5, by omega⟩, fun y hy => ?_, fun k hk => ?_, fun k hk => ?_, ⟨⟨_, or_lt (Nat.lt_trans hu (Nat.pow_lt_pow_right (by decide) (Nat.lt_succ_self t))) (Nat.lt_succ_self t), v6⟩, ?_, ?_, ?_⟩, fun i hi => absurd hi (Nat.not_lt_zero i), q8.congr ⟨b3, b4, b5⟩ (fun j _ _ => hab j (by omega) (by omega) (by omega) (by omega) (by omega) (by omega) (by omega))⟩⟩
  · rw [h7 _ _ (by omega) (by omega) (by omega) (by omega), h7 _ _ (by omega) (by omega) (by omega) (by omega)]; exact w1 j hj
  · rw [h7 _ _ (by omega) (by omega) (by omega) (by omega)]; exact s0
  · rw [h7 _ _ (by omega) (by omega) (by omega) (by omega)]; exact s2
  · rw [h7 _ _ (by omega) (by omega) (by omega) (by omega)]; exact s3
  · rw [h7 _ _ (by omega) (by omega) (by omega) (by omega)]; exact s4
  · rw [h7 _ _ (by omega) (by omega) (by omega) (by omega)]; exact s5
  · rw [h4]
    by_cases z : j = 0
    · rw [if_pos z, z]; exact v6.symm
    · rw [if_neg z, hab _ (by omega) (by omega) (by omega) (by omega) (by omega) (by omega) (by omega)]; exact w3 j hj
  · rw [h20 _ _ (by omega) (by omega) (by omega), h20 _ _ (by omega) (by omega) (by omega), hab _ (by omega) (by omega) (by omega) (by omega) (by omega) (by omega) (by omega), hab _ (by omega) (by omega) (by omega) (by omega) (by omega) (by omega) (by omega)]; exact w4 y hy
  · rcases (show k < t ∨ k = t by omega) with q | q
    · rw [h21 _ (by omega), h21 _ (by omega), h21 _ (by omega), hab _ (by omega) (by omega) (by omega) (by omega) (by omega) (by omega) (by omega), hab _ (by omega) (by omega) (by omega) (by omega) (by omega) (by omega) (by omega), hab _ (by omega) (by omega) (by omega) (by omega) (by omega) (by omega) (by omega)]; exact w5 k q
    · rw [q, vd, vg, vc, show 3 * t = t * 3 + 0 by omega]; exact h2c
  · rw [h20 _ _ (by omega) (by omega) (by omega), hab _ (by omega) (by omega) (by omega) (by omega) (by omega) (by omega) (by omega)]; exact w6 k hk
  · rw [h20 _ _ (by omega) (by omega) (by omega), hab _ (by omega) (by omega) (by omega) (by omega) (by omega) (by omega) (by omega)]; exact w7 i hi
  · rw [h20 _ _ (by omega) (by omega) (by omega), hab _ (by omega) (by omega) (by omega) (by omega) (by omega) (by omega) (by omega)]; exact w8 i hi
  · rw [h20 _ _ (by omega) (by omega) (by omega), hab _ (by omega) (by omega) (by omega) (by omega) (by omega) (by omega) (by omega)]; exact w9 i hi
  · rw [hab _ (by omega) (by omega) (by omega) (by omega) (by omega) (by omega) (by omega)]; exact a1
  · rw [hab _ (by omega) (by omega) (by omega) (by omega) (by omega) (by omega) (by omega)]; exact a2
  · rw [hab _ (by omega) (by omega) (by omega) (by omega) (by omega) (by omega) (by omega)]; exact a3
  · rw [hab _ (by omega) (by omega) (by omega) (by omega) (by omega) (by omega) (by omega)]; exact a4
  · rw [hab _ (by omega) (by omega) (by omega) (by omega) (by omega) (by omega) (by omega), hab _ (by omega) (by omega) (by omega) (by omega) (by omega) (by omega) (by omega)]; exact q3 y hy
  · rcases (show k < t ∨ k = t by omega) with q | q
    · rw [hab _ (by omega) (by omega) (by omega) (by omega) (by omega) (by omega) (by omega), hab _ (by omega) (by omega) (by omega) (by omega) (by omega) (by omega) (by omega), hab _ (by omega) (by omega) (by omega) (by omega) (by omega) (by omega) (by omega)]; exact q4 k q
    · rw [q, vd, vg, vc]
      exact ⟨⟨d, hd, rfl⟩, ⟨g, hg1, hg, rfl⟩, ⟨c, hc, rfl⟩⟩
  · rw [hab _ (by omega) (by omega) (by omega) (by omega) (by omega) (by omega) (by omega)]; exact q5 k hk
  · rw [hab _ (by omega) (by omega) (by omega) (by omega) (by omega) (by omega) (by omega)]; exact d2
  · rw [hab _ (by omega) (by omega) (by omega) (by omega) (by omega) (by omega) (by omega)]; exact d3
  · rw [hab _ (by omega) (by omega) (by omega) (by omega) (by omega) (by omega) (by omega)]; exact d4
/-- of the class -/
theorem addThing_C {v : Nat} {σ : Mem} {t d g c u : Nat} (hT : TC v σ) (s1 : σ.1 7 (7 * v + 1) 3 = nI t) (ht : t < 6) (hu : u < 64) (hu6 : σ.1 4 v 0 = nI u) :
    ∃ τ, f9_addThing v (nI d) (nI g) (nI c) σ = some (nI t, τ) ∧ τ.2 = σ.2 ∧ (∀ c' k j, τ.1 c' k j = if c' = 7 ∧ k = 7 * v + 6 ∧ j = 3 then 0 else if c' = 4 ∧ k = v ∧ j = 0 then nI (u ||| 2 ^ t) else if c' = 20 ∧ k = 7 * v + 1 then τ.1 20 (7 * v + 1) j else if c' = 7 ∧ k = 7 * v + 1 ∧ j = 3 then nI (t + 1) else σ.1 c' k j) ∧
      (∀ j, j < t * 3 → τ.1 20 (7 * v + 1) j = σ.1 20 (7 * v + 1) j) ∧ τ.1 20 (7 * v + 1) (t * 3 + 0) = nI d ∧ τ.1 20 (7 * v + 1) (t * 3 + 1) = nI g ∧ τ.1 20 (7 * v + 1) (t * 3 + 2) = nI c := by
  obtain ⟨f, e, f1, f2⟩ := add_row (x1 := nI d) (x2 := nI g) (x3 := nI c) (x4 := 0) (x5 := 0) s1 (hT 1 (by decide)).2 (hT 1 (by decide)).1 (alen20 (j := 1) (by decide)) ht (by decide) (by decide) (by decide)
  obtain ⟨τ, hτ⟩ : ∃ τ : Mem, τ = sI (sI (sA (sI σ 7 (7 * v + 1) 3 (nI (t + 1))) 20 (7 * v + 1) f) 4 v 0 (nI (u ||| 2 ^ t))) 7 (7 * v + 6) 3 0 := ⟨_, rfl⟩
  have t20 : ∀ j, τ.1 20 (7 * v + 1) j = f j := fun j => by rw [hτ, rdI, if_neg (by omega), rdI, if_neg (by omega), sA_at]
  refine ⟨τ, ?_, by rw [hτ]; rfl, fun c' k j => ?_, fun j hj => by rw [t20]; exact f1 j hj, by rw [t20]; exact f2 0 (by decide), by rw [t20]; exact f2 1 (by decide), by rw [t20]; exact f2 2 (by decide)⟩
  · unfold f9_addThing f7_empty f7_size
    rw [e, bnd_s, s1, show (sA (sI σ 7 (7 * v + 1) 3 (nI (t + 1))) 20 (7 * v + 1) f).1 4 v 0 = nI u from hu6, orN u hu t ht, lt_e, lt_e, lt_e, hτ]
  · by_cases z : c' = 20 ∧ k = 7 * v + 1
    · rw [if_pos z, if_neg (by omega), if_neg (by omega), z.1, z.2]
    · rw [if_neg z, hτ, rdI, rdI, rdA, if_neg z, rdI]
theorem layThing_ok {k0 : Nat} {σ : Mem} {t d g c u : Nat} (kr : Kr k0) (a0 : σ.1 22 k0 0 = nI t) (ht : t < 6) (hu : u < 64) (hu6 : σ.1 22 k0 6 = nI u) :
    f11_layThing k0 (nI d) (nI g) (nI c) σ = some (sA σ 22 k0 (upd (upd (upd (upd (upd (σ.1 22 k0) (22 + t) (nI d)) (28 + t) (nI g)) (34 + t) (nI c)) 6 (nI (u ||| 2 ^ t))) 0 (nI (t + 1)))) := by
  have k0' : inb 0 (alen 22 k0) = true := kr.inb (n := 0) (by decide)
  have k6 : inb 6 (alen 22 k0) = true := kr.inb (n := 6) (by decide)
  unfold f11_layThing
  rw [kr.ne, k0', k6, a0, show (22 : Int32) = nI 22 from rfl, show (28 : Int32) = nI 28 from rfl, show (34 : Int32) = nI 34 from rfl, nI_add, nI_add, nI_add, kr.inb (by omega), kr.inb (by omega), kr.inb (by omega), nI_clamp (by omega), nI_clamp (by omega), nI_clamp (by omega)]
  simp only [ck_t, lt_e]
  rw [show ∀ j x, sI σ 22 k0 j x = sA σ 22 k0 (upd (σ.1 22 k0) j x) from fun _ _ => rfl, sI_sA, sI_sA, sA_at, up_n (by omega), up_n (by omega), up_n (by omega), hu6, orN u hu t ht, sI_sA, sA_at, up_n (by omega), up_n (by omega), up_n (by omega), up_n (by omega), a0, nI_1, sI_sA]
theorem ok_thing {σ : Mem} (x1 x2 x3 : Int32) (h : Inv σ) : OKc (f10_thing 0 x1 x2 x3) (f11_thing 0 x1 x2 x3) σ := by
  obtain ⟨t, p, s, n, m, e, hv, hr⟩ := h.vr
  have hi10 : ∀ x, f10_isHeight x = f10_within x (nI 1) (nI 30) := fun x => rfl
  have hk10 : ∀ x, f10_isKind x = f10_within x 0 (nI 5) := fun x => rfl
  have hk11 : ∀ x, f11_isKind x = f10_within x 0 (nI 5) := fun x => in05 x
  have a0 : σ.1 22 0 0 = nI t := hr.1.1
  have s1 : σ.1 7 1 3 = nI t := hv.2.1.2.1
  have hm : σ.1 7 1 0 = nI 6 := (hv.1 1 (by decide)).1
  have b1 := hr.2.1.1
  by_cases c1 : f10_within x1 0 (nI 5) = 0
  · refine ok_bad h ?_ ?_
    · unfold f10_thing
      rw [hk10, if_pos c1]; rfl
    · unfold f11_thing
      rw [hk11, if_pos c1]; rfl
  obtain ⟨d, hd, rfl⟩ := wi_yes (by decide) c1
  by_cases c2 : f10_within x2 (nI 1) (nI 30) = 0
  · refine ok_bad h ?_ ?_
    · unfold f10_thing
      rw [hk10, if_neg c1, hi10, if_pos c2]; rfl
    · unfold f11_thing
      rw [hk11, if_neg c1, in130, if_pos c2]; rfl
  obtain ⟨g, hg1, hg, rfl⟩ := wi_yes1 (by decide) c2
  by_cases c3 : f10_within x3 0 (nI 11) = 0
  · refine ok_bad h ?_ ?_
    · unfold f10_thing
      rw [hk10, if_neg c1, hi10, if_neg c2, isC10, if_pos c3]; rfl
    · unfold f11_thing
      rw [hk11, if_neg c1, in130, if_neg c2, isC11, if_pos c3]; rfl
  obtain ⟨c, hc, rfl⟩ := wi_yes (by decide) c3
  by_cases ct : t = 6
  · refine ok_full h ?_ ?_
    · unfold f10_thing f7_isFull
      rw [hk10, if_neg c1, hi10, if_neg c2, isC10, if_neg c3, s1, hm, ct, if_neg (by decide)]; rfl
    · unfold f11_thing f11_many
      rw [hk11, if_neg c1, in130, if_neg c2, isC11, if_neg c3, full0, a0, ct, if_pos (by rfl)]; rfl
  have ht : t < 6 := by omega
  obtain ⟨u, hu, hu6⟩ := hr.2.2.2.2.2.1.1
  have u6 : u < 64 := pow64 b1 hu
  obtain ⟨τ, e1, z1, r1, q1, q2, q3, q4⟩ := addThing_C (v := 0) (d := d) (g := g) (c := c) hv.1 s1 ht u6 ((hv.2.2.1 0 (by decide)).trans hu6)
  have t0 : τ.1 22 0 = σ.1 22 0 := funext fun j => by rw [r1, if_neg (by omega), if_neg (by omega), if_neg (by omega), if_neg (by omega)]
  obtain ⟨b, hb⟩ : ∃ b : Nat → Int32, b = upd (upd (upd (upd (upd (upd (σ.1 22 0) (22 + t) (nI d)) (28 + t) (nI g)) (34 + t) (nI c)) 6 (nI (u ||| 2 ^ t))) 0 (nI (t + 1))) 5 0 := ⟨_, rfl⟩
  refine ok_now (r := nI t) (τ1 := τ) (τ2 := sA τ 22 0 b) h ?_ ⟨z1, fun c' k j ho => by rw [r1, if_neg (by unfold outB at ho; omega), if_neg (by unfold outB at ho; omega), if_neg (by unfold outB at ho; omega), if_neg (by unfold outB at ho; omega)]⟩ ?_ (Nw.row (Or.inr (Or.inr ⟨rfl, rfl⟩))) ?_
  · unfold f10_thing f7_isFull
    rw [hk10, if_neg c1, hi10, if_neg c2, isC10, if_neg c3, s1, hm, if_pos (nI_lt ht (by decide)), if_pos rfl, e1, bnd_s]
  · unfold f11_thing f11_many
    rw [hk11, if_neg c1, in130, if_neg c2, isC11, if_neg c3, t0, a0, if_neg (neR t 6 ct), layThing_ok (u := u) Kr0 (by rw [t0]; exact a0) ht u6 (by rw [t0]; exact hu6), bnd_s, lt_e, sI_sA, t0, sA_at, up_n (by omega), up_s, nI_pred, hb]
  · rw [sA_at]
    refine ⟨t + 1, p, s, n, m, 0, addThing_q hv hr ht hd hg1 hg hc hu hu6 (fun k j _ _ n1 n2 => ?_) ?_ ?_ (fun k j _ _ n1 => ?_) q1 ⟨q2, q3, q4⟩ (fun j => ?_) ⟨?_, ?_, ?_, ?_, ?_, ?_⟩ (fun j n1 n2 n3 n4 n5 n6 _ => ?_)⟩
    · show τ.1 7 k j = _
      rw [r1, if_neg (by omega), if_neg (by omega), if_neg (by omega), if_neg (by omega)]
    · show τ.1 7 (7 * 0 + 1) 3 = _
      rw [r1, if_neg (by omega), if_neg (by omega), if_neg (by omega), if_pos ⟨rfl, rfl, rfl⟩]
    · show τ.1 7 (7 * 0 + 6) 3 = _
      rw [r1, if_pos ⟨rfl, rfl, rfl⟩]
    · show τ.1 20 k j = _
      rw [r1, if_neg (by omega), if_neg (by omega), if_neg (by omega), if_neg (by omega)]
    · show τ.1 4 0 j = _
      rw [r1, if_neg (by omega)]
      by_cases z : j = 0
      · rw [if_pos ⟨rfl, rfl, z⟩, if_pos z]
      · rw [if_neg (fun q => z q.2.2), if_neg z, if_neg (by omega), if_neg (by omega)]
    · rw [hb, up_n (by omega), up_s]
    · rw [hb, up_s]
    · rw [hb, up_n (by omega), up_n (by omega), up_s]
    · rw [hb, up_n (by omega), up_n (by omega), up_n (by omega), up_n (by omega), up_n (by omega), up_s]
    · rw [hb, up_n (by omega), up_n (by omega), up_n (by omega), up_n (by omega), up_s]
    · rw [hb, up_n (by omega), up_n (by omega), up_n (by omega), up_s]
    · rw [hb, up_n n2, up_n n1, up_n n3, up_n n6, up_n n5, up_n n4]
