/-! read answers alike -/
def rowD (d : DT) : Nat → Int32 := fun j => if j = 6 then nI d.2.1 else if j = 7 then nI d.2.2.1 else if j = 8 then nI d.2.2.2.1 else if j = 9 then nI d.2.2.2.2 else nI (d.1 j)
theorem rowD_n {d : DT} {j : Nat} (h : ¬ (6 ≤ j ∧ j ≤ 9)) : rowD d j = nI (d.1 j) := by
  unfold rowD
  rw [if_neg (by omega), if_neg (by omega), if_neg (by omega), if_neg (by omega)]
theorem rowD_RV (d : DT) : RV (rowD d) d.1 := ⟨⟨rowD_n (by omega), rowD_n (by omega)⟩, fun y hy => ⟨rowD_n (by omega), rowD_n (by omega)⟩, fun k hk => ⟨rowD_n (by omega), rowD_n (by omega), rowD_n (by omega)⟩, fun k hk => rowD_n (by omega)⟩
theorem rowD_Mr (d : DT) : Mr (rowD d) d.2 := ⟨rfl, rfl, rfl, rfl⟩
theorem VR_of {v : Nat} {σ : Mem} {a : Nat → Int32} {A : Nat → Nat} {q : QT} (hT : TC v σ) (hH : HV v σ A) (hM : Mo (σ.1 4 v) q) (z3 : σ.1 7 (7 * v + 3) 3 = 0) (z4 : σ.1 7 (7 * v + 4) 3 = 0) (z5 : σ.1 7 (7 * v + 5) 3 = 0) (z6 : σ.1 7 (7 * v + 6) 3 = 0) (hR : RV a A) (hr : Mr a q) : VR v σ a (A 0) (A 1) 0 0 0 0 := by
  obtain ⟨⟨s1, s2⟩, ⟨s3, s4⟩, ⟨s5, s6⟩, s7, s8, s9⟩ := hH
  obtain ⟨m1, m2, m3, m4⟩ := hM
  obtain ⟨n1, n2, n3, n4⟩ := hr
  obtain ⟨r1, r2, r3, r4⟩ := hR
  refine ⟨hT, ⟨s1, s3, s5, z3, z4, z5, z6⟩, fun j hj => ?_, fun y hy => ⟨(s7 y hy).1.trans (r2 y hy).1.symm, (s7 y hy).2.trans (r2 y hy).2.symm⟩, fun k hk => ⟨(s8 k hk).1.trans (r3 k hk).1.symm, (s8 k hk).2.1.trans (r3 k hk).2.1.symm, (s8 k hk).2.2.trans (r3 k hk).2.2.symm⟩, fun k hk => (s9 k hk).trans (r4 k hk).symm, fun i hi => absurd hi (by omega), fun i hi => absurd hi (by omega), fun i hi => absurd hi (by omega), fun i hi => absurd hi (by omega)⟩
  rcases (show j = 0 ∨ j = 1 ∨ j = 2 ∨ j = 3 by omega) with rfl | rfl | rfl | rfl
  · exact m1.trans n1.symm
  · exact m2.trans n2.symm
  · exact m3.trans n3.symm
  · exact m4.trans n4.symm
theorem HV_of {v : Nat} {σ : Mem} {a : Nat → Int32} {A : Nat → Nat} {q : QT} (h : VR v σ a (A 0) (A 1) 0 0 0 0) (hR : RV a A) (hr : Mr a q) : HV v σ A ∧ Mo (σ.1 4 v) q := by
  obtain ⟨hT, ⟨s0, s1, s2, s3, s4, s5, s6⟩, c3, c4, c5, c6, -⟩ := h
  obtain ⟨n1, n2, n3, n4⟩ := hr
  obtain ⟨r1, r2, r3, r4⟩ := hR
  exact ⟨⟨⟨s0, (hT 0 (by decide)).2⟩, ⟨s1, (hT 1 (by decide)).2⟩, ⟨s2, (hT 2 (by decide)).2⟩, fun y hy => ⟨(c4 y hy).1.trans (r2 y hy).1, (c4 y hy).2.trans (r2 y hy).2⟩, fun k hk => ⟨(c5 k hk).1.trans (r3 k hk).1, (c5 k hk).2.1.trans (r3 k hk).2.1, (c5 k hk).2.2.trans (r3 k hk).2.2⟩, fun k hk => (c6 k hk).trans (r4 k hk)⟩, (c3 0 (by decide)).trans n1, (c3 1 (by decide)).trans n2, (c3 2 (by decide)).trans n3, (c3 3 (by decide)).trans n4⟩
theorem Ro_of {a : Nat → Int32} {d : DT} (hd : DOK d) (hR : RV a d.1) (hr : Mr a d.2) (hz : ∀ j, 2 ≤ j → j < 6 → a j = 0) : Ro a (d.1 0) (d.1 1) 0 0 0 0 := by
  obtain ⟨⟨b1, b2, b3, b4⟩, h1, ⟨q1, q2, q3⟩, q4⟩ := hd
  obtain ⟨n1, n2, n3, n4⟩ := hr
  obtain ⟨r1, r2, r3, r4⟩ := hR
  exact ⟨⟨r1.1, r1.2, hz 2 (by decide) (by decide), hz 3 (by decide) (by decide), hz 4 (by decide) (by decide), hz 5 (by decide) (by decide)⟩, ⟨b1.1, b1.2, by omega, by omega, by omega, by omega⟩, fun y hy => ⟨⟨_, (b2 y hy).1, (r2 y hy).1⟩, ⟨_, (b2 y hy).2, (r2 y hy).2⟩⟩, fun k hk => ⟨⟨_, (b3 k hk).1, (r3 k hk).1⟩, ⟨_, h1 k hk, (b3 k hk).2.1, (r3 k hk).2.1⟩, ⟨_, (b3 k hk).2.2, (r3 k hk).2.2⟩⟩, fun k hk => ⟨_, b4 k hk, r4 k hk⟩, ⟨⟨_, q1, n1⟩, ⟨_, q2, n2⟩, ⟨_, q3, n3⟩, ⟨_, q4, n4⟩⟩, fun i hi => absurd hi (Nat.not_lt_zero i), RX.none _⟩
theorem bgn_D {σ : Mem} (hT : TC 1 σ) : DR (fun c k j => bgnM 1 σ c k j, σ.2) d0 ∧ ∀ c k j, ¬ (c = 7 ∧ 7 ≤ k ∧ k < 14 ∧ j = 3) → ¬ (c = 20 ∧ 7 ≤ k ∧ k < 14) → ¬ (c = 4 ∧ k = 1) → bgnM 1 σ c k j = σ.1 c k j := by
  have r : ∀ c k j, ¬ (c = 7 ∧ 7 ≤ k ∧ k < 14 ∧ j = 3) → ¬ (c = 20 ∧ 7 ≤ k ∧ k < 14) → ¬ (c = 4 ∧ k = 1) → bgnM 1 σ c k j = σ.1 c k j := fun c k j h1 h2 h3 => by
    unfold bgnM
    rw [if_neg (by omega), if_neg (by omega), if_neg (by omega), if_neg (by omega)]
  have z7 : ∀ k, 7 < k → k < 14 → bgnM 1 σ 7 k 3 = 0 := fun k h1 h2 => by
    unfold bgnM
    rw [if_neg (by omega), if_neg (by omega), if_pos (by omega)]
  have z20 : ∀ j, j < 12 → bgnM 1 σ 20 7 j = 0 := fun j hj => by
    unfold bgnM
    rw [if_neg (by omega), if_pos (by omega)]
  have z4 : ∀ j, j < 4 → bgnM 1 σ 4 1 j = 0 := fun j hj => by
    unfold bgnM
    rw [if_neg (by omega), if_neg (by omega), if_neg (by omega), if_pos (by omega)]
  have z6 : bgnM 1 σ 7 7 3 = nI 6 := by
    unfold bgnM
    rw [if_pos (by omega)]
  refine ⟨DR.mk (fun j hj => ?_) ⟨⟨z6, ?_⟩, ⟨z7 8 (by decide) (by decide), ?_⟩, ⟨z7 9 (by decide) (by decide), ?_⟩, fun y hy => ⟨z20 _ (by omega), z20 _ (by omega)⟩, fun k hk => absurd hk (Nat.not_lt_zero k), fun k hk => absurd hk (Nat.not_lt_zero k)⟩ ⟨z4 0 (by decide), z4 1 (by decide), z4 2 (by decide), z4 3 (by decide)⟩ (z7 10 (by decide) (by decide)) (z7 11 (by decide) (by decide)) (z7 12 (by decide) (by decide)) (z7 13 (by decide) (by decide)), r⟩
  · show bgnM 1 σ 7 (7 * 1 + j) 0 = _ ∧ bgnM 1 σ 7 (7 * 1 + j) 1 = _
    rw [r _ _ _ (by omega) (by omega) (by omega), r _ _ _ (by omega) (by omega) (by omega)]; exact hT j hj
  · show bgnM 1 σ 7 (7 * 1) 1 = nI 2
    rw [r _ _ _ (by omega) (by omega) (by omega)]; exact (hT 0 (by decide)).2
  · show bgnM 1 σ 7 (7 * 1 + 1) 1 = nI 3
    rw [r _ _ _ (by omega) (by omega) (by omega)]; exact (hT 1 (by decide)).2
  · show bgnM 1 σ 7 (7 * 1 + 2) 1 = nI 1
    rw [r _ _ _ (by omega) (by omega) (by omega)]; exact (hT 2 (by decide)).2
theorem neg10 : ∀ f, f < 151 → -10 - nI f < 0 := by decide +kernel
theorem ok_read {σ : Mem} (h : Inv σ) : OKc (f10_read 0) (f11_read 0) σ := by
  obtain ⟨t, p, s, n, m, e, hv, hr⟩ := h.vr
  obtain ⟨len, hlen, x8, x11, xB⟩ := h.2.2.2.1
  have hT1 : TC 1 σ := h.2.1.1
  obtain ⟨B, hB⟩ : ∃ B : Nat → Nat, B = fun i => (σ.1 22 9 i).toNatClampNeg := ⟨_, rfl⟩
  have hb : ∀ i, i < len → σ.1 22 9 i = nI (B i) ∧ B i ≤ 127 := fun i hi => by
    obtain ⟨-, b, b1, b2⟩ := xB i hi
    rw [hB]
    show _ = nI (σ.1 22 9 i).toNatClampNeg ∧ (σ.1 22 9 i).toNatClampNeg ≤ 127
    rw [b2, nI_clamp (by omega)]
    exact ⟨rfl, b1⟩
  have hTX : TX σ B len := ⟨hlen, x8, fun i hi => ⟨(xB i hi).1.trans (hb i hi).1, (hb i hi).2⟩⟩
  have e1 := begin_ok (v := 1) (σ := σ) (hT1 0 (by decide)).2 (hT1 0 (by decide)).1
  obtain ⟨hD, bg⟩ := bgn_D hT1
  obtain ⟨σ1, hσ1⟩ : ∃ σ1 : Mem, σ1 = (fun c k j => bgnM 1 σ c k j, σ.2) := ⟨_, rfl⟩
  rw [← hσ1] at e1 hD
  have bg1 : ∀ c k j, ¬ (c = 7 ∧ 7 ≤ k ∧ k < 14 ∧ j = 3) → ¬ (c = 20 ∧ 7 ≤ k ∧ k < 14) → ¬ (c = 4 ∧ k = 1) → σ1.1 c k j = σ.1 c k j := fun c k j h1 h2 h3 => by
    rw [hσ1]; exact bg c k j h1 h2 h3
  have z1 : σ1.2 = σ.2 := by rw [hσ1]
  have hTX1 : TX σ1 B len := ⟨hlen, by rw [bg1 _ _ _ (by omega) (by omega) (by omega)]; exact hTX.2.1, fun i hi => by rw [bg1 _ _ _ (by omega) (by omega) (by omega)]; exact hTX.2.2 i hi⟩
  obtain ⟨b, σ2, e2, q2, m2⟩ := tellTo_ok hTX1 hD
  have fr2 : ∀ c k j, ¬ (c = 8 ∧ 3 ≤ j ∧ j ≤ 6) → ¬ (c = 21 ∧ k = 2) → ¬ (c = 7 ∧ 7 ≤ k ∧ k < 14 ∧ j = 3) → ¬ (c = 20 ∧ 7 ≤ k ∧ k < 14) → ¬ (c = 4 ∧ k = 1) → σ2.1 c k j = σ.1 c k j := fun c k j h1 h2 h3 h4 h5 => (q2.2 c k j h1 h2 h3 h4 h5).trans (bg1 c k j h3 h4 h5)
  have z2 : σ2.2 = σ.2 := q2.1.trans z1
  have f10 : f10_read 0 σ = (bnd (if b < 0 then (some σ2) else (bnd (f9_takeFrom 0 1 σ2) fun w7 => some w7) : Option (Mem)) fun w5 => some (b, w5)) := by
    unfold f10_read
    rw [e1, bnd_s, e2, bnd_s]
  cases hf : ful B len with
  | inr f =>
    rw [hf] at m2
    obtain ⟨rfl, m3⟩ := m2
    have n2 : Nw σ σ2 := ⟨z2, fun c k j ho => fr2 c k j (by unfold outB at ho; omega) (by unfold outB at ho; omega) (by unfold outB at ho; omega) (by unfold outB at ho; omega) (by unfold outB at ho; omega)⟩
    have hTR : TR σ2 B len := ⟨hlen, by rw [fr2 _ _ _ (by omega) (by omega) (by omega) (by omega) (by omega)]; exact x11, fun i hi => by rw [fr2 _ _ _ (by omega) (by omega) (by omega) (by omega) (by omega)]; exact hb i hi⟩
    obtain ⟨b', τ, e3, z3, m4⟩ := readR_ok hTR (fun x hx => by rw [hf] at hx; cases hx)
    rw [hf] at m4
    obtain ⟨rfl, f4⟩ := m4
    have n3 : Nw σ2 τ := ⟨z3, fun c k j ho => f4.2 c k j (by unfold outB at ho; omega) (by unfold outB at ho; omega)⟩
    have hneg : -10 - nI f < 0 := neg10 f (by omega)
    refine ok_now h ?_ n2 e3 n3 ?_
    · rw [f10, if_pos hneg, bnd_s]
    · refine h.1.congr (fun k j _ _ => ?_) (fun k j _ _ => ?_) (fun j => ?_) (fun j _ => ?_)
      · rw [f4.2 _ _ _ (by omega) (by omega), fr2 _ _ _ (by omega) (by omega) (by omega) (by omega) (by omega)]
      · rw [f4.2 _ _ _ (by omega) (by omega), fr2 _ _ _ (by omega) (by omega) (by omega) (by omega) (by omega)]
      · rw [f4.2 _ _ _ (by omega) (by omega), fr2 _ _ _ (by omega) (by omega) (by omega) (by omega) (by omega)]
      · rw [f4.2 _ _ _ (by omega) (by omega), fr2 _ _ _ (by omega) (by omega) (by omega) (by omega) (by omega)]
  | inl x =>
    rw [hf] at m2
    obtain ⟨rfl, m3, m4, m5⟩ := m2
    obtain ⟨hTC, hHV, hMo, y0, y1, y2, y3⟩ := m4
    have hT0 : TC 0 σ2 := hv.1.congr (fun k _ _ => ⟨fr2 _ _ _ (by omega) (by omega) (by omega) (by omega) (by omega), fr2 _ _ _ (by omega) (by omega) (by omega) (by omega) (by omega)⟩)
    obtain ⟨σ3, e3, hv3, z3, f3⟩ := takeFrom_ok (v := 0) (u := 1) (by decide) hT0 (VR_of hTC hHV hMo y0 y1 y2 y3 (rowD_RV x.2) (rowD_Mr x.2)) ⟨m5.1.1.1, m5.1.1.2, by omega, by omega, by omega, by omega⟩
    have n3 : Nw σ σ3 := ⟨z3.trans z2, fun c k j ho => (f3 c k j (by unfold outB at ho; omega)).trans (fr2 c k j (by unfold outB at ho; omega) (by unfold outB at ho; omega) (by unfold outB at ho; omega) (by unfold outB at ho; omega) (by unfold outB at ho; omega))⟩
    have hTR : TR σ3 B len := ⟨hlen, by rw [f3 _ _ _ (by omega), fr2 _ _ _ (by omega) (by omega) (by omega) (by omega) (by omega)]; exact x11, fun i hi => by rw [f3 _ _ _ (by omega), fr2 _ _ _ (by omega) (by omega) (by omega) (by omega) (by omega)]; exact hb i hi⟩
    obtain ⟨b', τ, e4, z4, m6⟩ := readR_ok hTR (fun x' hx => by rw [hf] at hx; cases hx; exact m5.1)
    rw [hf] at m6
    obtain ⟨rfl, f4, r4, s4, t4⟩ := m6
    have n4 : Nw σ3 τ := ⟨z4, fun c k j ho => f4 c k j (by unfold outB at ho; omega) (by unfold outB at ho; omega)⟩
    obtain ⟨hH3, hM3⟩ := HV_of hv3 (rowD_RV x.2) (rowD_Mr x.2)
    have c7 : τ.1 7 = σ3.1 7 := funext fun k => funext fun j => f4 _ _ _ (by omega) (by omega)
    have c20 : τ.1 20 = σ3.1 20 := funext fun k => funext fun j => f4 _ _ _ (by omega) (by omega)
    have c4 : τ.1 4 = σ3.1 4 := funext fun k => funext fun j => f4 _ _ _ (by omega) (by omega)
    refine ok_now h ?_ n3 e4 n4 ⟨x.2.1 0, x.2.1 1, 0, 0, 0, 0, VR_of (hv3.1.congr (fun k _ _ => by rw [c7]; exact ⟨rfl, rfl⟩)) (hH3.fr c7 c20) (by rw [c4]; exact hM3) (by rw [c7]; exact hv3.2.1.2.2.2.1) (by rw [c7]; exact hv3.2.1.2.2.2.2.1) (by rw [c7]; exact hv3.2.1.2.2.2.2.2.1) (by rw [c7]; exact hv3.2.1.2.2.2.2.2.2) r4 s4, Ro_of m5 r4 s4 t4⟩
    rw [f10, if_neg (nI_pos (by omega)), e3, bnd_s, bnd_s]
