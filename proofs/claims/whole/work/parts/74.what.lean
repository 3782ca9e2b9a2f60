/-! status, part, count, digest, thing -/
theorem ok_status {σ : Mem} (x1 : Int32) (h : Inv σ) : OKc (fun σ => some (f10_status 0 x1 σ)) (f11_status 0 x1) σ := by
  by_cases c1 : f10_within x1 0 (nI 2) = 0
  · have c2 : ¬ x1 = 0 ∧ ¬ x1 = 1 ∧ ¬ x1 = 2 := by
      refine ⟨fun q => ?_, fun q => ?_, fun q => ?_⟩
      all_goals subst q; revert c1; decide
    have := inv_ref (i := 0) (by decide) h
    refine ⟨-1, sI σ 10 0 13 (σ.1 10 0 13 + 1), sI (sI σ 10 0 13 (σ.1 10 0 13 + 1)) 22 3 0 (σ.1 22 3 0 + 1), ?_, ?_, this, rfl, rfl⟩
    · show some (f10_status 0 x1 σ) = _
      unfold f10_status
      rw [if_neg c2.1, if_neg c2.2.1, if_neg c2.2.2]; rfl
    · unfold f11_status
      rw [in02, if_pos c1]; rfl
  obtain ⟨i, hi, rfl⟩ := wi_yes (by decide) c1
  refine ok_ask (σ.1 22 3 i) h ?_ ?_
  · show some (f10_status 0 (nI i) σ) = _
    have := h.2.2.2.2.2 i (by omega)
    rw [← this]
    unfold f10_status
    rcases (show i = 0 ∨ i = 1 ∨ i = 2 by omega) with rfl | rfl | rfl
    · rw [if_pos (by rfl)]
    · rw [if_neg (by decide), if_pos (by rfl)]
    · rw [if_neg (by decide), if_neg (by decide), if_pos (by rfl)]
  · unfold f11_status
    rw [in02, if_neg c1, inb_nI (by omega) (by decide), ck_t, nI_clamp (by omega)]
theorem ok_part {σ : Mem} (x1 : Int32) (h : Inv σ) : ∃ (r : Int64) (τ1 τ2 : Mem), f10_part 0 x1 σ = (r, τ1) ∧ f11_part 0 x1 τ1 = (r, τ2) ∧ Inv τ2 ∧ τ1.1 24 = σ.1 24 ∧ τ2.1 24 = σ.1 24 := by
  by_cases c1 : f10_within x1 0 (nI 1) = 0
  · have c2 : ¬ x1 = 0 ∧ ¬ x1 = 1 := by
      refine ⟨fun q => ?_, fun q => ?_⟩
      all_goals subst q; revert c1; decide
    have := inv_ref (i := 0) (by decide) h
    refine ⟨(-2 : Int32).toInt64, sI σ 10 0 13 (σ.1 10 0 13 + 1), sI (sI σ 10 0 13 (σ.1 10 0 13 + 1)) 22 3 0 (σ.1 22 3 0 + 1), ?_, ?_, this, rfl, rfl⟩
    · unfold f10_part
      rw [n1, if_pos c1]; rfl
    · unfold f11_part
      rw [if_neg c2.1, if_neg c2.2]; rfl
  obtain ⟨i, hi, rfl⟩ := wi_yes (by decide) c1
  obtain ⟨f1, f2⟩ := h.2.2.2.2.1
  rcases (show i = 0 ∨ i = 1 by omega) with rfl | rfl
  · refine ⟨σ.2 11 0 4, σ, σ, ?_, ?_, h, rfl, rfl⟩
    · unfold f10_part f1_above
      rw [n1, if_neg c1, if_pos (by rfl), f1]
    · unfold f11_part
      rw [if_pos (by rfl)]
  · refine ⟨σ.2 11 0 5, σ, σ, ?_, ?_, h, rfl, rfl⟩
    · unfold f10_part f1_below
      rw [n1, if_neg c1, if_neg (by decide), f2]
    · unfold f11_part
      rw [if_neg (by decide), if_pos (by rfl)]
theorem cnt_ok {σ : Mem} (h : Inv σ) : ∀ w, w ≤ 10 → f11_counted 0 (nI w) σ = some (f10_countOf 0 (nI w) σ) := by
  obtain ⟨t, p, s, n, m, e, hv, hr⟩ := h.vr
  obtain ⟨hC, hM⟩ := hv.HV hr
  obtain ⟨hA, hR⟩ := hr.AR
  obtain ⟨hm, hq, hy⟩ := hr.Mr
  obtain ⟨len, l1, l2, l3, l4⟩ := h.2.2.2.1
  obtain ⟨w1, ⟨s0, s1, s2, s3, s4, s5, s6⟩, w3, _⟩ := hv
  obtain ⟨⟨a0, a1, a2, a3, a4, a5⟩, _⟩ := hr
  have u6 := pow64 hA.1.1 hq.1
  have w6 := pow64 hA.1.2 hq.2.1
  intro w hw
  rcases (show w = 0 ∨ w = 1 ∨ w = 2 ∨ w = 3 ∨ w = 4 ∨ w = 5 ∨ w = 6 ∨ w = 7 ∨ w = 8 ∨ w = 9 ∨ w = 10 by omega) with rfl | rfl | rfl | rfl | rfl | rfl | rfl | rfl | rfl | rfl | rfl
  · show some (σ.1 22 0 0) = some (σ.1 7 1 3)
    rw [a0]; exact congrArg some s1.symm
  · show (bnd (f11_bits (σ.1 22 0 6)) fun w2 => some w2) = some (fJ6_bitCount (σ.1 4 0 0))
    rw [hm.1, hM.1, pcR _ u6, pcC _ u6, bnd_s]
  · show some (σ.1 22 0 1) = some (σ.1 7 2 3)
    rw [a1]; exact congrArg some s2.symm
  · show (bnd (f11_bits (σ.1 22 0 7)) fun w2 => some w2) = some (fJ6_bitCount (σ.1 4 0 1))
    rw [hm.2.1, hM.2.1, pcR _ w6, pcC _ w6, bnd_s]
  · show some (σ.1 22 0 9) = some (σ.1 4 0 3)
    rw [hm.2.2.2, hM.2.2.2]
  · show some (σ.1 22 0 8) = some (σ.1 4 0 2)
    rw [hm.2.2.1, hM.2.2.1]
  · show some (σ.1 22 0 2) = some (σ.1 7 3 3)
    rw [a2]; exact congrArg some s3.symm
  · show some (σ.1 22 0 3) = some (σ.1 7 4 3)
    rw [a3]; exact congrArg some s4.symm
  · show some (σ.1 22 0 4) = some (σ.1 7 5 3)
    rw [a4]; exact congrArg some s5.symm
  · show some (σ.1 22 0 5) = some (σ.1 7 6 3)
    rw [a5]; exact congrArg some s6.symm
  · show some (σ.1 11 0 12) = some (σ.1 8 0 2)
    rw [l2, l3]
theorem in010 (x : Int32) : f11_in x.toInt64 0 10 = f10_within x 0 (nI 10) := in_within x 0 10
theorem ok_count {σ : Mem} (x1 : Int32) (h : Inv σ) : OKc (fun σ => some (f10_count 0 x1 σ)) (f11_count 0 x1) σ := by
  by_cases c1 : f10_within x1 0 (nI 10) = 0
  · refine ok_bad h ?_ ?_
    · show some (f10_count 0 x1 σ) = _
      unfold f10_count
      rw [show (10 : Int32) = nI 10 from rfl, if_pos c1]; rfl
    · unfold f11_count
      rw [in010, if_pos c1]; rfl
  obtain ⟨i, hi, rfl⟩ := wi_yes (by decide) c1
  refine ok_ask (f10_countOf 0 (nI i) σ) h ?_ ?_
  · show some (f10_count 0 (nI i) σ) = _
    unfold f10_count
    rw [show (10 : Int32) = nI 10 from rfl, if_neg c1]
  · unfold f11_count
    rw [in010, if_neg c1, cnt_ok h i hi, bnd_s]
/-! the digest -/
def hs (f : Nat → Int32) : Nat → Nat → Int64 → Int64
  | 0, _, h => h
  | r + 1, i, h => hs f r (i + 1) (31 * h + (f i).toInt64)
theorem hs_add (f : Nat → Int32) : ∀ (r s i : Nat) (h : Int64), hs f (r + s) i h = hs f s (i + r) (hs f r i h)
  | 0, s, i, h => by rw [Nat.zero_add]; rfl
  | r + 1, s, i, h => by
    rw [show r + 1 + s = (r + s) + 1 by omega]
    show hs f (r + s) (i + 1) _ = hs f s (i + (r + 1)) (hs f r (i + 1) _)
    rw [hs_add f r s (i + 1), show i + 1 + r = i + (r + 1) by omega]
theorem hs_congr {f g : Nat → Int32} : ∀ (r i : Nat) (h : Int64), (∀ j, i ≤ j → j < i + r → f j = g j) → hs f r i h = hs g r i h
  | 0, _, _, _ => rfl
  | r + 1, i, h, e => by
    show hs f r (i + 1) _ = hs g r (i + 1) _
    rw [e i (by omega) (by omega)]
    exact hs_congr r (i + 1) _ (fun j h1 h2 => e j (by omega) (by omega))
theorem dig_in {σ : Mem} {k0 n w N i : Nat} (hn : σ.1 7 k0 3 = nI n) (hw : σ.1 7 k0 1 = nI w) (hN : alen 20 k0 = N) (hfit : n * w ≤ N) (hs' : n < 100 ∧ w < 100 ∧ N < 1000) (hi : i < n) :
    ∀ (r m c : Nat) (h : Int64), c + r = w → r < m → ∃ z, l7_digestOn_17 k0 (nI i) σ m h (nI c) = some (hs (σ.1 20 k0) r (i * w + c) h, z) := by
  have hrow : i * w + w ≤ n * w := by
    have : (i + 1) * w ≤ n * w := Nat.mul_le_mul_right w hi
    rw [Nat.succ_mul] at this
    exact this
  intro r
  induction r with
  | zero =>
    intro m c h h1 h2
    obtain ⟨m, rfl⟩ : ∃ q, m = q + 1 := ⟨m - 1, by omega⟩
    exact ⟨nI c, by rw [l7_digestOn_17, hw, if_pos (nI_le (by omega) (by omega))]; rfl⟩
  | succ r ih =>
    intro m c h h1 h2
    obtain ⟨m, rfl⟩ : ∃ q, m = q + 1 := ⟨m - 1, by omega⟩
    rw [l7_digestOn_17, hw, if_neg (nI_ge (by omega) (by omega)), at_ok (i := i) (j := c) (n := n) (w := w) (N := N) hn hw hN hi (by omega) (by omega) (by omega), bnd_s, nI_1]
    exact ih m (c + 1) _ (by omega) (by omega)
theorem dig_ok {σ : Mem} {k0 n w N : Nat} (hn : σ.1 7 k0 3 = nI n) (hw : σ.1 7 k0 1 = nI w) (hN : alen 20 k0 = N) (hfit : n * w ≤ N) (hs' : n < 100 ∧ w < 100 ∧ N < 1000) (h : Int64) :
    f7_digestOn k0 h σ = some (hs (σ.1 20 k0) (n * w) 0 h) := by
  have lp : ∀ (r m i : Nat) (h : Int64), i + r = n → r < m → ∃ z, l7_digestOn_5 k0 σ m h (nI i) = some (hs (σ.1 20 k0) (r * w) (i * w) h, z) := by
    intro r
    induction r with
    | zero =>
      intro m i h h1 h2
      obtain ⟨m, rfl⟩ : ∃ q, m = q + 1 := ⟨m - 1, by omega⟩
      exact ⟨nI i, by rw [l7_digestOn_5, hn, if_pos (nI_le (by omega) (by omega)), Nat.zero_mul]; rfl⟩
    | succ r ih =>
      intro m i h h1 h2
      obtain ⟨m, rfl⟩ : ∃ q, m = q + 1 := ⟨m - 1, by omega⟩
      obtain ⟨z, e⟩ := dig_in (i := i) hn hw hN hfit hs' (by omega) w 2000 0 h (by omega) (by omega)
      obtain ⟨z2, e2⟩ := ih m (i + 1) (hs (σ.1 20 k0) w (i * w + 0) h) (by omega) (by omega)
      refine ⟨z2, ?_⟩
      rw [l7_digestOn_5, hn, if_neg (nI_ge (by omega) (by omega)), show l7_digestOn_17 k0 (nI i) σ 2000 h 0 = _ from e, bnd_s, nI_1]
      show l7_digestOn_5 k0 σ m (hs (σ.1 20 k0) w (i * w + 0) h) (nI (i + 1)) = _
      rw [e2, Nat.succ_mul, Nat.succ_mul, Nat.add_comm (r * w) w, hs_add]
      rfl
  obtain ⟨z, e⟩ := lp n 2000 0 h (by omega) (by omega)
  rw [Nat.zero_mul] at e
  unfold f7_digestOn
  rw [show l7_digestOn_5 k0 σ 2000 h 0 = _ from e, bnd_s]
theorem sums_ok {σ : Mem} {a c : Nat} (ha : a + c ≤ 142) (h : Int64) : f11_sums 0 h (nI a) (nI c) σ = some (hs (fun j => σ.1 22 0 (a + j)) c 0 h) := by
  have lp : ∀ (r m i : Nat) (h : Int64), i + r = c → r < m → ∃ z, l11_sums_6 0 (nI a) (nI c) σ m h (nI i) = some (hs (fun j => σ.1 22 0 (a + j)) r i h, z) := by
    intro r
    induction r with
    | zero =>
      intro m i h h1 h2
      obtain ⟨m, rfl⟩ : ∃ q, m = q + 1 := ⟨m - 1, by omega⟩
      exact ⟨nI i, by rw [l11_sums_6, if_pos (nI_le (by omega) (by omega))]; rfl⟩
    | succ r ih =>
      intro m i h h1 h2
      obtain ⟨m, rfl⟩ : ∃ q, m = q + 1 := ⟨m - 1, by omega⟩
      rw [l11_sums_6, if_neg (nI_ge (by omega) (by omega)), nI_add, inb_nI (by omega) (by decide), ck_t, nI_clamp (by omega), lt_e, nI_1]
      exact ih m (i + 1) _ (by omega) (by omega)
  obtain ⟨z, e⟩ := lp c 2000 0 h (by omega) (by omega)
  unfold f11_sums
  rw [show l11_sums_6 0 (nI a) (nI c) σ 2000 h 0 = _ from e, bnd_s]
def hT (a : Nat → Int32) (u : Nat) : Nat → Nat → Int64 → Int64
  | 0, _, h => h
  | r + 1, i, h => hT a u r (i + 1) (31 * (31 * (31 * (31 * h + (a (22 + i)).toInt64) + (a (28 + i)).toInt64) + (a (34 + i)).toInt64) + (nI (b01 (u.testBit i))).toInt64)
def hP (a : Nat → Int32) (w : Nat) : Nat → Nat → Int64 → Int64
  | 0, _, h => h
  | r + 1, i, h => hP a w r (i + 1) (31 * (31 * h + (a (40 + i)).toInt64) + (nI (b01 (w.testBit i))).toInt64)
theorem ok_digest {σ : Mem} (h : Inv σ) : ∃ r, f10_digest 0 σ = some r ∧ f11_digest 0 σ = some r := by
  have hcnt := cnt_ok h
  obtain ⟨t, p, s, n, m, e, hv, hr⟩ := h.vr
  obtain ⟨hC, hM⟩ := hv.HV hr
  obtain ⟨hA, hR⟩ := hr.AR
  obtain ⟨hm, hq, hy⟩ := hr.Mr
  obtain ⟨e0, ep, -⟩ := hr.aof0
  obtain ⟨b1, b2, b3, b4, b5, b6⟩ := hr.2.1
  obtain ⟨w1, ⟨s0, s1, s2, s3, s4, s5, s6⟩, w3, w4, w5, w6, w7, w8, w9, w10⟩ := hv
  obtain ⟨⟨a0, a1, a2, a3, a4, a5⟩, _⟩ := hr
  have u64 : (qof (σ.1 22 0)).1 < 64 := pow64 hA.1.1 hq.1
  have w64 : (qof (σ.1 22 0)).2.1 < 64 := pow64 hA.1.2 hq.2.1
  -- the counts
  have c1 : ∀ (r k i : Nat) (h : Int64), i + r = 11 → r < k → ∃ z, l10_digest_6 0 σ k h (nI i) = some (hs (fun w => f10_countOf 0 (nI w) σ) r i h, z) := by
    intro r
    induction r with
    | zero =>
      intro k i h h1 h2
      obtain ⟨k, rfl⟩ : ∃ q, k = q + 1 := ⟨k - 1, by omega⟩
      obtain rfl : i = 11 := by omega
      exact ⟨nI 11, by rw [l10_digest_6, if_pos (by decide)]; rfl⟩
    | succ r ih =>
      intro k i h h1 h2
      obtain ⟨k, rfl⟩ : ∃ q, k = q + 1 := ⟨k - 1, by omega⟩
      rw [l10_digest_6, if_neg (nltL 10 i), lt_e, nI_1]
      exact ih k (i + 1) _ (by omega) (by omega)
  have c2 : ∀ (r k i : Nat) (h : Int64), i + r = 11 → r < k → ∃ z, l11_digest_6 0 σ k h (nI i) = some (hs (fun w => f10_countOf 0 (nI w) σ) r i h, z) := by
    intro r
    induction r with
    | zero =>
      intro k i h h1 h2
      obtain ⟨k, rfl⟩ : ∃ q, k = q + 1 := ⟨k - 1, by omega⟩
      obtain rfl : i = 11 := by omega
      exact ⟨nI 11, by rw [l11_digest_6, if_pos (by decide)]; rfl⟩
    | succ r ih =>
      intro k i h h1 h2
      obtain ⟨k, rfl⟩ : ∃ q, k = q + 1 := ⟨k - 1, by omega⟩
      rw [l11_digest_6, if_neg (nleL 11 i), hcnt i (by omega), bnd_s, nI_1]
      exact ih k (i + 1) _ (by omega) (by omega)
  -- the storms
  have d1 : ∀ (r k i : Nat) (h : Int64), i + r = 6 → r < k → ∃ z, l11_digest_33 0 σ k h (nI i) = some (hs (σ.1 20 0) (2 * r) (2 * i) h, z) := by
    intro r
    induction r with
    | zero =>
      intro k i h h1 h2
      obtain ⟨k, rfl⟩ : ∃ q, k = q + 1 := ⟨k - 1, by omega⟩
      obtain rfl : i = 6 := by omega
      exact ⟨nI 6, by rw [l11_digest_33, if_pos (by decide)]; rfl⟩
    | succ r ih =>
      intro k i h h1 h2
      obtain ⟨k, rfl⟩ : ∃ q, k = q + 1 := ⟨k - 1, by omega⟩
      obtain ⟨g1, g2⟩ := w4 i (by omega)
      obtain ⟨z, ez⟩ := ih k (i + 1) (31 * (31 * h + (σ.1 20 0 (2 * i)).toInt64) + (σ.1 20 0 (2 * i + 1)).toInt64) (by omega) (by omega)
      refine ⟨z, ?_⟩
      rw [l11_digest_33, if_neg (nleL 6 i), show (10 : Int32) = nI 10 from rfl, show (16 : Int32) = nI 16 from rfl, nI_add, nI_add, inb_nI (by omega) (by decide), inb_nI (by omega) (by decide), ck_t, ck_t, nI_clamp (by omega), nI_clamp (by omega), lt_e, nI_1, ← g1, ← g2]
      rw [show σ.1 20 (7 * 0) = σ.1 20 0 from rfl, ez]
      rw [show 2 * (r + 1) = 2 * r + 1 + 1 by omega, show 2 * (i + 1) = 2 * i + 1 + 1 by omega]
      rfl
  -- the things
  have t1 : ∀ (r k i : Nat) (h : Int64), i + r = t → r < k → ∃ z, l9_digestOn_12 0 σ k h (nI i) = some (hT (σ.1 22 0) (qof (σ.1 22 0)).1 r i h, z) := by
    intro r
    induction r with
    | zero =>
      intro k i h h1 h2
      obtain ⟨k, rfl⟩ : ∃ q, k = q + 1 := ⟨k - 1, by omega⟩
      exact ⟨nI i, by rw [l9_digestOn_12, f7_size, s1, if_pos (nI_le (by omega) (by omega))]; rfl⟩
    | succ r ih =>
      intro k i h h1 h2
      obtain ⟨k, rfl⟩ : ∃ q, k = q + 1 := ⟨k - 1, by omega⟩
      obtain ⟨g1, g2, g3⟩ := hR.2.2.1 i (by omega)
      have eu : (if f4_isUp 0 (nI i) σ = 0 then (0 : Int32) else 1) = nI (b01 ((qof (σ.1 22 0)).1.testBit i)) := by
        rw [upN hM.1 u64 (by omega)]
        cases (qof (σ.1 22 0)).1.testBit i <;> rfl
      rw [l9_digestOn_12, f7_size, s1, if_neg (nI_ge (by omega) (by omega)), hC.at0 hA (by omega), bnd_s, hC.at1 hA (by omega), bnd_s, lt_e, hC.at2 hA (by omega), bnd_s, eu, lt_e, lt_e, nI_1, ← g1, ← g2, ← g3]
      exact ih k (i + 1) _ (by omega) (by omega)
  have t2 : ∀ (r k i : Nat) (h : Int64), i + r = t → r < k → ∃ z, l11_digest_79 0 σ k h (nI i) = some (hT (σ.1 22 0) (qof (σ.1 22 0)).1 r i h, z) := by
    intro r
    induction r with
    | zero =>
      intro k i h h1 h2
      obtain ⟨k, rfl⟩ : ∃ q, k = q + 1 := ⟨k - 1, by omega⟩
      exact ⟨nI i, by rw [l11_digest_79, f11_many, a0, if_pos (nI_le (by omega) (by omega))]; rfl⟩
    | succ r ih =>
      intro k i h h1 h2
      obtain ⟨k, rfl⟩ : ∃ q, k = q + 1 := ⟨k - 1, by omega⟩
      rw [l11_digest_79, f11_many, a0, if_neg (nI_ge (by omega) (by omega)), show (22 : Int32) = nI 22 from rfl, show (28 : Int32) = nI 28 from rfl, show (34 : Int32) = nI 34 from rfl, nI_add, nI_add, nI_add, inb_nI (by omega) (by decide), inb_nI (by omega) (by decide), inb_nI (by omega) (by decide), nI_clamp (by omega), nI_clamp (by omega), nI_clamp (by omega), ck_t, ck_t, lt_e, ck_t, lt_e, hm.1, bitN _ u64 i (by omega), nI_1]
      exact ih k (i + 1) _ (by omega) (by omega)
  -- the parts
  have p1 : ∀ (r k i : Nat) (h : Int64), i + r = p → r < k → ∃ z, l9_digestOn_112 0 σ k h (nI i) = some (hP (σ.1 22 0) (qof (σ.1 22 0)).2.1 r i h, z) := by
    intro r
    induction r with
    | zero =>
      intro k i h h1 h2
      obtain ⟨k, rfl⟩ : ∃ q, k = q + 1 := ⟨k - 1, by omega⟩
      exact ⟨nI i, by rw [l9_digestOn_112, f7_size, s2, if_pos (nI_le (by omega) (by omega))]; rfl⟩
    | succ r ih =>
      intro k i h h1 h2
      obtain ⟨k, rfl⟩ : ∃ q, k = q + 1 := ⟨k - 1, by omega⟩
      have g1 := hR.2.2.2 i (by omega)
      have eu : (if f4_isThere 0 (nI i) σ = 0 then (0 : Int32) else 1) = nI (b01 ((qof (σ.1 22 0)).2.1.testBit i)) := by
        rw [thereN hM.2.1 w64 (by omega)]
        cases (qof (σ.1 22 0)).2.1.testBit i <;> rfl
      rw [l9_digestOn_112, f7_size, s2, if_neg (nI_ge (by omega) (by omega)), hC.atp hA (by omega), bnd_s, eu, lt_e, lt_e, nI_1, ← g1]
      exact ih k (i + 1) _ (by omega) (by omega)
  have p2 : ∀ (r k i : Nat) (h : Int64), i + r = p → r < k → ∃ z, l11_digest_161 0 σ k h (nI i) = some (hP (σ.1 22 0) (qof (σ.1 22 0)).2.1 r i h, z) := by
    intro r
    induction r with
    | zero =>
      intro k i h h1 h2
      obtain ⟨k, rfl⟩ : ∃ q, k = q + 1 := ⟨k - 1, by omega⟩
      exact ⟨nI i, by rw [l11_digest_161, a1, if_pos (nI_le (by omega) (by omega))]; rfl⟩
    | succ r ih =>
      intro k i h h1 h2
      obtain ⟨k, rfl⟩ : ∃ q, k = q + 1 := ⟨k - 1, by omega⟩
      rw [l11_digest_161, a1, if_neg (nI_ge (by omega) (by omega)), show (40 : Int32) = nI 40 from rfl, nI_add, inb_nI (by omega) (by decide), nI_clamp (by omega), ck_t, lt_e, hm.2.1, bitN _ w64 i (by omega), nI_1]
      exact ih k (i + 1) _ (by omega) (by omega)
  obtain ⟨f1, f2⟩ := h.2.2.2.2.1
  obtain ⟨h1, hh1⟩ : ∃ x, x = hs (fun w => f10_countOf 0 (nI w) σ) 11 0 1621 := ⟨_, rfl⟩
  obtain ⟨h2, hh2⟩ : ∃ x, x = hs (σ.1 20 0) 12 0 h1 := ⟨_, rfl⟩
  obtain ⟨h3, hh3⟩ : ∃ x, x = hT (σ.1 22 0) (qof (σ.1 22 0)).1 t 0 h2 := ⟨_, rfl⟩
  obtain ⟨h4, hh4⟩ : ∃ x, x = hP (σ.1 22 0) (qof (σ.1 22 0)).2.1 p 0 h3 := ⟨_, rfl⟩
  obtain ⟨h5, hh5⟩ : ∃ x, x = hs (fun j => σ.1 22 0 (46 + j)) (2 * s) 0 h4 := ⟨_, rfl⟩
  obtain ⟨h6, hh6⟩ : ∃ x, x = hs (fun j => σ.1 22 0 (56 + j)) (5 * n) 0 h5 := ⟨_, rfl⟩
  obtain ⟨h7, hh7⟩ : ∃ x, x = hs (fun j => σ.1 22 0 (86 + j)) (4 * m) 0 h6 := ⟨_, rfl⟩
  refine ⟨31 * (31 * h7 + σ.2 11 0 4) + σ.2 11 0 5, ?_, ?_⟩
  · obtain ⟨z1, e1⟩ := c1 11 2000 0 1621 (by omega) (by omega)
    obtain ⟨z3, e3⟩ := t1 t 2000 0 h2 (by omega) (by omega)
    obtain ⟨z4, e4⟩ := p1 p 2000 0 h3 (by omega) (by omega)
    unfold f10_digest f9_digestOn
    rw [show l10_digest_6 0 σ 2000 1621 0 = _ from e1, bnd_s, ← hh1]
    rw [show f7_digestOn (7 * 0) h1 σ = _ from dig_ok (n := 6) (w := 2) (N := 12) s0 (w1 0 (by decide)).2 rfl (by decide) (by decide) h1, bnd_s]
    rw [show hs (σ.1 20 (7 * 0)) (6 * 2) 0 h1 = h2 from hh2.symm, show l9_digestOn_12 0 σ 2000 h2 0 = _ from e3, bnd_s, ← hh3, show l9_digestOn_112 0 σ 2000 h3 0 = _ from e4, bnd_s, ← hh4]
    rw [show f7_digestOn (7 * 0 + 3) h4 σ = _ from dig_ok (n := s) (w := 2) (N := 10) s3 (w1 3 (by decide)).2 rfl (by omega) (by omega) h4, bnd_s, hs_congr (g := fun j => σ.1 22 0 (46 + j)) (s * 2) 0 h4 (fun j _ hj => w7 j (by omega)), Nat.mul_comm s 2, ← hh5]
    rw [show f7_digestOn (7 * 0 + 4) h5 σ = _ from dig_ok (n := n) (w := 5) (N := 30) s4 (w1 4 (by decide)).2 rfl (by omega) (by omega) h5, bnd_s, hs_congr (g := fun j => σ.1 22 0 (56 + j)) (n * 5) 0 h5 (fun j _ hj => w8 j (by omega)), Nat.mul_comm n 5, ← hh6]
    rw [show f7_digestOn (7 * 0 + 5) h6 σ = _ from dig_ok (n := m) (w := 4) (N := 24) s5 (w1 5 (by decide)).2 rfl (by omega) (by omega) h6, bnd_s, hs_congr (g := fun j => σ.1 22 0 (86 + j)) (m * 4) 0 h6 (fun j _ hj => w9 j (by omega)), Nat.mul_comm m 4, ← hh7, bnd_s]
    unfold f1_above f1_below
    rw [f1, f2]
  · obtain ⟨z1, e1⟩ := c2 11 2000 0 1621 (by omega) (by omega)
    obtain ⟨z2, e2⟩ := d1 6 2000 0 h1 (by omega) (by omega)
    obtain ⟨z3, e3⟩ := t2 t 2000 0 h2 (by omega) (by omega)
    obtain ⟨z4, e4⟩ := p2 p 2000 0 h3 (by omega) (by omega)
    unfold f11_digest
    rw [show l11_digest_6 0 σ 2000 1621 0 = _ from e1, bnd_s, ← hh1, show l11_digest_33 0 σ 2000 h1 0 = _ from e2, bnd_s]
    rw [show hs (σ.1 20 0) (2 * 6) (2 * 0) h1 = h2 from hh2.symm, show l11_digest_79 0 σ 2000 h2 0 = _ from e3, bnd_s, ← hh3, show l11_digest_161 0 σ 2000 h3 0 = _ from e4, bnd_s, ← hh4]
    rw [a2, a3, a4, show (2 : Int32) * nI s = nI (2 * s) from pk_mul 2 s, show (5 : Int32) * nI n = nI (5 * n) from pk_mul 5 n, show (4 : Int32) * nI m = nI (4 * m) from pk_mul 4 m]
    rw [show f11_sums 0 h4 46 (nI (2 * s)) σ = _ from sums_ok (a := 46) (by omega) h4, bnd_s, ← hh5, show f11_sums 0 h5 56 (nI (5 * n)) σ = _ from sums_ok (a := 56) (by omega) h5, bnd_s, ← hh6, show f11_sums 0 h6 86 (nI (4 * m)) σ = _ from sums_ok (a := 86) (by omega) h6, bnd_s, ← hh7]
