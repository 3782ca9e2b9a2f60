/-! takes, summers, undo -/
theorem HV.fr2 {v : Nat} {σ τ : Mem} {A : Nat → Nat} (h : HV v σ A) (h7 : ∀ k j, 7 * v ≤ k → k < 7 * v + 3 → τ.1 7 k j = σ.1 7 k j) (h20 : ∀ k j, 7 * v ≤ k → k < 7 * v + 3 → τ.1 20 k j = σ.1 20 k j) : HV v τ A := by
  obtain ⟨⟨a1, a2⟩, ⟨b1, b2⟩, ⟨c1, c2⟩, d, e, f⟩ := h
  refine ⟨⟨?_, ?_⟩, ⟨?_, ?_⟩, ⟨?_, ?_⟩, fun y hy => ?_, fun k hk => ?_, fun k hk => ?_⟩
  · rw [h7 _ _ (by omega) (by omega)]; exact a1
  · rw [h7 _ _ (by omega) (by omega)]; exact a2
  · rw [h7 _ _ (by omega) (by omega)]; exact b1
  · rw [h7 _ _ (by omega) (by omega)]; exact b2
  · rw [h7 _ _ (by omega) (by omega)]; exact c1
  · rw [h7 _ _ (by omega) (by omega)]; exact c2
  · rw [h20 _ _ (by omega) (by omega), h20 _ _ (by omega) (by omega)]; exact d y hy
  · rw [h20 _ _ (by omega) (by omega), h20 _ _ (by omega) (by omega), h20 _ _ (by omega) (by omega)]; exact e k hk
  · rw [h20 _ _ (by omega) (by omega)]; exact f k hk
theorem mom_q {σ : Mem} {t p s n m e e' : Nat} {g f b : Nat → Int32} (hv : VR 0 σ (σ.1 22 0) t p s n m e) (hr : Ro (σ.1 22 0) t p s n m e) (he : e' ≤ 8)
    (hb5 : b 5 = nI e') (hb : ∀ j, j < 5 ∨ (10 ≤ j ∧ j < 110) → b j = σ.1 22 0 j) (hl : ∀ j, j < 4 * e' → g j = b (110 + j)) (hf : ∀ j, j < 4 → f j = b (6 + j))
    (hm : RM t p (fun j => b (6 + j))) (hlr : ∀ i, i < e' → RM t p (fun j => b (110 + 4 * i + j))) :
    VQ 0 (sA (sA (sA (sI σ 7 6 3 (nI e')) 20 6 g) 4 0 f) 22 0 b) b := by
  obtain ⟨b1, b2, b3, b4, b5, b6⟩ := hr.2.1
  refine ⟨t, p, s, n, m, e', VR.moment (b := b) hv ⟨b1, b2, b3, b4, b5⟩ (fun k j hk hj => ?_) ?_ (fun k j hk => ?_) (fun j hj => ?_) (fun i hi => ?_) hb, hr.moment he hb5 hb hm hlr⟩
  · show (sI σ 7 6 3 (nI e')).1 7 k j = _
    rw [rdI, if_neg (by omega)]
  · show (sI σ 7 6 3 (nI e')).1 7 6 3 = _
    rw [rdI, if_pos ⟨rfl, rfl, rfl⟩]
  · show (sA (sI σ 7 6 3 (nI e')) 20 6 g).1 20 k j = _
    rw [rdA, if_neg (by omega)]
    rfl
  · exact hf j hj
  · exact hl i hi
theorem mom_nw {σ : Mem} {x : Int32} {g f : Nat → Int32} : Nw σ (sA (sA (sI σ 7 6 3 x) 20 6 g) 4 0 f) := ((Nw.size (by decide)).tr (Nw.row (Or.inl ⟨rfl, by decide⟩))).tr (Nw.row (Or.inr (Or.inl ⟨rfl, by decide⟩)))
theorem ok_takes {σ : Mem} (x1 : Int32) (h : Inv σ) : OKc (f10_takes 0 x1) (f11_takes 0 x1) σ := by
  obtain ⟨t, p, s, n, m, e, hv, hr⟩ := h.vr
  have hC := (hv.HV hr).1
  have hA := hr.AR.1
  have hR := hr.AR.2
  have e0 := hr.aof0.1
  have b1 := hr.2.1.1
  have b6 := hr.2.1.2.2.2.2.2
  by_cases c1 : f10_within x1 0 (nI t - 1) = 0
  · refine ok_bad h ?_ ?_
    · unfold f10_takes
      rw [hC.isT, e0, if_pos c1]; rfl
    · unfold f11_takes
      rw [RV.isT (A := Aof (σ.1 22 0)) (by rw [bad0]; exact hR), e0, if_pos c1]; rfl
  obtain ⟨k, hk, rfl⟩ := wi_thing (by omega) c1
  obtain ⟨u, hu, hu6⟩ := hr.2.2.2.2.2.1.1
  have u6 : u < 64 := pow64 b1 hu
  obtain ⟨g, e1, hg⟩ := remember_ok (σ := σ) b6 (hv.1 6 (by decide)).1 hv.2.1.2.2.2.2.2.2 (hv.1 6 (by decide)).2
  obtain ⟨f, hf⟩ : ∃ f : Nat → Int32, f = upd (σ.1 4 0) 0 (nI (u ^^^ 2 ^ k)) := ⟨_, rfl⟩
  obtain ⟨τ1, hτ⟩ : ∃ τ1 : Mem, τ1 = sA (sA (sI σ 7 6 3 (nI (min (e + 1) 8))) 20 6 g) 4 0 f := ⟨_, rfl⟩
  have t0 : τ1.1 22 0 = σ.1 22 0 := by rw [hτ]; rfl
  obtain ⟨b, e2, hb5, hb, hbl⟩ := save_ok (σ := τ1) b6 (by rw [t0]; exact hr.1.2.2.2.2.2)
  rw [t0] at hb hbl
  have up : (nI u ^^^ ((1 : Int32) <<< (nI k &&& 31))) = nI (u ^^^ 2 ^ k) := xorN u u6 k (by omega)
  have x6 : u ^^^ 2 ^ k < 64 := pow64 b1 (xor_lt hu hk)
  refine ok_now (r := nI (b01 ((u ^^^ 2 ^ k).testBit k))) (τ1 := τ1) (τ2 := sA τ1 22 0 (upd b 6 (nI (u ^^^ 2 ^ k)))) h ?_ (by rw [hτ]; exact mom_nw) ?_ (Nw.row (Or.inr (Or.inr ⟨rfl, rfl⟩))) ?_
  · unfold f10_takes
    rw [hC.isT, e0, if_neg c1, e1, bnd_s, lt_e]
    have e3 : f9_turn 0 (nI k) (sA (sI σ 7 6 3 (nI (min (e + 1) 8))) 20 6 g) = τ1 := by
      unfold f9_turn
      rw [lt_e, show (sA (sI σ 7 6 3 (nI (min (e + 1) 8))) 20 6 g).1 4 0 0 = nI u from (hv.2.2.1 0 (by decide)).trans hu6, up, hτ, hf]
      rfl
    rw [e3, upN (u := u ^^^ 2 ^ k) (by rw [hτ, sA_at, hf, up_s]) x6 (by omega)]
    cases (u ^^^ 2 ^ k).testBit k <;> rfl
  · unfold f11_takes
    rw [RV.isT (A := Aof (σ.1 22 0)) (by rw [t0]; exact hR), e0, if_neg c1, e2, bnd_s, lt_e, sI_sA, sA_at, sA_at, hb 6 (by omega), hu6, up, up_s, bitN _ x6 k (by omega)]
  · rw [sA_at, hτ]
    have em := rem_congr (e := e) (r := σ.1 20 6) (r' := fun j => σ.1 22 0 (110 + j)) (mo := σ.1 4 0) (mo' := fun j => σ.1 22 0 (6 + j)) b6 (fun j hj => hv.2.2.2.2.2.2.2.2.2 j hj) (fun j hj => hv.2.2.1 j hj)
    have rm := rem_r (e := e) (r := fun j => σ.1 22 0 (110 + j)) b6 (fun i hi => by
      have := hr.then hi
      unfold RM at this ⊢
      simp only [Nat.add_assoc] at this ⊢
      exact this) hr.now
    refine mom_q hv hr (by omega) (by rw [up_n (by decide)]; exact hb5) (fun j hj => by rw [up_n (by omega)]; exact hb j (by omega)) (fun j hj => by rw [up_n (by omega), hbl j hj, hg j hj, em j hj]) (fun j hj => ?_) ?_ (fun i hi => ?_)
    · rw [hf]
      by_cases z : j = 0
      · subst z; rw [up_s, up_s]
      · rw [up_n z, up_n (by omega), hb _ (by omega)]; exact hv.2.2.1 j hj
    · obtain ⟨h1, h2, h3, h4⟩ := hr.now
      refine ⟨⟨_, xor_lt hu hk, up_s⟩, ?_, ?_, ?_⟩
      · obtain ⟨w, q1, q2⟩ := h2; exact ⟨w, q1, by rw [← q2]; show upd b 6 (nI (u ^^^ 2 ^ k)) (6 + 1) = σ.1 22 0 (6 + 1); rw [up_n (by omega), hb _ (by omega)]⟩
      · obtain ⟨w, q1, q2⟩ := h3; exact ⟨w, q1, by rw [← q2]; show upd b 6 (nI (u ^^^ 2 ^ k)) (6 + 2) = σ.1 22 0 (6 + 2); rw [up_n (by omega), hb _ (by omega)]⟩
      · obtain ⟨w, q1, q2⟩ := h4; exact ⟨w, q1, by rw [← q2]; show upd b 6 (nI (u ^^^ 2 ^ k)) (6 + 3) = σ.1 22 0 (6 + 3); rw [up_n (by omega), hb _ (by omega)]⟩
    · have e3 : ∀ j, j < 4 → upd b 6 (nI (u ^^^ 2 ^ k)) (110 + 4 * i + j) = rem e (fun j => σ.1 22 0 (110 + j)) (fun j => σ.1 22 0 (6 + j)) (4 * i + j) := fun j hj => by
        rw [up_n (by omega), ← hbl (4 * i + j) (by omega)]
        exact congrArg b (by omega)
      have := rm i hi
      unfold RM at this ⊢
      dsimp only at this ⊢
      rw [e3 0 (by omega), e3 1 (by omega), e3 2 (by omega), e3 3 (by omega)]
      exact this
theorem in160 (x : Int32) : f11_in x.toInt64 1 60 = f10_within x (nI 1) (nI 60) := in_within x 1 60
theorem ok_summers {σ : Mem} (x1 : Int32) (h : Inv σ) : OKc (f10_summers 0 x1) (f11_summers 0 x1) σ := by
  obtain ⟨t, p, s, n, m, e, hv, hr⟩ := h.vr
  obtain ⟨hC, hM⟩ := hv.HV hr
  obtain ⟨hA, hR⟩ := hr.AR
  obtain ⟨hm, hq, hy⟩ := hr.Mr
  obtain ⟨e0, ep, -⟩ := hr.aof0
  have b1 := hr.2.1.1
  have b2 := hr.2.1.2.1
  have b6 := hr.2.1.2.2.2.2.2
  by_cases c1 : f10_within x1 (nI 1) (nI 60) = 0
  · refine ok_bad h ?_ ?_
    · unfold f10_summers
      rw [show (60 : Int32) = nI 60 from rfl, n1, if_pos c1]; rfl
    · unfold f11_summers
      rw [in160, if_pos c1]; rfl
  obtain ⟨N, hN1, hN, rfl⟩ : ∃ y, 1 ≤ y ∧ y ≤ 60 ∧ x1 = nI y := by
    unfold f10_within at c1
    split at c1
    · exact absurd rfl c1
    · rename_i h1
      split at c1
      · exact absurd rfl c1
      · rename_i h2
        have h0 : ¬ x1 < 0 := fun q => h1 (by
          rw [Int32.lt_iff_toInt_lt] at q ⊢
          have e0 : (0 : Int32).toInt = 0 := by decide
          have e1 : (nI 1).toInt = 1 := by decide
          omega)
        obtain ⟨y, hy, rfl⟩ := nI_of h0
        exact ⟨y, Nat.not_lt.mp (fun q => h1 (nI_lt q (by decide))), Nat.not_lt.mp (fun q => h2 (nI_lt q hy)), rfl⟩
  obtain ⟨g, e1, hg⟩ := remember_ok (σ := σ) b6 (hv.1 6 (by decide)).1 hv.2.1.2.2.2.2.2.2 (hv.1 6 (by decide)).2
  have hC0 : HV 0 (sA (sI σ 7 6 3 (nI (min (e + 1) 8))) 20 6 g) (Aof (σ.1 22 0)) := hC.fr2 (fun k j _ hk => by rw [rdA, if_neg (by omega), rdI, if_neg (by omega)]) (fun k j _ hk => by rw [rdA, if_neg (by omega), rdI, if_neg (by omega)])
  obtain ⟨f, e2, hf⟩ := passTold_ok (k1 := 0) (L := 999) (N := N) hC0 hA (by omega) (by decide) hq (by omega) hM
  rw [show sA (sA (sI σ 7 6 3 (nI (min (e + 1) 8))) 20 6 g) 4 0 (σ.1 4 0) = sA (sI σ 7 6 3 (nI (min (e + 1) 8))) 20 6 g from sA_self (sA (sI σ 7 6 3 (nI (min (e + 1) 8))) 20 6 g) 4 0] at e2
  obtain ⟨τ1, hτ⟩ : ∃ τ1 : Mem, τ1 = sA (sA (sI σ 7 6 3 (nI (min (e + 1) 8))) 20 6 g) 4 0 f := ⟨_, rfl⟩
  rw [← hτ] at e2
  have t0 : τ1.1 22 0 = σ.1 22 0 := by rw [hτ]; rfl
  obtain ⟨b, e3, hb5, hb, hbl⟩ := save_ok (σ := τ1) b6 (by rw [t0]; exact hr.1.2.2.2.2.2)
  rw [t0] at hb hbl
  have hRb : RV b (Aof (σ.1 22 0)) := by
    refine ⟨⟨?_, ?_⟩, fun y hy => ⟨?_, ?_⟩, fun k hk => ⟨?_, ?_, ?_⟩, fun k hk => ?_⟩
    · rw [hb _ (by omega)]; exact hR.1.1
    · rw [hb _ (by omega)]; exact hR.1.2
    · rw [hb _ (by omega)]; exact (hR.2.1 y hy).1
    · rw [hb _ (by omega)]; exact (hR.2.1 y hy).2
    · rw [hb _ (by omega)]; exact (hR.2.2.1 k hk).1
    · rw [hb _ (by omega)]; exact (hR.2.2.1 k hk).2.1
    · rw [hb _ (by omega)]; exact (hR.2.2.1 k hk).2.2
    · rw [hb _ (by omega)]; exact hR.2.2.2 k hk
  have hmb : Mr b (qof (σ.1 22 0)) := ⟨(hb 6 (by omega)).trans hm.1, (hb 7 (by omega)).trans hm.2.1, (hb 8 (by omega)).trans hm.2.2.1, (hb 9 (by omega)).trans hm.2.2.2⟩
  obtain ⟨b', e4, hK, hb'⟩ := goSummers_ok (σ := τ1) (N := N) Kr0 hA (by omega) hRb hq hy hmb
  have hq' := ps_r (L := 999) N (qof (σ.1 22 0)) hq
  have hy' := ps_sum (A := Aof (σ.1 22 0)) (L := 999) N (qof (σ.1 22 0)) hy
  have w6 : (ps (Aof (σ.1 22 0)) 999 N (qof (σ.1 22 0))).2.1 < 64 := pow64 hA.1.2 hq'.2.1
  refine ok_now (r := nI (pc (ps (Aof (σ.1 22 0)) 999 N (qof (σ.1 22 0))).2.1)) (τ1 := τ1) (τ2 := sA τ1 22 0 b') h ?_ (by rw [hτ]; exact mom_nw) ?_ (Nw.row (Or.inr (Or.inr ⟨rfl, rfl⟩))) ?_
  · unfold f10_summers f4_partsThere
    rw [show (60 : Int32) = nI 60 from rfl, n1, if_neg c1, e1, bnd_s, show (999 : Int32) = nI 999 from rfl, e2, bnd_s, hτ, sA_at, hf.2.1, pcC _ w6]
  · unfold f11_summers
    rw [in160, if_neg c1, e3, bnd_s, e4, bnd_s, sA_at, hb'.2.1, pcR _ w6, bnd_s]
  · rw [sA_at, hτ]
    have em := rem_congr (e := e) (r := σ.1 20 6) (r' := fun j => σ.1 22 0 (110 + j)) (mo := σ.1 4 0) (mo' := fun j => σ.1 22 0 (6 + j)) b6 (fun j hj => hv.2.2.2.2.2.2.2.2.2 j hj) (fun j hj => hv.2.2.1 j hj)
    have rm := rem_r (e := e) (r := fun j => σ.1 22 0 (110 + j)) b6 (fun i hi => by
      have := hr.then hi
      unfold RM at this ⊢
      simp only [Nat.add_assoc] at this ⊢
      exact this) hr.now
    have hkb : ∀ j, j < 5 ∨ (10 ≤ j ∧ j < 110) → b' j = σ.1 22 0 j := fun j hj => (hK j (by omega)).trans (hb j (by omega))
    refine mom_q hv hr (by omega) ((hK 5 (by omega)).trans hb5) hkb (fun j hj => by rw [hK _ (by omega), hbl j hj, hg j hj, em j hj]) (fun j hj => ?_) ?_ (fun i hi => ?_)
    · rcases (show j = 0 ∨ j = 1 ∨ j = 2 ∨ j = 3 by omega) with rfl | rfl | rfl | rfl
      · exact hf.1.trans hb'.1.symm
      · exact hf.2.1.trans hb'.2.1.symm
      · exact hf.2.2.1.trans hb'.2.2.1.symm
      · exact hf.2.2.2.trans hb'.2.2.2.symm
    · have q1 := hq'.1
      have q2 := hq'.2.1
      rw [e0] at q1
      rw [ep] at q2
      exact ⟨⟨_, q1, hb'.1⟩, ⟨_, q2, hb'.2.1⟩, ⟨_, hq'.2.2, hb'.2.2.1⟩, ⟨_, hy', hb'.2.2.2⟩⟩
    · have e3 : ∀ j, j < 4 → b' (110 + 4 * i + j) = rem e (fun j => σ.1 22 0 (110 + j)) (fun j => σ.1 22 0 (6 + j)) (4 * i + j) := fun j hj => by
        rw [hK _ (by omega), ← hbl (4 * i + j) (by omega)]
        exact congrArg b (by omega)
      have := rm i hi
      unfold RM at this ⊢
      dsimp only at this ⊢
      rw [e3 0 (by omega), e3 1 (by omega), e3 2 (by omega), e3 3 (by omega)]
      exact this
theorem undo_lp {σ : Mem} {e : Nat} (he : e < 8) (h5 : σ.1 22 0 5 = nI e) : ∀ (r n i : Nat) (b : Nat → Int32), i + r = 4 → r < n → (∀ j, b j = if 6 ≤ j ∧ j < 6 + i then σ.1 22 0 (110 + 4 * e + (j - 6)) else σ.1 22 0 j) →
    ∃ z b', l11_undo_26 0 n (nI i) (sA σ 22 0 b) = some (z, sA σ 22 0 b') ∧ ∀ j, b' j = if 6 ≤ j ∧ j < 10 then σ.1 22 0 (110 + 4 * e + (j - 6)) else σ.1 22 0 j := by
  intro r
  induction r with
  | zero =>
    intro n i b h1 h2 h3
    obtain ⟨n, rfl⟩ : ∃ q, n = q + 1 := ⟨n - 1, by omega⟩
    obtain rfl : i = 4 := by omega
    refine ⟨nI 4, b, ?_, h3⟩
    rw [l11_undo_26, if_pos (by decide)]
  | succ r ih =>
    intro n i b h1 h2 h3
    obtain ⟨n, rfl⟩ : ∃ q, n = q + 1 := ⟨n - 1, by omega⟩
    have b5 : b 5 = nI e := by rw [h3, if_neg (by omega)]; exact h5
    have b6 : b (110 + 4 * e + i) = σ.1 22 0 (110 + 4 * e + i) := by rw [h3, if_neg (by omega)]
    rw [l11_undo_26, if_neg (nleL 4 i), sA_at, b5, show (110 : Int32) = nI 110 from rfl, show (4 : Int32) = nI 4 from rfl, show (6 : Int32) = nI 6 from rfl, pk_mul, nI_add, nI_add, nI_add, inb_nI (by omega) (by decide), inb_nI (by omega) (by decide), ck_t, ck_t, nI_clamp (by omega), nI_clamp (by omega), lt_e, sI_sA, b6, nI_1]
    refine ih n (i + 1) _ (by omega) (by omega) (fun j => ?_)
    by_cases z : j = 6 + i
    · subst z
      rw [up_s, if_pos (by omega)]
      exact congrArg (σ.1 22 0) (by omega)
    · rw [up_n z, h3]
      by_cases z2 : 6 ≤ j ∧ j < 6 + i
      · rw [if_pos z2, if_pos (by omega)]
      · rw [if_neg z2, if_neg (by omega)]
theorem ok_undo {σ : Mem} (h : Inv σ) : OKc (f10_undo 0) (f11_undo 0) σ := by
  obtain ⟨t, p, s, n, m, e, hv, hr⟩ := h.vr
  have b6 := hr.2.1.2.2.2.2.2
  have s6 : σ.1 7 6 3 = nI e := hv.2.1.2.2.2.2.2.2
  have a5 : σ.1 22 0 5 = nI e := hr.1.2.2.2.2.2
  rcases e with _ | e
  · refine ok_no h ?_ ?_
    · unfold f10_undo f7_size
      rw [s6, if_pos (by decide)]; rfl
    · unfold f11_undo
      rw [show (f10_refuseNo 0 σ).2.1 22 0 5 = nI 0 from a5, if_pos (by decide)]; rfl
  have hw : σ.1 7 6 1 = nI 4 := (hv.1 6 (by decide)).2
  have at4 : ∀ j, j < 4 → f7_at (7 * 0 + 6) (nI e) (nI j) σ = some (σ.1 22 0 (110 + 4 * e + j)) := fun j hj => by
    rw [at_ok (n := e + 1) (w := 4) (N := 32) s6 hw rfl (by omega) hj (by omega) (by omega), hv.2.2.2.2.2.2.2.2.2 (e * 4 + j) (by omega)]
    exact congrArg (fun x => some (σ.1 22 0 x)) (by omega)
  obtain ⟨f, hf⟩ : ∃ f : Nat → Int32, f = upd (upd (upd (upd (σ.1 4 0) 0 (σ.1 22 0 (110 + 4 * e + 0))) 1 (σ.1 22 0 (110 + 4 * e + 1))) 2 (σ.1 22 0 (110 + 4 * e + 2))) 3 (σ.1 22 0 (110 + 4 * e + 3)) := ⟨_, rfl⟩
  obtain ⟨τ1, hτ⟩ : ∃ τ1 : Mem, τ1 = sA (sA (sI σ 7 6 3 (nI e)) 20 6 (σ.1 20 6)) 4 0 f := ⟨_, rfl⟩
  have hτ2 : τ1 = sI (sA σ 4 0 f) 7 6 3 (nI e) := by
    rw [hτ]
    refine mem_ext (fun c k j => ?_) rfl
    rw [rdA, rdA, rdI, rdI, rdA]
    by_cases q1 : c = 4 ∧ k = 0
    · rw [if_pos q1, if_neg (by omega), if_pos q1]
    · rw [if_neg q1]
      by_cases q2 : c = 20 ∧ k = 6
      · rw [if_pos q2, if_neg (by omega), if_neg q1, q2.1, q2.2]
      · rw [if_neg q2, if_neg q1]
  have t0 : τ1.1 22 0 = σ.1 22 0 := by rw [hτ]; rfl
  obtain ⟨z, b, e2, hb⟩ := undo_lp (σ := sI τ1 22 0 5 (nI e)) (e := e) (by omega) (by rw [rdI, if_pos ⟨rfl, rfl, rfl⟩]) 4 2000 0 ((sI τ1 22 0 5 (nI e)).1 22 0) (by omega) (by omega) (fun j => by rw [if_neg (by omega)])
  rw [sA_self] at e2
  have hb' : ∀ j, b j = if 6 ≤ j ∧ j < 10 then σ.1 22 0 (110 + 4 * e + (j - 6)) else if j = 5 then nI e else σ.1 22 0 j := fun j => by
    rw [hb j, rdI, rdI, t0]
    by_cases q : 6 ≤ j ∧ j < 10
    · rw [if_pos q, if_pos q, if_neg (by omega)]
    · rw [if_neg q, if_neg q]
      by_cases q2 : j = 5
      · rw [if_pos ⟨rfl, rfl, q2⟩, if_pos q2]
      · rw [if_neg (by omega), if_neg q2]
  have e3 : sA (sI τ1 22 0 5 (nI e)) 22 0 b = sA τ1 22 0 b := sA_sA _ _ _ _ _
  refine ok_now (r := σ.1 22 0 (110 + 4 * e + 3)) (τ1 := τ1) (τ2 := sA τ1 22 0 b) h ?_ (by rw [hτ]; exact mom_nw) ?_ (Nw.row (Or.inr (Or.inr ⟨rfl, rfl⟩))) ?_
  · unfold f10_undo f7_size
    have e4 : f9_goBack 0 σ = some τ1 := by
      unfold f9_goBack f7_size f4_set f7_dropLast
      rw [show σ.1 7 (7 * 0 + 6) 3 = nI (e + 1) from s6, nI_pred, show f7_at (7 * 0 + 6) (nI e) 0 σ = _ from at4 0 (by decide), bnd_s, show f7_at (7 * 0 + 6) (nI e) 1 σ = _ from at4 1 (by decide), bnd_s, show f7_at (7 * 0 + 6) (nI e) 2 σ = _ from at4 2 (by decide), bnd_s, show f7_at (7 * 0 + 6) (nI e) 3 σ = _ from at4 3 (by decide), bnd_s]
      simp only [lt_e]
      rw [show ∀ x, sI σ 4 0 0 x = sA σ 4 0 (upd (σ.1 4 0) 0 x) from fun _ => rfl, sI_sA, sI_sA, sI_sA, ← hf, hτ2]
      show some (sI (sA σ 4 0 f) 7 6 3 (mxI (σ.1 7 6 3 - 1) 0)) = _
      rw [s6, nI_pred]
      unfold mxI
      rw [if_neg (nI_pos (by omega))]
    rw [s6, if_neg (nI_ne0 (by omega) (by omega)), e4, bnd_s, hτ, sA_at, hf, up_s]
  · unfold f11_undo
    rw [t0, a5, if_neg (nI_ne0 (by omega) (by omega)), nI_pred, lt_e, show l11_undo_26 0 2000 0 (sI τ1 22 0 5 (nI e)) = _ from e2, bnd_s, e3, sA_at, hb' 9, if_pos (by omega)]
  · rw [sA_at, hτ]
    have hk : ∀ j, j < 4 → b (6 + j) = σ.1 22 0 (110 + 4 * e + j) := fun j hj => by
      rw [hb', if_pos (by omega)]
      exact congrArg (σ.1 22 0) (by omega)
    refine mom_q hv hr (by omega) (by rw [hb', if_neg (by omega), if_pos rfl]) (fun j hj => by rw [hb', if_neg (by omega), if_neg (by omega)]) (fun j hj => by rw [hb', if_neg (by omega), if_neg (by omega)]; exact hv.2.2.2.2.2.2.2.2.2 j (by omega)) (fun j hj => ?_) ?_ (fun i hi => ?_)
    · rw [hk j hj, hf]
      rcases (show j = 0 ∨ j = 1 ∨ j = 2 ∨ j = 3 by omega) with rfl | rfl | rfl | rfl
      · rw [up_n (by decide), up_n (by decide), up_n (by decide), up_s]
      · rw [up_n (by decide), up_n (by decide), up_s]
      · rw [up_n (by decide), up_s]
      · rw [up_s]
    · have := hr.then (i := e) (by omega)
      unfold RM at this ⊢
      dsimp only at this ⊢
      rw [hk 0 (by omega), hk 1 (by omega), hk 2 (by omega), hk 3 (by omega)]
      exact this
    · have := hr.then (i := i) (by omega)
      unfold RM at this ⊢
      dsimp only at this ⊢
      rw [hb', hb', hb', hb', if_neg (by omega), if_neg (by omega), if_neg (by omega), if_neg (by omega), if_neg (by omega), if_neg (by omega), if_neg (by omega), if_neg (by omega)]
      exact this
