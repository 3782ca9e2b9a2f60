/-! the reference reads -/
theorem sm_I {α β γ : Type} (a : α) (f : α → γ) (g : β → γ) : sm (.inl a) f g = f a := rfl
section READ
variable {B : Nat → Nat} {len : Nat}
theorem GI.fin {σ τ : Mem} {w i : Nat} {d : DT} {E : Option (Int32 × Mem)} (g : GI B len σ τ w i d E) : ∃ b, E = some (b, τ) ∧ (b = 0 ∨ b = 1) ∧ FR σ τ ∧ match rdn B len (bnds w d.1) i with
    | .inl r => b = 1 ∧ LR B len r.2 (τ.1 11 0) ∧ RR τ (eff w r.1 d)
    | .inr f => b = 0 ∧ τ.1 11 0 13 = nI f := by
  obtain ⟨f, m⟩ := g
  cases hr : rdn B len (bnds w d.1) i with
  | inl r =>
    rw [hr] at m
    exact ⟨1, m.1, Or.inr rfl, f, rfl, m.2⟩
  | inr g =>
    rw [hr] at m
    exact ⟨0, m.1, Or.inl rfl, f, rfl, m.2⟩
theorem item_ok {σ : Mem} {i : Nat} {d : DT} (h : TR σ B len) (hi : i ≤ len) (hL : LR B len i (σ.1 11 0)) (hd : DOK d) (hR : RR σ d) :
    ∃ b τ, f11_givesItem 0 σ = some (b, τ) ∧ FR σ τ ∧ match (if mayw (tC B len i) d.1 = true then rdn B len (bnds (tC B len i) d.1) (tE B len i) else .inr (tS B len i)) with
      | .inl r => b = 1 ∧ LR B len r.2 (τ.1 11 0) ∧ RR τ (eff (tC B len i) r.1 d)
      | .inr f => b = 0 ∧ τ.1 11 0 13 = nI f := by
  have w1 : f11_spells 0 5 115 116 111 114 109 0 σ = some (bI (decide (tC B len i = 5))) := by
    rw [show f11_spells 0 5 115 116 111 114 109 0 σ = _ from spellsR (k := 1) (size := 5) h hi hL (by decide) rfl (by decide) (by decide) (by decide), word_iff (by decide)]
  have w2 : f11_spells 0 5 116 104 105 110 103 0 σ = some (bI (decide (tC B len i = 6))) := by
    rw [show f11_spells 0 5 116 104 105 110 103 0 σ = _ from spellsR (k := 2) (size := 5) h hi hL (by decide) rfl (by decide) (by decide) (by decide), word_iff (by decide)]
  have w3 : f11_spells 0 4 112 97 114 116 0 0 σ = some (bI (decide (tC B len i = 7))) := by
    rw [show f11_spells 0 4 112 97 114 116 0 0 σ = _ from spellsR (k := 3) (size := 4) h hi hL (by decide) rfl (by decide) (by decide) (by decide), word_iff (by decide)]
  have w4 : f11_spells 0 4 116 97 107 101 0 0 σ = some (bI (decide (tC B len i = 8))) := by
    rw [show f11_spells 0 4 116 97 107 101 0 0 σ = _ from spellsR (k := 4) (size := 4) h hi hL (by decide) rfl (by decide) (by decide) (by decide), word_iff (by decide)]
  have w5 : f11_spellsSeven 0 115 117 109 109 101 114 115 σ = some (bI (decide (tC B len i = 9))) := by
    rw [show f11_spellsSeven 0 115 117 109 109 101 114 115 σ = _ from sevenR (k := 5) h hi hL (by decide) rfl (by decide), word_iff (by decide)]
  unfold f11_givesItem
  rw [w1, bnd_s]
  by_cases c5 : tC B len i = 5
  · obtain ⟨τ, g⟩ := givesStorm_ok h hi hL hd hR
    obtain ⟨b, e, -, f, m⟩ := g.fin
    rw [decide_eq_true c5, if_neg (show ¬ bI true = 0 by decide), e, bnd_s, c5, if_pos (show mayw 5 d.1 = true from rfl)]
    exact ⟨b, τ, rfl, f, m⟩
  rw [decide_eq_false c5, if_pos (show bI false = 0 by rfl), w2, bnd_s]
  by_cases c6 : tC B len i = 6
  · rw [decide_eq_true c6, if_neg (show ¬ bI true = 0 by decide), c6]
    by_cases ht : d.1 0 < 6
    · obtain ⟨τ, g⟩ := givesThing_ok h hi hL hd hR ht
      obtain ⟨b, e, -, f, m⟩ := g.fin
      rw [e, bnd_s, if_pos (show mayw 6 d.1 = true from blt_to ht)]
      exact ⟨b, τ, rfl, f, m⟩
    · have h6 := hd.1.1.1
      rw [if_neg (show ¬ mayw 6 d.1 = true from fun q => ht (blt_of q))]
      refine ⟨0, σ, ?_, FR.rf σ, rfl, hL.1⟩
      unfold f11_givesThing
      rw [if_pos (show σ.1 22 10 0 = 6 by rw [hR.1.1.1, show d.1 0 = 6 by omega]; rfl), bnd_s]
  rw [decide_eq_false c6, if_pos (show bI false = 0 by rfl), w3, bnd_s]
  by_cases c7 : tC B len i = 7
  · rw [decide_eq_true c7, if_neg (show ¬ bI true = 0 by decide), c7]
    by_cases ht : d.1 1 < 6
    · obtain ⟨τ, g⟩ := givesPart_ok h hi hL hd hR ht
      obtain ⟨b, e, -, f, m⟩ := g.fin
      rw [e, bnd_s, if_pos (show mayw 7 d.1 = true from blt_to ht)]
      exact ⟨b, τ, rfl, f, m⟩
    · have h6 := hd.1.1.2
      rw [if_neg (show ¬ mayw 7 d.1 = true from fun q => ht (blt_of q))]
      refine ⟨0, σ, ?_, FR.rf σ, rfl, hL.1⟩
      unfold f11_givesPart
      rw [if_pos (show σ.1 22 10 1 = 6 by rw [hR.1.1.2, show d.1 1 = 6 by omega]; rfl), bnd_s]
  rw [decide_eq_false c7, if_pos (show bI false = 0 by rfl), w4, bnd_s]
  by_cases c8 : tC B len i = 8
  · obtain ⟨τ, g⟩ := givesTake_ok h hi hL hd hR
    obtain ⟨b, e, -, f, m⟩ := g.fin
    rw [decide_eq_true c8, if_neg (show ¬ bI true = 0 by decide), e, bnd_s, c8, if_pos (show mayw 8 d.1 = true from rfl)]
    exact ⟨b, τ, rfl, f, m⟩
  rw [decide_eq_false c8, if_pos (show bI false = 0 by rfl), w5, bnd_s]
  by_cases c9 : tC B len i = 9
  · obtain ⟨τ, g⟩ := givesSummers_ok h hi hL hd hR
    obtain ⟨b, e, b01, f, m⟩ := g.fin
    rw [decide_eq_true c9, if_neg (show ¬ bI true = 0 by decide), e, bnd_s, c9, if_pos (show mayw 9 d.1 = true from rfl)]
    refine ⟨b, τ, ?_, f, m⟩
    rcases b01 with rfl | rfl <;> rfl
  rw [decide_eq_false c9, if_pos (show bI false = 0 by rfl), if_neg (show ¬ mayw (tC B len i) d.1 = true from fun q => by
    have := mayw_t q
    omega)]
  exact ⟨0, σ, rfl, FR.rf σ, rfl, hL.1⟩
theorem read_lp :
    ∀ (r n items i : Nat) (σ : Mem) (d : DT), i ≤ len → len < i + r → r ≤ n → TR σ B len → LR B len i (σ.1 11 0) → DOK d → RR σ d →
      ∃ τ, FR σ τ ∧ match prs B len r items i d with
        | .inl x => l11_read_67 0 n (nI items) σ = some (.inl (nI x.1, τ)) ∧ RR τ x.2
        | .inr f => l11_read_67 0 n (nI items) σ = some (.inr (-10 - nI f, τ)) := by
  intro r
  induction r with
  | zero =>
    intro n items i σ d h1 h2
    omega
  | succ r ih =>
    intro n items i σ d h1 h2 h3 hT hL hd hR
    obtain ⟨n, rfl⟩ : ∃ q, n = q + 1 := ⟨n - 1, by omega⟩
    have hlen := hT.1
    obtain ⟨te1, te2, te3⟩ := tE_ok (B := B) h1
    obtain ⟨ts1, ts2⟩ := tS_ok (B := B) h1
    obtain ⟨c0, -, -, -, -, c6⟩ := rC_tC (B := B) (len := len) (i := i)
    rw [l11_read_67, hL.2.2.1]
    unfold prs
    by_cases z : tC B len i = 0
    · rw [if_pos (show nI (rC B len i) = 0 by rw [c0.mpr z]; rfl), if_pos z]
      exact ⟨σ, FR.rf σ, rfl, hR⟩
    · have hsl : tS B len i < len := by
        by_cases q : tS B len i < len
        · exact q
        · refine absurd ?_ z
          unfold tC
          rw [if_pos (by omega)]
      rw [if_neg (neR _ 0 (fun q => z (c0.mp q))), if_neg z]
      obtain ⟨b, τ, e, f, m⟩ := item_ok hT h1 hL hd hR
      rw [e, bnd_s]
      by_cases z2 : mayw (tC B len i) d.1 = true
      · rw [if_pos z2] at m ⊢
        unfold itm
        cases hr : rdn B len (bnds (tC B len i) d.1) (tE B len i) with
        | inr g =>
          rw [hr] at m
          obtain ⟨rfl, m⟩ := m
          refine ⟨τ, f, ?_⟩
          rw [if_pos (show (0 : Int32) = 0 from rfl), m]
        | inl x =>
          rw [hr] at m
          obtain ⟨rfl, m2, m3⟩ := m
          obtain ⟨y1, y2, y3, y4⟩ := rdn_ok (bnds (tC B len i) d.1) (tE B len i) te2 x.1 x.2 hr
          obtain ⟨-, -, c3', -, -, c6'⟩ := rC_tC (B := B) (len := len) (i := x.2)
          obtain ⟨ue1, ue2, ue3⟩ := tE_ok (B := B) y2
          have us1 := (tS_ok (B := B) y2).1
          have hT2 := hT.fr f
          rw [if_neg (show ¬ (1 : Int32) = 0 by decide), m2.2.2.1]
          show ∃ τ', _ ∧ match (match (if tC B len x.2 = 2 then .inl (tE B len x.2, eff (tC B len i) x.1 d) else .inr (tS B len x.2) : (Nat × DT) ⊕ Nat) with
            | .inl r' => prs B len r (items + 1) r'.1 r'.2
            | .inr f => .inr f : (Nat × DT) ⊕ Nat) with
            | .inl x => _
            | .inr f => _
          by_cases z3 : tC B len x.2 = 2
          · obtain ⟨τ3, e3, f3, l3, k3⟩ := goBehind_ok hT2 y2 m2
            rw [if_pos (show nI (rC B len x.2) = 3 by rw [c3'.mpr z3]; rfl), if_pos z3, e3, bnd_s, nI_1]
            obtain ⟨τ, f4, m4⟩ := ih n (items + 1) (tE B len x.2) τ3 (eff (tC B len i) x.1 d) ue2 (by have := te3 hsl; omega) (by omega) (hT2.fr f3) l3 (eff_ok hd z2 y3 y4) (m3.fr (congrFun k3 10))
            exact ⟨τ, f.tr (f3.tr f4), m4⟩
          · rw [if_neg (neR _ 3 (fun q => z3 (c3'.mp q))), if_neg z3, m2.1]
            exact ⟨τ, f, rfl⟩
      · rw [if_neg z2] at m ⊢
        obtain ⟨rfl, m⟩ := m
        refine ⟨τ, f, ?_⟩
        rw [if_pos (show (0 : Int32) = 0 from rfl), m]
theorem copy_lp {x1 : Int32} : ∀ (r n j : Nat) (σ : Mem), j + r = 110 → r < n → ∃ z τ, l11_read_109 0 x1 n (nI j) σ = some (z, τ) ∧ τ.2 = σ.2 ∧ ∀ c k i, τ.1 c k i = if c = 22 ∧ k = 0 ∧ j ≤ i ∧ i < 110 then σ.1 22 10 i else σ.1 c k i := by
  intro r
  induction r with
  | zero =>
    intro n j σ h1 h2
    obtain ⟨n, rfl⟩ : ∃ q, n = q + 1 := ⟨n - 1, by omega⟩
    rw [l11_read_109, if_pos (show (110 : Int32) ≤ nI j from leL 110 j)]
    exact ⟨nI j, σ, rfl, rfl, fun c k i => by rw [if_neg (by omega)]⟩
  | succ r ih =>
    intro n j σ h1 h2
    obtain ⟨n, rfl⟩ : ∃ q, n = q + 1 := ⟨n - 1, by omega⟩
    rw [l11_read_109, if_neg (show ¬ (110 : Int32) ≤ nI j from nleL 110 j), inb_nI (show j < 110 by omega) (by decide), inb_nI (show j < 142 by omega) (by decide), ck_t, ck_t, nI_clamp (by omega), lt_e, nI_1]
    obtain ⟨z, τ, e, e2, e3⟩ := ih n (j + 1) (sI σ 22 0 j (σ.1 22 10 j)) (by omega) (by omega)
    refine ⟨z, τ, e, e2, fun c k i => ?_⟩
    rw [e3]
    by_cases q : c = 22 ∧ k = 0 ∧ j + 1 ≤ i ∧ i < 110
    · rw [if_pos q, if_pos (by omega), rdI, if_neg (by omega)]
    · rw [if_neg q, rdI]
      by_cases q2 : c = 22 ∧ k = 0 ∧ i = j
      · rw [if_pos q2, if_pos (by omega), q2.2.2]
      · rw [if_neg q2, if_neg (by omega)]
theorem readR_ok {σ : Mem} (hT : TR σ B len) (hf : ∀ x, ful B len = .inl x → AR x.2.1) : ∃ b τ, f11_read 0 σ = some (b, τ) ∧ τ.2 = σ.2 ∧ match ful B len with
    | .inl x => b = nI x.1 ∧ (∀ c k j, ¬ (c = 11 ∧ k = 0 ∧ 13 ≤ j ∧ j ≤ 16) → ¬ (c = 22 ∧ (k = 0 ∨ k = 10 ∨ k = 11)) → τ.1 c k j = σ.1 c k j) ∧ RV (τ.1 22 0) x.2.1 ∧ Mr (τ.1 22 0) x.2.2 ∧ ∀ j, 2 ≤ j → j < 6 → τ.1 22 0 j = 0
    | .inr f => b = -10 - nI f ∧ FR σ τ := by
  have hlen := hT.1
  obtain ⟨τ1, e1, f1, l1, k1⟩ := lookAtR hT (Nat.zero_le len)
  obtain ⟨te1, te2, te3⟩ := tE_ok (B := B) (Nat.zero_le len)
  have hT1 := hT.fr f1
  have w1 : f11_spellsSeven 0 118 105 108 108 97 103 101 τ1 = some (bI (decide (tC B len 0 = 4))) := by
    rw [show f11_spellsSeven 0 118 105 108 108 97 103 101 τ1 = _ from sevenR (k := 0) hT1 (Nat.zero_le len) l1 (by decide) rfl (by decide), word_iff (by decide)]
  unfold f11_read ful
  rw [show f11_lookAt 0 0 σ = some τ1 from e1, bnd_s, w1, bnd_s]
  by_cases z : tC B len 0 = 4
  · rw [decide_eq_true z, if_neg (show ¬ bI true = 0 by decide), if_pos z]
    obtain ⟨τ2, e2, f2, l2, k2⟩ := goBehind_ok hT1 (Nat.zero_le len) l1
    obtain ⟨ue1, ue2, ue3⟩ := tE_ok (B := B) te2
    obtain ⟨-, -, c3', -, -, c6'⟩ := rC_tC (B := B) (len := len) (i := tE B len 0)
    have hT2 := hT1.fr f2
    rw [e2, bnd_s, l2.2.2.1]
    by_cases z3 : tC B len (tE B len 0) = 2
    · rw [if_pos (show nI (rC B len (tE B len 0)) = 3 by rw [c3'.mpr z3]; rfl), if_pos z3]
      obtain ⟨τ3, e3, f3, l3, k3⟩ := goBehind_ok hT2 te2 l2
      rw [e3, bnd_s, begin11_ok (k0 := 10) (by decide) ⟨by decide, by decide⟩, bnd_s]
      obtain ⟨τ4, h4⟩ : ∃ τ4 : Mem, τ4 = (fun c k j => bgnR 10 τ3 c k j, τ3.2) := ⟨_, rfl⟩
      have f4 : FR τ3 τ4 := by
        rw [h4]
        refine ⟨rfl, fun c k j q1 q2 => ?_⟩
        show bgnR 10 τ3 c k j = _
        unfold bgnR
        rw [if_neg (by omega)]
      have z4 : ∀ j, j < 110 → τ4.1 22 10 j = 0 := fun j hj => by
        rw [h4]
        show bgnR 10 τ3 22 10 j = 0
        unfold bgnR
        rw [if_pos ⟨rfl, rfl, hj⟩]
      have l4 : LR B len (tE B len (tE B len 0)) (τ4.1 11 0) := by
        have : τ4.1 11 0 = τ3.1 11 0 := by
          funext j
          rw [h4]
          show bgnR 10 τ3 11 0 j = _
          unfold bgnR
          rw [if_neg (by omega)]
        rw [this]; exact l3
      rw [← h4]
      have hR4 : RR τ4 d0 := RR.mk ⟨⟨z4 0 (by decide), z4 1 (by decide)⟩, fun y hy => ⟨z4 _ (by omega), z4 _ (by omega)⟩, fun k hk => absurd hk (Nat.not_lt_zero k), fun k hk => absurd hk (Nat.not_lt_zero k)⟩ ⟨z4 6 (by decide), z4 7 (by decide), z4 8 (by decide), z4 9 (by decide)⟩ (fun j j1 j2 => z4 j (by omega))
      have fa := ((f1.tr f2).tr f3).tr f4
      obtain ⟨τ5, f5, m5⟩ := read_lp (B := B) (len := len) 200 2000 1 (tE B len (tE B len 0)) τ4 d0 ue2 (by omega) (by omega) (hT.fr fa) l4 d0_ok hR4
      cases hp : prs B len 200 1 (tE B len (tE B len 0)) d0 with
      | inr f =>
        rw [hp] at m5
        rw [show l11_read_67 0 2000 1 τ4 = _ from m5, bnd_s]
        exact ⟨_, τ5, rfl, (fa.tr f5).1, rfl, fa.tr f5⟩
      | inl x =>
        rw [hp] at m5
        obtain ⟨m5, m6⟩ := m5
        rw [show l11_read_67 0 2000 1 τ4 = _ from m5, bnd_s]
        obtain ⟨zz, τ6, e6, e7, e8⟩ := copy_lp (x1 := nI x.1) 110 2000 0 τ5 (by decide) (by decide)
        refine ⟨nI x.1, τ6, ?_, e7.trans (fa.tr f5).1, rfl, fun c k j q1 q2 => ?_, ?_, ?_, fun j j1 j2 => ?_⟩
        · rw [sm_I, show l11_read_109 0 (nI x.1) 2000 0 τ5 = _ from e6, bnd_s]
        · rw [e8, if_neg (by omega)]
          exact (fa.tr f5).2 c k j q1 (by omega)
        · have hA : AR x.2.1 := hf x (by unfold ful; rw [if_pos z, if_pos z3, hp])
          exact m6.1.fr hA (fun j hj => by rw [e8, if_pos (by omega)])
        · obtain ⟨q1, q2, q3, q4⟩ := m6.2.1
          refine ⟨?_, ?_, ?_, ?_⟩
          · rw [e8, if_pos (by omega)]; exact q1
          · rw [e8, if_pos (by omega)]; exact q2
          · rw [e8, if_pos (by omega)]; exact q3
          · rw [e8, if_pos (by omega)]; exact q4
        · rw [e8, if_pos (by omega)]; exact m6.2.2 j j1 j2
    · rw [if_neg (neR _ 3 (fun q => z3 (c3'.mp q))), if_neg z3, l2.1]
      exact ⟨_, τ2, rfl, (f1.tr f2).1, rfl, f1.tr f2⟩
  · rw [decide_eq_false z, if_pos (show bI false = 0 by rfl), if_neg z, l1.1]
    exact ⟨_, τ1, rfl, f1.1, rfl, f1⟩
end READ
