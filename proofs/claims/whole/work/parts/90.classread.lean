/-! the class reads -/
theorem readNumbers_ok {B : Nat → Nat} {len w i : Nat} {A : Nat → Nat} {σ : Mem} (hA : A 0 ≤ 6) (hw : 5 ≤ w ∧ w ≤ 9) (hT : TX σ B len) (hi : i ≤ len) (h5 : σ.1 8 0 5 = nI i) (h8 : σ.1 7 8 3 = nI (A 0)) :
    ∃ b τ, f8_readNumbers 0 (nI w) 1 σ = some (b, τ) ∧ Fq σ τ ∧ Fx σ τ ∧ match rdn B len (bnds w A) i with
      | .inl r => b = 1 ∧ τ.1 8 0 5 = nI r.2 ∧ ∀ k, k < (bnds w A).length → τ.1 21 2 k = nI (r.1.getD k 0)
      | .inr f => b = 0 ∧ τ.1 8 0 4 = nI f := by
  obtain ⟨n1, n2⟩ := num_C w (by omega) hw.2 A
  obtain ⟨o, τ, o1, o2, o3, o4, -, o6⟩ := readNumbers_lp hA hw (bnds w A) 2000 0 i σ (Nat.zero_add _) (fun k _ => by rw [Nat.zero_add]) (by omega) hT hi h5 h8
  unfold f8_readNumbers
  rw [n1, show l8_readNumbers_8 0 (nI w) 1 (nI (bnds w A).length) 2000 0 σ = _ from o1, bnd_s]
  cases hr : rdn B len (bnds w A) i with
  | inl r =>
    rw [hr] at o6
    obtain ⟨p1, p2, p3⟩ := o6
    rcases o with o | o
    · have o2 : o.2 = τ := o2
      refine ⟨1, τ, ?_, o3, o4, rfl, p2, fun k hk => by have := p3 k hk; rw [Nat.zero_add] at this; exact this⟩
      rw [← o2]; rfl
    · exact absurd p1 (show ¬ false = true by decide)
  | inr f =>
    rw [hr] at o6
    obtain ⟨p1, p2⟩ := o6
    rcases o with o | o
    · exact absurd p1 (show ¬ (7 : Int32) = 0 by decide)
    · have o2 : o.2 = τ := o2
      have p1 : o.1 = 0 := p1
      refine ⟨0, τ, ?_, o3, o4, rfl, p2⟩
      rw [← o2, ← p1]; rfl
theorem mayStand_ok {σ : Mem} {A : Nat → Nat} {w : Nat} (hT : TC 1 σ) (hH : HV 1 σ A) (hA : A 0 ≤ 6 ∧ A 1 ≤ 6) (hw : w ≤ 9) : f8_mayStand (nI w) 1 0 σ = bI (mayw w A) := by
  have k8 : σ.1 7 (7 * 1 + 1) 3 = nI (A 0) := hH.2.1.1
  have k9 : σ.1 7 (7 * 1 + 2) 3 = nI (A 1) := hH.2.2.1.1
  have m8 : σ.1 7 (7 * 1 + 1) 0 = nI 6 := (hT 1 (by decide)).1
  have m9 : σ.1 7 (7 * 1 + 2) 0 = nI 6 := (hT 2 (by decide)).1
  unfold f8_mayStand f7_isFull mayw
  rw [if_pos (show (0 : Int32) = 0 from rfl), k8, k9, m8, m9]
  by_cases w5 : w = 5
  · rw [if_pos (by rw [w5]; rfl), if_pos w5]; rfl
  rw [if_neg (neR w 5 w5), if_neg w5]
  by_cases w6 : w = 6
  · rw [if_pos (by rw [w6]; rfl), if_pos w6]
    by_cases z : A 0 < 6
    · rw [if_pos (nI_lt z (by decide)), blt_to z]; rfl
    · rw [if_neg (nI_nlt (by omega) (by omega)), show Nat.blt (A 0) 6 = false from Bool.eq_false_iff.mpr (fun q => z (blt_of q))]; rfl
  rw [if_neg (neR w 6 w6), if_neg w6]
  by_cases w7 : w = 7
  · rw [if_pos (by rw [w7]; rfl), if_pos w7]
    by_cases z : A 1 < 6
    · rw [if_pos (nI_lt z (by decide)), blt_to z]; rfl
    · rw [if_neg (nI_nlt (by omega) (by omega)), show Nat.blt (A 1) 6 = false from Bool.eq_false_iff.mpr (fun q => z (blt_of q))]; rfl
  rw [if_neg (neR w 7 w7), if_neg w7]
  by_cases w8 : w = 8
  · rw [if_pos (by rw [w8]; rfl), if_pos w8]; rfl
  rw [if_neg (neR w 8 w8), if_neg w8]
  by_cases w9 : w = 9
  · rw [if_pos (by rw [w9]; rfl), if_pos w9]; rfl
  rw [if_neg (neR w 9 w9), if_neg w9]; rfl
theorem mayw_t {w : Nat} {A : Nat → Nat} (h : mayw w A = true) : 5 ≤ w ∧ w ≤ 9 := by
  unfold mayw at h
  by_cases w5 : w = 5
  · omega
  rw [if_neg w5] at h
  by_cases w6 : w = 6
  · omega
  rw [if_neg w6] at h
  by_cases w7 : w = 7
  · omega
  rw [if_neg w7] at h
  by_cases w8 : w = 8
  · omega
  rw [if_neg w8] at h
  by_cases w9 : w = 9
  · omega
  rw [if_neg w9] at h
  exact absurd h (by decide)
theorem rdn_f {B : Nat → Nat} {len : Nat} : ∀ (l : List (Nat × Nat)) (i f : Nat), i ≤ len → rdn B len l i = .inr f → f ≤ len
  | [], i, f, hi, h => by
    have h : (Sum.inl ([], i) : (List Nat × Nat) ⊕ Nat) = .inr f := h
    cases h
  | b :: l, i, f, hi, h => by
    have h : (if fitv B len i b.1 b.2 = true then (match rdn B len l (tE B len i) with | .inl r => .inl (tV B len i :: r.1, r.2) | .inr f => .inr f) else .inr (tS B len i) : (List Nat × Nat) ⊕ Nat) = .inr f := h
    by_cases z : fitv B len i b.1 b.2 = true
    · rw [if_pos z] at h
      cases hr : rdn B len l (tE B len i) with
      | inr g =>
        rw [hr] at h
        cases h
        exact rdn_f l _ _ (tE_ok hi).2.1 hr
      | inl r => rw [hr] at h; cases h
    · rw [if_neg z] at h
      cases h
      exact (tS_ok hi).2
theorem tell_lp {B : Nat → Nat} {len : Nat} :
    ∀ (r n items i : Nat) (σ : Mem) (d : DT), 1 ≤ items → items ≤ i → i ≤ len → len < i + r → r ≤ n → TX σ B len → σ.1 8 0 5 = nI i → DOK d → DR σ d →
      ∃ b τ, l8_tellTo_7 0 1 n (nI items) σ = some (.inr (b, τ)) ∧ Fq σ τ ∧ match prs B len r items i d with
        | .inl x => b = nI x.1 ∧ x.1 ≤ 150 ∧ DR τ x.2 ∧ DOK x.2
        | .inr f => b = -10 - nI f ∧ f ≤ len := by
  intro r
  induction r with
  | zero =>
    intro n items i σ d h1 h2 h3 h4
    omega
  | succ r ih =>
    intro n items i σ d h1 h2 h3 h4 h5 hT k5 hd hD
    obtain ⟨n, rfl⟩ : ∃ q, n = q + 1 := ⟨n - 1, by omega⟩
    have hlen := hT.1
    obtain ⟨τ1, e1, f1, g3, g4, g5, g6⟩ := nextToken_ok hT k5 h3
    obtain ⟨te1, te2, te3⟩ := tE_ok (B := B) h3
    obtain ⟨ts1, ts2⟩ := tS_ok (B := B) h3
    have hc := tC_le (B := B) (len := len) (i := i)
    have hD1 : DR τ1 d := hD.fx f1.x
    have hT1 : TX τ1 B len := hT.fr f1
    rw [l8_tellTo_7, if_neg (nltL 150 items), e1, bnd_s, g3, g4]
    unfold prs
    by_cases z : tC B len i = 0
    · rw [if_pos (by rw [z]; rfl), if_neg (nleR items 0), if_pos z]
      exact ⟨_, τ1, rfl, f1.q, rfl, by omega, hD1, hd⟩
    · have hsl : tS B len i < len := by
        by_cases q : tS B len i < len
        · exact q
        · refine absurd ?_ z
          unfold tC
          rw [if_pos (by omega)]
      rw [if_neg (neR _ 0 z), if_neg (neR items 0 (by omega)), lt_e, if_neg z, mayStand_ok hD1.1 hD1.2.1 hd.1.1 hc]
      by_cases z2 : mayw (tC B len i) d.1 = true
      · have hw := mayw_t z2
        rw [if_pos z2, z2, if_neg (show ¬ bI true = 0 by decide)]
        obtain ⟨b, τ2, e2, q2, x2, m2⟩ := readNumbers_ok (A := d.1) (w := tC B len i) hd.1.1.1 hw hT1 te2 g5 hD1.2.1.2.1.1
        have hD2 : DR τ2 d := hD1.fx x2
        have hT2 : TX τ2 B len := hT1.fq q2
        rw [e2, bnd_s]
        unfold itm
        cases hr : rdn B len (bnds (tC B len i) d.1) (tE B len i) with
        | inr f =>
          rw [hr] at m2
          obtain ⟨rfl, m2⟩ := m2
          refine ⟨_, τ2, ?_, f1.q.tr q2, rfl, rdn_f _ _ _ te2 hr⟩
          show some (Sum.inr (-10 - τ2.1 8 0 4, τ2)) = _
          rw [m2]
        | inl x =>
          rw [hr] at m2
          obtain ⟨rfl, m5, m21⟩ := m2
          obtain ⟨y1, y2, y3, y4⟩ := rdn_ok (bnds (tC B len i) d.1) (tE B len i) te2 x.1 x.2 hr
          obtain ⟨τ3, e3, f3, k3, k4, k5', k6⟩ := nextToken_ok hT2 m5 y2
          obtain ⟨ue1, ue2, ue3⟩ := tE_ok (B := B) y2
          obtain ⟨us1, us2⟩ := tS_ok (B := B) y2
          have hc2 := tC_le (B := B) (len := len) (i := x.2)
          have hD3 : DR τ3 d := hD2.fx f3.x
          rw [if_neg (show ¬ (1 : Int32) = 0 by decide)]
          unfold f8_readStop
          rw [e3, bnd_s, k3]
          show ∃ b τ, _ ∧ _ ∧ match (match (if tC B len x.2 = 2 then .inl (tE B len x.2, eff (tC B len i) x.1 d) else .inr (tS B len x.2) : (Nat × DT) ⊕ Nat) with
            | .inl r' => prs B len r (items + 1) r'.1 r'.2
            | .inr f => .inr f : (Nat × DT) ⊕ Nat) with
            | .inl x => b = nI x.1 ∧ x.1 ≤ 150 ∧ DR τ x.2 ∧ DOK x.2
            | .inr f => b = -10 - nI f ∧ f ≤ len
          by_cases z3 : tC B len x.2 = 2
          · rw [if_pos (by rw [z3]; rfl), bnd_s, if_neg (show ¬ (1 : Int32) = 0 by decide), if_pos z3]
            obtain ⟨τ4, e4, hD4, q4, c8⟩ := tell_ok hd hD3 hw z2 y4 (fun k hk => by rw [f3.2 _ _ _ (by omega)]; exact m21 k hk)
            rw [e4, bnd_s, nI_1]
            obtain ⟨b, τ, e5, q5, m5⟩ := ih n (items + 1) (tE B len x.2) τ4 (eff (tC B len i) x.1 d) (by omega) (by have := te3 hsl; omega) ue2 (by have := te3 hsl; omega) (by omega) ((hT2.fr f3).fq q4) (by rw [c8]; exact k5') (eff_ok hd z2 y3 y4) hD4
            exact ⟨b, τ, e5, f1.q.tr (q2.tr (f3.q.tr (q4.tr q5))), m5⟩
          · rw [if_neg (neR _ 2 z3), bnd_s, if_pos (show (0 : Int32) = 0 from rfl), if_neg z3]
            refine ⟨_, τ3, ?_, f1.q.tr (q2.tr f3.q), rfl, us2⟩
            show some (Sum.inr (-10 - τ3.1 8 0 4, τ3)) = _
            rw [k4]
      · rw [if_neg z2, Bool.eq_false_iff.mpr z2, if_pos (show bI false = 0 by rfl)]
        exact ⟨_, τ1, rfl, f1.q, rfl, ts2⟩
def d0 : DT := (fun _ => 0, (0, 0, 0, 0))
def ful (B : Nat → Nat) (len : Nat) : (Nat × DT) ⊕ Nat := if tC B len 0 = 4 then (if tC B len (tE B len 0) = 2 then prs B len 200 1 (tE B len (tE B len 0)) d0 else .inr (tS B len (tE B len 0))) else .inr (tS B len 0)
theorem d0_ok : DOK d0 := ⟨⟨⟨Nat.zero_le _, Nat.zero_le _⟩, fun _ _ => ⟨Nat.zero_le _, Nat.zero_le _⟩, fun _ _ => ⟨Nat.zero_le _, Nat.zero_le _, Nat.zero_le _⟩, fun _ _ => Nat.zero_le _⟩, fun k hk => absurd hk (Nat.not_lt_zero k), ⟨Nat.one_pos, Nat.one_pos, Nat.zero_le _⟩, Nat.zero_le _⟩
theorem tellTo_ok {σ : Mem} {B : Nat → Nat} {len : Nat} (hT : TX σ B len) (hD : DR σ d0) : ∃ b τ, f8_tellTo 0 1 σ = some (b, τ) ∧ Fq σ τ ∧ match ful B len with
        | .inl x => b = nI x.1 ∧ x.1 ≤ 150 ∧ DR τ x.2 ∧ DOK x.2
        | .inr f => b = -10 - nI f ∧ f ≤ len := by
  have hlen := hT.1
  have f0 : F8 σ (sI σ 8 0 5 0) := F8.sI (by omega)
  obtain ⟨τ1, e1, f1, g3, g4, g5, g6⟩ := nextToken_ok (hT.fr f0) (show (sI σ 8 0 5 0).1 8 0 5 = nI 0 by rw [rdI, if_pos ⟨rfl, rfl, rfl⟩]; rfl) (Nat.zero_le len)
  have f01 := f0.tr f1
  obtain ⟨te1, te2, te3⟩ := tE_ok (B := B) (Nat.zero_le len)
  obtain ⟨ts1, ts2⟩ := tS_ok (B := B) (Nat.zero_le len)
  have hc := tC_le (B := B) (len := len) (i := 0)
  have hD1 : DR τ1 d0 := hD.fx f01.x
  have hT1 : TX τ1 B len := hT.fr f01
  unfold f8_tellTo
  rw [lt_e, show (2000 : Nat) = 1999 + 1 from rfl, l8_tellTo_7, if_neg (show ¬ (150 : Int32) < 0 by decide), e1, bnd_s, g3, g4, if_pos (show (0 : Int32) ≤ 0 by decide), if_pos (show (0 : Int32) = 0 from rfl), lt_e]
  have hm : f8_mayStand (nI (tC B len 0)) 1 1 τ1 = if nI (tC B len 0) = 4 then 1 else 0 := by
    unfold f8_mayStand
    rw [if_neg (by decide)]
  rw [hm, ite_self]
  unfold ful
  by_cases z : tC B len 0 = 4
  · have hsl : tS B len 0 < len := by
      by_cases q : tS B len 0 < len
      · exact q
      · refine absurd z ?_
        unfold tC
        rw [if_pos (by omega)]; decide
    rw [if_pos (show nI (tC B len 0) = 4 by rw [z]; rfl), if_neg (show ¬ (1 : Int32) = 0 by decide), if_pos z, z]
    have hn : f8_readNumbers 0 (nI 4) 1 τ1 = some (1, τ1) := by
      unfold f8_readNumbers
      rw [show f8_numbersOf (nI 4) = 0 from rfl, show (2000 : Nat) = 1999 + 1 from rfl, l8_readNumbers_8, if_pos (by decide), bnd_s]
      rfl
    obtain ⟨τ3, e3, f3, k3, k4, k5, k6⟩ := nextToken_ok hT1 g5 te2
    obtain ⟨ue1, ue2, ue3⟩ := tE_ok (B := B) te2
    obtain ⟨us1, us2⟩ := tS_ok (B := B) te2
    have hc2 := tC_le (B := B) (len := len) (i := tE B len 0)
    have hD3 : DR τ3 d0 := hD1.fx f3.x
    rw [hn, bnd_s, if_neg (show ¬ (1 : Int32) = 0 by decide)]
    unfold f8_readStop
    rw [e3, bnd_s, k3]
    by_cases z3 : tC B len (tE B len 0) = 2
    · rw [if_pos (show nI (tC B len (tE B len 0)) = 2 by rw [z3]; rfl), bnd_s, if_neg (show ¬ (1 : Int32) = 0 by decide), if_pos z3, show f8_tell 0 (nI 4) 1 τ3 = some τ3 from rfl, bnd_s]
      obtain ⟨b, τ, e5, q5, m5⟩ := tell_lp (B := B) (len := len) 200 1999 1 (tE B len (tE B len 0)) τ3 d0 (by omega) (by have := te3 hsl; omega) ue2 (by omega) (by omega) (hT1.fr f3) k5 d0_ok hD3
      rw [show l8_tellTo_7 0 1 1999 (0 + 1) τ3 = _ from e5, bnd_s]
      exact ⟨b, τ, rfl, f01.q.tr (f3.q.tr q5), m5⟩
    · rw [if_neg (neR _ 2 z3), bnd_s, if_pos (show (0 : Int32) = 0 from rfl), if_neg z3, k4, bnd_s]
      exact ⟨_, τ3, rfl, f01.q.tr f3.q, rfl, us2⟩
  · rw [if_neg (neR (tC B len 0) 4 z), if_pos (show (0 : Int32) = 0 from rfl), if_neg z, bnd_s]
    exact ⟨_, τ1, rfl, f01.q, rfl, ts2⟩
