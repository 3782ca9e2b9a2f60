/-! the reference's tokens -/
def TR (σ : Mem) (B : Nat → Nat) (len : Nat) : Prop := len ≤ 150 ∧ σ.1 11 0 12 = nI len ∧ ∀ i, i < len → σ.1 22 9 i = nI (B i) ∧ B i ≤ 127
def LR (B : Nat → Nat) (len i : Nat) (f : Nat → Int32) : Prop := f 13 = nI (tS B len i) ∧ f 14 = nI (tE B len i - tS B len i) ∧ f 15 = nI (rC B len i) ∧ (rC B len i = 2 → f 16 = nI (tV B len i))
def K11 (f g : Nat → Int32) : Prop := ∀ j, ¬ (13 ≤ j ∧ j ≤ 16) → g j = f j
theorem smallN {b : Nat} (hb : b ≤ 127) : f11_isSmall (nI b) = bI (inR 97 122 b) := by
  unfold f11_isSmall
  rw [show f11_in (nI b).toInt64 97 122 = f10_within (nI b) (nI 97) (nI 122) from in_within (nI b) 97 122, wiN (by omega) (by decide) (by decide)]
  rfl
theorem figureN {b : Nat} (hb : b ≤ 127) : f11_isFigure (nI b) = bI (inR 48 57 b) := by
  unfold f11_isFigure
  rw [show f11_in (nI b).toInt64 48 57 = f10_within (nI b) (nI 48) (nI 57) from in_within (nI b) 48 57, wiN (by omega) (by decide) (by decide)]
  rfl
section LOOK
variable {σ : Mem} {B : Nat → Nat} {len : Nat}
theorem blanks (hlen : len ≤ 150) (hB : ∀ i, i < len → σ.1 22 9 i = nI (B i) ∧ B i ≤ 127) :
    ∀ (r n i : Nat) (f : Nat → Int32), i ≤ len → len ≤ i + r → r < n → f 13 = nI i → f 12 = nI len → ∃ f', l11_lookAt_5 0 n (sA σ 11 0 f) = some (sA σ 11 0 f') ∧ f' 13 = nI (rE B len 32 32 r i) ∧ ∀ j, ¬ j = 13 → f' j = f j := by
  intro r
  induction r with
  | zero =>
    intro n i f h1 h2 h3 h4 h5
    obtain ⟨n, rfl⟩ : ∃ q, n = q + 1 := ⟨n - 1, by omega⟩
    refine ⟨f, ?_, h4, fun _ _ => rfl⟩
    rw [l11_lookAt_5, sA_at, h4, h5, if_pos (nI_le (by omega) (by omega))]
  | succ r ih =>
    intro n i f h1 h2 h3 h4 h5
    obtain ⟨n, rfl⟩ : ∃ q, n = q + 1 := ⟨n - 1, by omega⟩
    rw [l11_lookAt_5, sA_at, h4, h5]
    unfold rE
    by_cases z : i < len
    · obtain ⟨b1, b2⟩ := hB i z
      rw [if_neg (nI_ge z (by omega)), inb_nI (show i < 150 by omega) (by decide), ck_t, nI_clamp (by omega), show (sA σ 11 0 f).1 22 9 = σ.1 22 9 from rfl, b1]
      by_cases w : B i = 32
      · rw [if_pos (by rw [w]; rfl), if_pos ⟨z, by rw [w]; rfl⟩, lt_e, sI_sA, nI_1]
        obtain ⟨f', e, e2, e3⟩ := ih n (i + 1) (upd f 13 (nI (i + 1))) (by omega) (by omega) (by omega) up_s (by rw [up_n (by decide)]; exact h5)
        exact ⟨f', e, e2, fun j hj => by rw [e3 j hj, up_n hj]⟩
      · rw [if_neg (neR (B i) 32 w), if_neg (fun q => w (by have := inR_t.mp q.2; omega))]
        exact ⟨f, rfl, h4, fun _ _ => rfl⟩
    · rw [if_pos (nI_le (by omega) (by omega)), if_neg (fun q => z q.1)]
      exact ⟨f, rfl, h4, fun _ _ => rfl⟩
theorem runs (hlen : len ≤ 150) (hB : ∀ i, i < len → σ.1 22 9 i = nI (B i) ∧ B i ≤ 127) {s t lo hi : Nat} (ht : t = 1 ∧ lo = 97 ∧ hi = 122 ∨ t = 2 ∧ lo = 48 ∧ hi = 57) :
    ∀ (r n p : Nat) (f : Nat → Int32), s ≤ p → p ≤ len → len ≤ p + r → r + 1 < n → f 13 = nI s → f 14 = nI (p - s) → f 12 = nI len → f 15 = nI t →
      ∃ z f', l11_lookAt_136 0 n 1 (sA σ 11 0 f) = some (z, sA σ 11 0 f') ∧ f' 14 = nI (rE B len lo hi r p - s) ∧ ∀ j, ¬ j = 14 → f' j = f j := by
  intro r
  induction r with
  | zero =>
    intro n p f h0 h1 h2 h3 h4 h5 h6 h7
    obtain ⟨n, rfl⟩ : ∃ q, n = q + 1 := ⟨n - 1, by omega⟩
    refine ⟨1, f, ?_, h5, fun _ _ => rfl⟩
    rw [l11_lookAt_136, if_neg (by decide), sA_at, h4, h5, h6, nI_add, if_pos (nI_le (by omega) (by omega))]
  | succ r ih =>
    intro n p f h0 h1 h2 h3 h4 h5 h6 h7
    obtain ⟨n, rfl⟩ : ∃ q, n = q + 1 := ⟨n - 1, by omega⟩
    rw [l11_lookAt_136, if_neg (by decide), sA_at, h4, h5, h6, h7, nI_add, show s + (p - s) = p by omega]
    unfold rE
    by_cases z : p < len
    · obtain ⟨b1, b2⟩ := hB p z
      have hw : (if nI t = 1 then f11_isSmall (nI (B p)) else f11_isFigure (nI (B p))) = bI (inR lo hi (B p)) := by
        rcases ht with ⟨rfl, rfl, rfl⟩ | ⟨rfl, rfl, rfl⟩
        · rw [if_pos (by rfl), smallN b2]
        · rw [if_neg (by decide), figureN b2]
      rw [if_neg (nI_ge z (by omega)), inb_nI (show p < 150 by omega) (by decide), ck_t, nI_clamp (by omega), show (sA σ 11 0 f).1 22 9 = σ.1 22 9 from rfl, b1, lt_e, hw, lt_e]
      by_cases w : inR lo hi (B p) = true
      · rw [w, if_neg (show ¬ bI true = 0 by decide), if_pos ⟨z, rfl⟩, lt_e, lt_e, sI_sA, nI_1]
        obtain ⟨z', f', e, e2, e3⟩ := ih n (p + 1) (upd f 14 (nI (p - s + 1))) (by omega) (by omega) (by omega) (by omega) (by rw [up_n (by decide)]; exact h4) (by rw [up_s]; congr 1; omega) (by rw [up_n (by decide)]; exact h6) (by rw [up_n (by decide)]; exact h7)
        exact ⟨z', f', e, e2, fun j hj => by rw [e3 j hj, up_n hj]⟩
      · rw [Bool.eq_false_iff.mpr w, if_pos (show bI false = 0 by rfl), if_neg (fun q => absurd q.2 (by decide)), lt_e, lt_e, sI_sA]
        obtain ⟨n, rfl⟩ : ∃ q, n = q + 1 := ⟨n - 1, by omega⟩
        rw [l11_lookAt_136, if_pos (show bI false = 0 by rfl)]
        refine ⟨bI false, upd f 14 (nI (p - s) + 0), rfl, ?_, fun j hj => up_n hj⟩
        rw [up_s]
        exact nI_add (p - s) 0
    · rw [if_pos (nI_le (by omega) (by omega)), if_neg (fun q => z q.1)]
      exact ⟨1, f, rfl, h5, fun _ _ => rfl⟩
theorem lookAt_ok (h : TR σ B len) {i : Nat} (hi : i ≤ len) : ∃ f, f11_lookAt 0 (nI i) σ = some (sA σ 11 0 f) ∧ LR B len i f ∧ K11 (σ.1 11 0) f := by
  obtain ⟨hlen, h12, hB⟩ := h
  obtain ⟨s1, s2⟩ := tS_ok (B := B) hi
  obtain ⟨e1, e2, e3⟩ := tE_ok (B := B) hi
  obtain ⟨f1, g1, g2, g3⟩ := blanks (σ := σ) hlen hB 150 2000 i (upd (σ.1 11 0) 13 (nI i)) hi (by omega) (by omega) up_s (by rw [up_n (by decide)]; exact h12)
  have k12 : f1 12 = nI len := by rw [g3 12 (by decide), up_n (by decide)]; exact h12
  obtain ⟨f2, hf2⟩ : ∃ f2 : Nat → Int32, f2 = upd (upd (upd f1 14 0) 15 0) 16 0 := ⟨_, rfl⟩
  have m13 : f2 13 = nI (tS B len i) := by rw [hf2, up_n (by decide), up_n (by decide), up_n (by decide)]; exact g2
  have m12 : f2 12 = nI len := by rw [hf2, up_n (by decide), up_n (by decide), up_n (by decide)]; exact k12
  have m14 : f2 14 = nI 0 := by rw [hf2, up_n (by decide), up_n (by decide), up_s]; rfl
  have m15 : f2 15 = nI 0 := by rw [hf2, up_n (by decide), up_s]; rfl
  have m16 : f2 16 = nI 0 := by rw [hf2, up_s]; rfl
  have mk : K11 (σ.1 11 0) f2 := fun j hj => by rw [hf2, up_n (by omega), up_n (by omega), up_n (by omega), g3 j (by omega), up_n (by omega)]
  unfold f11_lookAt
  rw [lt_e, show sI σ 11 0 13 (nI i) = sA σ 11 0 (upd (σ.1 11 0) 13 (nI i)) from rfl, g1, bnd_s, lt_e, sI_sA, lt_e, sI_sA, lt_e, sI_sA, ← hf2, sA_at, m13, m12]
  by_cases z : len ≤ tS B len i
  · have c0 : rC B len i = 0 := by unfold rC; rw [if_pos z]
    have ee : tE B len i = tS B len i := by unfold tE; rw [if_pos z]
    rw [if_pos (show nI (tS B len i) = nI len by rw [show tS B len i = len by omega])]
    refine ⟨f2, rfl, ⟨m13, ?_, ?_, fun w => absurd w (by rw [c0]; decide)⟩, mk⟩
    · rw [m14, ee, Nat.sub_self]
    · rw [m15, c0]
  have hsl : tS B len i < len := by omega
  have hse := e3 hsl
  obtain ⟨b1, b2⟩ := hB (tS B len i) hsl
  obtain ⟨t, ht⟩ : ∃ t, t = (if inR 97 122 (B (tS B len i)) = true then 1 else if inR 48 57 (B (tS B len i)) = true then 2 else if B (tS B len i) = 59 then 3 else 4) := ⟨_, rfl⟩
  have hw : (if f11_isSmall (nI (B (tS B len i))) = 0 then (if f11_isFigure (nI (B (tS B len i))) = 0 then (if nI (B (tS B len i)) = 59 then (3 : Int32) else 4) else 2) else 1) = nI t := by
    rw [ht, smallN b2, figureN b2]
    cases inR 97 122 (B (tS B len i)) with
    | true => rfl
    | false =>
      rw [if_pos (show bI false = 0 by rfl)]
      cases inR 48 57 (B (tS B len i)) with
      | true => rfl
      | false =>
        rw [if_pos (show bI false = 0 by rfl)]
        by_cases w : B (tS B len i) = 59
        · rw [w]; rfl
        · rw [if_neg (neR _ 59 w), if_neg (by decide), if_neg (by decide), if_neg w]; rfl
  have t4 : t ≤ 4 := by
    rw [ht]
    repeat' split
    all_goals omega
  rw [if_neg (fun q => by have := (nI_eq (by omega) (by omega)).mp q; omega), inb_nI (show tS B len i < 150 by omega) (by decide), ck_t, nI_clamp (by omega), show (sA σ 11 0 f2).1 22 9 = σ.1 22 9 from rfl, b1, lt_e, hw, lt_e, sI_sA, lt_e, sI_sA, lt_e, sA_at, up_n (by decide), up_s]
  obtain ⟨f3, hf3⟩ : ∃ f3 : Nat → Int32, f3 = upd (upd f2 15 (nI t)) 14 1 := ⟨_, rfl⟩
  rw [← hf3]
  have q13 : f3 13 = nI (tS B len i) := by rw [hf3, up_n (by decide), up_n (by decide)]; exact m13
  have q12 : f3 12 = nI len := by rw [hf3, up_n (by decide), up_n (by decide)]; exact m12
  have q14 : f3 14 = nI 1 := by rw [hf3, up_s]; rfl
  have q15 : f3 15 = nI t := by rw [hf3, up_n (by decide), up_s]
  have q16 : f3 16 = nI 0 := by rw [hf3, up_n (by decide), up_n (by decide)]; exact m16
  have qk : K11 (σ.1 11 0) f3 := fun j hj => by rw [hf3, up_n (by omega), up_n (by omega)]; exact mk j hj
  have long : ∃ z f4, l11_lookAt_136 0 2000 (if 3 ≤ nI t then 0 else 1) (sA σ 11 0 f3) = some (z, sA σ 11 0 f4) ∧ f4 14 = nI (tE B len i - tS B len i) ∧ ∀ j, ¬ j = 14 → f4 j = f3 j := by
    by_cases w : 3 ≤ t
    · rw [if_pos (leL 3 t), show (2000 : Nat) = 1999 + 1 from rfl, l11_lookAt_136, if_pos rfl]
      refine ⟨0, f3, rfl, ?_, fun _ _ => rfl⟩
      have n1 : ¬ inR 97 122 (B (tS B len i)) = true := fun q => by rw [if_pos q] at ht; omega
      have n2 : ¬ inR 48 57 (B (tS B len i)) = true := fun q => by rw [if_neg n1, if_pos q] at ht; omega
      rw [q14, show tE B len i = tS B len i + 1 by unfold tE; rw [if_neg z, if_neg n1, if_neg n2]]
      congr 1; omega
    · rw [if_neg (nleL 3 t)]
      by_cases w1 : inR 97 122 (B (tS B len i)) = true
      · rw [if_pos w1] at ht
        obtain ⟨z', f4, l1, l2, l3⟩ := runs (σ := σ) (s := tS B len i) hlen hB (Or.inl ⟨ht, rfl, rfl⟩) 149 2000 (tS B len i + 1) f3 (by omega) (by omega) (by omega) (by omega) q13 (by rw [q14]; congr 1; omega) q12 q15
        refine ⟨z', f4, l1, ?_, l3⟩
        rw [l2, show tE B len i = rE B len 97 122 150 (tS B len i) by unfold tE; rw [if_neg z, if_pos w1]]
        rw [show rE B len 97 122 150 (tS B len i) = rE B len 97 122 149 (tS B len i + 1) from by
          show (if tS B len i < len ∧ inR 97 122 (B (tS B len i)) = true then rE B len 97 122 149 (tS B len i + 1) else tS B len i) = _
          rw [if_pos ⟨hsl, w1⟩]]
      · rw [if_neg w1] at ht
        have w2 : inR 48 57 (B (tS B len i)) = true := by
          by_cases w2 : inR 48 57 (B (tS B len i)) = true
          · exact w2
          · rw [if_neg w2] at ht
            split at ht <;> omega
        rw [if_pos w2] at ht
        obtain ⟨z', f4, l1, l2, l3⟩ := runs (σ := σ) (s := tS B len i) hlen hB (Or.inr ⟨ht, rfl, rfl⟩) 149 2000 (tS B len i + 1) f3 (by omega) (by omega) (by omega) (by omega) q13 (by rw [q14]; congr 1; omega) q12 q15
        refine ⟨z', f4, l1, ?_, l3⟩
        rw [l2, show tE B len i = rE B len 48 57 150 (tS B len i) by unfold tE; rw [if_neg z, if_neg w1, if_pos w2]]
        rw [show rE B len 48 57 150 (tS B len i) = rE B len 48 57 149 (tS B len i + 1) from by
          show (if tS B len i < len ∧ inR 48 57 (B (tS B len i)) = true then rE B len 48 57 149 (tS B len i + 1) else tS B len i) = _
          rw [if_pos ⟨hsl, w2⟩]]
  obtain ⟨z4, f4, l1, l2, l3⟩ := long
  rw [lt_e, l1, bnd_s]
  have r13 : f4 13 = nI (tS B len i) := by rw [l3 _ (by decide)]; exact q13
  have r15 : f4 15 = nI t := by rw [l3 _ (by decide)]; exact q15
  have r16 : f4 16 = nI 0 := by rw [l3 _ (by decide)]; exact q16
  have rk : K11 (σ.1 11 0) f4 := fun j hj => by rw [l3 j (by omega)]; exact qk j hj
  have valu : ∃ z f5, l11_lookAt_218 0 2000 0 (sA σ 11 0 f4) = some (z, sA σ 11 0 f5) ∧ (t = 2 → f5 16 = nI (tV B len i)) ∧ ∀ j, ¬ j = 16 → f5 j = f4 j := by
    by_cases w : t = 2
    · have n1 : ¬ inR 97 122 (B (tS B len i)) = true := fun q => by rw [if_pos q] at ht; omega
      have n2 : inR 48 57 (B (tS B len i)) = true := by
        by_cases w2 : inR 48 57 (B (tS B len i)) = true
        · exact w2
        · rw [if_neg n1, if_neg w2] at ht
          split at ht <;> omega
      obtain ⟨ee, dv⟩ := digit_val hi hsl n1 n2
      obtain ⟨v1, v2⟩ := dv (tS B len i) (Nat.le_refl _) hse
      rw [show (2000 : Nat) = 1998 + 1 + 1 from rfl, l11_lookAt_218, sA_at, l2, if_neg (nleR _ 0), if_neg (by decide), r15, w, if_pos (by rfl), r13, r16, show nI (tS B len i) + 0 = nI (tS B len i) from nI_add _ 0, inb_nI (show tS B len i < 150 by omega) (by decide), ck_t, nI_clamp (by omega), show (sA σ 11 0 f4).1 22 9 = σ.1 22 9 from rfl, b1, lt_e, sI_sA, show (10 : Int32) * nI 0 + nI (B (tS B len i)) - 48 = nI (B (tS B len i) - 48) from by
        rw [show (10 : Int32) * nI 0 = nI 0 from pk_mul 10 0, nI_add, Nat.zero_add]
        exact pk_sub (b := 48) v1]
      have x14 : upd f4 16 (nI (B (tS B len i) - 48)) 14 = nI (tE B len i - tS B len i) := by rw [up_n (by decide)]; exact l2
      rw [show (0 : Int32) + 1 = nI 1 from rfl, l11_lookAt_218, sA_at, x14]
      by_cases w3 : tE B len i - tS B len i ≤ 1
      · rw [if_pos (nI_le w3 (by omega))]
        refine ⟨nI 1, _, rfl, fun _ => ?_, fun j hj => up_n hj⟩
        rw [up_s]
        unfold tV
        rw [if_pos w3]
      · obtain ⟨v3, v4⟩ := dv (tS B len i + 1) (by omega) (by omega)
        obtain ⟨c1, c2⟩ := hB (tS B len i + 1) (by omega)
        rw [if_neg (nI_ge (by omega) (by omega)), if_neg (by decide), up_n (by decide), r15, w, if_pos (by rfl), up_n (by decide), r13, up_s, nI_add, inb_nI (show tS B len i + 1 < 150 by omega) (by decide), ck_t, nI_clamp (by omega), show (sA σ 11 0 (upd f4 16 (nI (B (tS B len i) - 48)))).1 22 9 = σ.1 22 9 from rfl, c1, lt_e, sI_sA, show (10 : Int32) * nI (B (tS B len i) - 48) + nI (B (tS B len i + 1)) - 48 = nI (10 * (B (tS B len i) - 48) + (B (tS B len i + 1) - 48)) from by
          rw [show (10 : Int32) * nI (B (tS B len i) - 48) = nI (10 * (B (tS B len i) - 48)) from pk_mul 10 _, nI_add, show nI (10 * (B (tS B len i) - 48) + B (tS B len i + 1)) - 48 = nI (10 * (B (tS B len i) - 48) + B (tS B len i + 1) - 48) from pk_sub (b := 48) (by omega)]
          congr 1; omega]
        rw [show nI 1 + 1 = nI 2 from rfl, show (1998 : Nat) = 1997 + 1 from rfl, l11_lookAt_218]
        refine ⟨nI 2, upd (upd f4 16 (nI (B (tS B len i) - 48))) 16 (nI (10 * (B (tS B len i) - 48) + (B (tS B len i + 1) - 48))), ?_, fun _ => by rw [up_s]; unfold tV; rw [if_neg w3], fun j hj => by rw [up_n hj, up_n hj]⟩
        by_cases w4 : (sA σ 11 0 (upd (upd f4 16 (nI (B (tS B len i) - 48))) 16 (nI (10 * (B (tS B len i) - 48) + (B (tS B len i + 1) - 48))))).1 11 0 14 ≤ nI 2
        · rw [if_pos w4]
        · rw [if_neg w4, if_pos (by decide)]
    · rw [show (2000 : Nat) = 1999 + 1 from rfl, l11_lookAt_218, sA_at, l2, if_neg (nleR _ 0), if_neg (by decide), r15, if_neg (neR t 2 w)]
      exact ⟨0, f4, rfl, fun q => absurd q w, fun _ _ => rfl⟩
  obtain ⟨z5, f5, u1, u2, u3⟩ := valu
  rw [u1, bnd_s]
  have x15 : f5 15 = nI t := by rw [u3 _ (by decide)]; exact r15
  have x14 : f5 14 = nI (tE B len i - tS B len i) := by rw [u3 _ (by decide)]; exact l2
  show ∃ f, (lt (if (sA σ 11 0 f5).1 11 0 15 = 2 then (if (sA σ 11 0 f5).1 11 0 14 ≤ 2 then (sA σ 11 0 f5).1 11 0 15 else 4) else (sA σ 11 0 f5).1 11 0 15) fun w46 => lt (sI (sA σ 11 0 f5) 11 0 15 w46) fun σ50 => some σ50) = some (sA σ 11 0 f) ∧ _
  rw [sA_at, x15, x14]
  have hr : (if nI t = 2 then (if nI (tE B len i - tS B len i) ≤ 2 then nI t else 4) else nI t) = nI (rC B len i) := by
    unfold rC
    rw [if_neg z]
    by_cases w1 : inR 97 122 (B (tS B len i)) = true
    · rw [if_pos w1] at ht ⊢
      rw [ht]; rfl
    · rw [if_neg w1] at ht ⊢
      by_cases w2 : inR 48 57 (B (tS B len i)) = true
      · rw [if_pos w2] at ht ⊢
        rw [ht, if_pos (by rfl)]
        by_cases w3 : tE B len i - tS B len i ≤ 2
        · rw [if_pos (leR _ 2), if_pos w3]
        · rw [if_neg (nleR _ 2), if_neg w3]; rfl
      · rw [if_neg w2] at ht ⊢
        by_cases w3 : B (tS B len i) = 59
        · rw [if_pos w3] at ht ⊢
          rw [ht]; rfl
        · rw [if_neg w3] at ht ⊢
          rw [ht]; rfl
  rw [hr, lt_e, lt_e, sI_sA]
  refine ⟨_, rfl, ⟨?_, ?_, ?_, fun w => ?_⟩, fun j hj => ?_⟩
  · rw [up_n (by decide), u3 _ (by decide)]; exact r13
  · rw [up_n (by decide)]; exact x14
  · rw [up_s]
  · rw [up_n (by decide)]
    refine u2 ?_
    unfold rC at w
    rw [if_neg z] at w
    by_cases w1 : inR 97 122 (B (tS B len i)) = true
    · rw [if_pos w1] at w; exact absurd w (by decide)
    · rw [if_neg w1] at w ht
      by_cases w2 : inR 48 57 (B (tS B len i)) = true
      · rw [if_pos w2] at ht; exact ht
      · rw [if_neg w2] at w
        split at w
        · exact absurd w (by decide)
        · exact absurd w (by decide)
  · rw [up_n (by omega), u3 j (by omega)]; exact rk j hj
end LOOK
theorem aB_down {P : Nat → Bool} : ∀ m i, i ≤ m → aB P i = false → aB P m = false
  | 0, i, h, e => by
    obtain rfl : i = 0 := by omega
    exact e
  | m + 1, i, h, e => by
    rcases (show i = m + 1 ∨ i ≤ m by omega) with w | w
    · rw [← w]; exact e
    · show (aB P m && P m) = false
      rw [aB_down m i w e]; rfl
def lsel (x2 x3 x4 x5 x6 x7 j : Int32) : Int32 := if j = 0 then x2 else if j = 1 then x3 else if j = 2 then x4 else if j = 3 then x5 else if j = 4 then x6 else x7
theorem spellsR {σ : Mem} {B : Nat → Nat} {len i k size : Nat} {x2 x3 x4 x5 x6 x7 : Int32} (h : TR σ B len) (hi : i ≤ len) (hL : LR B len i (σ.1 11 0)) (hk : k < 6) (hsz : (bwN.getD k []).length = size) (hs0 : 0 < size)
    (hsel : ∀ j, j < size → lsel x2 x3 x4 x5 x6 x7 (nI j) = nI ((bwN.getD k []).getD j 0)) (hb : ∀ j, j < size → (bwN.getD k []).getD j 0 < 1000) :
    f11_spells 0 (nI size) x2 x3 x4 x5 x6 x7 σ = some (bI (decide (rC B len i = 1) && mtc B (tS B len i) (tE B len i) k)) := by
  obtain ⟨hlen, h12, hB⟩ := h
  obtain ⟨s1, s2⟩ := tS_ok (B := B) hi
  obtain ⟨e1, e2, e3⟩ := tE_ok (B := B) hi
  obtain ⟨L13, L14, L15, -⟩ := hL
  have hs7 : size ≤ 7 := by rw [← hsz]; exact (bw_ok k hk).2
  have rc4 : rC B len i ≤ 4 := by
    unfold rC
    repeat' split
    all_goals omega
  unfold f11_spells mtc
  rw [L15, L14, hsz]
  have hw : (if nI (rC B len i) = 1 then (if nI (tE B len i - tS B len i) = nI size then (1 : Int32) else 0) else 0) = bI (decide (rC B len i = 1) && decide (tE B len i - tS B len i = size)) := by
    by_cases w : rC B len i = 1
    · rw [if_pos (by rw [w]; rfl), decide_eq_true w, Bool.true_and]
      by_cases w2 : tE B len i - tS B len i = size
      · rw [if_pos (by rw [w2]), decide_eq_true w2]; rfl
      · rw [if_neg (fun q => w2 ((nI_eq (by omega) (by omega)).mp q)), decide_eq_false w2]; rfl
    · rw [if_neg (neR _ 1 w), decide_eq_false w]; rfl
  rw [hw, lt_e]
  by_cases w : rC B len i = 1 ∧ tE B len i - tS B len i = size
  · rw [decide_eq_true w.1, decide_eq_true w.2]
    have lp : ∀ (r n j : Nat), j + r = size → r < n → ∃ z, l11_spells_26 0 (nI size) x2 x3 x4 x5 x6 x7 σ n (bI (aB (fun j => decide (B (tS B len i + j) = (bwN.getD k []).getD j 0)) j)) (nI j) = some (bI (aB (fun j => decide (B (tS B len i + j) = (bwN.getD k []).getD j 0)) size), z) := by
      intro r
      induction r with
      | zero =>
        intro n j h1 h2
        obtain ⟨n, rfl⟩ : ∃ q, n = q + 1 := ⟨n - 1, by omega⟩
        obtain rfl : j = size := by omega
        exact ⟨nI j, by rw [l11_spells_26, if_pos (nI_le (by omega) (by omega))]⟩
      | succ r ih =>
        intro n j h1 h2
        obtain ⟨n, rfl⟩ : ∃ q, n = q + 1 := ⟨n - 1, by omega⟩
        rw [l11_spells_26, if_neg (nI_ge (by omega) (by omega))]
        cases ha : aB (fun j => decide (B (tS B len i + j) = (bwN.getD k []).getD j 0)) j with
        | false =>
          rw [if_pos (show bI false = 0 by rfl), aB_down size j (by omega) ha]
          exact ⟨nI j, rfl⟩
        | true =>
          obtain ⟨b1, b2⟩ := hB (tS B len i + j) (by omega)
          have hj := hsel j (by omega)
          unfold lsel at hj
          have ihh := ih n (j + 1) (by omega) (by omega)
          rw [show aB (fun j => decide (B (tS B len i + j) = (bwN.getD k []).getD j 0)) (j + 1) = (aB (fun j => decide (B (tS B len i + j) = (bwN.getD k []).getD j 0)) j && decide (B (tS B len i + j) = (bwN.getD k []).getD j 0)) from rfl, ha, Bool.true_and] at ihh
          rw [if_neg (show ¬ bI true = 0 by decide), L13, nI_add, inb_nI (show tS B len i + j < 150 by omega) (by decide), ck_t, nI_clamp (by omega), b1, hj, lt_e, nI_1]
          by_cases w3 : B (tS B len i + j) = (bwN.getD k []).getD j 0
          · rw [if_pos (by rw [w3]), lt_e]
            rw [decide_eq_true w3] at ihh
            exact ihh
          · rw [if_neg (fun q => w3 ((nI_eq (by omega) (by have := hb j (by omega); omega)).mp q)), lt_e]
            rw [decide_eq_false w3] at ihh
            exact ihh
    obtain ⟨z, e⟩ := lp size 2000 0 (by omega) (by omega)
    rw [show l11_spells_26 0 (nI size) x2 x3 x4 x5 x6 x7 σ 2000 (bI (true && true)) 0 = _ from e, bnd_s]
    cases aB (fun j => decide (B (tS B len i + j) = (bwN.getD k []).getD j 0)) size <;> rfl
  · have e0 : (decide (rC B len i = 1) && decide (tE B len i - tS B len i = size)) = false := by
      by_cases w1 : rC B len i = 1
      · rw [decide_eq_false (fun q => w ⟨w1, q⟩), Bool.and_false]
      · rw [decide_eq_false w1]; rfl
    rw [e0, ← Bool.and_assoc, e0, show (2000 : Nat) = 1999 + 1 from rfl, l11_spells_26, if_neg (show ¬ nI size ≤ 0 from nleR size 0), if_pos (show bI false = 0 by rfl), bnd_s]
    rfl
theorem sevenR {σ : Mem} {B : Nat → Nat} {len i k : Nat} (h : TR σ B len) (hi : i ≤ len) (hL : LR B len i (σ.1 11 0)) (hk : k < 6) (hsz : (bwN.getD k []).length = 7) (hb : ∀ j, j < 7 → (bwN.getD k []).getD j 0 < 1000) :
    f11_spellsSeven 0 (nI ((bwN.getD k []).getD 0 0)) (nI ((bwN.getD k []).getD 1 0)) (nI ((bwN.getD k []).getD 2 0)) (nI ((bwN.getD k []).getD 3 0)) (nI ((bwN.getD k []).getD 4 0)) (nI ((bwN.getD k []).getD 5 0)) (nI ((bwN.getD k []).getD 6 0)) σ = some (bI (decide (rC B len i = 1) && mtc B (tS B len i) (tE B len i) k)) := by
  obtain ⟨hlen, h12, hB⟩ := h
  obtain ⟨s1, s2⟩ := tS_ok (B := B) hi
  obtain ⟨e1, e2, e3⟩ := tE_ok (B := B) hi
  obtain ⟨L13, L14, L15, -⟩ := hL
  have rc4 : rC B len i ≤ 4 := by
    unfold rC
    repeat' split
    all_goals omega
  unfold f11_spellsSeven mtc
  rw [L15, L14, hsz]
  have hw : (if nI (rC B len i) = 1 then (if nI (tE B len i - tS B len i) = 7 then (1 : Int32) else 0) else 0) = bI (decide (rC B len i = 1) && decide (tE B len i - tS B len i = 7)) := by
    by_cases w : rC B len i = 1
    · rw [if_pos (by rw [w]; rfl), decide_eq_true w, Bool.true_and]
      by_cases w2 : tE B len i - tS B len i = 7
      · rw [if_pos (by rw [w2]; rfl), decide_eq_true w2]; rfl
      · rw [if_neg (neR _ 7 w2), decide_eq_false w2]; rfl
    · rw [if_neg (neR _ 1 w), decide_eq_false w]; rfl
  rw [hw, lt_e]
  by_cases w : rC B len i = 1 ∧ tE B len i - tS B len i = 7
  · rw [decide_eq_true w.1, decide_eq_true w.2, if_neg (show ¬ bI (true && true) = 0 by decide), L13]
    have step : ∀ j, j < 7 → ∀ (X : Option Int32), (ck (inb (nI (tS B len i + j)) 150) <| if σ.1 22 9 (nI (tS B len i + j)).toNatClampNeg = nI ((bwN.getD k []).getD j 0) then X else some 0) = if decide (B (tS B len i + j) = (bwN.getD k []).getD j 0) = true then X else some 0 := by
      intro j hj X
      obtain ⟨b1, b2⟩ := hB (tS B len i + j) (by omega)
      rw [inb_nI (show tS B len i + j < 150 by omega) (by decide), ck_t, nI_clamp (by omega), b1]
      by_cases w3 : B (tS B len i + j) = (bwN.getD k []).getD j 0
      · rw [if_pos (by rw [w3]), if_pos (decide_eq_true w3)]
      · rw [if_neg (fun q => w3 ((nI_eq (by omega) (by have := hb j hj; omega)).mp q)), if_neg (by rw [decide_eq_false w3]; decide)]
    rw [show nI (tS B len i) + 1 = nI (tS B len i + 1) from nI_add _ 1, show nI (tS B len i) + 2 = nI (tS B len i + 2) from nI_add _ 2, show nI (tS B len i) + 3 = nI (tS B len i + 3) from nI_add _ 3, show nI (tS B len i) + 4 = nI (tS B len i + 4) from nI_add _ 4, show nI (tS B len i) + 5 = nI (tS B len i + 5) from nI_add _ 5, show nI (tS B len i) + 6 = nI (tS B len i + 6) from nI_add _ 6, show nI (tS B len i) = nI (tS B len i + 0) from rfl, step 0 (by decide), step 1 (by decide), step 2 (by decide), step 3 (by decide), step 4 (by decide), step 5 (by decide), step 6 (by decide)]
    show _ = some (bI (true && (true && (((((((true && decide (B (tS B len i + 0) = (bwN.getD k []).getD 0 0)) && decide (B (tS B len i + 1) = (bwN.getD k []).getD 1 0)) && decide (B (tS B len i + 2) = (bwN.getD k []).getD 2 0)) && decide (B (tS B len i + 3) = (bwN.getD k []).getD 3 0)) && decide (B (tS B len i + 4) = (bwN.getD k []).getD 4 0)) && decide (B (tS B len i + 5) = (bwN.getD k []).getD 5 0)) && decide (B (tS B len i + 6) = (bwN.getD k []).getD 6 0)))))
    generalize decide (B (tS B len i + 0) = (bwN.getD k []).getD 0 0) = d0
    generalize decide (B (tS B len i + 1) = (bwN.getD k []).getD 1 0) = d1
    generalize decide (B (tS B len i + 2) = (bwN.getD k []).getD 2 0) = d2
    generalize decide (B (tS B len i + 3) = (bwN.getD k []).getD 3 0) = d3
    generalize decide (B (tS B len i + 4) = (bwN.getD k []).getD 4 0) = d4
    generalize decide (B (tS B len i + 5) = (bwN.getD k []).getD 5 0) = d5
    generalize decide (B (tS B len i + 6) = (bwN.getD k []).getD 6 0) = d6
    revert d0 d1 d2 d3 d4 d5 d6
    decide
  · have e0 : (decide (rC B len i = 1) && decide (tE B len i - tS B len i = 7)) = false := by
      by_cases w1 : rC B len i = 1
      · rw [decide_eq_false (fun q => w ⟨w1, q⟩), Bool.and_false]
      · rw [decide_eq_false w1]; rfl
    rw [e0, ← Bool.and_assoc, e0, if_pos (show bI false = 0 by rfl)]
    rfl
