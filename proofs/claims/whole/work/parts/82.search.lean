/-! ORDERS of the class: by sets -/
def NN (A : Nat → Nat) (y : Nat) : Nat → Nat → Nat := fun c p => nd (A (40 + p)) c y
theorem NN_le {A : Nat → Nat} {y c p : Nat} (hc : c ≤ 6) : NN A y c p ≤ 22 := nd_le hc
theorem NN_pos {A : Nat → Nat} {y c p : Nat} : 1 ≤ NN A y c p := nd_pos
theorem behind_ok {σ : Mem} {A : Nat → Nat} {q : QT} {S p : Nat} (hC : HV 0 σ A) (hA : AR A) (hM : Mo (σ.1 4 0) q) (hy : q.2.2.2 < 2000) (hS : S < 64) (hp : p < A 1) : f5_needBehind 0 (nI S) (nI p) σ = some (nI (NN A q.2.2.2 (pc S) p)) := by
  unfold f5_needBehind f9_needOf
  rw [show f7_at (7 * 0 + 2) (nI p) 0 σ = _ from hC.atp hA hp, bnd_s, pcC S hS, hM.2.2.2, ndC (hA.2.2.2 p hp) (pc_le S hS) hy, bnd_s]
  rfl
theorem or_gt {s p : Nat} (h : s.testBit p = false) : s < s ||| 2 ^ p := by
  have h1 : s ≤ s ||| 2 ^ p := Nat.left_le_or
  rcases Nat.lt_or_eq_of_le h1 with q | q
  · exact q
  · have : (s ||| 2 ^ p).testBit p = true := by rw [Nat.testBit_or, Nat.testBit_two_pow_self]; simp
    rw [← q, h] at this
    exact absurd this (by decide)
theorem or_same {s p : Nat} (h : s.testBit p = true) : s ||| 2 ^ p = s := by
  refine Nat.eq_of_testBit_eq (fun k => ?_)
  rw [Nat.testBit_or, Nat.testBit_two_pow]
  by_cases q : p = k
  · rw [← q, h]; rfl
  · rw [decide_eq_false q, Bool.or_false]
theorem or64 {s p : Nat} (hs : s < 64) (hp : p < 6) : s ||| 2 ^ p < 64 := or_lt (p := 6) hs hp
/-- reached from the start, in so many steps, with so much left -/
def Rk (N : Nat → Nat → Nat) (P W c : Nat) : Nat → Nat → Nat → Prop
  | 0, T, r => T = W ∧ r = c
  | k + 1, T, r => ∃ T' r' p, Rk N P W c k T' r' ∧ p < P ∧ T'.testBit p = false ∧ N (pc T') p ≤ r' ∧ T = T' ||| 2 ^ p ∧ r = r' - N (pc T') p
theorem Rk_lt {N : Nat → Nat → Nat} {P W c : Nat} (hP : P < 7) (hW : W < 2 ^ P) : ∀ (k T r : Nat), Rk N P W c k T r → T < 2 ^ P ∧ pc T = pc W + k ∧ r ≤ c
  | 0, T, r, h => by rw [h.1, h.2]; exact ⟨hW, rfl, Nat.le_refl c⟩
  | k + 1, T, r, h => by
    obtain ⟨T', r', p, h1, h2, h3, h4, h5, h6⟩ := h
    obtain ⟨a1, a2, a3⟩ := Rk_lt hP hW k T' r' h1
    have := (frl_1 hP (pow64 (by omega) a1) h2 h3).2.2.2
    rw [h5]
    exact ⟨or_lt a1 h2, by omega, by omega⟩
theorem Rk_Ch {N : Nat → Nat → Nat} {P W c : Nat} (hP : P < 7) (hW : W < 2 ^ P) : ∀ (k T r j : Nat), Rk N P W c k T r → Chn N j (frl P T) (pc T) r = true → Chn N (k + j) (frl P W) (pc W) c = true
  | 0, T, r, j, h, hc => by rw [Nat.zero_add, ← h.1, ← h.2]; exact hc
  | k + 1, T, r, j, h, hc => by
    obtain ⟨T', r', p, h1, h2, h3, h4, h5, h6⟩ := h
    obtain ⟨a1, a2, a3⟩ := Rk_lt hP hW k T' r' h1
    obtain ⟨f1, f2, f3, f4⟩ := frl_1 hP (pow64 (by omega) a1) h2 h3
    rw [show k + 1 + j = k + (j + 1) by omega]
    refine Rk_Ch hP hW k T' r' (j + 1) h1 (Chn_s.mpr ⟨ppos T' p, f1, ?_, ?_⟩)
    · rw [f2]; exact h4
    · rw [f2, f3, ← f4, ← h5, ← h6]; exact hc
theorem Ch_Rk {N : Nat → Nat → Nat} {P W c : Nat} (hP : P < 7) (hW : W < 2 ^ P) : ∀ (k T r i : Nat), Rk N P W c i T r → Chn N k (frl P T) (pc T) r = true → ∃ T' r', Rk N P W c (i + k) T' r'
  | 0, T, r, i, h, _ => ⟨T, r, h⟩
  | k + 1, T, r, i, h, hc => by
    obtain ⟨a1, a2, a3⟩ := Rk_lt hP hW i T r h
    obtain ⟨j, j1, j2, j3⟩ := Chn_s.mp hc
    have hlen := frl_len P T
    obtain ⟨g1, g2, g3⟩ := frl_2 P hP T (pow64 (by omega) a1) j (by omega) j1
    obtain ⟨f1, f2, f3, f4⟩ := frl_1 hP (pow64 (by omega) a1) g1 g2
    rw [g3] at f3
    rw [f3, ← f4] at j3
    obtain ⟨T', r', e⟩ := Ch_Rk hP hW k _ _ (i + 1) (show Rk N P W c (i + 1) (T ||| 2 ^ (frl P T).getD j 0) (r - N (pc T) ((frl P T).getD j 0)) from ⟨T, r, _, h, g1, g2, j2, rfl, rfl⟩) j3
    exact ⟨T', r', by rw [show i + (k + 1) = i + 1 + k by omega]; exact e⟩
theorem sub_int {x : Int32} {n : Nat} (h1 : -1 ≤ x.toInt) (h2 : x.toInt ≤ 99) (hn : n ≤ 22) : (x - nI n).toInt = x.toInt - n := by
  rw [Int32.toInt_sub, nI_toInt (by omega)]
  exact Int.bmod_eq_of_le (by omega) (by omega)
section SPEND
variable {A : Nat → Nat} {q : QT} {W c : Nat}
def okf (A : Nat → Nat) (y W c : Nat) (f : Nat → Int32) : Prop := ∀ T, T < 64 → -1 ≤ (f T).toInt ∧ (f T).toInt ≤ 99 ∧ (0 ≤ (f T).toInt → ∃ k, Rk (NN A y) (A 1) W c k T (f T).toInt.toNat)
theorem spend_in {σ : Mem} (hC : HV 0 σ A) (hA : AR A) (hM : Mo (σ.1 4 0) q) (hy : q.2.2.2 < 2000) (hW : W < 2 ^ A 1) {s : Nat} (hs : s < 64) :
    ∀ (r m p : Nat) (f : Nat → Int32), p + r = A 1 → r < m → okf A q.2.2.2 W c f →
      ∃ z f', l5_spend_34 0 0 (nI s) m (nI p) (sA σ 21 3 f) = some (z, sA σ 21 3 f') ∧ okf A q.2.2.2 W c f' ∧ (∀ T, T ≤ s → f' T = f T) ∧ (∀ T, (f T).toInt ≤ (f' T).toInt) ∧
        (0 ≤ (f s).toInt → ∀ p', p ≤ p' → p' < A 1 → s.testBit p' = false → (f s).toInt - NN A q.2.2.2 (pc s) p' ≤ (f' (s ||| 2 ^ p')).toInt) := by
  have hp6 := hA.1.2
  intro r
  induction r with
  | zero =>
    intro m p f h1 h2 h3
    obtain ⟨m, rfl⟩ : ∃ q, m = q + 1 := ⟨m - 1, by omega⟩
    have hC' : HV 0 (sA σ 21 3 f) A := hC.fr rfl rfl
    refine ⟨nI p, f, ?_, h3, fun _ _ => rfl, fun _ => Int.le_refl _, fun _ p' w1 w2 => absurd w2 (by omega)⟩
    rw [l5_spend_34, f7_size, hC'.2.2.1.1, if_pos (nI_le (by omega) (by omega))]
  | succ r ih =>
    intro m p f h1 h2 h3
    obtain ⟨m, rfl⟩ : ∃ q, m = q + 1 := ⟨m - 1, by omega⟩
    have hC' : HV 0 (sA σ 21 3 f) A := hC.fr rfl rfl
    have hM' : Mo ((sA σ 21 3 f).1 4 0) q := hM
    have hp : p < A 1 := by omega
    have hn64 := or64 hs (show p < 6 by omega)
    obtain ⟨v1, v2, v3⟩ := h3 s hs
    rw [l5_spend_34, f7_size, hC'.2.2.1.1, if_neg (nI_ge hp (by omega)), at_row (N := 64) rfl (by decide) hs, bnd_s, sA_at]
    by_cases hneg : f s < 0
    · have hv : (f s).toInt < 0 := by
        have := Int32.lt_iff_toInt_lt.mp hneg
        rw [show (0 : Int32).toInt = 0 by decide] at this
        exact this
      rw [if_pos hneg]
      exact ⟨nI p, f, rfl, h3, fun _ _ => rfl, fun _ => Int.le_refl _, fun w => absurd hv (by omega)⟩
    have hv : 0 ≤ (f s).toInt := by
      by_cases w : 0 ≤ (f s).toInt
      · exact w
      · exact absurd (Int32.lt_iff_toInt_lt.mpr (by rw [show (0 : Int32).toInt = 0 by decide]; omega)) hneg
    have hN := NN_le (A := A) (y := q.2.2.2) (p := p) (pc_le s hs)
    rw [if_neg hneg, bnd_s, behind_ok hC' hA hM' hy hs hp, bnd_s, orN s hs p (by omega), nI_1]
    by_cases hb : s.testBit p = true
    · rw [or_same hb, if_pos rfl, bnd_s]
      obtain ⟨z, f', e1, e2, e3, e4, e5⟩ := ih m (p + 1) f (by omega) (by omega) h3
      refine ⟨z, f', e1, e2, e3, e4, fun w p' w1 w2 w3 => ?_⟩
      rcases (show p' = p ∨ p + 1 ≤ p' by omega) with w4 | w4
      · rw [w4, hb] at w3; exact absurd w3 (by decide)
      · exact e5 w p' w4 w2 w3
    · have hb : s.testBit p = false := Bool.eq_false_iff.mpr hb
      have hgt := or_gt hb
      rw [if_neg (fun w => by
        have := (nI_eq (by omega) (by omega)).mp w
        omega), at_row (N := 64) rfl (by decide) hn64, bnd_s, sA_at]
      obtain ⟨u1, u2, u3⟩ := h3 (s ||| 2 ^ p) hn64
      by_cases hle : f s - nI (NN A q.2.2.2 (pc s) p) ≤ f (s ||| 2 ^ p)
      · rw [if_pos hle, bnd_s]
        have hle' : (f s).toInt - NN A q.2.2.2 (pc s) p ≤ (f (s ||| 2 ^ p)).toInt := by
          have := Int32.le_iff_toInt_le.mp hle
          rw [sub_int v1 v2 hN] at this
          exact this
        obtain ⟨z, f', e1, e2, e3, e4, e5⟩ := ih m (p + 1) f (by omega) (by omega) h3
        refine ⟨z, f', e1, e2, e3, e4, fun w p' w1 w2 w3 => ?_⟩
        rcases (show p' = p ∨ p + 1 ≤ p' by omega) with w4 | w4
        · rw [w4]
          exact Int.le_trans hle' (e4 _)
        · exact e5 w p' w4 w2 w3
      · rw [if_neg hle, put_row (N := 64) rfl (by decide) hn64, bnd_s, bnd_s, sI_sA]
        have hgt' : (f (s ||| 2 ^ p)).toInt < (f s).toInt - NN A q.2.2.2 (pc s) p := by
          by_cases w : (f (s ||| 2 ^ p)).toInt < (f s).toInt - NN A q.2.2.2 (pc s) p
          · exact w
          · refine absurd (Int32.le_iff_toInt_le.mpr ?_) hle
            rw [sub_int v1 v2 hN]
            omega
        have hval : (upd f (s ||| 2 ^ p) (f s - nI (NN A q.2.2.2 (pc s) p)) (s ||| 2 ^ p)).toInt = (f s).toInt - NN A q.2.2.2 (pc s) p := by
          rw [up_s, sub_int v1 v2 hN]
        have ok1 : okf A q.2.2.2 W c (upd f (s ||| 2 ^ p) (f s - nI (NN A q.2.2.2 (pc s) p))) := by
          intro T hT
          by_cases w : T = s ||| 2 ^ p
          · subst w
            rw [hval]
            refine ⟨by omega, by omega, fun _ => ?_⟩
            obtain ⟨k, hk⟩ := v3 hv
            refine ⟨k + 1, s, _, p, hk, hp, hb, ?_, rfl, ?_⟩
            · omega
            · omega
          · rw [up_n w]; exact h3 T hT
        obtain ⟨z, f', e1, e2, e3, e4, e5⟩ := ih m (p + 1) _ (by omega) (by omega) ok1
        refine ⟨z, f', e1, e2, fun T hT => ?_, fun T => ?_, fun w p' w1 w2 w3 => ?_⟩
        · rw [e3 T hT, up_n (by omega)]
        · by_cases w : T = s ||| 2 ^ p
          · have := e4 T
            rw [w, hval] at this
            rw [w]
            omega
          · have := e4 T
            rw [up_n w] at this
            exact this
        · rcases (show p' = p ∨ p + 1 ≤ p' by omega) with w4 | w4
          · rw [w4, ← hval]
            exact e4 _
          · have := e5 (by rw [up_n (by omega)]; exact w) p' w4 w2 w3
            rw [up_n (by omega)] at this
            exact this
theorem spend_out {σ : Mem} (hC : HV 0 σ A) (hA : AR A) (hM : Mo (σ.1 4 0) q) (hy : q.2.2.2 < 2000) (hW : W < 2 ^ A 1) :
    ∀ (r m s : Nat) (f : Nat → Int32), s + r = 64 → r < m → okf A q.2.2.2 W c f → (∀ T, T < s → 0 ≤ (f T).toInt → ∀ p, p < A 1 → T.testBit p = false → (f T).toInt - NN A q.2.2.2 (pc T) p ≤ (f (T ||| 2 ^ p)).toInt) →
      ∃ z f', l5_spend_25 0 0 m (nI s) (sA σ 21 3 f) = some (z, sA σ 21 3 f') ∧ okf A q.2.2.2 W c f' ∧ (∀ T, (f T).toInt ≤ (f' T).toInt) ∧
        (∀ T, T < 64 → 0 ≤ (f' T).toInt → ∀ p, p < A 1 → T.testBit p = false → (f' T).toInt - NN A q.2.2.2 (pc T) p ≤ (f' (T ||| 2 ^ p)).toInt) := by
  have hp6 := hA.1.2
  intro r
  induction r with
  | zero =>
    intro m s f h1 h2 h3 h4
    obtain ⟨m, rfl⟩ : ∃ q, m = q + 1 := ⟨m - 1, by omega⟩
    obtain rfl : s = 64 := by omega
    exact ⟨nI 64, f, by rw [l5_spend_25, if_pos (by decide)], h3, fun _ => Int.le_refl _, h4⟩
  | succ r ih =>
    intro m s f h1 h2 h3 h4
    obtain ⟨m, rfl⟩ : ∃ q, m = q + 1 := ⟨m - 1, by omega⟩
    have hs : s < 64 := by omega
    obtain ⟨z, f1, e1, e2, e3, e4, e5⟩ := spend_in (c := c) hC hA hM hy hW hs (A 1) 2000 0 f (by omega) (by omega) h3
    obtain ⟨z2, f', g1, g2, g3, g4⟩ := ih m (s + 1) f1 (by omega) (by omega) e2 (fun T hT w p w1 w2 => by
      rcases (show T < s ∨ T = s by omega) with q1 | q1
      · rw [e3 T (by omega)] at w ⊢
        exact Int.le_trans (h4 T q1 w p w1 w2) (e4 _)
      · rw [q1] at w w2 ⊢
        rw [e3 s (Nat.le_refl s)] at w ⊢
        exact e5 w p (Nat.zero_le p) w1 w2)
    refine ⟨z2, f', ?_, g2, fun T => Int.le_trans (e4 T) (g3 T), g4⟩
    rw [l5_spend_25, if_neg (nleL 64 s), show l5_spend_34 0 0 (nI s) 2000 0 (sA σ 21 3 f) = _ from e1, bnd_s, nI_1]
    exact g1
theorem fill_ok {σ : Mem} : ∃ f, f6_fill 3 (-1) σ = some (sA σ 21 3 f) ∧ ∀ T, T < 64 → f T = -1 := by
  have lp : ∀ (r m i : Nat) (f : Nat → Int32), i + r = 64 → r < m → (∀ T, T < i → f T = -1) → ∃ z f', l6_fill_2 3 (-1) m (nI i) (sA σ 21 3 f) = some (z, sA σ 21 3 f') ∧ ∀ T, T < 64 → f' T = -1 := by
    intro r
    induction r with
    | zero =>
      intro m i f h1 h2 h3
      obtain ⟨m, rfl⟩ : ∃ q, m = q + 1 := ⟨m - 1, by omega⟩
      obtain rfl : i = 64 := by omega
      exact ⟨nI 64, f, by rw [l6_fill_2, if_pos (by decide)], h3⟩
    | succ r ih =>
      intro m i f h1 h2 h3
      obtain ⟨m, rfl⟩ : ∃ q, m = q + 1 := ⟨m - 1, by omega⟩
      rw [l6_fill_2, if_neg (show ¬ Int32.ofNat (alen 21 3) ≤ nI i from nI_ge (b := 64) (by omega) (by decide)), inb_nI (N := alen 21 3) (show i < 64 by omega) (by decide), ck_t, lt_e, nI_clamp (by omega), sI_sA, nI_1]
      refine ih m (i + 1) _ (by omega) (by omega) (fun T hT => ?_)
      by_cases w : T = i
      · subst w; rw [up_s]
      · rw [up_n w]; exact h3 T (by omega)
  obtain ⟨z, f', e, h⟩ := lp 64 2000 0 (σ.1 21 3) (by omega) (by omega) (fun T hT => absurd hT (Nat.not_lt_zero T))
  rw [sA_self] at e
  refine ⟨f', ?_, h⟩
  unfold f6_fill
  rw [show l6_fill_2 3 (-1) 2000 0 σ = _ from e, bnd_s]
theorem m1_int : (-1 : Int32).toInt = -1 := by decide
theorem spend_ok {σ : Mem} (hC : HV 0 σ A) (hA : AR A) (hM : Mo (σ.1 4 0) q) (hy : q.2.2.2 < 2000) (hq : q.2.1 < 2 ^ A 1) (hc : c ≤ 99) :
    ∃ f, f5_spend 0 0 (nI c) σ = some (sA σ 21 3 f) ∧ okf A q.2.2.2 q.2.1 c f ∧ (c : Int) ≤ (f q.2.1).toInt ∧
      (∀ T, T < 64 → 0 ≤ (f T).toInt → ∀ p, p < A 1 → T.testBit p = false → (f T).toInt - NN A q.2.2.2 (pc T) p ≤ (f (T ||| 2 ^ p)).toInt) := by
  have hp6 := hA.1.2
  have w6 := pow64 hp6 hq
  obtain ⟨f0, e0, h0⟩ := fill_ok (σ := σ)
  have ok0 : okf A q.2.2.2 q.2.1 c (upd f0 q.2.1 (nI c)) := by
    intro T hT
    by_cases w : T = q.2.1
    · rw [w, up_s, nI_toInt (by omega)]
      exact ⟨by omega, by omega, fun _ => ⟨0, rfl, by omega⟩⟩
    · rw [up_n w, h0 T hT, m1_int]
      exact ⟨by omega, by omega, fun w2 => absurd w2 (by omega)⟩
  obtain ⟨z, f, e1, e2, e3, e4⟩ := spend_out (c := c) hC hA hM hy hq 64 2000 0 _ (by omega) (by omega) ok0 (fun T hT => absurd hT (Nat.not_lt_zero T))
  refine ⟨f, ?_, e2, ?_, e4⟩
  · unfold f5_spend
    rw [e0, bnd_s, show (sA σ 21 3 f0).1 4 0 1 = nI q.2.1 from hM.2.1, put_row (N := 64) rfl (by decide) w6, bnd_s, sI_sA, show l5_spend_25 0 0 2000 0 (sA σ 21 3 (upd f0 q.2.1 (nI c))) = _ from e1, bnd_s]
  · have := e3 q.2.1
    rw [up_s, nI_toInt (by omega)] at this
    exact this
end SPEND
/-- the most that come -/
def rea (f : Nat → Int32) (T : Nat) : Nat := if 0 ≤ (f T).toInt then pc T else 0
theorem mostReached_ok {σ : Mem} {f : Nat → Int32} {W : Nat} (hW : W < 64) (hf : ∀ T, T < 64 → σ.1 21 3 T = f T) (hr : pc W ≤ mxF (rea f) 64) : f5_mostReached 0 (nI W) σ = some (nI (mxF (rea f) 64 - pc W)) := by
  have hle : ∀ i, i ≤ 64 → mxF (rea f) i ≤ 6 := fun i hi => mxF_le i (fun k hk => by
    unfold rea
    split
    · exact pc_le6 (by omega)
    · omega)
  have lp : ∀ (r m i : Nat), i + r = 64 → r < m → ∃ z, l5_mostReached_4 0 (nI W) σ m (nI (mxF (rea f) i)) (nI i) = some (nI (mxF (rea f) 64), z) := by
    intro r
    induction r with
    | zero =>
      intro m i h1 h2
      obtain ⟨m, rfl⟩ : ∃ q, m = q + 1 := ⟨m - 1, by omega⟩
      obtain rfl : i = 64 := by omega
      exact ⟨nI 64, by rw [l5_mostReached_4, if_pos (by decide)]⟩
    | succ r ih =>
      intro m i h1 h2
      obtain ⟨m, rfl⟩ : ∃ q, m = q + 1 := ⟨m - 1, by omega⟩
      have ihh := ih m (i + 1) (by omega) (by omega)
      rw [show mxF (rea f) (i + 1) = max (mxF (rea f) i) (rea f i) from rfl] at ihh
      have := hle i (by omega)
      have h6 := pc_le6 (u := i) (by omega)
      rw [l5_mostReached_4, if_neg (nleL 64 i), at_row (N := 64) rfl (by decide) (by omega), bnd_s, hf i (by omega), pcC i (by omega), lt_e, nI_1]
      by_cases w : f i < 0
      · have hv : ¬ 0 ≤ (f i).toInt := by
          have := Int32.lt_iff_toInt_lt.mp w
          rw [show (0 : Int32).toInt = 0 by decide] at this
          omega
        rw [if_pos w]
        rw [show rea f i = 0 from if_neg hv, Nat.max_eq_left (Nat.zero_le _)] at ihh
        exact ihh
      · have hv : 0 ≤ (f i).toInt := by
          by_cases w2 : 0 ≤ (f i).toInt
          · exact w2
          · exact absurd (Int32.lt_iff_toInt_lt.mpr (by rw [show (0 : Int32).toInt = 0 by decide]; omega)) w
        rw [if_neg w, mxI_nI (by omega) (by omega)]
        rw [show rea f i = pc i from if_pos hv] at ihh
        exact ihh
  obtain ⟨z, e⟩ := lp 64 2000 0 (by omega) (by omega)
  have := hle 64 (by omega)
  unfold f5_mostReached
  rw [show l5_mostReached_4 0 (nI W) σ 2000 0 0 = _ from e, bnd_s]
  show some (mxI (nI (mxF (rea f) 64) - fJ6_bitCount (nI W)) 0) = _
  rw [pcC W hW, pk_sub hr, show (0 : Int32) = nI 0 from rfl, mxI_nI (by omega) (by decide), Nat.max_eq_left (Nat.zero_le _)]
theorem most_is {A : Nat → Nat} {y W c : Nat} {f : Nat → Int32} (hp : A 1 ≤ 6) (hW : W < 2 ^ A 1) (ok : okf A y W c f) (hc : (c : Int) ≤ (f W).toInt)
    (hcov : ∀ T, T < 64 → 0 ≤ (f T).toInt → ∀ p, p < A 1 → T.testBit p = false → (f T).toInt - NN A y (pc T) p ≤ (f (T ||| 2 ^ p)).toInt) :
    pc W ≤ mxF (rea f) 64 ∧ Chn (NN A y) (mxF (rea f) 64 - pc W) (frl (A 1) W) (pc W) c = true ∧ Chn (NN A y) (mxF (rea f) 64 - pc W + 1) (frl (A 1) W) (pc W) c = false := by
  have w6 := pow64 hp hW
  have hP : A 1 < 7 := by omega
  have hrW : pc W ≤ mxF (rea f) 64 := by
    have : rea f W = pc W := if_pos (by omega)
    rw [← this]
    exact le_mxF 64 W w6
  have comp : ∀ (k T r : Nat), Rk (NN A y) (A 1) W c k T r → (r : Int) ≤ (f T).toInt := by
    intro k
    induction k with
    | zero =>
      intro T r h
      rw [h.1, h.2]; exact hc
    | succ k ih =>
      intro T r h
      obtain ⟨T', r', p, h1, h2, h3, h4, h5, h6⟩ := h
      have hl := Rk_lt hP hW k T' r' h1
      have i1 := ih T' r' h1
      have := hcov T' (pow64 hp hl.1) (by omega) p h2 h3
      rw [h5]
      omega
  have sound : ∀ i, i ≤ 64 → ∀ j, pc W + j ≤ mxF (rea f) i → Chn (NN A y) j (frl (A 1) W) (pc W) c = true := by
    intro i
    induction i with
    | zero =>
      intro _ j hj
      have : j = 0 := by
        have : mxF (rea f) 0 = 0 := rfl
        omega
      rw [this]; rfl
    | succ i ih =>
      intro hi j hj
      rcases (show pc W + j ≤ mxF (rea f) i ∨ pc W + j ≤ rea f i by
        have : mxF (rea f) (i + 1) = max (mxF (rea f) i) (rea f i) := rfl
        omega) with w | w
      · exact ih (by omega) j w
      · unfold rea at w
        by_cases z : 0 ≤ (f i).toInt
        · rw [if_pos z] at w
          obtain ⟨k, hk⟩ := (ok i (by omega)).2.2 z
          have hl := Rk_lt hP hW k i _ hk
          exact Chn_le k (by omega) (Rk_Ch hP hW k i _ 0 hk rfl)
        · rw [if_neg z] at w
          have : j = 0 := by omega
          rw [this]; rfl
  refine ⟨hrW, sound 64 (Nat.le_refl 64) _ (by omega), ?_⟩
  cases e : Chn (NN A y) (mxF (rea f) 64 - pc W + 1) (frl (A 1) W) (pc W) c with
  | false => rfl
  | true =>
    obtain ⟨T, r, h⟩ := Ch_Rk (i := 0) hP hW _ W c ⟨rfl, rfl⟩ e
    have h1 := comp _ T r h
    have hl := Rk_lt hP hW _ T r h
    have : rea f T = pc T := if_pos (by omega)
    have h2 := le_mxF (g := rea f) 64 T (pow64 hp hl.1)
    omega
