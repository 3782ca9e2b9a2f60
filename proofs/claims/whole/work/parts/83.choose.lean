/-! the least charge by which so many are there; the choice -/
def lok (N : Nat → Nat → Nat) (P goal s : Nat) (L : Nat → Nat) : Prop := ∀ T, s ≤ T → T < 64 → L T ≤ 1000000 ∧ ∀ r, r < 1000000 → (L T ≤ r ↔ pc T ≤ goal ∧ Chn N (goal - pc T) (frl P T) (pc T) r = true)
theorem reach_in {σ : Mem} {A : Nat → Nat} {q : QT} (hC : HV 0 σ A) (hA : AR A) (hM : Mo (σ.1 4 0) q) (hy : q.2.2.2 < 2000) {s goal : Nat} (hs : s < 64) (hg : goal ≤ 6) {f : Nat → Int32} {L : Nat → Nat}
    (hf : ∀ T, s < T → T < 64 → f T = nI (L T)) (hL : lok (NN A q.2.2.2) (A 1) goal (s + 1) L) :
    ∀ (r m p w : Nat), p + r = A 1 → r < m → 1 ≤ w → w ≤ 1000000 →
      ∃ z w', l5_reach_26 0 0 (nI goal) (nI s) (sA σ 21 4 f) m (nI w) (nI p) = some (nI w', z) ∧ 1 ≤ w' ∧ w' ≤ 1000000 ∧ ∀ x, x < 1000000 → (w' ≤ x ↔ w ≤ x ∨ ∃ p', p ≤ p' ∧ p' < A 1 ∧ s.testBit p' = false ∧ NN A q.2.2.2 (pc s) p' + L (s ||| 2 ^ p') ≤ x) := by
  have hp6 := hA.1.2
  have hC' : HV 0 (sA σ 21 4 f) A := hC.fr rfl rfl
  have hM' : Mo ((sA σ 21 4 f).1 4 0) q := hM
  intro r
  induction r with
  | zero =>
    intro m p w h1 h2 h3 h4
    obtain ⟨m, rfl⟩ : ∃ q, m = q + 1 := ⟨m - 1, by omega⟩
    refine ⟨nI p, w, ?_, h3, h4, fun x _ => ⟨Or.inl, fun h => ?_⟩⟩
    · rw [l5_reach_26, f7_size, hC'.2.2.1.1, if_pos (nI_le (by omega) (by omega))]
    · rcases h with h | ⟨p', a1, a2, _⟩
      · exact h
      · omega
  | succ r ih =>
    intro m p w h1 h2 h3 h4
    obtain ⟨m, rfl⟩ : ∃ q, m = q + 1 := ⟨m - 1, by omega⟩
    have hp : p < A 1 := by omega
    have hn64 := or64 hs (show p < 6 by omega)
    have hN := NN_le (A := A) (y := q.2.2.2) (p := p) (pc_le s hs)
    rw [l5_reach_26, f7_size, hC'.2.2.1.1, if_neg (nI_ge hp (by omega)), if_neg (nleR w 0), orN s hs p (by omega), nI_1]
    by_cases hb : s.testBit p = true
    · rw [or_same hb, if_pos rfl, bnd_s]
      obtain ⟨z, w', e, a1, a2, a3⟩ := ih m (p + 1) w (by omega) (by omega) h3 h4
      refine ⟨z, w', e, a1, a2, fun x hx => (a3 x hx).trans ⟨fun h => ?_, fun h => ?_⟩⟩
      · rcases h with h | ⟨p', b1, b2⟩
        · exact Or.inl h
        · exact Or.inr ⟨p', by omega, b2⟩
      · rcases h with h | ⟨p', b1, b2, b3, b4⟩
        · exact Or.inl h
        · refine Or.inr ⟨p', ?_, b2, b3, b4⟩
          rcases (show p' = p ∨ p + 1 ≤ p' by omega) with w4 | w4
          · rw [w4, hb] at b3; exact absurd b3 (by decide)
          · exact w4
    · have hb : s.testBit p = false := Bool.eq_false_iff.mpr hb
      have hgt := or_gt hb
      have hLn := (hL (s ||| 2 ^ p) (by omega) hn64).1
      have hNp := NN_pos (A := A) (y := q.2.2.2) (c := pc s) (p := p)
      rw [if_neg (fun w => by
        have := (nI_eq (by omega) (by omega)).mp w
        omega), behind_ok hC' hA hM' hy hs hp, bnd_s, at_row (N := 64) rfl (by decide) hn64, bnd_s, sA_at, hf _ hgt hn64, nI_add, bnd_s]
      have hmin : mnI (nI w) (nI (NN A q.2.2.2 (pc s) p + L (s ||| 2 ^ p))) = nI (min w (NN A q.2.2.2 (pc s) p + L (s ||| 2 ^ p))) := by
        unfold mnI
        by_cases z : NN A q.2.2.2 (pc s) p + L (s ||| 2 ^ p) < w
        · rw [if_pos (nI_lt z (by omega)), Nat.min_eq_right (by omega)]
        · rw [if_neg (nI_nlt (by omega) (by omega)), Nat.min_eq_left (by omega)]
      rw [hmin]
      obtain ⟨z, w', e, a1, a2, a3⟩ := ih m (p + 1) (min w (NN A q.2.2.2 (pc s) p + L (s ||| 2 ^ p))) (by omega) (by omega) (by omega) (by omega)
      refine ⟨z, w', e, a1, a2, fun x hx => (a3 x hx).trans ⟨fun h => ?_, fun h => ?_⟩⟩
      · rcases h with h | ⟨p', b1, b2⟩
        · rcases (show w ≤ x ∨ NN A q.2.2.2 (pc s) p + L (s ||| 2 ^ p) ≤ x by omega) with h | h
          · exact Or.inl h
          · exact Or.inr ⟨p, Nat.le_refl p, hp, hb, h⟩
        · exact Or.inr ⟨p', by omega, b2⟩
      · rcases h with h | ⟨p', b1, b2, b3, b4⟩
        · exact Or.inl (by omega)
        · rcases (show p' = p ∨ p + 1 ≤ p' by omega) with w4 | w4
          · rw [w4] at b4
            exact Or.inl (by omega)
          · exact Or.inr ⟨p', w4, b2, b3, b4⟩
theorem reach_out {σ : Mem} {A : Nat → Nat} {q : QT} (hC : HV 0 σ A) (hA : AR A) (hM : Mo (σ.1 4 0) q) (hy : q.2.2.2 < 2000) {goal : Nat} (hg : goal ≤ 6) :
    ∀ (s m : Nat) (f : Nat → Int32) (L : Nat → Nat), s ≤ 64 → s < m → (∀ T, s ≤ T → T < 64 → f T = nI (L T)) → lok (NN A q.2.2.2) (A 1) goal s L →
      ∃ z f' L', l5_reach_3 0 0 (nI goal) m (nI s - 1) (sA σ 21 4 f) = some (z, sA σ 21 4 f') ∧ (∀ T, T < 64 → f' T = nI (L' T)) ∧ lok (NN A q.2.2.2) (A 1) goal 0 L' := by
  have hp6 := hA.1.2
  intro s
  induction s with
  | zero =>
    intro m f L h0 h1 h2 h3
    obtain ⟨m, rfl⟩ : ∃ q, m = q + 1 := ⟨m - 1, by omega⟩
    exact ⟨nI 0 - 1, f, L, by rw [l5_reach_3, if_pos (by decide)], fun T hT => h2 T (Nat.zero_le T) hT, h3⟩
  | succ s ih =>
    intro m f L h0 h1 h2 h3
    obtain ⟨m, rfl⟩ : ∃ q, m = q + 1 := ⟨m - 1, by omega⟩
    have hs : s < 64 := by omega
    have hP : A 1 < 7 := by omega
    rw [nI_pred, l5_reach_3, if_neg (nI_pos (by omega)), pcC s hs]
    have fin : ∀ w' : Nat, w' ≤ 1000000 → (∀ r, r < 1000000 → (w' ≤ r ↔ pc s ≤ goal ∧ Chn (NN A q.2.2.2) (goal - pc s) (frl (A 1) s) (pc s) r = true)) →
        ∃ z f' L', l5_reach_3 0 0 (nI goal) m (nI s + (-1)) (sA σ 21 4 (upd f s (nI w'))) = some (z, sA σ 21 4 f') ∧ (∀ T, T < 64 → f' T = nI (L' T)) ∧ lok (NN A q.2.2.2) (A 1) goal 0 L' := by
      intro w' hw hw2
      rw [show nI s + (-1) = nI s - 1 by rw [Int32.sub_eq_add_neg]]
      refine ih m (upd f s (nI w')) (fun T => if T = s then w' else L T) (by omega) (by omega) (fun T hT hT2 => ?_) (fun T hT hT2 => ?_)
      · by_cases z : T = s
        · subst z; rw [up_s, if_pos rfl]
        · rw [up_n z, if_neg z]; exact h2 T (by omega) hT2
      · by_cases z : T = s
        · rw [show (fun T => if T = s then w' else L T) T = w' from if_pos z, z]
          exact ⟨hw, hw2⟩
        · rw [show (fun T => if T = s then w' else L T) T = L T from if_neg z]; exact h3 T (by omega) hT2
    by_cases hgoal : pc s = goal
    · rw [hgoal, if_pos rfl, lt_e]
      have e : ∃ z, l5_reach_26 0 0 (nI goal) (nI s) (sA σ 21 4 f) 2000 0 0 = some (nI 0, z) := by
        refine ⟨0, ?_⟩
        rw [show (2000 : Nat) = 1999 + 1 from rfl, l5_reach_26]
        by_cases z : f7_size (7 * 0 + 2) (sA σ 21 4 f) ≤ 0
        · rw [if_pos z]; rfl
        · rw [if_neg z, if_pos (by decide)]; rfl
      obtain ⟨z, e⟩ := e
      rw [e, bnd_s, put_row (N := 64) rfl (by decide) hs, bnd_s, sI_sA]
      refine fin 0 (by omega) (fun r _ => ⟨fun _ => ⟨by omega, ?_⟩, fun _ => Nat.zero_le r⟩)
      rw [hgoal, Nat.sub_self]; rfl
    · rw [if_neg (fun w => hgoal ((nI_eq (by have := pc_le s hs; omega) (by omega)).mp w)), lt_e]
      obtain ⟨z, w', e, a1, a2, a3⟩ := reach_in hC hA hM hy hs hg (fun T h h' => h2 T (by omega) h') h3 (A 1) 2000 0 1000000 (by omega) (by omega) (by decide) (Nat.le_refl _)
      rw [show l5_reach_26 0 0 (nI goal) (nI s) (sA σ 21 4 f) 2000 1000000 0 = _ from e, bnd_s, put_row (N := 64) rfl (by decide) hs, bnd_s, sI_sA]
      refine fin w' a2 (fun r hr => (a3 r hr).trans ⟨fun h => ?_, fun h => ?_⟩)
      · rcases h with h | ⟨p, b1, b2, b3, b4⟩
        · exact absurd h (by omega)
        · obtain ⟨c1, c2, c3, c4⟩ := frl_1 hP hs b2 b3
          have hgt := or_gt b3
          have hn64 := or64 hs (show p < 6 by omega)
          obtain ⟨d1, d2⟩ := (h3 (s ||| 2 ^ p) (by omega) hn64)
          obtain ⟨g1, g2⟩ := (d2 (r - NN A q.2.2.2 (pc s) p) (by omega)).mp (by omega)
          rw [c4] at g1 g2
          refine ⟨by omega, ?_⟩
          rw [show goal - pc s = (goal - (pc s + 1)) + 1 by omega]
          refine Chn_s.mpr ⟨ppos s p, c1, by rw [c2]; omega, ?_⟩
          rw [c2, c3]
          exact g2
      · obtain ⟨g1, g2⟩ := h
        right
        rw [show goal - pc s = (goal - (pc s + 1)) + 1 by omega] at g2
        obtain ⟨i, i1, i2, i3⟩ := Chn_s.mp g2
        have hlen := frl_len (A 1) s
        obtain ⟨b2, b3, b5⟩ := frl_2 (A 1) hP s hs i (by omega) i1
        obtain ⟨c1, c2, c3, c4⟩ := frl_1 hP hs b2 b3
        rw [b5] at c3
        have hgt := or_gt b3
        have hn64 := or64 hs (show (frl (A 1) s).getD i 0 < 6 by omega)
        obtain ⟨d1, d2⟩ := (h3 (s ||| 2 ^ (frl (A 1) s).getD i 0) (by omega) hn64)
        have := (d2 (r - NN A q.2.2.2 (pc s) ((frl (A 1) s).getD i 0)) (by omega)).mpr ⟨by omega, by rw [c4, ← c3]; exact i3⟩
        exact ⟨(frl (A 1) s).getD i 0, Nat.zero_le _, b2, b3, by omega⟩
theorem reach_ok {σ : Mem} {A : Nat → Nat} {q : QT} (hC : HV 0 σ A) (hA : AR A) (hM : Mo (σ.1 4 0) q) (hy : q.2.2.2 < 2000) {goal : Nat} (hg : goal ≤ 6) :
    ∃ f L, f5_reach 0 0 (nI goal) σ = some (sA σ 21 4 f) ∧ (∀ T, T < 64 → f T = nI (L T)) ∧ lok (NN A q.2.2.2) (A 1) goal 0 L := by
  obtain ⟨z, f, L, e, h1, h2⟩ := reach_out (σ := σ) hC hA hM hy hg 64 2000 (σ.1 21 4) (fun _ => 0) (by omega) (by omega) (fun T h h' => absurd h (by omega)) (fun T h h' => absurd h (by omega))
  rw [sA_self] at e
  refine ⟨f, L, ?_, h1, h2⟩
  unfold f5_reach
  rw [show l5_reach_3 0 0 (nI goal) 2000 63 σ = _ from e, bnd_s]
/-- the choice's loop: a first place of a kind among those that are not there -/
theorem first_lp {σ : Mem} {A : Nat → Nat} {S : Nat} {x3 x4 : Int32} {Q : Nat → Bool} (hC : HV 0 σ A) (hA : AR A) (hS : S < 64)
    (hQ : ∀ p, p < A 1 → S.testBit p = false → (if x4 = 0 then some 1 else (bnd (f5_needBehind 0 (nI S) (nI p) σ) fun w4 => bnd (f6_at 4 (nI (S ||| 2 ^ p)) σ) fun w6 => if x3 < (w4 + w6) then some 0 else some 1) : Option Int32) = some (bI (Q p)))
    (hT : ∀ p, p < A 1 → S.testBit p = true → ∃ b, (if x4 = 0 then some 1 else (bnd (f5_needBehind 0 (nI S) (nI p) σ) fun w4 => bnd (f6_at 4 (nI S) σ) fun w6 => if x3 < (w4 + w6) then some 0 else some 1) : Option Int32) = some b)
    {j : Nat} (hj : j < A 1) (hb : S.testBit j = false) (hq : Q j = true) (hfirst : ∀ p, p < j → S.testBit p = false → Q p = false) :
    f5_firstFitting 0 0 (nI S) x3 x4 σ = some (nI j) := by
  have hp6 := hA.1.2
  have lp : ∀ (r m p : Nat), p + r = j → r < m → l5_firstFitting_3 0 0 (nI S) x3 x4 σ m (nI p) = some (.inr (nI j)) := by
    intro r
    induction r with
    | zero =>
      intro m p h1 h2
      obtain ⟨m, rfl⟩ : ∃ q, m = q + 1 := ⟨m - 1, by omega⟩
      obtain rfl : p = j := by omega
      have hgt := or_gt hb
      have hn64 := or64 hS (show p < 6 by omega)
      rw [l5_firstFitting_3, f7_size, hC.2.2.1.1, if_neg (nI_ge hj (by omega)), orN S hS p (by omega), hQ p hj hb, bnd_s, if_neg (fun w => by
        have := (nI_eq (by omega) (by omega)).mp w
        omega), hq, if_neg (show ¬ bI true = 0 by decide)]
    | succ r ih =>
      intro m p h1 h2
      obtain ⟨m, rfl⟩ : ∃ q, m = q + 1 := ⟨m - 1, by omega⟩
      have hp : p < A 1 := by omega
      have hn64 := or64 hS (show p < 6 by omega)
      rw [l5_firstFitting_3, f7_size, hC.2.2.1.1, if_neg (nI_ge hp (by omega)), orN S hS p (by omega)]
      by_cases hbp : S.testBit p = true
      · obtain ⟨b, eb⟩ := hT p hp hbp
        rw [or_same hbp, eb, bnd_s, if_pos rfl, nI_1]
        exact ih m (p + 1) (by omega) (by omega)
      · have hbp : S.testBit p = false := Bool.eq_false_iff.mpr hbp
        have hgt := or_gt hbp
        rw [hQ p hp hbp, bnd_s, if_neg (fun w => by
          have := (nI_eq (by omega) (by omega)).mp w
          omega), hfirst p (by omega) hbp, if_pos (show bI false = 0 by rfl), nI_1]
        exact ih m (p + 1) (by omega) (by omega)
  unfold f5_firstFitting
  rw [show l5_firstFitting_3 0 0 (nI S) x3 x4 σ 2000 0 = _ from lp j 2000 0 (by omega) (by omega), bnd_s]
  rfl
/-- in the list: the first part of a kind is the part at the first place of the kind -/
theorem first_list {P S : Nat} {Q : Nat → Bool} {R : Nat → Bool} (hP : P < 7) (hS : S < 64) (hQR : ∀ i, i < (frl P S).length → Q ((frl P S).getD i 0) = R i) (hex : ∃ i, i < (frl P S).length ∧ R i = true) :
    ∃ j, j < P ∧ S.testBit j = false ∧ Q j = true ∧ (∀ p, p < j → S.testBit p = false → Q p = false) ∧ (frl P S).getD (fsti R (frl P S).length 0) 0 = j ∧ (frl P S).eraseIdx (fsti R (frl P S).length 0) = frl P (S ||| 2 ^ j) ∧ pc (S ||| 2 ^ j) = pc S + 1 := by
  obtain ⟨i, i1, i2⟩ := hex
  have hlen := frl_len P S
  obtain ⟨-, a2, a3, a4⟩ := fsti_is (Q := R) (frl P S).length 0 ⟨i, Nat.zero_le i, by omega, i2⟩
  obtain ⟨b1, b2, b3⟩ := frl_2 P hP S hS (fsti R (frl P S).length 0) (by omega) (by omega)
  obtain ⟨c1, c2, c3, c4⟩ := frl_1 hP hS b1 b2
  rw [b3] at c3
  refine ⟨_, b1, b2, by rw [hQR _ (by omega)]; exact a3, fun p hp hb => ?_, rfl, c3, c4⟩
  obtain ⟨d1, d2, d3, d4⟩ := frl_1 hP hS (show p < P by omega) hb
  have hlt : ppos S p < fsti R (frl P S).length 0 := by
    by_cases e : ppos S p < fsti R (frl P S).length 0
    · exact e
    · exfalso
      rcases (show ppos S p = fsti R (frl P S).length 0 ∨ fsti R (frl P S).length 0 < ppos S p by omega) with w | w
      · rw [w] at d2
        omega
      · have := frl_3 hP hS (show p < 6 by omega) (show fsti R (frl P S).length 0 < 6 by omega) w (by omega)
        omega
  have := a4 (ppos S p) (Nat.zero_le _) hlt
  rw [← hQR _ d1, d2] at this
  exact this
theorem choose_lp {σ : Mem} {A : Nat → Nat} {q : QT} {goal n most : Nat} {f4 : Nat → Int32} {L : Nat → Nat} (hC : HV 0 σ A) (hA : AR A) (hM : Mo (σ.1 4 0) q) (hy : q.2.2.2 < 2000)
    (h53 : σ.1 5 0 3 = nI n) (h54 : σ.1 5 0 4 = nI most) (hn : n ≤ 6) (hmn : most ≤ 6) (hgoal : goal ≤ 6) (h4 : ∀ T, T < 64 → σ.1 21 4 T = nI (L T)) (hL : lok (NN A q.2.2.2) (A 1) goal 0 L) :
    ∀ (r m k S x : Nat) (z : Int32) (g : Nat → Int32), k + r = n → r < m → S < 64 → (frl (A 1) S).length = r → (k < most → z = nI x ∧ x ≤ 99 ∧ pc S + (most - k) = goal ∧ Chn (NN A q.2.2.2) (most - k) (frl (A 1) S) (pc S) x = true) →
      ∃ z1 z2 z3 g', l5_choose_14 0 0 m (nI S) z (nI k) (sA σ 21 5 g) = some (z1, z2, z3, sA σ 21 5 g') ∧ (∀ j, j < k → g' j = g j) ∧ ∀ j, j < r → g' (k + j) = nI ((chl (NN A q.2.2.2) r (most - k) (frl (A 1) S) (pc S) x).getD j 0) := by
  have hp6 := hA.1.2
  have hP : A 1 < 7 := by omega
  intro r
  induction r with
  | zero =>
    intro m k S x z g h1 h2 h3 h4' h5
    obtain ⟨m, rfl⟩ : ∃ q, m = q + 1 := ⟨m - 1, by omega⟩
    refine ⟨nI S, z, nI k, g, ?_, fun _ _ => rfl, fun j hj => absurd hj (Nat.not_lt_zero j)⟩
    rw [l5_choose_14, show (sA σ 21 5 g).1 5 0 3 = nI n from h53, if_pos (nI_le (by omega) (by omega))]
  | succ r ih =>
    intro m k S x z g h1 h2 hS hlen hinv
    obtain ⟨m, rfl⟩ : ∃ q, m = q + 1 := ⟨m - 1, by omega⟩
    have hC' : HV 0 (sA σ 21 5 g) A := hC.fr rfl rfl
    have hM' : Mo ((sA σ 21 5 g).1 4 0) q := hM
    have hpS := pc_le S hS
    have key : ∃ j, j < A 1 ∧ S.testBit j = false ∧ f5_firstFitting 0 0 (nI S) z (if nI most ≤ nI k then (0 : Int32) else 1) (sA σ 21 5 g) = some (nI j) ∧ pc (S ||| 2 ^ j) = pc S + 1 ∧
        ∃ x', chl (NN A q.2.2.2) (r + 1) (most - k) (frl (A 1) S) (pc S) x = j :: chl (NN A q.2.2.2) r (most - (k + 1)) (frl (A 1) (S ||| 2 ^ j)) (pc (S ||| 2 ^ j)) x' ∧ (frl (A 1) (S ||| 2 ^ j)).length = r ∧
          (k + 1 < most → z - nI (NN A q.2.2.2 (pc S) j) = nI x' ∧ x' ≤ 99 ∧ pc (S ||| 2 ^ j) + (most - (k + 1)) = goal ∧ Chn (NN A q.2.2.2) (most - (k + 1)) (frl (A 1) (S ||| 2 ^ j)) (pc (S ||| 2 ^ j)) x' = true) := by
      by_cases hk : k < most
      · obtain ⟨rfl, hx, hpg, hch⟩ := hinv hk
        obtain ⟨t, ht⟩ : ∃ t, most - k = t + 1 := ⟨most - k - 1, by omega⟩
        rw [ht] at hch
        obtain ⟨i, i1, i2, i3⟩ := Chn_s.mp hch
        rw [if_neg (nI_ge hk (by omega))]
        have hQR : ∀ p, p < A 1 → S.testBit p = false → (Nat.ble (NN A q.2.2.2 (pc S) p + L (S ||| 2 ^ p)) x) = Qch (NN A q.2.2.2) t (frl (A 1) S) (pc S) x (ppos S p) := by
          intro p hp hb
          obtain ⟨c1, c2, c3, c4⟩ := frl_1 hP hS hp hb
          have hn64 := or64 hS (show p < 6 by omega)
          obtain ⟨d1, d2⟩ := hL (S ||| 2 ^ p) (Nat.zero_le _) hn64
          rw [Bool.eq_iff_iff, Qch_t, c2, c3]
          constructor
          · intro w
            have w := Nat.le_of_ble_eq_true w
            obtain ⟨g1, g2⟩ := (d2 (x - NN A q.2.2.2 (pc S) p) (by omega)).mp (by omega)
            refine ⟨by omega, ?_⟩
            rw [c4] at g2
            rw [show t = goal - (pc S + 1) by omega]
            exact g2
          · rintro ⟨w1, w2⟩
            have := (d2 (x - NN A q.2.2.2 (pc S) p) (by omega)).mpr ⟨by omega, by rw [c4, show goal - (pc S + 1) = t by omega]; exact w2⟩
            exact Nat.ble_eq_true_of_le (by omega)
        obtain ⟨j, j1, j2, j3, j4, j5, j6, j7⟩ := first_list (P := A 1) (S := S) (Q := fun p => Nat.ble (NN A q.2.2.2 (pc S) p + L (S ||| 2 ^ p)) x) (R := Qch (NN A q.2.2.2) t (frl (A 1) S) (pc S) x) hP hS (fun i hi => by
          have hl := frl_len (A 1) S
          obtain ⟨b1, b2, b3⟩ := frl_2 (A 1) hP S hS i (by omega) hi
          have := hQR _ b1 b2
          rw [b3] at this
          exact this) ⟨i, i1, Qch_t.mpr ⟨i2, i3⟩⟩
        have e1 : f5_firstFitting 0 0 (nI S) (nI x) 1 (sA σ 21 5 g) = some (nI j) := by
          refine first_lp (Q := fun p => Nat.ble (NN A q.2.2.2 (pc S) p + L (S ||| 2 ^ p)) x) hC' hA hS (fun p hp hb => ?_) (fun p hp hb => ?_) j1 j2 j3 j4
          · have hn64 := or64 hS (show p < 6 by omega)
            have hLn := (hL (S ||| 2 ^ p) (Nat.zero_le _) hn64).1
            have hN := NN_le (A := A) (y := q.2.2.2) (p := p) hpS
            rw [if_neg (by decide), behind_ok hC' hA hM' hy hS hp, bnd_s, at_row (N := 64) rfl (by decide) hn64, bnd_s, show (sA σ 21 5 g).1 21 4 = σ.1 21 4 from rfl, h4 _ hn64, nI_add]
            by_cases w : NN A q.2.2.2 (pc S) p + L (S ||| 2 ^ p) ≤ x
            · rw [if_neg (nI_nlt w (by omega)), Nat.ble_eq_true_of_le w]; rfl
            · rw [if_pos (nI_lt (by omega) (by omega)), show Nat.ble (NN A q.2.2.2 (pc S) p + L (S ||| 2 ^ p)) x = false from Bool.eq_false_iff.mpr (fun w2 => w (Nat.le_of_ble_eq_true w2))]; rfl
          · rw [if_neg (by decide), behind_ok hC' hA hM' hy hS hp, bnd_s, at_row (N := 64) rfl (by decide) hS, bnd_s]
            split
            · exact ⟨_, rfl⟩
            · exact ⟨_, rfl⟩
        refine ⟨j, j1, j2, e1, j7, x - NN A q.2.2.2 (pc S) j, ?_, ?_, fun hk1 => ?_⟩
        · rw [ht, show most - (k + 1) = t by omega, j7, ← j6]
          show (frl (A 1) S).getD (fsti (Qch (NN A q.2.2.2) t (frl (A 1) S) (pc S) x) (frl (A 1) S).length 0) 0 :: chl (NN A q.2.2.2) r t ((frl (A 1) S).eraseIdx (fsti (Qch (NN A q.2.2.2) t (frl (A 1) S) (pc S) x) (frl (A 1) S).length 0)) (pc S + 1) (x - NN A q.2.2.2 (pc S) ((frl (A 1) S).getD (fsti (Qch (NN A q.2.2.2) t (frl (A 1) S) (pc S) x) (frl (A 1) S).length 0) 0)) = _
          rw [j5]
        · obtain ⟨c1, c2, c3, c4⟩ := frl_1 hP hS j1 j2
          rw [← c3, List.length_eraseIdx, if_pos c1]; omega
        · have hq := hQR j j1 j2
          rw [j3] at hq
          obtain ⟨c1, c2, c3, c4⟩ := frl_1 hP hS j1 j2
          obtain ⟨w1, w2⟩ := Qch_t.mp hq.symm
          rw [c2] at w1 w2
          rw [c3] at w2
          refine ⟨pk_sub w1, by omega, by omega, ?_⟩
          rw [j7, show most - (k + 1) = t by omega]
          exact w2
      · rw [if_pos (nI_le (by omega) (by omega)), show most - k = 0 by omega]
        obtain ⟨j, j1, j2, j3, j4, j5, j6, j7⟩ := first_list (P := A 1) (S := S) (Q := fun _ => true) (R := fun _ => true) hP hS (fun _ _ => rfl) ⟨0, by omega, rfl⟩
        have e0 : fsti (fun _ => true) (frl (A 1) S).length 0 = 0 := fsti_ok _ 0 0 (Nat.le_refl 0) (by omega) rfl (fun k _ w => absurd w (Nat.not_lt_zero k))
        rw [e0] at j5 j6
        refine ⟨j, j1, j2, first_lp (Q := fun _ => true) hC' hA hS (fun p hp hb => by rw [if_pos rfl]; rfl) (fun p hp hb => ⟨1, by rw [if_pos rfl]⟩) j1 j2 rfl j4, j7, x, ?_, ?_, fun w => absurd w (by omega)⟩
        · rw [show most - (k + 1) = 0 by omega, j7, ← j6]
          show (frl (A 1) S).getD 0 0 :: chl (NN A q.2.2.2) r 0 ((frl (A 1) S).eraseIdx 0) (pc S + 1) x = _
          rw [j5]
        · obtain ⟨c1, c2, c3, c4⟩ := frl_1 hP hS j1 j2
          rw [← c3, List.length_eraseIdx, if_pos c1]; omega
    obtain ⟨j, j1, j2, j3, j4, x', j5, j6, j7⟩ := key
    have hn64 := or64 hS (show j < 6 by omega)
    obtain ⟨z1, z2, z3, g', e, g1, g2⟩ := ih m (k + 1) (S ||| 2 ^ j) x' (z - nI (NN A q.2.2.2 (pc S) j)) (upd g k (nI j)) (by omega) (by omega) hn64 j6 j7
    refine ⟨z1, z2, z3, g', ?_, fun i hi => ?_, fun i hi => ?_⟩
    · rw [l5_choose_14, show (sA σ 21 5 g).1 5 0 3 = nI n from h53, if_neg (nI_ge (by omega) (by omega)), show (sA σ 21 5 g).1 5 0 4 = nI most from h54, lt_e, j3, bnd_s, behind_ok hC' hA hM' hy hS j1, bnd_s, put_row (N := 6) rfl (by decide) (by omega), bnd_s, sI_sA, orN S hS j (by omega), nI_1]
      exact e
    · rw [g1 i (by omega), up_n (by omega)]
    · rw [j5]
      rcases i with _ | i
      · show g' (k + 0) = nI j
        rw [Nat.add_zero, g1 k (by omega), up_s]
      · show g' (k + (i + 1)) = nI ((chl (NN A q.2.2.2) r (most - (k + 1)) (frl (A 1) (S ||| 2 ^ j)) (pc (S ||| 2 ^ j)) x').getD i 0)
        rw [← g2 i (by omega)]
        congr 1; omega
