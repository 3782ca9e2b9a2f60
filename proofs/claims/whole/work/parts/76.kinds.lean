/-! what a thing, what a part is; the next look -/
def aB (P : Nat → Bool) : Nat → Bool
  | 0 => true
  | n + 1 => aB P n && P n
def cB (P : Nat → Bool) : Nat → Nat
  | 0 => 0
  | n + 1 => cB P n + b01 (P n)
def bset (P : Nat → Bool) : Nat → Nat
  | 0 => 0
  | n + 1 => if P n = true then bset P n ||| 2 ^ n else bset P n
theorem bset_lt (P : Nat → Bool) : ∀ n, bset P n < 2 ^ n
  | 0 => Nat.one_pos
  | n + 1 => by
    have h := bset_lt P n
    have h2 : 2 ^ n < 2 ^ (n + 1) := Nat.pow_lt_pow_right (by decide) (Nat.lt_succ_self n)
    unfold bset
    split
    · exact Nat.or_lt_two_pow (Nat.lt_trans h h2) h2
    · exact Nat.lt_trans h h2
theorem bset_t (P : Nat → Bool) : ∀ n k, (bset P n).testBit k = (decide (k < n) && P k)
  | 0, k => by
    show Nat.testBit 0 k = _
    rw [Nat.zero_testBit]; simp
  | n + 1, k => by
    unfold bset
    by_cases z : P n = true
    · rw [if_pos z, Nat.testBit_or, bset_t P n k, Nat.testBit_two_pow]
      by_cases q : k = n
      · subst q; simp [z]
      · have : decide (n = k) = false := decide_eq_false (fun e => q e.symm)
        rw [this, Bool.or_false]
        by_cases q2 : k < n
        · rw [decide_eq_true q2, decide_eq_true (show k < n + 1 by omega)]
        · rw [decide_eq_false q2, decide_eq_false (show ¬ k < n + 1 by omega)]
    · rw [if_neg z, bset_t P n k]
      by_cases q : k = n
      · subst q; simp [z]
      · by_cases q2 : k < n
        · rw [decide_eq_true q2, decide_eq_true (show k < n + 1 by omega)]
        · rw [decide_eq_false q2, decide_eq_false (show ¬ k < n + 1 by omega)]
theorem bits_ext {a b : Nat} (ha : a < 64) (hb : b < 64) (h : ∀ k, k < 6 → a.testBit k = b.testBit k) : a = b := by
  refine Nat.eq_of_testBit_eq (fun k => ?_)
  by_cases hk : k < 6
  · exact h k hk
  · have h2 : 2 ^ 6 ≤ 2 ^ k := Nat.pow_le_pow_right (by decide) (by omega)
    rw [Nat.testBit_lt_two_pow (Nat.lt_of_lt_of_le ha h2), Nat.testBit_lt_two_pow (Nat.lt_of_lt_of_le hb h2)]
theorem bset6 (P : Nat → Bool) : bset P 6 < 64 := bset_lt P 6
theorem bset_t6 {P : Nat → Bool} {k : Nat} (hk : k < 6) : (bset P 6).testBit k = P k := by
  rw [bset_t, decide_eq_true hk, Bool.true_and]
theorem pc_cB : ∀ u, u < 64 → pc u = cB u.testBit 6 := by decide +kernel
theorem cB_congr {P Q : Nat → Bool} : ∀ n, (∀ k, k < n → P k = Q k) → cB P n = cB Q n
  | 0, _ => rfl
  | n + 1, h => by
    show cB P n + b01 (P n) = cB Q n + b01 (Q n)
    rw [cB_congr n (fun k hk => h k (by omega)), h n (by omega)]
theorem bset_congr {P Q : Nat → Bool} : ∀ n, (∀ k, k < n → P k = Q k) → bset P n = bset Q n
  | 0, _ => rfl
  | n + 1, h => by
    show (if P n = true then _ else _) = (if Q n = true then _ else _)
    rw [bset_congr n (fun k hk => h k (by omega)), h n (by omega)]
theorem cB_le (P : Nat → Bool) : ∀ n, cB P n ≤ n
  | 0 => Nat.le_refl 0
  | n + 1 => by
    have := cB_le P n
    show cB P n + b01 (P n) ≤ n + 1
    unfold b01
    split <;> omega
def mxF (g : Nat → Nat) : Nat → Nat
  | 0 => 0
  | n + 1 => max (mxF g n) (g n)
theorem mxF_le {g : Nat → Nat} {M : Nat} : ∀ n, (∀ k, k < n → g k ≤ M) → mxF g n ≤ M
  | 0, _ => Nat.zero_le M
  | n + 1, h => Nat.max_le.mpr ⟨mxF_le n (fun k hk => h k (by omega)), h n (by omega)⟩
theorem le_mxF {g : Nat → Nat} : ∀ n k, k < n → g k ≤ mxF g n
  | 0, k, h => absurd h (Nat.not_lt_zero k)
  | n + 1, k, h => by
    show g k ≤ max (mxF g n) (g n)
    rcases (show k < n ∨ k = n by omega) with q | q
    · exact Nat.le_trans (le_mxF n k q) (Nat.le_max_left _ _)
    · rw [q]; exact Nat.le_max_right _ _
theorem mxI_nI {a b : Nat} (ha : a < 2 ^ 31) (hb : b < 2 ^ 31) : mxI (nI a) (nI b) = nI (max a b) := by
  unfold mxI
  by_cases z : a < b
  · rw [if_pos (nI_lt z hb), Nat.max_eq_right (by omega)]
  · rw [if_neg (nI_nlt (by omega) ha), Nat.max_eq_left (by omega)]
/-! the class's answers -/
def eqs (V : Nat → Int32) (x : Int32) : Nat := bset (fun k => decide (V k = x)) 6
theorem answering_ok {σ : Mem} {V : Nat → Int32} (hV : ∀ k, k < 6 → σ.1 21 6 k = V k) (x : Int32) : f2_answering 0 x σ = some (nI (eqs V x)) := by
  have lp : ∀ (r n i : Nat), i + r = 6 → r < n → l2_answering_4 0 x σ n (nI (bset (fun k => decide (V k = x)) i)) (nI i) = some (nI (eqs V x), nI 6) := by
    intro r
    induction r with
    | zero =>
      intro n i h1 h2
      obtain ⟨n, rfl⟩ : ∃ q, n = q + 1 := ⟨n - 1, by omega⟩
      obtain rfl : i = 6 := by omega
      rw [l2_answering_4, if_pos (by decide)]; rfl
    | succ r ih =>
      intro n i h1 h2
      obtain ⟨n, rfl⟩ : ∃ q, n = q + 1 := ⟨n - 1, by omega⟩
      have hb : bset (fun k => decide (V k = x)) i < 64 := Nat.lt_of_lt_of_le (bset_lt _ i) (show 2 ^ i ≤ 2 ^ 6 from Nat.pow_le_pow_right (by decide) (by omega))
      rw [l2_answering_4, if_neg (nleL 6 i), at_row (N := 6) rfl (by decide) (by omega), bnd_s, hV i (by omega), orN _ hb i (by omega), lt_e, nI_1]
      have := ih n (i + 1) (by omega) (by omega)
      unfold bset at this
      by_cases z : V i = x
      · rw [if_pos z]
        rw [if_pos (decide_eq_true z)] at this
        exact this
      · rw [if_neg z]
        rw [if_neg (by rw [decide_eq_false z]; decide)] at this
        exact this
  unfold f2_answering
  rw [show l2_answering_4 0 x σ 2000 0 0 = _ from lp 6 2000 0 (by omega) (by omega), bnd_s]
theorem drawAll_ok {σ : Mem} {g : Nat → Int32} (h f y : Int32) : ∃ g', f2_drawAll 0 h f y (sA σ 21 6 g) = some (sA σ 21 6 g') ∧ ∀ k, k < 6 → g' k = f3_draw (nI k) h f y := by
  have lp : ∀ (r n i : Nat) (g : Nat → Int32), i + r = 6 → r < n → (∀ k, k < i → g k = f3_draw (nI k) h f y) → ∃ z g', l2_drawAll_3 0 h f y n (nI i) (sA σ 21 6 g) = some (z, sA σ 21 6 g') ∧ ∀ k, k < 6 → g' k = f3_draw (nI k) h f y := by
    intro r
    induction r with
    | zero =>
      intro n i g h1 h2 h3
      obtain ⟨n, rfl⟩ : ∃ q, n = q + 1 := ⟨n - 1, by omega⟩
      obtain rfl : i = 6 := by omega
      exact ⟨nI 6, g, by rw [l2_drawAll_3, if_pos (by decide)], h3⟩
    | succ r ih =>
      intro n i g h1 h2 h3
      obtain ⟨n, rfl⟩ : ∃ q, n = q + 1 := ⟨n - 1, by omega⟩
      rw [l2_drawAll_3, if_neg (nleL 6 i), put_row (N := 6) rfl (by decide) (by omega), bnd_s, sI_sA, nI_1]
      refine ih n (i + 1) _ (by omega) (by omega) (fun k hk => ?_)
      by_cases q : k = i
      · subst q; rw [up_s]
      · rw [up_n q]; exact h3 k (by omega)
  obtain ⟨z, g', e, h'⟩ := lp 6 2000 0 g (by omega) (by omega) (fun k hk => absurd hk (Nat.not_lt_zero k))
  refine ⟨g', ?_, h'⟩
  unfold f2_drawAll
  rw [show l2_drawAll_3 0 h f y 2000 0 (sA σ 21 6 g) = _ from e, bnd_s]
theorem needAll_ok {σ : Mem} {g : Nat → Int32} (x y : Int32) : ∃ g', f2_needAll 0 x y (sA σ 21 6 g) = some (sA σ 21 6 g') ∧ ∀ k, k < 6 → g' k = f3_need (nI k) x y := by
  have lp : ∀ (r n i : Nat) (g : Nat → Int32), i + r = 6 → r < n → (∀ k, k < i → g k = f3_need (nI k) x y) → ∃ z g', l2_needAll_2 0 x y n (nI i) (sA σ 21 6 g) = some (z, sA σ 21 6 g') ∧ ∀ k, k < 6 → g' k = f3_need (nI k) x y := by
    intro r
    induction r with
    | zero =>
      intro n i g h1 h2 h3
      obtain ⟨n, rfl⟩ : ∃ q, n = q + 1 := ⟨n - 1, by omega⟩
      obtain rfl : i = 6 := by omega
      exact ⟨nI 6, g, by rw [l2_needAll_2, if_pos (by decide)], h3⟩
    | succ r ih =>
      intro n i g h1 h2 h3
      obtain ⟨n, rfl⟩ : ∃ q, n = q + 1 := ⟨n - 1, by omega⟩
      rw [l2_needAll_2, if_neg (nleL 6 i), put_row (N := 6) rfl (by decide) (by omega), bnd_s, sI_sA, nI_1]
      refine ih n (i + 1) _ (by omega) (by omega) (fun k hk => ?_)
      by_cases q : k = i
      · subst q; rw [up_s]
      · rw [up_n q]; exact h3 k (by omega)
  obtain ⟨z, g', e, h'⟩ := lp 6 2000 0 g (by omega) (by omega) (fun k hk => absurd hk (Nat.not_lt_zero k))
  refine ⟨g', ?_, h'⟩
  unfold f2_needAll
  rw [show l2_needAll_2 0 x y 2000 0 (sA σ 21 6 g) = _ from e, bnd_s]
/-- whether a kind fits a note -/
def nfit (a : Nat → Int32) (x : Int32) (k i : Nat) : Bool := !decide (a (56 + 5 * i) = x) || decide (f3_draw (nI k) (a (56 + 5 * i + 1)) (a (56 + 5 * i + 2)) (a (56 + 5 * i + 3)) = a (56 + 5 * i + 4))
def mfit (a : Nat → Int32) (x : Int32) (k i : Nat) : Bool := !decide (a (86 + 4 * i) = x) || decide (f3_need (nI k) (a (86 + 4 * i + 1)) (a (86 + 4 * i + 2)) = a (86 + 4 * i + 3))
def fits (F : Nat → Nat → Bool) (n : Nat) : Nat := bset (fun k => aB (F k) n) 6
theorem fits_0 (F : Nat → Nat → Bool) : fits F 0 = 63 := by
  exact (by decide : bset (fun _ => true) 6 = 63)
theorem fits_and {F : Nat → Nat → Bool} {n : Nat} {G : Nat → Bool} (h : ∀ k, k < 6 → F k n = G k) : fits F n &&& bset G 6 = fits F (n + 1) := by
  refine bits_ext (Nat.and_lt_two_pow (n := 6) _ (bset6 G)) (bset6 _) (fun k hk => ?_)
  unfold fits
  rw [Nat.testBit_and, bset_t6 hk, bset_t6 hk, bset_t6 hk, ← h k hk]
  rfl
theorem fits_same {F : Nat → Nat → Bool} {n : Nat} (h : ∀ k, k < 6 → F k n = true) : fits F n = fits F (n + 1) := by
  refine bset_congr 6 (fun k hk => ?_)
  show _ = (aB (F k) n && F k n)
  rw [h k hk, Bool.and_true]
theorem thingKinds_ok {σ : Mem} {a : Nat → Int32} {n : Nat} {g : Nat → Int32} (x : Int32) (hn : σ.1 7 4 3 = nI n) (hw : σ.1 7 4 1 = nI 5) (h6 : n ≤ 6) (ha : ∀ i, i < 5 * n → σ.1 20 4 i = a (56 + i)) :
    ∃ g', f2_thingKinds 0 4 x (sA σ 21 6 g) = some (nI (fits (nfit a x) n), sA σ 21 6 g') := by
  have hat : ∀ (g : Nat → Int32) (i c : Nat), i < n → c < 5 → f7_at 4 (nI i) (nI c) (sA σ 21 6 g) = some (a (56 + 5 * i + c)) := fun g i c hi hc => by
    rw [at_ok (σ := sA σ 21 6 g) (i := i) (j := c) (n := n) (w := 5) (N := 30) hn hw rfl hi hc (by omega) (by omega), show (sA σ 21 6 g).1 20 4 = σ.1 20 4 from rfl, ha _ (by omega)]
    exact congrArg (fun z => some (a z)) (by omega)
  have lp : ∀ (r m i : Nat) (g : Nat → Int32), i + r = n → r < m → ∃ z g', l2_thingKinds_6 0 4 x m (nI (fits (nfit a x) i)) (nI i) (sA σ 21 6 g) = some (nI (fits (nfit a x) n), z, sA σ 21 6 g') := by
    intro r
    induction r with
    | zero =>
      intro m i g h1 h2
      obtain ⟨m, rfl⟩ : ∃ q, m = q + 1 := ⟨m - 1, by omega⟩
      obtain rfl : i = n := by omega
      exact ⟨nI i, g, by rw [l2_thingKinds_6, f7_size, show (sA σ 21 6 g).1 7 4 3 = nI i from hn, if_pos (nI_le (by omega) (by omega))]⟩
    | succ r ih =>
      intro m i g h1 h2
      obtain ⟨m, rfl⟩ : ∃ q, m = q + 1 := ⟨m - 1, by omega⟩
      have hi : i < n := by omega
      rw [l2_thingKinds_6, f7_size, show (sA σ 21 6 g).1 7 4 3 = nI n from hn, if_neg (nI_ge hi (by omega)), show f7_at 4 (nI i) 0 (sA σ 21 6 g) = _ from hat g i 0 hi (by decide), bnd_s]
      by_cases z : a (56 + 5 * i + 0) = x
      · obtain ⟨g1, e1, hg1⟩ := drawAll_ok (σ := σ) (g := g) (a (56 + 5 * i + 1)) (a (56 + 5 * i + 2)) (a (56 + 5 * i + 3))
        have e2 := answering_ok (σ := sA σ 21 6 g1) (V := fun k => f3_draw (nI k) (a (56 + 5 * i + 1)) (a (56 + 5 * i + 2)) (a (56 + 5 * i + 3))) (fun k hk => by rw [sA_at]; exact hg1 k hk) (a (56 + 5 * i + 4))
        rw [if_pos z, show f7_at 4 (nI i) 1 (sA σ 21 6 g) = _ from hat g i 1 hi (by decide), bnd_s, show f7_at 4 (nI i) 2 (sA σ 21 6 g) = _ from hat g i 2 hi (by decide), bnd_s, show f7_at 4 (nI i) 3 (sA σ 21 6 g) = _ from hat g i 3 hi (by decide), bnd_s, e1, bnd_s, show f7_at 4 (nI i) 4 (sA σ 21 6 g1) = _ from hat g1 i 4 hi (by decide), bnd_s, e2, bnd_s, bnd_s, and_nI (fits (nfit a x) i) (bset6 _) (eqs _ _) (bset6 _), nI_1]
        rw [show fits (nfit a x) i &&& eqs (fun k => f3_draw (nI k) (a (56 + 5 * i + 1)) (a (56 + 5 * i + 2)) (a (56 + 5 * i + 3))) (a (56 + 5 * i + 4)) = fits (nfit a x) (i + 1) from fits_and (fun k _ => by
          unfold nfit
          rw [decide_eq_true (show a (56 + 5 * i) = x from z)]; rfl)]
        exact ih m (i + 1) g1 (by omega) (by omega)
      · rw [if_neg z, bnd_s, nI_1]
        rw [show fits (nfit a x) i = fits (nfit a x) (i + 1) from fits_same (fun k _ => by
          unfold nfit
          rw [decide_eq_false (show ¬ a (56 + 5 * i) = x from z)]; rfl)]
        exact ih m (i + 1) g (by omega) (by omega)
  obtain ⟨z, g', e⟩ := lp n 2000 0 g (by omega) (by omega)
  rw [fits_0] at e
  refine ⟨g', ?_⟩
  unfold f2_thingKinds
  rw [show l2_thingKinds_6 0 4 x 2000 63 0 (sA σ 21 6 g) = _ from e, bnd_s]
theorem partKinds_ok {σ : Mem} {a : Nat → Int32} {n : Nat} {g : Nat → Int32} (x : Int32) (hn : σ.1 7 5 3 = nI n) (hw : σ.1 7 5 1 = nI 4) (h6 : n ≤ 6) (ha : ∀ i, i < 4 * n → σ.1 20 5 i = a (86 + i)) :
    ∃ g', f2_partKinds 0 5 x (sA σ 21 6 g) = some (nI (fits (mfit a x) n), sA σ 21 6 g') := by
  have hat : ∀ (g : Nat → Int32) (i c : Nat), i < n → c < 4 → f7_at 5 (nI i) (nI c) (sA σ 21 6 g) = some (a (86 + 4 * i + c)) := fun g i c hi hc => by
    rw [at_ok (σ := sA σ 21 6 g) (i := i) (j := c) (n := n) (w := 4) (N := 24) hn hw rfl hi hc (by omega) (by omega), show (sA σ 21 6 g).1 20 5 = σ.1 20 5 from rfl, ha _ (by omega)]
    exact congrArg (fun z => some (a z)) (by omega)
  have lp : ∀ (r m i : Nat) (g : Nat → Int32), i + r = n → r < m → ∃ z g', l2_partKinds_6 0 5 x m (nI (fits (mfit a x) i)) (nI i) (sA σ 21 6 g) = some (nI (fits (mfit a x) n), z, sA σ 21 6 g') := by
    intro r
    induction r with
    | zero =>
      intro m i g h1 h2
      obtain ⟨m, rfl⟩ : ∃ q, m = q + 1 := ⟨m - 1, by omega⟩
      obtain rfl : i = n := by omega
      exact ⟨nI i, g, by rw [l2_partKinds_6, f7_size, show (sA σ 21 6 g).1 7 5 3 = nI i from hn, if_pos (nI_le (by omega) (by omega))]⟩
    | succ r ih =>
      intro m i g h1 h2
      obtain ⟨m, rfl⟩ : ∃ q, m = q + 1 := ⟨m - 1, by omega⟩
      have hi : i < n := by omega
      rw [l2_partKinds_6, f7_size, show (sA σ 21 6 g).1 7 5 3 = nI n from hn, if_neg (nI_ge hi (by omega)), show f7_at 5 (nI i) 0 (sA σ 21 6 g) = _ from hat g i 0 hi (by decide), bnd_s]
      by_cases z : a (86 + 4 * i + 0) = x
      · obtain ⟨g1, e1, hg1⟩ := needAll_ok (σ := σ) (g := g) (a (86 + 4 * i + 1)) (a (86 + 4 * i + 2))
        have e2 := answering_ok (σ := sA σ 21 6 g1) (V := fun k => f3_need (nI k) (a (86 + 4 * i + 1)) (a (86 + 4 * i + 2))) (fun k hk => by rw [sA_at]; exact hg1 k hk) (a (86 + 4 * i + 3))
        rw [if_pos z, show f7_at 5 (nI i) 1 (sA σ 21 6 g) = _ from hat g i 1 hi (by decide), bnd_s, show f7_at 5 (nI i) 2 (sA σ 21 6 g) = _ from hat g i 2 hi (by decide), bnd_s, e1, bnd_s, show f7_at 5 (nI i) 3 (sA σ 21 6 g1) = _ from hat g1 i 3 hi (by decide), bnd_s, e2, bnd_s, bnd_s, and_nI (fits (mfit a x) i) (bset6 _) (eqs _ _) (bset6 _), nI_1]
        rw [show fits (mfit a x) i &&& eqs (fun k => f3_need (nI k) (a (86 + 4 * i + 1)) (a (86 + 4 * i + 2))) (a (86 + 4 * i + 3)) = fits (mfit a x) (i + 1) from fits_and (fun k _ => by
          unfold mfit
          rw [decide_eq_true (show a (86 + 4 * i) = x from z)]; rfl)]
        exact ih m (i + 1) g1 (by omega) (by omega)
      · rw [if_neg z, bnd_s, nI_1]
        rw [show fits (mfit a x) i = fits (mfit a x) (i + 1) from fits_same (fun k _ => by
          unfold mfit
          rw [decide_eq_false (show ¬ a (86 + 4 * i) = x from z)]; rfl)]
        exact ih m (i + 1) g (by omega) (by omega)
  obtain ⟨z, g', e⟩ := lp n 2000 0 g (by omega) (by omega)
  rw [fits_0] at e
  refine ⟨g', ?_⟩
  unfold f2_partKinds
  rw [show l2_partKinds_6 0 5 x 2000 63 0 (sA σ 21 6 g) = _ from e, bnd_s]
/-! the reference's kinds -/
theorem drE {k h f y : Nat} (hk : k < 6) (hh : h ≤ 30) (hf : f ≤ 11) (hy : y < 2000) : f11_drawsAs (nI k) (nI h) (nI f) (nI y) = f3_draw (nI k) (nI h) (nI f) (nI y) := by
  rw [drC (by omega) hh hf hy, drR (by omega) hh hf hy]
theorem ndE {k n y : Nat} (hk : k < 6) (hn : n ≤ 6) (hy : y < 2000) : f11_needsAs (nI k) (nI n) (nI y) = f3_need (nI k) (nI n) (nI y) := by
  rw [ndC (by omega) hn hy, ndR (by omega) hn hy]
def bI (b : Bool) : Int32 := if b = true then 1 else 0
theorem kindsOfThing_ok {σ : Mem} {n : Nat} (x : Int32) (a3 : σ.1 22 0 3 = nI n) (h6 : n ≤ 6) (hx : ∀ i, i < n → (∃ h, h ≤ 30 ∧ σ.1 22 0 (57 + 5 * i) = nI h) ∧ (∃ f, f ≤ 11 ∧ σ.1 22 0 (58 + 5 * i) = nI f) ∧ ∃ y, y ≤ 99 ∧ σ.1 22 0 (59 + 5 * i) = nI y) :
    f11_kindsOfThing 0 x σ = some (nI (fits (nfit (σ.1 22 0) x) n)) := by
  have inn : ∀ (x2 : Int32) (k : Nat), k < 6 → ∀ (r m i : Nat), i + r = n → r < m → ∃ z, l11_kindsOfThing_16 0 x x2 (nI k) σ m (bI (aB (nfit (σ.1 22 0) x k) i)) (nI i) = some (bI (aB (nfit (σ.1 22 0) x k) n), z) := by
    intro x2 k hk r
    induction r with
    | zero =>
      intro m i h1 h2
      obtain ⟨m, rfl⟩ : ∃ q, m = q + 1 := ⟨m - 1, by omega⟩
      obtain rfl : i = n := by omega
      exact ⟨nI i, by rw [l11_kindsOfThing_16, a3, if_pos (nI_le (by omega) (by omega))]⟩
    | succ r ih =>
      intro m i h1 h2
      obtain ⟨m, rfl⟩ : ∃ q, m = q + 1 := ⟨m - 1, by omega⟩
      have hi : i < n := by omega
      have ihh := ih m (i + 1) (by omega) (by omega)
      obtain ⟨⟨hh, y1, y2⟩, ⟨ff, y3, y4⟩, ⟨yy, y5, y6⟩⟩ := hx i hi
      rw [show 57 + 5 * i = 56 + 5 * i + 1 by omega] at y2
      rw [show 58 + 5 * i = 56 + 5 * i + 2 by omega] at y4
      rw [show 59 + 5 * i = 56 + 5 * i + 3 by omega] at y6
      have hs : (if bI (aB (nfit (σ.1 22 0) x k) i) = 0 then some 0 else (ck (inb (56 + (5 * nI i)) 142) <| if (σ.1 22 0 ((56 + (5 * nI i)) : Int32).toNatClampNeg) = x then (ck (inb ((56 + (5 * nI i)) + 1) 142) <| ck (inb ((56 + (5 * nI i)) + 2) 142) <| ck (inb ((56 + (5 * nI i)) + 3) 142) <| ck (inb ((56 + (5 * nI i)) + 4) 142) <| if (f11_drawsAs (nI k) (σ.1 22 0 (((56 + (5 * nI i)) + 1) : Int32).toNatClampNeg) (σ.1 22 0 (((56 + (5 * nI i)) + 2) : Int32).toNatClampNeg) (σ.1 22 0 (((56 + (5 * nI i)) + 3) : Int32).toNatClampNeg)) = (σ.1 22 0 (((56 + (5 * nI i)) + 4) : Int32).toNatClampNeg) then some 1 else some 0) else some 1) : Option Int32) = some (bI (aB (nfit (σ.1 22 0) x k) (i + 1))) := by
        rw [show aB (nfit (σ.1 22 0) x k) (i + 1) = (aB (nfit (σ.1 22 0) x k) i && nfit (σ.1 22 0) x k i) from rfl]
        cases aB (nfit (σ.1 22 0) x k) i with
        | false => rfl
        | true =>
          rw [if_neg (by decide), Bool.true_and, show (56 : Int32) = nI 56 from rfl, show (5 : Int32) = nI 5 from rfl, show (4 : Int32) = nI 4 from rfl, show (3 : Int32) = nI 3 from rfl, show (2 : Int32) = nI 2 from rfl, pk_mul, nI_add, nI_1, nI_add, nI_add, nI_add, inb_nI (by omega) (by decide), inb_nI (by omega) (by decide), inb_nI (by omega) (by decide), inb_nI (by omega) (by decide), inb_nI (by omega) (by decide), nI_clamp (by omega), nI_clamp (by omega), nI_clamp (by omega), nI_clamp (by omega), nI_clamp (by omega), ck_t, ck_t, ck_t, ck_t, ck_t]
          unfold nfit
          by_cases z : σ.1 22 0 (56 + 5 * i) = x
          · rw [if_pos z, decide_eq_true z]
            have ed : f11_drawsAs (nI k) (σ.1 22 0 (56 + 5 * i + 1)) (σ.1 22 0 (56 + 5 * i + 2)) (σ.1 22 0 (56 + 5 * i + 3)) = f3_draw (nI k) (σ.1 22 0 (56 + 5 * i + 1)) (σ.1 22 0 (56 + 5 * i + 2)) (σ.1 22 0 (56 + 5 * i + 3)) := by
              rw [y2, y4, y6]
              exact drE hk y1 y3 (by omega)
            rw [ed]
            by_cases z2 : f3_draw (nI k) (σ.1 22 0 (56 + 5 * i + 1)) (σ.1 22 0 (56 + 5 * i + 2)) (σ.1 22 0 (56 + 5 * i + 3)) = σ.1 22 0 (56 + 5 * i + 4)
            · rw [if_pos z2, decide_eq_true z2]; rfl
            · rw [if_neg z2, decide_eq_false z2]; rfl
          · rw [if_neg z, decide_eq_false z]; rfl
      rw [l11_kindsOfThing_16, a3, if_neg (nI_ge hi (by omega)), hs, bnd_s, nI_1]
      exact ihh
  have key : ∀ (r m i : Nat), i + r = 6 → r < m → l11_kindsOfThing_4 0 x σ m (nI (bset (fun k => aB (nfit (σ.1 22 0) x k) n) i)) (nI i) = some (nI (fits (nfit (σ.1 22 0) x) n), nI 6) := by
    intro r
    induction r with
    | zero =>
      intro m i h1 h2
      obtain ⟨m, rfl⟩ : ∃ q, m = q + 1 := ⟨m - 1, by omega⟩
      obtain rfl : i = 6 := by omega
      rw [l11_kindsOfThing_4, if_pos (by decide)]; rfl
    | succ r ih =>
      intro m i h1 h2
      obtain ⟨m, rfl⟩ : ∃ q, m = q + 1 := ⟨m - 1, by omega⟩
      have hb : bset (fun k => aB (nfit (σ.1 22 0) x k) n) i < 64 := Nat.lt_of_lt_of_le (bset_lt _ i) (show 2 ^ i ≤ 2 ^ 6 from Nat.pow_le_pow_right (by decide) (by omega))
      obtain ⟨z, e⟩ := inn (nI (bset (fun k => aB (nfit (σ.1 22 0) x k) n) i)) i (by omega) n 2000 0 (by omega) (by omega)
      have ihh := ih m (i + 1) (by omega) (by omega)
      rw [show bset (fun k => aB (nfit (σ.1 22 0) x k) n) (i + 1) = if aB (nfit (σ.1 22 0) x i) n = true then bset (fun k => aB (nfit (σ.1 22 0) x k) n) i ||| 2 ^ i else bset (fun k => aB (nfit (σ.1 22 0) x k) n) i from rfl] at ihh
      rw [l11_kindsOfThing_4, if_neg (nleL 6 i), show l11_kindsOfThing_16 0 x (nI (bset (fun k => aB (nfit (σ.1 22 0) x k) n) i)) (nI i) σ 2000 1 0 = _ from e, bnd_s, lt_e, nI_1]
      cases hg : aB (nfit (σ.1 22 0) x i) n with
      | true =>
        rw [if_neg (show ¬ bI true = 0 by decide), orN _ hb i (by omega)]
        rw [hg, if_pos rfl] at ihh
        exact ihh
      | false =>
        rw [if_pos (show bI false = 0 by rfl), show ∀ x : Int32, x ||| 0 = x from fun _ => Int32.or_zero]
        rw [hg, if_neg (by decide)] at ihh
        exact ihh
  unfold f11_kindsOfThing
  rw [show l11_kindsOfThing_4 0 x σ 2000 0 0 = _ from key 6 2000 0 (by omega) (by omega), bnd_s]
theorem kindsOfPart_ok {σ : Mem} {n : Nat} (x : Int32) (a3 : σ.1 22 0 4 = nI n) (h6 : n ≤ 6) (hx : ∀ i, i < n → (∃ k, k ≤ 5 ∧ σ.1 22 0 (87 + 4 * i) = nI k) ∧ ∃ y, y ≤ 99 ∧ σ.1 22 0 (88 + 4 * i) = nI y) :
    f11_kindsOfPart 0 x σ = some (nI (fits (mfit (σ.1 22 0) x) n)) := by
  have inn : ∀ (x2 : Int32) (k : Nat), k < 6 → ∀ (r m i : Nat), i + r = n → r < m → ∃ z, l11_kindsOfPart_16 0 x x2 (nI k) σ m (bI (aB (mfit (σ.1 22 0) x k) i)) (nI i) = some (bI (aB (mfit (σ.1 22 0) x k) n), z) := by
    intro x2 k hk r
    induction r with
    | zero =>
      intro m i h1 h2
      obtain ⟨m, rfl⟩ : ∃ q, m = q + 1 := ⟨m - 1, by omega⟩
      obtain rfl : i = n := by omega
      exact ⟨nI i, by rw [l11_kindsOfPart_16, a3, if_pos (nI_le (by omega) (by omega))]⟩
    | succ r ih =>
      intro m i h1 h2
      obtain ⟨m, rfl⟩ : ∃ q, m = q + 1 := ⟨m - 1, by omega⟩
      have hi : i < n := by omega
      have ihh := ih m (i + 1) (by omega) (by omega)
      obtain ⟨⟨hh, y1, y2⟩, ⟨yy, y5, y6⟩⟩ := hx i hi
      rw [show 87 + 4 * i = 86 + 4 * i + 1 by omega] at y2
      rw [show 88 + 4 * i = 86 + 4 * i + 2 by omega] at y6
      have hs : (if bI (aB (mfit (σ.1 22 0) x k) i) = 0 then some 0 else (ck (inb (86 + (4 * nI i)) 142) <| if (σ.1 22 0 ((86 + (4 * nI i)) : Int32).toNatClampNeg) = x then (ck (inb ((86 + (4 * nI i)) + 1) 142) <| ck (inb ((86 + (4 * nI i)) + 2) 142) <| ck (inb ((86 + (4 * nI i)) + 3) 142) <| if (f11_needsAs (nI k) (σ.1 22 0 (((86 + (4 * nI i)) + 1) : Int32).toNatClampNeg) (σ.1 22 0 (((86 + (4 * nI i)) + 2) : Int32).toNatClampNeg)) = (σ.1 22 0 (((86 + (4 * nI i)) + 3) : Int32).toNatClampNeg) then some 1 else some 0) else some 1) : Option Int32) = some (bI (aB (mfit (σ.1 22 0) x k) (i + 1))) := by
        rw [show aB (mfit (σ.1 22 0) x k) (i + 1) = (aB (mfit (σ.1 22 0) x k) i && mfit (σ.1 22 0) x k i) from rfl]
        cases aB (mfit (σ.1 22 0) x k) i with
        | false => rfl
        | true =>
          rw [if_neg (by decide), Bool.true_and, show (86 : Int32) = nI 86 from rfl, show (4 : Int32) = nI 4 from rfl, show (3 : Int32) = nI 3 from rfl, show (2 : Int32) = nI 2 from rfl, pk_mul, nI_add, nI_1, nI_add, nI_add, inb_nI (by omega) (by decide), inb_nI (by omega) (by decide), inb_nI (by omega) (by decide), inb_nI (by omega) (by decide), nI_clamp (by omega), nI_clamp (by omega), nI_clamp (by omega), nI_clamp (by omega), ck_t, ck_t, ck_t, ck_t]
          unfold mfit
          by_cases z : σ.1 22 0 (86 + 4 * i) = x
          · rw [if_pos z, decide_eq_true z]
            have ed : f11_needsAs (nI k) (σ.1 22 0 (86 + 4 * i + 1)) (σ.1 22 0 (86 + 4 * i + 2)) = f3_need (nI k) (σ.1 22 0 (86 + 4 * i + 1)) (σ.1 22 0 (86 + 4 * i + 2)) := by
              rw [y2, y6]
              exact ndE hk (by omega) (by omega)
            rw [ed]
            by_cases z2 : f3_need (nI k) (σ.1 22 0 (86 + 4 * i + 1)) (σ.1 22 0 (86 + 4 * i + 2)) = σ.1 22 0 (86 + 4 * i + 3)
            · rw [if_pos z2, decide_eq_true z2]; rfl
            · rw [if_neg z2, decide_eq_false z2]; rfl
          · rw [if_neg z, decide_eq_false z]; rfl
      rw [l11_kindsOfPart_16, a3, if_neg (nI_ge hi (by omega)), hs, bnd_s, nI_1]
      exact ihh
  have key : ∀ (r m i : Nat), i + r = 6 → r < m → l11_kindsOfPart_4 0 x σ m (nI (bset (fun k => aB (mfit (σ.1 22 0) x k) n) i)) (nI i) = some (nI (fits (mfit (σ.1 22 0) x) n), nI 6) := by
    intro r
    induction r with
    | zero =>
      intro m i h1 h2
      obtain ⟨m, rfl⟩ : ∃ q, m = q + 1 := ⟨m - 1, by omega⟩
      obtain rfl : i = 6 := by omega
      rw [l11_kindsOfPart_4, if_pos (by decide)]; rfl
    | succ r ih =>
      intro m i h1 h2
      obtain ⟨m, rfl⟩ : ∃ q, m = q + 1 := ⟨m - 1, by omega⟩
      have hb : bset (fun k => aB (mfit (σ.1 22 0) x k) n) i < 64 := Nat.lt_of_lt_of_le (bset_lt _ i) (show 2 ^ i ≤ 2 ^ 6 from Nat.pow_le_pow_right (by decide) (by omega))
      obtain ⟨z, e⟩ := inn (nI (bset (fun k => aB (mfit (σ.1 22 0) x k) n) i)) i (by omega) n 2000 0 (by omega) (by omega)
      have ihh := ih m (i + 1) (by omega) (by omega)
      rw [show bset (fun k => aB (mfit (σ.1 22 0) x k) n) (i + 1) = if aB (mfit (σ.1 22 0) x i) n = true then bset (fun k => aB (mfit (σ.1 22 0) x k) n) i ||| 2 ^ i else bset (fun k => aB (mfit (σ.1 22 0) x k) n) i from rfl] at ihh
      rw [l11_kindsOfPart_4, if_neg (nleL 6 i), show l11_kindsOfPart_16 0 x (nI (bset (fun k => aB (mfit (σ.1 22 0) x k) n) i)) (nI i) σ 2000 1 0 = _ from e, bnd_s, lt_e, nI_1]
      cases hg : aB (mfit (σ.1 22 0) x i) n with
      | true =>
        rw [if_neg (show ¬ bI true = 0 by decide), orN _ hb i (by omega)]
        rw [hg, if_pos rfl] at ihh
        exact ihh
      | false =>
        rw [if_pos (show bI false = 0 by rfl), show ∀ x : Int32, x ||| 0 = x from fun _ => Int32.or_zero]
        rw [hg, if_neg (by decide)] at ihh
        exact ihh
  unfold f11_kindsOfPart
  rw [show l11_kindsOfPart_4 0 x σ 2000 0 0 = _ from key 6 2000 0 (by omega) (by omega), bnd_s]
/-! is, kinds -/
theorem Sc.r6 {σ : Mem} {f : Nat → Int32} : Sc σ (sA σ 21 6 f) := Sc.row (Or.inr (Or.inr (Or.inl ⟨rfl, by decide⟩)))
theorem Sc.r8 {σ : Mem} {f : Nat → Int32} : Sc σ (sA σ 22 8 f) := Sc.row (Or.inr (Or.inl ⟨rfl, by decide, by decide⟩))
theorem ok_is {σ : Mem} (x1 : Int32) (h : Inv σ) : OKc (f10_is 0 x1) (f11_is 0 x1) σ := by
  obtain ⟨t, p, s, n, m, e, hv, hr⟩ := h.vr
  have hC := (hv.HV hr).1
  have hR := hr.AR.2
  have e0 := hr.aof0.1
  obtain ⟨b1, b2, b3, b4, b5, b6⟩ := hr.2.1
  by_cases c1 : f10_within x1 0 (nI t - 1) = 0
  · refine ok_bad h ?_ ?_
    · unfold f10_is
      rw [hC.isT, e0, if_pos c1]; rfl
    · unfold f11_is
      rw [RV.isT (A := Aof (σ.1 22 0)) (by rw [bad0]; exact hR), e0, if_pos c1]; rfl
  obtain ⟨g, e1⟩ := thingKinds_ok (g := σ.1 21 6) (a := σ.1 22 0) x1 hv.2.1.2.2.2.2.1 (hv.1 4 (by decide)).2 b4 hv.2.2.2.2.2.2.2.1
  rw [sA_self] at e1
  have e2 := kindsOfThing_ok (σ := sA σ 21 6 g) (n := n) x1 hr.1.2.2.2.1 b4 hr.2.2.2.2.2.2.2.2.1
  refine ok_scr (r := nI (fits (nfit (σ.1 22 0) x1) n)) h ?_ (Sc.r6 (f := g)) ?_ (Sc.rf _)
  · unfold f10_is
    rw [hC.isT, e0, if_neg c1, e1, bnd_s]
  · unfold f11_is
    rw [RV.isT (A := Aof (σ.1 22 0)) (σ := sA σ 21 6 g) hR, e0, if_neg c1, e2, bnd_s]
    rfl
theorem ok_kinds {σ : Mem} (x1 : Int32) (h : Inv σ) : OKc (f10_kinds 0 x1) (f11_kinds 0 x1) σ := by
  obtain ⟨t, p, s, n, m, e, hv, hr⟩ := h.vr
  have hC := (hv.HV hr).1
  have hR := hr.AR.2
  have e0 := hr.aof0.2.1
  obtain ⟨b1, b2, b3, b4, b5, b6⟩ := hr.2.1
  by_cases c1 : f10_within x1 0 (nI p - 1) = 0
  · refine ok_bad h ?_ ?_
    · unfold f10_kinds
      rw [hC.isP, e0, if_pos c1]; rfl
    · unfold f11_kinds
      rw [RV.isP (A := Aof (σ.1 22 0)) (by rw [bad0]; exact hR), e0, if_pos c1]; rfl
  obtain ⟨g, e1⟩ := partKinds_ok (g := σ.1 21 6) (a := σ.1 22 0) x1 hv.2.1.2.2.2.2.2.1 (hv.1 5 (by decide)).2 b5 hv.2.2.2.2.2.2.2.2.1
  rw [sA_self] at e1
  have e2 := kindsOfPart_ok (σ := sA σ 21 6 g) (n := m) x1 hr.1.2.2.2.2.1 b5 hr.2.2.2.2.2.2.2.2.2
  refine ok_scr (r := nI (fits (mfit (σ.1 22 0) x1) m)) h ?_ (Sc.r6 (f := g)) ?_ (Sc.rf _)
  · unfold f10_kinds
    rw [hC.isP, e0, if_neg c1, e1, bnd_s]
  · unfold f11_kinds
    rw [RV.isP (A := Aof (σ.1 22 0)) (σ := sA σ 21 6 g) hR, e0, if_neg c1, e2, bnd_s]
    rfl
