/-! falls: the chance, in lowest terms -/
theorem cmp_0 {x y : Int64} : lg_cmp x y = 0 ↔ x = y := by
  unfold lg_cmp
  constructor
  · intro h
    split at h
    · exact absurd h (by decide)
    · split at h
      · assumption
      · exact absurd h (by decide)
  · intro h
    subst h
    rw [if_neg (by simp [Int64.lt_irrefl]), if_pos rfl]
theorem lN_ne0 {n : Nat} (h : 0 < n) (h2 : n < 2 ^ 63) : ¬ lN n = 0 := fun q => absurd ((pk_lEQ h2 (show 0 < 2 ^ 63 by decide)).mp q) (by omega)
theorem gcd_step (a b : Nat) : Nat.gcd a b = Nat.gcd b (a % b) := by rw [Nat.gcd_comm a b, Nat.gcd_rec b a, Nat.gcd_comm]
theorem half {b c : Nat} (h0 : 0 < c) (h : c < b) : 2 * (b % c) < b := by
  have h1 := Nat.mod_lt b h0
  have h2 : b % c + c ≤ b := by
    have e := Nat.div_add_mod b c
    have h3 : 1 ≤ b / c := (Nat.le_div_iff_mul_le h0).mpr (by omega)
    have h4 : c * 1 ≤ c * (b / c) := Nat.mul_le_mul_left c h3
    omega
  omega
theorem gcdR {x1 x3 : Int64} : ∀ (m n a b : Nat), b < 2 ^ m → 2 * m + 1 ≤ n → a < 2 ^ 62 → b < 2 ^ 62 → ∃ z, l11_fraction_6 0 x1 x3 n (lN a) (lN b) = some (lN (Nat.gcd a b), z) := by
  intro m
  induction m with
  | zero =>
    intro n a b h1 h2 h3 h4
    obtain ⟨n, rfl⟩ : ∃ q, n = q + 1 := ⟨n - 1, by omega⟩
    obtain rfl : b = 0 := by omega
    exact ⟨lN 0, by rw [l11_fraction_6, if_pos (show lg_cmp (lN 0) 0 = 0 from cmp_0.mpr rfl), Nat.gcd_zero_right]⟩
  | succ m ih =>
    intro n a b h1 h2 h3 h4
    obtain ⟨n, rfl⟩ : ∃ q, n = q + 1 := ⟨n - 1, by omega⟩
    by_cases hb : b = 0
    · subst hb
      exact ⟨lN 0, by rw [l11_fraction_6, if_pos (show lg_cmp (lN 0) 0 = 0 from cmp_0.mpr rfl), Nat.gcd_zero_right]⟩
    have hm := Nat.mod_lt a (show 0 < b by omega)
    rw [l11_fraction_6, if_neg (fun q => lN_ne0 (n := b) (by omega) (by omega) (cmp_0.mp q)), decide_eq_true (lN_ne0 (n := b) (by omega) (by omega)), ck_t, pk_lRem (by omega) (by omega) (by omega), gcd_step a b]
    obtain ⟨n, rfl⟩ : ∃ q, n = q + 1 := ⟨n - 1, by omega⟩
    by_cases hc : a % b = 0
    · rw [hc]
      exact ⟨lN 0, by rw [l11_fraction_6, if_pos (show lg_cmp (lN 0) 0 = 0 from cmp_0.mpr rfl), Nat.gcd_zero_right]⟩
    have hh := half (b := b) (show 0 < a % b by omega) hm
    rw [l11_fraction_6, if_neg (fun q => lN_ne0 (n := a % b) (by omega) (by omega) (cmp_0.mp q)), decide_eq_true (lN_ne0 (n := a % b) (by omega) (by omega)), ck_t, pk_lRem (by omega) (by omega) (by omega), gcd_step b (a % b)]
    rw [Nat.pow_succ] at h1
    exact ih n (a % b) (b % (a % b)) (by omega) (by omega) (by omega) (by omega)
theorem gcdC : ∀ (m n i a b : Nat), b < 2 ^ m → 2 * m + 1 ≤ n → i + 2 * m ≤ 100 → a < 2 ^ 62 → b < 2 ^ 62 → ∃ z, l1_commonOf_9 n (lN a) (lN b) (nI i) = some (lN (Nat.gcd a b), z) := by
  intro m
  induction m with
  | zero =>
    intro n i a b h1 h2 hi h3 h4
    obtain ⟨n, rfl⟩ : ∃ q, n = q + 1 := ⟨n - 1, by omega⟩
    obtain rfl : b = 0 := by omega
    refine ⟨(lN 0, nI i), ?_⟩
    rw [l1_commonOf_9, Nat.gcd_zero_right]
    by_cases z : 100 ≤ i
    · rw [if_pos (leL 100 i)]
    · rw [if_neg (nleL 100 i), if_pos (show lg_cmp (lN 0) 0 = 0 from cmp_0.mpr rfl)]
  | succ m ih =>
    intro n i a b h1 h2 hi h3 h4
    obtain ⟨n, rfl⟩ : ∃ q, n = q + 1 := ⟨n - 1, by omega⟩
    by_cases hb : b = 0
    · subst hb
      exact ⟨(lN 0, nI i), by rw [l1_commonOf_9, if_neg (nleL 100 i), if_pos (show lg_cmp (lN 0) 0 = 0 from cmp_0.mpr rfl), Nat.gcd_zero_right]⟩
    have hm := Nat.mod_lt a (show 0 < b by omega)
    rw [l1_commonOf_9, if_neg (nleL 100 i), if_neg (fun q => lN_ne0 (n := b) (by omega) (by omega) (cmp_0.mp q)), decide_eq_true (lN_ne0 (n := b) (by omega) (by omega)), ck_t, pk_lRem (by omega) (by omega) (by omega), gcd_step a b, nI_1]
    obtain ⟨n, rfl⟩ : ∃ q, n = q + 1 := ⟨n - 1, by omega⟩
    by_cases hc : a % b = 0
    · rw [hc]
      exact ⟨(lN 0, nI (i + 1)), by rw [l1_commonOf_9, if_neg (nleL 100 (i + 1)), if_pos (show lg_cmp (lN 0) 0 = 0 from cmp_0.mpr rfl), Nat.gcd_zero_right]⟩
    have hh := half (b := b) (show 0 < a % b by omega) hm
    rw [l1_commonOf_9, if_neg (nleL 100 (i + 1)), if_neg (fun q => lN_ne0 (n := a % b) (by omega) (by omega) (cmp_0.mp q)), decide_eq_true (lN_ne0 (n := a % b) (by omega) (by omega)), ck_t, pk_lRem (by omega) (by omega) (by omega), gcd_step b (a % b), nI_1]
    rw [Nat.pow_succ] at h1
    exact ih n (i + 1 + 1) (a % b) (b % (a % b)) (by omega) (by omega) (by omega) (by omega) (by omega)
theorem setC {σ : Mem} {a b : Nat} (hb : 0 < b) (hb2 : b < 2 ^ 24) (ha : a < 2 ^ 62) : f1_set 0 (lN a) (lN b) σ = some (sL (sL σ 1 0 0 (lN (a / Nat.gcd a b))) 1 0 1 (lN (b / Nat.gcd a b))) := by
  obtain ⟨z, e⟩ := gcdC 24 2000 0 a b hb2 (by omega) (by omega) ha (by omega)
  have hg : 0 < Nat.gcd a b := Nat.gcd_pos_of_pos_right a hb
  have hg2 : Nat.gcd a b ≤ b := Nat.le_of_dvd hb (Nat.gcd_dvd_right a b)
  unfold f1_set f1_commonOf
  rw [show l1_commonOf_9 2000 (lN a) (lN b) 0 = _ from e, bnd_s, bnd_s, if_neg (fun q => lN_ne0 hg (by omega) (cmp_0.mp q)), decide_eq_true (lN_ne0 hg (by omega)), ck_t, lt_e, ck_t, lt_e, pk_lDiv (by omega) hg (by omega), pk_lDiv (by omega) hg (by omega)]
theorem setR {σ : Mem} {a b : Nat} (hb : 0 < b) (hb2 : b < 2 ^ 24) (ha : a < 2 ^ 62) : f11_fraction 0 (lN a) (lN b) σ = some (sL (sL σ 11 0 4 (lN (a / Nat.gcd a b))) 11 0 5 (lN (b / Nat.gcd a b))) := by
  obtain ⟨z, e⟩ := gcdR (x1 := lN a) (x3 := lN b) 24 2000 a b hb2 (by omega) ha (by omega)
  have hg : 0 < Nat.gcd a b := Nat.gcd_pos_of_pos_right a hb
  have hg2 : Nat.gcd a b ≤ b := Nat.le_of_dvd hb (Nat.gcd_dvd_right a b)
  unfold f11_fraction
  rw [e, bnd_s, decide_eq_true (lN_ne0 hg (by omega)), ck_t, lt_e, ck_t, lt_e, pk_lDiv (by omega) hg (by omega), pk_lDiv (by omega) hg (by omega)]
theorem Inv.frac {σ τ : Mem} (h : Inv σ) (h1 : τ.1 = σ.1) (hF : InvF τ) : Inv τ := by
  obtain ⟨i1, i2, i3, i4, -, i6⟩ := h
  refine ⟨?_, ?_, ?_, ?_, hF, ?_⟩
  · obtain ⟨t, p, s, n, m, e, hv, hr⟩ := i1
    refine ⟨t, p, s, n, m, e, ?_, by rw [h1]; exact hr⟩
    unfold VR TC at hv ⊢
    rw [h1]
    exact hv
  · unfold InvT TC at i2 ⊢
    rw [h1]
    exact i2
  · intro i hi
    obtain ⟨k1, k2⟩ := i3 i hi
    rw [h1]
    refine ⟨k1, ?_⟩
    rcases k2 with k2 | ⟨k2, t, p, s, n, m, e, hv, hr⟩
    · exact Or.inl k2
    · refine Or.inr ⟨k2, t, p, s, n, m, e, ?_, hr⟩
      unfold VR TC at hv ⊢
      rw [h1]
      exact hv
  · unfold InvX at i4 ⊢
    rw [h1]
    exact i4
  · unfold InvS at i6 ⊢
    rw [h1]
    exact i6
/-- the same fraction, told by so many times as much, is one and the same -/
theorem frac_same {σ : Mem} {a b m : Nat} (h : Inv σ) (hb : 0 < b) (hm : 0 < m) (hb2 : b < 2 ^ 24) (hbm : b * m < 2 ^ 24) (ha : a < 2 ^ 30) (ham : a * m < 2 ^ 62) :
    ∃ τ1 τ2, f1_set 0 (lN a) (lN b) σ = some τ1 ∧ τ1.1 = σ.1 ∧ f11_fraction 0 (lN (a * m)) (lN (b * m)) τ1 = some τ2 ∧ Inv τ2 ∧ τ2.1 = σ.1 := by
  refine ⟨_, _, setC hb hb2 (by omega), rfl, setR (Nat.mul_pos hb hm) hbm ham, h.frac rfl ⟨?_, ?_⟩, rfl⟩
  · rw [rdL, if_neg (by omega), rdL, if_neg (by omega), rdL, if_neg (by omega), rdL, if_pos ⟨rfl, rfl, rfl⟩, rdL, if_neg (by omega), rdL, if_pos ⟨rfl, rfl, rfl⟩, Nat.gcd_mul_right, Nat.mul_div_mul_right _ _ hm]
  · rw [rdL, if_neg (by omega), rdL, if_neg (by omega), rdL, if_pos ⟨rfl, rfl, rfl⟩, rdL, if_pos ⟨rfl, rfl, rfl⟩, Nat.gcd_mul_right, Nat.mul_div_mul_right _ _ hm]
/-! sums over sets -/
def prd (f : Nat → Nat) : Nat → Nat
  | 0 => 1
  | n + 1 => prd f n * f n
def smN (f : Nat → Nat) : Nat → Nat
  | 0 => 0
  | n + 1 => smN f n + f n
theorem prd_congr {f g : Nat → Nat} : ∀ n, (∀ k, k < n → f k = g k) → prd f n = prd g n
  | 0, _ => rfl
  | n + 1, h => by
    show prd f n * f n = prd g n * g n
    rw [prd_congr n (fun k hk => h k (by omega)), h n (by omega)]
theorem prd_zero {f : Nat → Nat} : ∀ n k, k < n → f k = 0 → prd f n = 0
  | 0, k, h, _ => absurd h (Nat.not_lt_zero k)
  | n + 1, k, h, h0 => by
    show prd f n * f n = 0
    rcases (show k < n ∨ k = n by omega) with q | q
    · rw [prd_zero n k q h0, Nat.zero_mul]
    · rw [← q, h0, Nat.mul_zero]
theorem smN_congr {f g : Nat → Nat} : ∀ n, (∀ k, k < n → f k = g k) → smN f n = smN g n
  | 0, _ => rfl
  | n + 1, h => by
    show smN f n + f n = smN g n + g n
    rw [smN_congr n (fun k hk => h k (by omega)), h n (by omega)]
theorem smN_add (f : Nat → Nat) (a : Nat) : ∀ b, smN f (a + b) = smN f a + smN (fun s => f (a + s)) b
  | 0 => rfl
  | b + 1 => by
    show smN f (a + b) + f (a + b) = smN f a + (smN (fun s => f (a + s)) b + f (a + b))
    rw [smN_add f a b]; omega
theorem smN_mul (f : Nat → Nat) (c : Nat) : ∀ n, smN (fun s => f s * c) n = smN f n * c
  | 0 => (Nat.zero_mul c).symm
  | n + 1 => by
    show smN (fun s => f s * c) n + f n * c = (smN f n + f n) * c
    rw [smN_mul f c n, Nat.add_mul]
theorem smN_zero {f : Nat → Nat} : ∀ n, (∀ k, k < n → f k = 0) → smN f n = 0
  | 0, _ => rfl
  | n + 1, h => by
    show smN f n + f n = 0
    rw [smN_zero n (fun k hk => h k (by omega)), h n (by omega)]
theorem smN_le {f : Nat → Nat} {M : Nat} : ∀ n, (∀ k, k < n → f k ≤ M) → smN f n ≤ n * M
  | 0, _ => Nat.zero_le _
  | n + 1, h => by
    have h1 := smN_le n (fun k hk => h k (by omega))
    have h2 := h n (by omega)
    show smN f n + f n ≤ (n + 1) * M
    rw [Nat.succ_mul]; omega
/-- the sum over all sets of a product over all places is the product of the sums -/
theorem sum_prod (g : Nat → Bool → Nat) : ∀ t, smN (fun s => prd (fun k => g k (s.testBit k)) t) (2 ^ t) = prd (fun k => g k false + g k true) t
  | 0 => rfl
  | t + 1 => by
    have e1 : smN (fun s => prd (fun k => g k (s.testBit k)) (t + 1)) (2 ^ t) = prd (fun k => g k false + g k true) t * g t false := by
      rw [← sum_prod g t, ← smN_mul]
      refine smN_congr _ (fun s hs => ?_)
      show prd (fun k => g k (s.testBit k)) t * g t (s.testBit t) = _
      rw [Nat.testBit_lt_two_pow hs]
    have e2 : smN (fun s => prd (fun k => g k ((2 ^ t + s).testBit k)) (t + 1)) (2 ^ t) = prd (fun k => g k false + g k true) t * g t true := by
      rw [← sum_prod g t, ← smN_mul]
      refine smN_congr _ (fun s hs => ?_)
      show prd (fun k => g k ((2 ^ t + s).testBit k)) t * g t ((2 ^ t + s).testBit t) = _
      rw [Nat.testBit_two_pow_add_eq, Nat.testBit_lt_two_pow hs]
      show _ * g t true = _
      rw [prd_congr t (fun k hk => by rw [Nat.testBit_two_pow_add_gt hk])]
    rw [show 2 ^ (t + 1) = 2 ^ t + 2 ^ t by rw [Nat.pow_succ]; omega, smN_add, e1, e2, ← Nat.mul_add]
    rfl
def hfl (u c s k : Nat) : Nat := if u.testBit k = true then (if s.testBit k = true then 10 - c else c) else 1
def gfl (u S c k : Nat) (b : Bool) : Nat := if u.testBit k = true then (if b = true then (if S.testBit k = true then 0 else 10 - c) else (if k = 0 then 0 else c)) else (if b = true then 0 else (if k = 0 then 0 else 1))
def cas (u c t s : Nat) : Nat := (if s &&& (63 ^^^ u) = 0 then 1 else 0) * prd (hfl u c s) t
def Ffl (A : Nat → Nat) (u y c cell s : Nat) : Nat := if st A s y cell = 0 then cas u c (A 0) s else 0
theorem hfl_le {u c s k : Nat} (hc : c ≤ 10) : hfl u c s k ≤ 10 := by
  unfold hfl
  repeat' split
  all_goals omega
theorem prd_le {f : Nat → Nat} : ∀ n, (∀ k, k < n → f k ≤ 10) → prd f n ≤ 10 ^ n
  | 0, _ => Nat.le_refl 1
  | n + 1, h => by
    show prd f n * f n ≤ 10 ^ (n + 1)
    rw [Nat.pow_succ]
    exact Nat.mul_le_mul (prd_le n (fun k hk => h k (by omega))) (h n (by omega))
theorem pow10 {n : Nat} (h : n ≤ 6) : 10 ^ n ≤ 1000000 := Nat.pow_le_pow_right (n := 10) (by decide) h
theorem cas_le {u c t s : Nat} (hc : c ≤ 10) (ht : t ≤ 6) : cas u c t s ≤ 1000000 := by
  have h1 : prd (hfl u c s) t ≤ 1000000 := Nat.le_trans (prd_le t (fun k _ => hfl_le hc)) (pow10 ht)
  unfold cas
  split
  · omega
  · omega
theorem Ffl_eq {A : Nat → Nat} {u y c cell s : Nat} (hA : AR A) (hu : u < 2 ^ A 0) (h0 : 0 < A 0) (hd : 1 ≤ dw A y cell 0) (hs : s < 2 ^ A 0) :
    Ffl A u y c cell s = prd (fun k => gfl u (SS A y cell) c k (s.testBit k)) (A 0) := by
  have h6 := hA.1.1
  have s6 := pow64 h6 hs
  unfold Ffl
  by_cases hz : st A s y cell = 0
  · rw [if_pos hz]
    obtain ⟨-, q1, q2, q3⟩ := (st_zero hA s6).mp hz
    unfold cas
    by_cases hsub : s &&& (63 ^^^ u) = 0
    · rw [if_pos hsub, Nat.one_mul]
      have hsb := (dif_0 s6).mp hsub
      refine prd_congr _ (fun k hk => ?_)
      have hS : s.testBit k = true → (SS A y cell).testBit k = false := fun w => by
        have h : (s &&& SS A y cell).testBit k = Nat.testBit 0 k := congrArg (fun x => Nat.testBit x k) q3
        rw [Nat.testBit_and, Nat.zero_testBit, w, Bool.true_and] at h
        exact h
      unfold hfl gfl
      by_cases w : s.testBit k = true
      · rw [hsb k (by omega) w, w, hS w]
        rfl
      · have w2 : s.testBit k = false := Bool.eq_false_iff.mpr w
        have wk : ¬ k = 0 := fun e => by rw [e] at w; exact w q1
        rw [w2]
        simp [wk]
    · rw [if_neg hsub, Nat.zero_mul]
      have : ∃ k, k < 6 ∧ s.testBit k = true ∧ u.testBit k = false := by
        by_cases w : ∃ k, k < 6 ∧ s.testBit k = true ∧ u.testBit k = false
        · exact w
        · refine absurd ((dif_0 s6).mpr (fun k hk hb => ?_)) hsub
          cases e : u.testBit k with
          | true => rfl
          | false => exact absurd ⟨k, hk, hb, e⟩ w
      obtain ⟨k, hk, w1, w2⟩ := this
      have hkt : k < A 0 := by
        by_cases e : k < A 0
        · exact e
        · rw [Nat.testBit_lt_two_pow (Nat.lt_of_lt_of_le hs (Nat.pow_le_pow_right (by decide) (Nat.not_lt.mp e)))] at w1
          exact absurd w1 (by decide)
      refine (prd_zero _ k hkt ?_).symm
      unfold gfl
      rw [w2, w1]
      rfl
  · rw [if_neg hz]
    have : ∃ k, k < A 0 ∧ gfl u (SS A y cell) c k (s.testBit k) = 0 := by
      by_cases w0 : s.testBit 0 = true
      · have : ∃ k, k < 6 ∧ s.testBit k = true ∧ (SS A y cell).testBit k = true := by
          by_cases w : ∃ k, k < 6 ∧ s.testBit k = true ∧ (SS A y cell).testBit k = true
          · exact w
          · refine absurd ((st_zero hA s6).mpr ⟨h0, w0, hd, bits_ext (Nat.and_lt_two_pow (n := 6) _ (SS_lt A y cell)) (by decide) (fun k hk => ?_)⟩) hz
            rw [Nat.testBit_and, Nat.zero_testBit]
            cases e1 : s.testBit k with
            | false => rfl
            | true =>
              cases e2 : (SS A y cell).testBit k with
              | false => rfl
              | true => exact absurd ⟨k, hk, e1, e2⟩ w
        obtain ⟨k, hk, w1, w2⟩ := this
        have hkt : k < A 0 := by
          rw [SS_t hk] at w2
          exact (of_decide_eq_true w2).2.1
        refine ⟨k, hkt, ?_⟩
        unfold gfl
        rw [w1, w2]
        cases u.testBit k <;> rfl
      · refine ⟨0, h0, ?_⟩
        unfold gfl
        rw [Bool.eq_false_iff.mpr w0]
        cases u.testBit 0 <;> rfl
    obtain ⟨k, hk, e⟩ := this
    exact (prd_zero _ k hk e).symm
def Pfl (u S k : Nat) : Bool := S.testBit k && u.testBit k
def Qfl (u S k : Nat) : Bool := u.testBit k && (!S.testBit k && !decide (k = 0))
theorem b01_t : b01 true = 1 := rfl
theorem b01_f : b01 false = 0 := rfl
theorem efl_prod {u S c : Nat} (hc : c ≤ 10) (hu0 : u.testBit 0 = true) (hS0 : S.testBit 0 = false) : ∀ n, prd (fun k => gfl u S c k false + gfl u S c k true) (n + 1) = (10 - c) * (c ^ cB (Pfl u S) (n + 1) * 10 ^ cB (Qfl u S) (n + 1)) ∧ cB u.testBit (n + 1) = 1 + cB (Pfl u S) (n + 1) + cB (Qfl u S) (n + 1)
  | 0 => by
    have p0 : Pfl u S 0 = false := by unfold Pfl; rw [hS0]; rfl
    have q0 : Qfl u S 0 = false := by unfold Qfl; rw [hS0]; simp
    refine ⟨?_, ?_⟩
    · show 1 * (gfl u S c 0 false + gfl u S c 0 true) = (10 - c) * (c ^ (0 + b01 (Pfl u S 0)) * 10 ^ (0 + b01 (Qfl u S 0)))
      rw [p0, q0]
      unfold gfl
      rw [hu0, hS0]
      show 1 * (0 + (10 - c)) = (10 - c) * (c ^ 0 * 10 ^ 0)
      rw [Nat.pow_zero, Nat.pow_zero]; omega
    · show 0 + b01 (u.testBit 0) = 1 + (0 + b01 (Pfl u S 0)) + (0 + b01 (Qfl u S 0))
      rw [p0, q0, hu0]; rfl
  | n + 1 => by
    obtain ⟨i1, i2⟩ := efl_prod hc hu0 hS0 n
    have hk : decide (n + 1 = 0) = false := decide_eq_false (by omega)
    have e1 : cB (Pfl u S) (n + 1 + 1) = cB (Pfl u S) (n + 1) + b01 (Pfl u S (n + 1)) := rfl
    have e2 : cB (Qfl u S) (n + 1 + 1) = cB (Qfl u S) (n + 1) + b01 (Qfl u S (n + 1)) := rfl
    have e3 : cB u.testBit (n + 1 + 1) = cB u.testBit (n + 1) + b01 (u.testBit (n + 1)) := rfl
    have e4 : prd (fun k => gfl u S c k false + gfl u S c k true) (n + 1 + 1) = prd (fun k => gfl u S c k false + gfl u S c k true) (n + 1) * (gfl u S c (n + 1) false + gfl u S c (n + 1) true) := rfl
    rw [e4, i1, e1, e2, e3, i2]
    unfold Pfl Qfl gfl
    rw [hk]
    cases u.testBit (n + 1) with
    | false =>
      cases S.testBit (n + 1) with
      | false => exact ⟨by show _ * (0 + 1 + 0) = _; simp [b01], by simp [b01]⟩
      | true => exact ⟨by show _ * (0 + 1 + 0) = _; simp [b01], by simp [b01]⟩
    | true =>
      cases S.testBit (n + 1) with
      | false =>
        refine ⟨?_, by simp [b01]; omega⟩
        simp only [if_true, Bool.false_eq_true, if_false, Nat.succ_ne_zero, Bool.and_true, Bool.not_false, Bool.and_self, Bool.false_and, b01_t, b01_f, Nat.add_zero, Nat.pow_succ]
        rw [show c + (10 - c) = 10 by omega, Nat.mul_assoc, Nat.mul_assoc]
      | true =>
        refine ⟨?_, by simp [b01]; omega⟩
        simp only [if_true, Bool.false_eq_true, if_false, Nat.succ_ne_zero, Bool.and_true, Bool.not_true, Bool.and_self, Bool.and_false, Bool.false_and, b01_t, b01_f, Nat.add_zero, Nat.pow_succ]
        simp only [Nat.mul_assoc, Nat.mul_comm, Nat.mul_left_comm]
theorem cB_tail {P : Nat → Bool} {t : Nat} : ∀ m, (∀ k, t ≤ k → P k = false) → cB P (t + m) = cB P t
  | 0, _ => rfl
  | m + 1, h => by
    show cB P (t + m) + b01 (P (t + m)) = _
    rw [cB_tail m h, h (t + m) (by omega)]; rfl
/-! the two sides -/
theorem falls34 {σ : Mem} {x1 x2 : Int32} {x3 : Int64} {u : Nat} (hu : u < 64) (h6 : σ.1 22 0 6 = nI u) : ∃ z, l11_falls_34 0 x1 x2 x3 σ 2000 1 0 = some (lN (10 ^ pc u), z) := by
  have p6 := pc_le6 hu
  have lp : ∀ (r n i : Nat), i + r = pc u → r < n → ∃ z, l11_falls_34 0 x1 x2 x3 σ n (lN (10 ^ i)) (nI i) = some (lN (10 ^ pc u), z) := by
    intro r
    induction r with
    | zero =>
      intro n i h1 h2
      obtain ⟨n, rfl⟩ : ∃ q, n = q + 1 := ⟨n - 1, by omega⟩
      obtain rfl : i = pc u := by omega
      exact ⟨nI (pc u), by rw [l11_falls_34, h6, pcR u hu, bnd_s, if_pos (nI_le (by omega) (by omega))]⟩
    | succ r ih =>
      intro n i h1 h2
      obtain ⟨n, rfl⟩ : ∃ q, n = q + 1 := ⟨n - 1, by omega⟩
      have ihh := ih n (i + 1) (by omega) (by omega)
      rw [Nat.pow_succ, ← lN_mul] at ihh
      rw [l11_falls_34, h6, pcR u hu, bnd_s, if_neg (nI_ge (by omega) (by omega)), nI_1]
      exact ihh
  exact lp (pc u) 2000 0 (by omega) (by omega)
theorem ten_sub {c : Nat} (hc : c ≤ 10) : ((10 : Int32) - nI c).toInt64 = lN (10 - c) := by
  rw [show (10 : Int32) - nI c = nI (10 - c) from pk_sub hc, nI_l (by omega)]
theorem falls102 {σ : Mem} {x1 : Int32} {x3 x5 : Int64} {u c s t w0 : Nat} (hu : u < 64) (hs : s < 64) (hc : c ≤ 10) (ht : t ≤ 6) (h0 : σ.1 22 0 0 = nI t) (h6 : σ.1 22 0 6 = nI u) :
    ∃ z, l11_falls_102 0 x1 (nI c) x3 x5 (nI s) σ 2000 (lN w0) 0 = some (lN (w0 * prd (hfl u c s) t), z) := by
  have lp : ∀ (r n i : Nat), i + r = t → r < n → ∃ z, l11_falls_102 0 x1 (nI c) x3 x5 (nI s) σ n (lN (w0 * prd (hfl u c s) i)) (nI i) = some (lN (w0 * prd (hfl u c s) t), z) := by
    intro r
    induction r with
    | zero =>
      intro n i h1 h2
      obtain ⟨n, rfl⟩ : ∃ q, n = q + 1 := ⟨n - 1, by omega⟩
      obtain rfl : i = t := by omega
      exact ⟨nI i, by rw [l11_falls_102, f11_many, h0, if_pos (nI_le (by omega) (by omega))]⟩
    | succ r ih =>
      intro n i h1 h2
      obtain ⟨n, rfl⟩ : ∃ q, n = q + 1 := ⟨n - 1, by omega⟩
      have ihh := ih n (i + 1) (by omega) (by omega)
      rw [show prd (hfl u c s) (i + 1) = prd (hfl u c s) i * hfl u c s i from rfl, ← Nat.mul_assoc, ← lN_mul] at ihh
      have hf : (if f11_has (nI u) (nI i) = 0 then (1 : Int64) else (if f11_has (nI s) (nI i) = 0 then (nI c).toInt64 else ((10 : Int32) - nI c).toInt64)) = lN (hfl u c s i) := by
        rw [hasN hu (by omega), hasN hs (by omega), ten_sub hc, nI_l (by omega)]
        unfold hfl
        cases u.testBit i with
        | false => rfl
        | true => cases s.testBit i <;> rfl
      rw [l11_falls_102, f11_many, h0, if_neg (nI_ge (by omega) (by omega)), h6, hf, lt_e, nI_1]
      exact ihh
  have := lp t 2000 0 (by omega) (by omega)
  rw [show prd (hfl u c s) 0 = 1 from rfl, Nat.mul_one] at this
  exact this
theorem falls66 {σ : Mem} {A : Nat → Nat} {q : QT} {c cell : Nat} {x5 : Int64} (hR : RV (σ.1 22 0) A) (hA : AR A) (hm : Mr (σ.1 22 0) q) (hq : QR A q) (hy : q.2.2.2 < 2000) (hc : c ≤ 10) (hcell : cell ≤ 11) :
    ∃ z, l11_falls_66 0 (nI cell) (nI c) x5 σ 2000 0 0 = some (lN (smN (Ffl A q.1 q.2.2.2 c cell) (2 ^ A 0)), z) := by
  have u6 := pow64 hA.1.1 hq.1
  have hT : 2 ^ A 0 ≤ 64 := Nat.pow_le_pow_right (n := 2) (by decide) hA.1.1
  have ht := hA.1.1
  have em : f11_many 0 σ = nI (A 0) := hR.1.1
  have lp : ∀ (r n s : Nat), s + r = 2 ^ A 0 → r < n → ∃ z, l11_falls_66 0 (nI cell) (nI c) x5 σ n (lN (smN (Ffl A q.1 q.2.2.2 c cell) s)) (nI s) = some (lN (smN (Ffl A q.1 q.2.2.2 c cell) (2 ^ A 0)), z) := by
    intro r
    induction r with
    | zero =>
      intro n s h1 h2
      obtain ⟨n, rfl⟩ : ∃ q, n = q + 1 := ⟨n - 1, by omega⟩
      obtain rfl : s = 2 ^ A 0 := by omega
      exact ⟨nI (2 ^ A 0), by rw [l11_falls_66, em, shlN _ (by omega), if_pos (nI_le (by omega) (by omega))]⟩
    | succ r ih =>
      intro n s h1 h2
      obtain ⟨n, rfl⟩ : ∃ q, n = q + 1 := ⟨n - 1, by omega⟩
      have hs : s < 64 := by omega
      have ihh := ih n (s + 1) (by omega) (by omega)
      rw [show smN (Ffl A q.1 q.2.2.2 c cell) (s + 1) = smN (Ffl A q.1 q.2.2.2 c cell) s + Ffl A q.1 q.2.2.2 c cell s from rfl, ← lN_add] at ihh
      have h0 : (if nI s &&& ((σ.1 22 0 6) ^^^ (-1)) = 0 then (1 : Int64) else 0) = lN (if s &&& (63 ^^^ q.1) = 0 then 1 else 0) := by
        rw [hm.1, notN s hs q.1 u6]
        by_cases z : s &&& (63 ^^^ q.1) = 0
        · rw [z, if_pos (by rfl), if_pos rfl]; rfl
        · rw [if_neg (nI_ne0 (by omega) (by have := dif_lt (u := q.1) hs; omega)), if_neg z]; rfl
      obtain ⟨z, e⟩ := falls102 (σ := σ) (x1 := nI cell) (x3 := lN (smN (Ffl A q.1 q.2.2.2 c cell) s)) (x5 := x5) (t := A 0) (w0 := if s &&& (63 ^^^ q.1) = 0 then 1 else 0) u6 hs hc ht hR.1.1 hm.1
      have hfin : (if st A s q.2.2.2 cell = 0 then lN ((if s &&& (63 ^^^ q.1) = 0 then 1 else 0) * prd (hfl q.1 c s) (A 0)) else (0 : Int64)) = lN (Ffl A q.1 q.2.2.2 c cell s) := by
        unfold Ffl cas
        by_cases z : st A s q.2.2.2 cell = 0
        · rw [if_pos z, if_pos z]
        · rw [if_neg z, if_neg z]; rfl
      rw [l11_falls_66, em, shlN _ (by omega), if_neg (nI_ge (by omega) (by omega)), h0, lt_e, e, bnd_s, struckOf_ok Kr0 hR hA hs hy hcell hm.2.2.2, bnd_s, hfin, lt_e, nI_1]
      exact ihh
  exact lp (2 ^ A 0) 2000 0 (by omega) (by omega)
theorem falls82 {x2 : Int32} {c n1 : Nat} (hx : x2.toInt64 = lN c) (hn : n1 ≤ 6) (a0 : Nat) : ∃ z, l10_falls_82 0 x2 (nI n1) 2000 (lN a0) 10 0 = some (lN (a0 * c ^ n1), lN (10 ^ (n1 + 1)), z) := by
  have lp : ∀ (r n i : Nat), i + r = n1 → r < n → ∃ z, l10_falls_82 0 x2 (nI n1) n (lN (a0 * c ^ i)) (lN (10 ^ (i + 1))) (nI i) = some (lN (a0 * c ^ n1), lN (10 ^ (n1 + 1)), z) := by
    intro r
    induction r with
    | zero =>
      intro n i h1 h2
      obtain ⟨n, rfl⟩ : ∃ q, n = q + 1 := ⟨n - 1, by omega⟩
      obtain rfl : i = n1 := by omega
      exact ⟨nI i, by rw [l10_falls_82, if_pos (nI_le (by omega) (by omega))]⟩
    | succ r ih =>
      intro n i h1 h2
      obtain ⟨n, rfl⟩ : ∃ q, n = q + 1 := ⟨n - 1, by omega⟩
      have ihh := ih n (i + 1) (by omega) (by omega)
      rw [Nat.pow_succ c i, ← Nat.mul_assoc, Nat.pow_succ 10 (i + 1), ← lN_mul (a0 * c ^ i), ← lN_mul (10 ^ (i + 1))] at ihh
      rw [l10_falls_82, if_neg (nI_ge (by omega) (by omega)), hx, nI_1]
      exact ihh
  have := lp n1 2000 0 (by omega) (by omega)
  rw [Nat.pow_zero, Nat.mul_one] at this
  exact this
theorem ok_falls {σ : Mem} (x1 x2 : Int32) (h : Inv σ) : OKc (f10_falls 0 x1 x2) (f11_falls 0 x1 x2) σ := by
  obtain ⟨A, q, ⟨hC, hR⟩, hA, ⟨hM, hm⟩, hq, hy⟩ := h.now
  by_cases c1 : f10_within x1 0 (nI 11) = 0
  · refine ok_bad h ?_ ?_
    · unfold f10_falls
      rw [isC10, if_pos c1]; rfl
    · unfold f11_falls
      rw [isC11, if_pos c1]; rfl
  obtain ⟨cell, hcell, rfl⟩ := wi_yes (by decide) c1
  by_cases c2 : f10_within x2 0 (nI 10) = 0
  · refine ok_bad h ?_ ?_
    · unfold f10_falls
      rw [isC10, if_neg c1, show (10 : Int32) = nI 10 from rfl, if_pos c2]; rfl
    · unfold f11_falls
      rw [isC11, if_neg c1, in010, if_pos c2]; rfl
  obtain ⟨c, hc, rfl⟩ := wi_yes (by decide) c2
  have u6 := pow64 hA.1.1 hq.1
  have ht := hA.1.1
  have hT : 2 ^ A 0 ≤ 64 := Nat.pow_le_pow_right (n := 2) (by decide) ht
  have p6 := pc_le6 u6
  have hw6 := pow10 p6
  have hwp : 0 < 10 ^ pc q.1 := Nat.pow_pos (by decide)
  -- the reference, over any memory with the same numbers
  have ref : ∀ (τ1 τ2 : Mem), τ1.1 = σ.1 → f11_fraction 0 (lN (smN (Ffl A q.1 q.2.2.2 c cell) (2 ^ A 0))) (lN (10 ^ pc q.1)) τ1 = some τ2 → f11_falls 0 (nI cell) (nI c) τ1 = some (1, τ2) := by
    intro τ1 τ2 e1 e2
    obtain ⟨z1, e3⟩ := falls34 (σ := τ1) (x1 := nI cell) (x2 := nI c) (x3 := 0) u6 (by rw [e1]; exact hm.1)
    obtain ⟨z2, e4⟩ := falls66 (σ := τ1) (x5 := lN (10 ^ pc q.1)) (by rw [e1]; exact hR) hA (by rw [e1]; exact hm) hq (by omega) hc hcell
    unfold f11_falls
    rw [isC11, if_neg c1, in010, if_neg c2, e3, bnd_s, e4, bnd_s, e2, bnd_s]
  by_cases hb : mbh A q.1 q.2.2.2 cell = true
  · have hu0 : q.1.testBit 0 = true := by
      unfold mbh at hb
      revert hb
      cases q.1.testBit 0 <;> simp
    have h0 := things_of hq.1 hu0
    have hd : 1 ≤ dw A q.2.2.2 cell 0 := by
      unfold mbh at hb
      rw [hu0, Bool.true_and] at hb
      exact of_decide_eq_true hb
    obtain ⟨S, hS⟩ : ∃ S, S = SS A q.2.2.2 cell := ⟨_, rfl⟩
    have hS6 : S < 64 := by rw [hS]; exact SS_lt _ _ _
    have hS0 : S.testBit 0 = false := by rw [hS]; exact SS_even _ _ _
    have hSu : S &&& q.1 < 64 := Nat.and_lt_two_pow (n := 6) _ u6
    obtain ⟨t, ht1⟩ : ∃ t, A 0 = t + 1 := ⟨A 0 - 1, by omega⟩
    obtain ⟨k1, k2⟩ := efl_prod (u := q.1) (S := S) hc hu0 hS0 t
    have tb : ∀ k, A 0 ≤ k → q.1.testBit k = false := fun k hk => Nat.testBit_lt_two_pow (Nat.lt_of_lt_of_le hq.1 (Nat.pow_le_pow_right (by decide) hk))
    have cu : cB q.1.testBit (t + 1) = pc q.1 := by
      rw [pc_cB _ u6, show 6 = A 0 + (6 - A 0) by omega, cB_tail _ tb, ht1]
    have cp : cB (Pfl q.1 S) (t + 1) = pc (S &&& q.1) := by
      have e1 : cB (S &&& q.1).testBit 6 = cB (Pfl q.1 S) 6 := cB_congr 6 (fun k _ => by rw [Nat.testBit_and]; rfl)
      have e2 : cB (Pfl q.1 S) (A 0 + (6 - A 0)) = cB (Pfl q.1 S) (A 0) := cB_tail _ (fun k hk => by unfold Pfl; rw [tb k hk, Bool.and_false])
      rw [show A 0 + (6 - A 0) = 6 by omega, ht1] at e2
      rw [pc_cB _ hSu, e1, e2]
    rw [cu, cp] at k2
    rw [cp] at k1
    obtain ⟨n1, hn1⟩ : ∃ n, n = pc (S &&& q.1) := ⟨_, rfl⟩
    obtain ⟨n2, hn2⟩ : ∃ n, n = cB (Qfl q.1 S) (t + 1) := ⟨_, rfl⟩
    rw [← hn1, ← hn2] at k1 k2
    have hn16 : n1 ≤ 6 := by rw [hn1]; exact pc_le6 hSu
    have hsum : smN (Ffl A q.1 q.2.2.2 c cell) (2 ^ A 0) = ((10 - c) * c ^ n1) * 10 ^ n2 := by
      rw [smN_congr (2 ^ A 0) (fun s hs => Ffl_eq hA hq.1 h0 hd hs), sum_prod (gfl q.1 (SS A q.2.2.2 cell) c), ← hS, ht1, k1, Nat.mul_assoc]
    have hwh : 10 ^ pc q.1 = 10 ^ (n1 + 1) * 10 ^ n2 := by
      rw [k2, ← Nat.pow_add]; congr 1; omega
    have hc6 : c ^ n1 ≤ 1000000 := Nat.le_trans (Nat.pow_le_pow_left hc n1) (pow10 hn16)
    have ha6 : (10 - c) * c ^ n1 ≤ 10 * 1000000 := Nat.mul_le_mul (by omega) hc6
    have hn2' : 10 ^ n2 ≤ 1000000 := pow10 (by omega)
    have hb6 : 10 ^ (n1 + 1) ≤ 1000000 := pow10 (by omega)
    have ham : ((10 - c) * c ^ n1) * 10 ^ n2 ≤ 10 * 1000000 * 1000000 := Nat.mul_le_mul ha6 hn2'
    obtain ⟨τ1, τ2, f1, f2, f3, f4, f5⟩ := frac_same (σ := σ) (a := (10 - c) * c ^ n1) (b := 10 ^ (n1 + 1)) (m := 10 ^ n2) h (Nat.pow_pos (by decide)) (Nat.pow_pos (by decide)) (by omega) (by rw [← hwh]; omega) (by omega) (by omega)
    rw [← hsum, ← hwh] at f3
    refine ⟨1, τ1, τ2, ?_, ref τ1 τ2 f2 f3, f4, by rw [f2], by rw [f5]⟩
    obtain ⟨z, e5⟩ := falls82 (x2 := nI c) (c := c) (n1 := n1) (nI_l (by omega)) hn16 (10 - c)
    unfold f10_falls
    rw [isC10, if_neg c1, show f10_within (nI c) 0 10 = f10_within (nI c) 0 (nI 10) from rfl, if_neg c2, mayBe_ok hC hA hM hq (by omega) hcell, bnd_s, hb, if_neg (show ¬ bI true = 0 by decide), stronger_ok hC hA hM (by omega) hcell h0, bnd_s, hM.1, ← hS, and_nI _ hS6 _ u6, pcC _ hSu, ← hn1, ten_sub hc, e5, bnd_s, f1, bnd_s]
  · have hz : smN (Ffl A q.1 q.2.2.2 c cell) (2 ^ A 0) = 0 := by
      refine smN_zero _ (fun s hs => ?_)
      have s6 := pow64 ht hs
      unfold Ffl
      by_cases w : st A s q.2.2.2 cell = 0
      · rw [if_pos w]
        obtain ⟨w1, w2, w3, w4⟩ := (st_zero hA s6).mp w
        unfold cas
        rw [if_neg (fun w5 => hb (by
          have := (dif_0 s6).mp w5 0 (by decide) w2
          unfold mbh
          rw [this, decide_eq_true w3]; rfl)), Nat.zero_mul]
      · rw [if_neg w]
    obtain ⟨τ1, τ2, f1, f2, f3, f4, f5⟩ := frac_same (σ := σ) (a := 0) (b := 1) (m := 10 ^ pc q.1) h (by decide) hwp (by decide) (by omega) (by decide) (by omega)
    have f3' : f11_fraction 0 (lN (smN (Ffl A q.1 q.2.2.2 c cell) (2 ^ A 0))) (lN (10 ^ pc q.1)) τ1 = some τ2 := by
      rw [hz]
      rw [Nat.zero_mul, Nat.one_mul] at f3
      exact f3
    refine ⟨1, τ1, τ2, ?_, ref τ1 τ2 f2 f3', f4, by rw [f2], by rw [f5]⟩
    unfold f10_falls
    rw [isC10, if_neg c1, show f10_within (nI c) 0 10 = f10_within (nI c) 0 (nI 10) from rfl, if_neg c2, mayBe_ok hC hA hM hq (by omega) hcell, bnd_s, Bool.eq_false_iff.mpr hb, if_pos (show bI false = 0 by rfl), show f1_set 0 0 1 σ = _ from f1, bnd_s]
