/-! ORDERS, pure: lists of those that are not there, what comes by a charge, the first best order -/
def fct : Nat → Nat
  | 0 => 1
  | n + 1 => (n + 1) * fct n
theorem fct_pos : ∀ n, 0 < fct n
  | 0 => Nat.one_pos
  | n + 1 => Nat.mul_pos (Nat.succ_pos n) (fct_pos n)
/-- the order of a number -/
def prm : Nat → List Nat → Nat → List Nat
  | 0, _, _ => []
  | n + 1, fl, code => fl.getD (code / fct n) 0 :: prm n (fl.eraseIdx (code / fct n)) (code % fct n)
/-- how many come -/
def cbk (N : Nat → Nat → Nat) : Nat → Nat → List Nat → Nat
  | _, _, [] => 0
  | c, r, p :: l => if N c p ≤ r then cbk N (c + 1) (r - N c p) l + 1 else 0
/-- whether so many can come -/
def Chn (N : Nat → Nat → Nat) : Nat → List Nat → Nat → Nat → Bool
  | 0, _, _, _ => true
  | k + 1, fl, c, r => (List.range fl.length).any fun i => Nat.ble (N c (fl.getD i 0)) r && Chn N k (fl.eraseIdx i) (c + 1) (r - N c (fl.getD i 0))
theorem Chn_s {N : Nat → Nat → Nat} {k c r : Nat} {fl : List Nat} : Chn N (k + 1) fl c r = true ↔ ∃ i, i < fl.length ∧ N c (fl.getD i 0) ≤ r ∧ Chn N k (fl.eraseIdx i) (c + 1) (r - N c (fl.getD i 0)) = true := by
  show ((List.range fl.length).any fun i => Nat.ble (N c (fl.getD i 0)) r && Chn N k (fl.eraseIdx i) (c + 1) (r - N c (fl.getD i 0))) = true ↔ _
  rw [List.any_eq_true]
  constructor
  · rintro ⟨i, h1, h2⟩
    rw [Bool.and_eq_true] at h2
    exact ⟨i, List.mem_range.mp h1, Nat.le_of_ble_eq_true h2.1, h2.2⟩
  · rintro ⟨i, h1, h2, h3⟩
    exact ⟨i, List.mem_range.mpr h1, by rw [Bool.and_eq_true]; exact ⟨Nat.ble_eq_true_of_le h2, h3⟩⟩
theorem Chn_down {N : Nat → Nat → Nat} : ∀ (k : Nat) (fl : List Nat) (c r : Nat), Chn N (k + 1) fl c r = true → Chn N k fl c r = true
  | 0, _, _, _, _ => rfl
  | k + 1, fl, c, r, h => by
    obtain ⟨i, h1, h2, h3⟩ := Chn_s.mp h
    exact Chn_s.mpr ⟨i, h1, h2, Chn_down k _ _ _ h3⟩
theorem Chn_le {N : Nat → Nat → Nat} {fl : List Nat} {c r j : Nat} : ∀ k, j ≤ k → Chn N k fl c r = true → Chn N j fl c r = true
  | 0, h, hk => by
    obtain rfl : j = 0 := by omega
    exact hk
  | k + 1, h, hk => by
    rcases (show j = k + 1 ∨ j ≤ k by omega) with e | e
    · rw [e]; exact hk
    · exact Chn_le k e (Chn_down k _ _ _ hk)
/-- the first place of a kind -/
def fsti (Q : Nat → Bool) : Nat → Nat → Nat
  | 0, i => i
  | m + 1, i => if Q i = true then i else fsti Q m (i + 1)
theorem fsti_ok {Q : Nat → Bool} : ∀ (m i j : Nat), i ≤ j → j < i + m → Q j = true → (∀ k, i ≤ k → k < j → Q k = false) → fsti Q m i = j
  | 0, i, j, h1, h2, _, _ => absurd h2 (by omega)
  | m + 1, i, j, h1, h2, h3, h4 => by
    unfold fsti
    by_cases e : i = j
    · rw [e, if_pos h3]
    · rw [h4 i (Nat.le_refl i) (by omega), if_neg (by decide)]
      exact fsti_ok m (i + 1) j (by omega) (by omega) h3 (fun k k1 k2 => h4 k (by omega) k2)
theorem fsti_is {Q : Nat → Bool} : ∀ (m i : Nat), (∃ j, i ≤ j ∧ j < i + m ∧ Q j = true) → i ≤ fsti Q m i ∧ fsti Q m i < i + m ∧ Q (fsti Q m i) = true ∧ ∀ k, i ≤ k → k < fsti Q m i → Q k = false
  | 0, i, ⟨j, h1, h2, _⟩ => absurd h2 (by omega)
  | m + 1, i, ⟨j, h1, h2, h3⟩ => by
    unfold fsti
    by_cases e : Q i = true
    · rw [if_pos e]
      exact ⟨Nat.le_refl i, by omega, e, fun k k1 k2 => absurd k2 (by omega)⟩
    · rw [if_neg e]
      have : ¬ i = j := fun w => e (by rw [w]; exact h3)
      obtain ⟨a1, a2, a3, a4⟩ := fsti_is m (i + 1) ⟨j, by omega, by omega, h3⟩
      refine ⟨by omega, by omega, a3, fun k k1 k2 => ?_⟩
      rcases (show k = i ∨ i + 1 ≤ k by omega) with w | w
      · rw [w]; exact Bool.eq_false_iff.mpr e
      · exact a4 k w k2
def Qch (N : Nat → Nat → Nat) (t : Nat) (fl : List Nat) (c r i : Nat) : Bool := Nat.ble (N c (fl.getD i 0)) r && Chn N t (fl.eraseIdx i) (c + 1) (r - N c (fl.getD i 0))
theorem Qch_t {N : Nat → Nat → Nat} {t c r i : Nat} {fl : List Nat} : Qch N t fl c r i = true ↔ N c (fl.getD i 0) ≤ r ∧ Chn N t (fl.eraseIdx i) (c + 1) (r - N c (fl.getD i 0)) = true := by
  unfold Qch
  rw [Bool.and_eq_true]
  exact ⟨fun h => ⟨Nat.le_of_ble_eq_true h.1, h.2⟩, fun h => ⟨Nat.ble_eq_true_of_le h.1, h.2⟩⟩
/-- what is chosen: while parts come, the first behind which the most is still reached -/
def chl (N : Nat → Nat → Nat) : Nat → Nat → List Nat → Nat → Nat → List Nat
  | 0, _, _, _, _ => []
  | n + 1, 0, fl, c, r => fl.getD 0 0 :: chl N n 0 (fl.eraseIdx 0) (c + 1) r
  | n + 1, t + 1, fl, c, r => fl.getD (fsti (Qch N t fl c r) fl.length 0) 0 :: chl N n t (fl.eraseIdx (fsti (Qch N t fl c r) fl.length 0)) (c + 1) (r - N c (fl.getD (fsti (Qch N t fl c r) fl.length 0) 0))
theorem prm_0 (N : Nat → Nat → Nat) : ∀ (n : Nat) (fl : List Nat) (c r : Nat), prm n fl 0 = chl N n 0 fl c r
  | 0, _, _, _ => rfl
  | n + 1, fl, c, r => by
    show fl.getD (0 / fct n) 0 :: prm n (fl.eraseIdx (0 / fct n)) (0 % fct n) = _
    rw [Nat.zero_div, Nat.zero_mod, prm_0 N n _ (c + 1) r]
    rfl
theorem head_lt {n code : Nat} (h : code < fct (n + 1)) : code / fct n < n + 1 := (Nat.div_lt_iff_lt_mul (fct_pos n)).mpr h
theorem cb_Ch {N : Nat → Nat → Nat} : ∀ (n : Nat) (fl : List Nat) (c r code : Nat), fl.length = n → code < fct n → Chn N (cbk N c r (prm n fl code)) fl c r = true
  | 0, _, _, _, _, _, _ => rfl
  | n + 1, fl, c, r, code, hl, hc => by
    have hi := head_lt hc
    show Chn N (if N c (fl.getD (code / fct n) 0) ≤ r then cbk N (c + 1) (r - N c (fl.getD (code / fct n) 0)) (prm n (fl.eraseIdx (code / fct n)) (code % fct n)) + 1 else 0) fl c r = true
    by_cases z : N c (fl.getD (code / fct n) 0) ≤ r
    · rw [if_pos z]
      refine Chn_s.mpr ⟨code / fct n, by omega, z, cb_Ch n _ _ _ _ ?_ (Nat.mod_lt _ (fct_pos n))⟩
      rw [List.length_eraseIdx, if_pos (by omega)]; omega
    · rw [if_neg z]; rfl
theorem perm_best {N : Nat → Nat → Nat} : ∀ (n : Nat) (fl : List Nat) (c r t : Nat), fl.length = n → Chn N t fl c r = true → Chn N (t + 1) fl c r = false →
    ∃ code0, code0 < fct n ∧ prm n fl code0 = chl N n t fl c r ∧ cbk N c r (prm n fl code0) = t ∧ (∀ code, code < fct n → cbk N c r (prm n fl code) ≤ t) ∧ ∀ code, code < code0 → cbk N c r (prm n fl code) < t := by
  have ub : ∀ (n : Nat) (fl : List Nat) (c r t : Nat), fl.length = n → Chn N (t + 1) fl c r = false → ∀ code, code < fct n → cbk N c r (prm n fl code) ≤ t := by
    intro n fl c r t hl h2 code hc
    by_cases z : cbk N c r (prm n fl code) ≤ t
    · exact z
    · have := Chn_le (j := t + 1) (cbk N c r (prm n fl code)) (by omega) (cb_Ch n fl c r code hl hc)
      rw [h2] at this
      exact absurd this (by decide)
  intro n
  induction n with
  | zero =>
    intro fl c r t hl h1 h2
    refine ⟨0, Nat.one_pos, ?_, ?_, ub 0 fl c r t hl h2, fun code hc => absurd hc (Nat.not_lt_zero code)⟩
    · rcases t with _ | t <;> rfl
    · rcases t with _ | t
      · rfl
      · obtain ⟨i, hi, _⟩ := Chn_s.mp h1
        rw [hl] at hi
        exact absurd hi (Nat.not_lt_zero i)
  | succ n ih =>
    intro fl c r t hl h1 h2
    rcases t with _ | t
    · refine ⟨0, fct_pos (n + 1), prm_0 N _ _ _ _, Nat.le_antisymm (ub (n + 1) fl c r 0 hl h2 0 (fct_pos _)) (Nat.zero_le _), ub (n + 1) fl c r 0 hl h2, fun code hc => absurd hc (Nat.not_lt_zero code)⟩
    · obtain ⟨i, hi1, hi2, hi3⟩ := Chn_s.mp h1
      obtain ⟨j, hj⟩ : ∃ j, j = fsti (Qch N t fl c r) fl.length 0 := ⟨_, rfl⟩
      obtain ⟨-, j2, j3, j4⟩ := fsti_is (Q := Qch N t fl c r) fl.length 0 ⟨i, Nat.zero_le i, by omega, Qch_t.mpr ⟨hi2, hi3⟩⟩
      rw [← hj] at j2 j3 j4
      obtain ⟨q1, q2⟩ := Qch_t.mp j3
      have hl2 : ∀ k, k < n + 1 → (fl.eraseIdx k).length = n := fun k hk => by
        rw [List.length_eraseIdx, if_pos (by omega)]; omega
      have hno : Chn N (t + 1) (fl.eraseIdx j) (c + 1) (r - N c (fl.getD j 0)) = false := by
        cases e : Chn N (t + 1) (fl.eraseIdx j) (c + 1) (r - N c (fl.getD j 0)) with
        | false => rfl
        | true => rw [Chn_s.mpr ⟨j, by omega, q1, e⟩] at h2; exact absurd h2 (by decide)
      obtain ⟨code1, a1, a2, a3, a4, a5⟩ := ih (fl.eraseIdx j) (c + 1) (r - N c (fl.getD j 0)) t (hl2 j (by omega)) q2 hno
      have hd : (fct n * j + code1) / fct n = j := by rw [Nat.mul_add_div (fct_pos n), Nat.div_eq_of_lt a1, Nat.add_zero]
      have hm : (fct n * j + code1) % fct n = code1 := by rw [Nat.mul_add_mod, Nat.mod_eq_of_lt a1]
      have ep : ∀ code, prm (n + 1) fl code = fl.getD (code / fct n) 0 :: prm n (fl.eraseIdx (code / fct n)) (code % fct n) := fun _ => rfl
      have ec : ∀ code, cbk N c r (prm (n + 1) fl code) = if N c (fl.getD (code / fct n) 0) ≤ r then cbk N (c + 1) (r - N c (fl.getD (code / fct n) 0)) (prm n (fl.eraseIdx (code / fct n)) (code % fct n)) + 1 else 0 := fun _ => rfl
      refine ⟨fct n * j + code1, ?_, ?_, ?_, ub (n + 1) fl c r (t + 1) hl h2, fun code hc => ?_⟩
      · show fct n * j + code1 < (n + 1) * fct n
        have : fct n * j + fct n ≤ fct n * (n + 1) := by
          rw [← Nat.mul_succ]
          exact Nat.mul_le_mul_left _ (by omega)
        rw [Nat.mul_comm (n + 1)]
        omega
      · rw [ep, hd, hm, a2]
        show _ = fl.getD (fsti (Qch N t fl c r) fl.length 0) 0 :: chl N n t (fl.eraseIdx (fsti (Qch N t fl c r) fl.length 0)) (c + 1) (r - N c (fl.getD (fsti (Qch N t fl c r) fl.length 0) 0))
        rw [← hj]
      · rw [ec, hd, hm, if_pos q1, a3]
      · rw [ec]
        have hle : code / fct n ≤ j := by
          have : code / fct n ≤ (fct n * j + code1) / fct n := Nat.div_le_div_right (by omega)
          omega
        by_cases e : code / fct n = j
        · rw [e, if_pos q1]
          have hcm : code % fct n < code1 := by
            have := Nat.div_add_mod code (fct n)
            rw [e] at this
            omega
          have := a5 (code % fct n) hcm
          omega
        · by_cases w : N c (fl.getD (code / fct n) 0) ≤ r
          · rw [if_pos w]
            have hq := j4 (code / fct n) (Nat.zero_le _) (by omega)
            have hch : Chn N t (fl.eraseIdx (code / fct n)) (c + 1) (r - N c (fl.getD (code / fct n) 0)) = false := by
              cases e2 : Chn N t (fl.eraseIdx (code / fct n)) (c + 1) (r - N c (fl.getD (code / fct n) 0)) with
              | false => rfl
              | true => rw [Qch_t.mpr ⟨w, e2⟩] at hq; exact absurd hq (by decide)
            have hcb := cb_Ch (N := N) n (fl.eraseIdx (code / fct n)) (c + 1) (r - N c (fl.getD (code / fct n) 0)) (code % fct n) (hl2 _ (by omega)) (Nat.mod_lt _ (fct_pos n))
            by_cases w2 : t ≤ cbk N (c + 1) (r - N c (fl.getD (code / fct n) 0)) (prm n (fl.eraseIdx (code / fct n)) (code % fct n))
            · rw [Chn_le _ w2 hcb] at hch
              exact absurd hch (by decide)
            · omega
          · rw [if_neg w]; omega
/-! sets of parts and lists of those that are not there -/
def frl (P S : Nat) : List Nat := (List.range P).filter fun p => !S.testBit p
def ppos (S p : Nat) : Nat := cB (fun k => !S.testBit k) p
def fr1 (P S p : Nat) : Bool := !(Nat.blt p P && !S.testBit p) || (Nat.blt (ppos S p) (frl P S).length && (Nat.beq ((frl P S).getD (ppos S p) 0) p && (decide ((frl P S).eraseIdx (ppos S p) = frl P (S ||| 2 ^ p)) && Nat.beq (pc (S ||| 2 ^ p)) (pc S + 1))))
theorem fr1_all : ∀ P, P < 7 → ∀ S, S < 64 → ∀ p, p < 6 → fr1 P S p = true := by decide +kernel
theorem blt_of {a b : Nat} (h : Nat.blt a b = true) : a < b := Nat.le_of_ble_eq_true h
theorem blt_to {a b : Nat} (h : a < b) : Nat.blt a b = true := Nat.ble_eq_true_of_le h
theorem frl_1 {P S p : Nat} (hP : P < 7) (hS : S < 64) (hp : p < P) (hb : S.testBit p = false) : ppos S p < (frl P S).length ∧ (frl P S).getD (ppos S p) 0 = p ∧ (frl P S).eraseIdx (ppos S p) = frl P (S ||| 2 ^ p) ∧ pc (S ||| 2 ^ p) = pc S + 1 := by
  have h := fr1_all P hP S hS p (by omega)
  unfold fr1 at h
  rw [blt_to hp, hb] at h
  have h : (Nat.blt (ppos S p) (frl P S).length && (Nat.beq ((frl P S).getD (ppos S p) 0) p && (decide ((frl P S).eraseIdx (ppos S p) = frl P (S ||| 2 ^ p)) && Nat.beq (pc (S ||| 2 ^ p)) (pc S + 1)))) = true := h
  rw [Bool.and_eq_true, Bool.and_eq_true, Bool.and_eq_true] at h
  exact ⟨blt_of h.1, Nat.eq_of_beq_eq_true h.2.1, of_decide_eq_true h.2.2.1, Nat.eq_of_beq_eq_true h.2.2.2⟩
def fr3 (P S p i : Nat) : Bool := !(Nat.blt i (ppos S p) && Nat.ble p P) || Nat.blt ((frl P S).getD i 0) p
theorem fr3_all : ∀ P, P < 7 → ∀ S, S < 64 → ∀ p, p < 6 → ∀ i, i < 6 → fr3 P S p i = true := by decide +kernel
theorem frl_3 {P S p i : Nat} (hP : P < 7) (hS : S < 64) (hp : p < 6) (hi : i < 6) (h1 : i < ppos S p) (h2 : p ≤ P) : (frl P S).getD i 0 < p := by
  have h := fr3_all P hP S hS p hp i hi
  unfold fr3 at h
  rw [blt_to h1, Nat.ble_eq_true_of_le h2] at h
  exact blt_of h
theorem frl_2 : ∀ P, P < 7 → ∀ S, S < 64 → ∀ i, i < 6 → i < (frl P S).length → (frl P S).getD i 0 < P ∧ S.testBit ((frl P S).getD i 0) = false ∧ ppos S ((frl P S).getD i 0) = i := by decide +kernel
theorem frl_4 : ∀ P, P < 7 → ∀ S, S < 64 → S < 2 ^ P → (frl P S).length + pc S = P := by decide +kernel
theorem frl_len (P S : Nat) : (frl P S).length ≤ P := by
  have := List.length_filter_le (fun p => !S.testBit p) (List.range P)
  rw [List.length_range] at this
  exact this
