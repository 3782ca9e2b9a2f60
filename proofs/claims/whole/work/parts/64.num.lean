/-! NUMBERS: ints as numbers, bits of sets, what things draw and parts need -/
theorem nlit (n : Nat) : (@OfNat.ofNat Int32 n Int32.instOfNat) = nI (@OfNat.ofNat Nat n (instOfNatNat n)) := rfl
theorem leL (k i : Nat) (h : k ≤ i := by omega) (hi : i < 2 ^ 31 := by omega) : (@OfNat.ofNat Int32 k Int32.instOfNat) ≤ nI i := nI_le h hi
theorem nleL (k i : Nat) (h : i < k := by omega) (hk : k < 2 ^ 31 := by omega) : ¬ (@OfNat.ofNat Int32 k Int32.instOfNat) ≤ nI i := nI_ge h hk
theorem leR (i k : Nat) (h : i ≤ k := by omega) (hk : k < 2 ^ 31 := by omega) : nI i ≤ (@OfNat.ofNat Int32 k Int32.instOfNat) := nI_le h hk
theorem nleR (i k : Nat) (h : k < i := by omega) (hi : i < 2 ^ 31 := by omega) : ¬ nI i ≤ (@OfNat.ofNat Int32 k Int32.instOfNat) := nI_ge h hi
theorem ltL (k i : Nat) (h : k < i := by omega) (hi : i < 2 ^ 31 := by omega) : (@OfNat.ofNat Int32 k Int32.instOfNat) < nI i := nI_lt h hi
theorem nltL (k i : Nat) (h : i ≤ k := by omega) (hk : k < 2 ^ 31 := by omega) : ¬ (@OfNat.ofNat Int32 k Int32.instOfNat) < nI i := nI_nlt h hk
theorem ltR (i k : Nat) (h : i < k := by omega) (hk : k < 2 ^ 31 := by omega) : nI i < (@OfNat.ofNat Int32 k Int32.instOfNat) := nI_lt h hk
theorem nltR (i k : Nat) (h : k ≤ i := by omega) (hi : i < 2 ^ 31 := by omega) : ¬ nI i < (@OfNat.ofNat Int32 k Int32.instOfNat) := nI_nlt h hi
/-- how many bits a small set has -/
def pc (u : Nat) : Nat := u % 2 + u / 2 % 2 + u / 4 % 2 + u / 8 % 2 + u / 16 % 2 + u / 32 % 2
theorem pcC : ∀ u, u < 64 → fJ6_bitCount (nI u) = nI (pc u) := by decide +kernel
theorem pcR : ∀ u, u < 64 → f11_bits (nI u) = some (nI (pc u)) := by decide +kernel
theorem pc_le : ∀ u, u < 64 → pc u ≤ 6 := by decide +kernel
def b01 (b : Bool) : Nat := if b = true then 1 else 0
theorem bitN : ∀ u, u < 64 → ∀ k, k < 6 → (nI u >>> (nI k &&& 31)) &&& 1 = nI (b01 (u.testBit k)) := by decide +kernel
theorem orN : ∀ u, u < 64 → ∀ k, k < 6 → nI u ||| ((1 : Int32) <<< (nI k &&& 31)) = nI (u ||| 2 ^ k) := by decide +kernel
theorem xorN : ∀ u, u < 64 → ∀ k, k < 6 → nI u ^^^ ((1 : Int32) <<< (nI k &&& 31)) = nI (u ^^^ 2 ^ k) := by decide +kernel
theorem shlN : ∀ k, k < 7 → (1 : Int32) <<< (nI k &&& 31) = nI (2 ^ k) := by decide +kernel
theorem and_nI : ∀ u, u < 64 → ∀ w, w < 64 → nI u &&& nI w = nI (u &&& w) := by decide +kernel
theorem or_nI : ∀ u, u < 64 → ∀ w, w < 64 → nI u ||| nI w = nI (u ||| w) := by decide +kernel
theorem hasN {u k : Nat} (hu : u < 64) (hk : k < 6) : f11_has (nI u) (nI k) = if u.testBit k = true then 1 else 0 := by
  unfold f11_has
  rw [bitN u hu k hk]
  cases u.testBit k <;> rfl
theorem upN {m u k : Nat} {σ : Mem} (h : σ.1 4 m 0 = nI u) (hu : u < 64) (hk : k < 6) : f4_isUp m (nI k) σ = if u.testBit k = true then 1 else 0 := by
  unfold f4_isUp
  rw [h, bitN u hu k hk]
  cases u.testBit k <;> rfl
theorem thereN {m u k : Nat} {σ : Mem} (h : σ.1 4 m 1 = nI u) (hu : u < 64) (hk : k < 6) : f4_isThere m (nI k) σ = if u.testBit k = true then 1 else 0 := by
  unfold f4_isThere
  rw [h, bitN u hu k hk]
  cases u.testBit k <;> rfl
theorem pow64 {p k : Nat} (hp : p ≤ 6) (hk : k < 2 ^ p) : k < 64 := pow6 hp hk
theorem or_lt {w i p : Nat} (hw : w < 2 ^ p) (hi : i < p) : w ||| 2 ^ i < 2 ^ p := Nat.or_lt_two_pow hw (Nat.pow_lt_pow_right (by decide) hi)
theorem xor_lt {w i p : Nat} (hw : w < 2 ^ p) (hi : i < p) : w ^^^ 2 ^ i < 2 ^ p := Nat.xor_lt_two_pow hw (Nat.pow_lt_pow_right (by decide) hi)
/-- how far apart -/
def df (a b : Nat) : Nat := (a - b) + (b - a)
theorem df_le {a b : Nat} (ha : a ≤ 11) (hb : b ≤ 11) : df a b ≤ 11 := by unfold df; omega
theorem abN : ∀ a, a < 12 → ∀ b, b < 12 → abI (nI a - nI b) = nI (df a b) := by decide +kernel
theorem abR : ∀ a, a < 12 → ∀ b, b < 12 → (if 0 ≤ nI a - nI b then nI a - nI b else -(nI a - nI b)) = nI (df a b) := by decide +kernel
/-- what a thing draws -/
def dr (d h f y : Nat) : Nat := match d with
  | 0 => h - f
  | 1 => h - f + 5
  | 2 => 2 * (h - f)
  | 3 => if y % 2 = 0 then 2 * (h - f) else 0
  | 4 => if f ≤ 1 then h - f + 9 else h - f
  | _ => h - f + 5 + if y < 5 then y else 5
theorem tree_ok {h f : Nat} (hh : h ≤ 30) (hf : f ≤ 11) : (if nI h ≤ nI f then (0 : Int32) else nI h - nI f) = nI (h - f) := by
  by_cases q : h ≤ f
  · rw [if_pos (nI_le q (by omega)), show h - f = 0 by omega]; rfl
  · rw [if_neg (nI_ge (by omega) (by omega)), pk_sub (by omega)]
theorem mod2 {y : Nat} (hy : y < 2000) : nI y - nI y / 2 * 2 = nI (y % 2) := pk_rem (d := 2) (by omega) (by decide) (by decide)
theorem drC {d h f y : Nat} (hd : d ≤ 5) (hh : h ≤ 30) (hf : f ≤ 11) (hy : y < 2000) : f3_draw (nI d) (nI h) (nI f) (nI y) = nI (dr d h f y) := by
  unfold f3_draw
  rw [lt_e, tree_ok hh hf, mod2 hy]
  rcases (show d = 0 ∨ d = 1 ∨ d = 2 ∨ d = 3 ∨ d = 4 ∨ d = 5 by omega) with rfl | rfl | rfl | rfl | rfl | rfl
  · rfl
  · rw [if_neg (by decide), if_pos (by decide)]; exact nI_add _ 5
  · rw [if_neg (by decide), if_neg (by decide), if_pos (by decide)]; exact pk_mul 2 _
  · rw [if_neg (by decide), if_neg (by decide), if_neg (by decide), if_pos (by decide)]
    unfold dr
    by_cases q : y % 2 = 0
    · rw [if_pos (by rw [q]; rfl), if_pos q]; exact pk_mul 2 _
    · rw [if_neg (by rw [show y % 2 = 1 by omega]; decide), if_neg q]; rfl
  · rw [if_neg (by decide), if_neg (by decide), if_neg (by decide), if_neg (by decide), if_pos (by decide)]
    unfold dr
    by_cases q : f ≤ 1
    · rw [if_neg (nltL 1 f), if_pos q]; exact nI_add _ 9
    · rw [if_pos (ltL 1 f)]
      show _ = nI (if f ≤ 1 then h - f + 9 else h - f)
      rw [if_neg q]
  · rw [if_neg (by decide), if_neg (by decide), if_neg (by decide), if_neg (by decide), if_neg (by decide), if_pos (by decide)]
    unfold dr
    by_cases q : y < 5
    · rw [if_neg (nleL 5 y), if_pos q]; exact (congrArg (· + nI y) (nI_add _ 5)).trans (nI_add _ _)
    · rw [if_pos (leL 5 y), if_neg q]; exact (congrArg (· + nI 5) (nI_add _ 5)).trans (nI_add _ _)
theorem drR {d h f y : Nat} (hd : d ≤ 5) (hh : h ≤ 30) (hf : f ≤ 11) (hy : y < 2000) : f11_drawsAs (nI d) (nI h) (nI f) (nI y) = nI (dr d h f y) := by
  unfold f11_drawsAs
  rw [lt_e, tree_ok hh hf, mod2 hy]
  rcases (show d = 0 ∨ d = 1 ∨ d = 2 ∨ d = 3 ∨ d = 4 ∨ d = 5 by omega) with rfl | rfl | rfl | rfl | rfl | rfl
  · rfl
  · rw [if_pos (by decide)]; exact nI_add _ 5
  · rw [if_neg (by decide), if_pos (by decide)]; exact pk_mul 2 _
  · rw [if_neg (by decide), if_neg (by decide), if_pos (by decide)]
    unfold dr
    by_cases q : y % 2 = 0
    · rw [if_pos (by rw [q]; rfl), if_pos q]; exact pk_mul 2 _
    · rw [if_neg (by rw [show y % 2 = 1 by omega]; decide), if_neg q]; rfl
  · rw [if_neg (by decide), if_neg (by decide), if_neg (by decide), if_pos (by decide)]
    unfold dr
    by_cases q : f ≤ 1
    · rw [if_neg (nltL 1 f), if_pos q]; exact nI_add _ 9
    · rw [if_pos (ltL 1 f)]
      show _ = nI (if f ≤ 1 then h - f + 9 else h - f)
      rw [if_neg q]
  · rw [if_neg (by decide), if_neg (by decide), if_neg (by decide), if_neg (by decide), if_pos (by decide), lt_e]
    unfold dr
    by_cases q : y < 5
    · rw [if_pos (leR y 5), if_pos q]; exact (congrArg (· + nI y) (nI_add _ 5)).trans (nI_add _ _)
    · rw [if_neg q]
      by_cases q5 : y = 5
      · subst q5
        rw [if_pos (by decide)]; exact (congrArg (· + nI 5) (nI_add _ 5)).trans (nI_add _ _)
      · rw [if_neg (nleR y 5)]; exact (congrArg (· + nI 5) (nI_add _ 5)).trans (nI_add _ _)
/-- what a part needs -/
def nd (d n y : Nat) : Nat := match d with
  | 0 => 4
  | 1 => 4 + 2 * n
  | 2 => if y % 2 = 1 then 3 else 4
  | 3 => 2 + n
  | 4 => 10 + 2 * n
  | _ => if n < 3 then (if y % 2 = 1 then 3 else 4) else 1
theorem need2 : ∀ e, e < 2 → ∀ n, n < 7 → ∀ d, d < 6 → f3_need (nI d) (nI n) (nI e) = nI (nd d n e) ∧ f11_needsAs (nI d) (nI n) (nI e) = nI (nd d n e) := by decide +kernel
theorem ndm {y : Nat} (hy : y < 2000) : nI (y % 2) - nI (y % 2) / 2 * 2 = nI y - nI y / 2 * 2 := by
  rw [mod2 hy, mod2 (by omega), Nat.mod_mod]
theorem nd_mod (d n y : Nat) : nd d n (y % 2) = nd d n y := by
  unfold nd
  simp only [Nat.mod_mod]
theorem ndC {d n y : Nat} (hd : d ≤ 5) (hn : n ≤ 6) (hy : y < 2000) : f3_need (nI d) (nI n) (nI y) = nI (nd d n y) := by
  have h := (need2 (y % 2) (by omega) n (by omega) d (by omega)).1
  rw [nd_mod] at h
  rw [← h]
  unfold f3_need
  rw [ndm hy]
theorem ndR {d n y : Nat} (hd : d ≤ 5) (hn : n ≤ 6) (hy : y < 2000) : f11_needsAs (nI d) (nI n) (nI y) = nI (nd d n y) := by
  have h := (need2 (y % 2) (by omega) n (by omega) d (by omega)).2
  rw [nd_mod] at h
  rw [← h]
  unfold f11_needsAs
  rw [ndm hy]
theorem nd_le {d n y : Nat} (hn : n ≤ 6) : nd d n y ≤ 22 := by
  unfold nd
  repeat' split
  all_goals omega
theorem nd_pos {d n y : Nat} : 1 ≤ nd d n y := by
  unfold nd
  repeat' split
  all_goals omega
theorem dr_le {d h f y : Nat} (hh : h ≤ 30) : dr d h f y ≤ 60 := by
  unfold dr
  repeat' split
  all_goals omega
/-! rows of memory -/
theorem sA_sA (σ : Mem) (c k : Nat) (f g : Nat → Int32) : sA (sA σ c k f) c k g = sA σ c k g := by
  unfold sA
  congr 1
  funext c' k'
  by_cases h : c' = c ∧ k' = k <;> simp [h]
theorem sA_self (σ : Mem) (c k : Nat) : sA σ c k (σ.1 c k) = σ := by
  unfold sA
  obtain ⟨a, b⟩ := σ
  congr 1
  funext c' k'
  by_cases h : c' = c ∧ k' = k
  · simp [h]
  · simp [h]
theorem sI_sA (σ : Mem) (c k j : Nat) (f : Nat → Int32) (x : Int32) : sI (sA σ c k f) c k j x = sA σ c k (upd f j x) := by
  unfold sI
  rw [sA_at, sA_sA]
theorem up_s {f : Nat → Int32} {k : Nat} {x : Int32} : upd f k x k = x := pk_us
theorem up_n {f : Nat → Int32} {k j : Nat} {x : Int32} (h : j ≠ k) : upd f k x j = f j := pk_un h
