/-! THE TEXT: tokens, as numbers, of both sides -/
theorem wiN {b lo hi : Nat} (hb : b < 1000) (hl : lo < 1000) (hh : hi < 1000) : f10_within (nI b) (nI lo) (nI hi) = bI (Nat.ble lo b && Nat.ble b hi) := by
  unfold f10_within
  by_cases z : b < lo
  · rw [if_pos (nI_lt z (by omega)), show Nat.ble lo b = false from Bool.eq_false_iff.mpr (fun w => by have := Nat.le_of_ble_eq_true w; omega)]; rfl
  · rw [if_neg (nI_nlt (by omega) (by omega)), Nat.ble_eq_true_of_le (show lo ≤ b by omega)]
    by_cases z2 : hi < b
    · rw [if_pos (nI_lt z2 (by omega)), show Nat.ble b hi = false from Bool.eq_false_iff.mpr (fun w => by have := Nat.le_of_ble_eq_true w; omega)]; rfl
    · rw [if_neg (nI_nlt (by omega) (by omega)), Nat.ble_eq_true_of_le (show b ≤ hi by omega)]; rfl
def inR (lo hi b : Nat) : Bool := Nat.ble lo b && Nat.ble b hi
theorem inR_t {lo hi b : Nat} : inR lo hi b = true ↔ lo ≤ b ∧ b ≤ hi := by
  unfold inR
  rw [Bool.and_eq_true]
  exact ⟨fun h => ⟨Nat.le_of_ble_eq_true h.1, Nat.le_of_ble_eq_true h.2⟩, fun h => ⟨Nat.ble_eq_true_of_le h.1, Nat.ble_eq_true_of_le h.2⟩⟩
/-- where a run ends -/
def rE (B : Nat → Nat) (len lo hi : Nat) : Nat → Nat → Nat
  | 0, i => i
  | m + 1, i => if i < len ∧ inR lo hi (B i) = true then rE B len lo hi m (i + 1) else i
theorem rE_ge {B : Nat → Nat} {len lo hi : Nat} : ∀ m i, i ≤ rE B len lo hi m i
  | 0, i => Nat.le_refl i
  | m + 1, i => by
    unfold rE
    split
    · exact Nat.le_trans (Nat.le_succ i) (rE_ge m (i + 1))
    · exact Nat.le_refl i
theorem rE_le {B : Nat → Nat} {len lo hi : Nat} : ∀ m i, i ≤ len → rE B len lo hi m i ≤ len
  | 0, i, h => h
  | m + 1, i, h => by
    unfold rE
    by_cases z : i < len ∧ inR lo hi (B i) = true
    · rw [if_pos z]; exact rE_le m (i + 1) z.1
    · rw [if_neg z]; exact h
theorem rE_in {B : Nat → Nat} {len lo hi : Nat} : ∀ m i j, i ≤ j → j < rE B len lo hi m i → inR lo hi (B j) = true
  | 0, i, j, h1, h2 => absurd h2 (by show ¬ j < i; omega)
  | m + 1, i, j, h1, h2 => by
    unfold rE at h2
    by_cases z : i < len ∧ inR lo hi (B i) = true
    · rw [if_pos z] at h2
      rcases (show j = i ∨ i + 1 ≤ j by omega) with w | w
      · rw [w]; exact z.2
      · exact rE_in m (i + 1) j w h2
    · rw [if_neg z] at h2; omega
theorem rE_1 {B : Nat → Nat} {len lo hi m i : Nat} (h : i < len) (h2 : inR lo hi (B i) = true) : i + 1 ≤ rE B len lo hi (m + 1) i := by
  unfold rE
  rw [if_pos ⟨h, h2⟩]
  exact rE_ge m (i + 1)
section TOK
variable (B : Nat → Nat) (len : Nat)
def tS (i : Nat) : Nat := rE B len 32 32 150 i
def tE (i : Nat) : Nat := if len ≤ tS B len i then tS B len i else if inR 97 122 (B (tS B len i)) = true then rE B len 97 122 150 (tS B len i) else if inR 48 57 (B (tS B len i)) = true then rE B len 48 57 150 (tS B len i) else tS B len i + 1
def bwN : List (List Nat) := [[118, 105, 108, 108, 97, 103, 101], [115, 116, 111, 114, 109], [116, 104, 105, 110, 103], [112, 97, 114, 116], [116, 97, 107, 101], [115, 117, 109, 109, 101, 114, 115]]
def mtc (s e k : Nat) : Bool := decide (e - s = (bwN.getD k []).length) && aB (fun i => decide (B (s + i) = (bwN.getD k []).getD i 0)) (bwN.getD k []).length
def wOf (s e : Nat) : Nat → Nat → Nat
  | 0, _ => 1
  | m + 1, k => if mtc B s e k = true then 4 + k else wOf s e m (k + 1)
def tC (i : Nat) : Nat := if len ≤ tS B len i then 0 else if inR 97 122 (B (tS B len i)) = true then wOf B (tS B len i) (tE B len i) 6 0 else if inR 48 57 (B (tS B len i)) = true then (if tE B len i - tS B len i ≤ 2 then 3 else 1) else if B (tS B len i) = 59 then 2 else 1
def rC (i : Nat) : Nat := if len ≤ tS B len i then 0 else if inR 97 122 (B (tS B len i)) = true then 1 else if inR 48 57 (B (tS B len i)) = true then (if tE B len i - tS B len i ≤ 2 then 2 else 4) else if B (tS B len i) = 59 then 3 else 4
def tV (i : Nat) : Nat := if tE B len i - tS B len i ≤ 1 then B (tS B len i) - 48 else 10 * (B (tS B len i) - 48) + (B (tS B len i + 1) - 48)
end TOK
theorem tS_ok {B : Nat → Nat} {len i : Nat} (hi : i ≤ len) : i ≤ tS B len i ∧ tS B len i ≤ len := ⟨rE_ge _ _, rE_le _ _ hi⟩
theorem tE_ok {B : Nat → Nat} {len i : Nat} (hi : i ≤ len) : tS B len i ≤ tE B len i ∧ tE B len i ≤ len ∧ (tS B len i < len → tS B len i < tE B len i) := by
  have h := tS_ok (B := B) hi
  unfold tE
  by_cases z : len ≤ tS B len i
  · rw [if_pos z]
    exact ⟨Nat.le_refl _, h.2, fun w => absurd w (by omega)⟩
  · rw [if_neg z]
    by_cases z2 : inR 97 122 (B (tS B len i)) = true
    · rw [if_pos z2]
      exact ⟨rE_ge _ _, rE_le _ _ h.2, fun w => rE_1 w z2⟩
    · rw [if_neg z2]
      by_cases z3 : inR 48 57 (B (tS B len i)) = true
      · rw [if_pos z3]
        exact ⟨rE_ge _ _, rE_le _ _ h.2, fun w => rE_1 w z3⟩
      · rw [if_neg z3]
        exact ⟨by omega, by omega, fun _ => by omega⟩
theorem wOf_le {B : Nat → Nat} {s e : Nat} : ∀ m k, k + m ≤ 6 → wOf B s e m k ≤ 9 ∧ 1 ≤ wOf B s e m k
  | 0, _, _ => ⟨(by decide : 1 ≤ 9), Nat.le_refl 1⟩
  | m + 1, k, h => by
    unfold wOf
    split
    · omega
    · exact wOf_le m (k + 1) (by omega)
theorem tC_le {B : Nat → Nat} {len i : Nat} : tC B len i ≤ 9 := by
  have := (wOf_le (B := B) (s := tS B len i) (e := tE B len i) 6 0 (by omega)).1
  unfold tC
  repeat' split
  all_goals omega
theorem wOf_ne {B : Nat → Nat} {s e : Nat} : ∀ m k, wOf B s e m k = 1 ∨ 4 ≤ wOf B s e m k
  | 0, _ => Or.inl rfl
  | m + 1, k => by
    unfold wOf
    split
    · omega
    · exact wOf_ne m (k + 1)
/-! the class's text -/
def TX (σ : Mem) (B : Nat → Nat) (len : Nat) : Prop := len ≤ 150 ∧ σ.1 8 0 2 = nI len ∧ ∀ i, i < len → σ.1 21 1 i = nI (B i) ∧ B i ≤ 127
def F8 (σ τ : Mem) : Prop := τ.2 = σ.2 ∧ ∀ c k j, ¬ (c = 8 ∧ 3 ≤ j ∧ j ≤ 6) → τ.1 c k j = σ.1 c k j
theorem F8.rf (σ : Mem) : F8 σ σ := ⟨rfl, fun _ _ _ _ => rfl⟩
theorem F8.tr {σ τ ρ : Mem} (a : F8 σ τ) (b : F8 τ ρ) : F8 σ ρ := ⟨b.1.trans a.1, fun c k j h => (b.2 c k j h).trans (a.2 c k j h)⟩
theorem F8.sI {σ : Mem} {j : Nat} {x : Int32} (h : 3 ≤ j ∧ j ≤ 6) : F8 σ (sI σ 8 0 j x) := ⟨rfl, fun c k i hn => by
  rw [rdI, if_neg]
  omega⟩
theorem TX.fr {σ τ : Mem} {B : Nat → Nat} {len : Nat} (h : TX σ B len) (f : F8 σ τ) : TX τ B len := ⟨h.1, by rw [f.2 _ _ _ (by omega)]; exact h.2.1, fun i hi => by rw [f.2 _ _ _ (by omega)]; exact h.2.2 i hi⟩
theorem runEnd_ok {σ : Mem} {B : Nat → Nat} {len lo hi : Nat} (h : TX σ B len) (hl : lo < 1000) (hh : hi < 1000) {i : Nat} (hi' : i ≤ len) : f8_runEnd 0 (nI i) (nI lo) (nI hi) σ = some (nI (rE B len lo hi 150 i)) := by
  have lp : ∀ (r n i : Nat), i ≤ len → len ≤ i + r → r < n → l8_runEnd_3 0 (nI lo) (nI hi) σ n (nI i) = some (nI (rE B len lo hi r i)) := by
    intro r
    induction r with
    | zero =>
      intro n i h1 h2 h3
      obtain ⟨n, rfl⟩ : ∃ q, n = q + 1 := ⟨n - 1, by omega⟩
      rw [l8_runEnd_3, h.2.1, if_pos (nI_le (by omega) (by have := h.1; omega))]
      rfl
    | succ r ih =>
      intro n i h1 h2 h3
      obtain ⟨n, rfl⟩ : ∃ q, n = q + 1 := ⟨n - 1, by omega⟩
      have hlen := h.1
      rw [l8_runEnd_3, h.2.1]
      unfold rE
      by_cases z : i < len
      · obtain ⟨b1, b2⟩ := h.2.2 i z
        rw [if_neg (nI_ge z (by omega)), at_row (N := 150) rfl (by decide) (by omega), bnd_s, b1, wiN (by omega) hl hh, nI_1]
        show (if bI (inR lo hi (B i)) = 0 then _ else _) = _
        by_cases w : inR lo hi (B i) = true
        · rw [w, if_neg (show ¬ bI true = 0 by decide), if_pos ⟨z, rfl⟩]
          exact ih n (i + 1) (by omega) (by omega) (by omega)
        · rw [Bool.eq_false_iff.mpr w, if_pos (show bI false = 0 by rfl), if_neg (fun q => absurd q.2 (by decide))]
      · rw [if_pos (nI_le (by omega) (by omega)), if_neg (fun q => z q.1)]
  unfold f8_runEnd
  rw [lp 150 2000 i hi' (by have := h.1; omega) (by omega), bnd_s]
theorem at_any {σ : Mem} {i : Nat} (hi : i < 2 ^ 31) : ∃ b, f6_at 1 (nI i) σ = some b := by
  by_cases z : i < 150
  · exact ⟨_, at_row (N := 150) rfl (by decide) z⟩
  · refine ⟨0, ?_⟩
    unfold f6_at
    rw [if_neg (nI_pos hi), show alen 21 1 = 150 from rfl, nIc, if_pos (nI_le (by omega) hi)]
theorem bw_ok : ∀ k, k < 6 → (bwN.getD k []).length = lenJS.getD k 0 ∧ (bwN.getD k []).length ≤ 7 := by decide
theorem bw_at : ∀ k, k < 6 → ∀ i, i < 7 → i < lenJS.getD k 0 → (bytJS.getD k []).getD i 0 = nI ((bwN.getD k []).getD i 0) ∧ (bwN.getD k []).getD i 0 < 1000 := by decide
theorem spells_ok {σ : Mem} {B : Nat → Nat} {len s e k : Nat} (h : TX σ B len) (h4 : σ.1 8 0 4 = nI s) (h5 : σ.1 8 0 5 = nI e) (hs : s ≤ e) (he : e ≤ len) (hk : k < 6) : f8_spells 0 k σ = some (bI (mtc B s e k)) := by
  obtain ⟨b1, b2⟩ := bw_ok k hk
  have hlen := h.1
  unfold f8_spells mtc
  rw [h4, h5, pk_sub hs]
  unfold sLen
  by_cases z : e - s = (bwN.getD k []).length
  · rw [if_pos (show nI (lenJS.getD k 0) = nI (e - s) by rw [← b1, z]), decide_eq_true z, Bool.true_and]
    have lp : ∀ (r n i : Nat), i + r = lenJS.getD k 0 → r < n → aB (fun i => decide (B (s + i) = (bwN.getD k []).getD i 0)) i = true → ∃ o, l8_spells_20 0 k σ n (nI i) = some o ∧ sm o (fun _ => (1 : Int32)) (fun z => z) = bI (aB (fun i => decide (B (s + i) = (bwN.getD k []).getD i 0)) (bwN.getD k []).length) := by
      intro r
      induction r with
      | zero =>
        intro n i h1 h2 h3
        obtain ⟨n, rfl⟩ : ∃ q, n = q + 1 := ⟨n - 1, by omega⟩
        refine ⟨.inl (nI i), ?_, ?_⟩
        · rw [l8_spells_20]
          unfold sLen
          rw [if_pos (nI_le (by omega) (by omega))]
        · rw [b1, ← (show i = lenJS.getD k 0 by omega), h3]; rfl
      | succ r ih =>
        intro n i h1 h2 h3
        obtain ⟨n, rfl⟩ : ∃ q, n = q + 1 := ⟨n - 1, by omega⟩
        obtain ⟨c1, c2⟩ := bw_at k hk i (by omega) (by omega)
        obtain ⟨d1, d2⟩ := h.2.2 (s + i) (by omega)
        rw [l8_spells_20]
        unfold sLen sAt
        rw [if_neg (nI_ge (by omega) (by omega)), inb_nI (by omega) (by omega), ck_t, bnd_s, nI_clamp (by omega), c1, h4, nI_add, at_row (N := 150) rfl (by decide) (by omega), bnd_s, d1, nI_1]
        by_cases w : B (s + i) = (bwN.getD k []).getD i 0
        · rw [if_pos (by rw [w])]
          exact ih n (i + 1) (by omega) (by omega) (by
            show (aB _ i && decide (B (s + i) = (bwN.getD k []).getD i 0)) = true
            rw [h3, decide_eq_true w]; rfl)
        · rw [if_neg (fun q => w ((nI_eq (by omega) (by omega)).mp q.symm))]
          refine ⟨.inr 0, rfl, ?_⟩
          rw [show aB (fun i => decide (B (s + i) = (bwN.getD k []).getD i 0)) (bwN.getD k []).length = false from Bool.eq_false_iff.mpr (fun q => by
            have := (aB_iff _).mp q i (by omega)
            rw [decide_eq_false w] at this
            exact absurd this (by decide))]
          rfl
    obtain ⟨o, e1, e2⟩ := lp (lenJS.getD k 0) 2000 0 (by omega) (by omega) rfl
    rw [show l8_spells_20 0 k σ 2000 0 = _ from e1, bnd_s, ← e2]
    rcases o with o | o <;> rfl
  · rw [if_neg (fun q => z (by rw [b1]; exact ((nI_eq (by omega) (by omega)).mp q).symm)), decide_eq_false z]
    rfl
theorem wordOf_ok : ∀ k, k < 6 → f8_wordOf (nI (4 + k)) = k := by decide
theorem wordToken_ok {σ : Mem} {B : Nat → Nat} {len s e : Nat} (h : TX σ B len) (h4 : σ.1 8 0 4 = nI s) (h5 : σ.1 8 0 5 = nI e) (hs : s ≤ e) (he : e ≤ len) : f8_wordToken 0 σ = some (nI (wOf B s e 6 0)) := by
  have lp : ∀ (r n k : Nat), k + r = 6 → r < n → ∃ o, l8_wordToken_2 0 σ n (nI (4 + k)) = some o ∧ sm o (fun _ => (1 : Int32)) (fun z => z) = nI (wOf B s e r k) := by
    intro r
    induction r with
    | zero =>
      intro n k h1 h2
      obtain ⟨n, rfl⟩ : ∃ q, n = q + 1 := ⟨n - 1, by omega⟩
      obtain rfl : k = 6 := by omega
      exact ⟨.inl (nI 10), by rw [l8_wordToken_2, if_pos (by decide)], rfl⟩
    | succ r ih =>
      intro n k h1 h2
      obtain ⟨n, rfl⟩ : ∃ q, n = q + 1 := ⟨n - 1, by omega⟩
      rw [l8_wordToken_2, if_neg (nltL 9 (4 + k)), wordOf_ok k (by omega), spells_ok h h4 h5 hs he (by omega), bnd_s, nI_1]
      unfold wOf
      cases mtc B s e k with
      | true =>
        rw [if_neg (show ¬ bI true = 0 by decide), if_pos rfl]
        exact ⟨.inr (nI (4 + k)), rfl, rfl⟩
      | false =>
        rw [if_pos (show bI false = 0 by rfl), if_neg (by decide)]
        exact ih n (k + 1) (by omega) (by omega)
  obtain ⟨o, e1, e2⟩ := lp 6 2000 0 (by omega) (by omega)
  unfold f8_wordToken
  rw [show l8_wordToken_2 0 σ 2000 4 = _ from e1, bnd_s, ← e2]
  rcases o with o | o <;> rfl
/-- what the class knows of a token -/
def LC (B : Nat → Nat) (len i : Nat) (τ : Mem) : Prop := τ.1 8 0 3 = nI (tC B len i) ∧ τ.1 8 0 4 = nI (tS B len i) ∧ τ.1 8 0 5 = nI (tE B len i) ∧ (tC B len i = 3 → τ.1 8 0 6 = nI (tV B len i))
theorem digit_val {B : Nat → Nat} {len i : Nat} (hi : i ≤ len) (h : tS B len i < len) (hn : ¬ inR 97 122 (B (tS B len i)) = true) (hd : inR 48 57 (B (tS B len i)) = true) : tE B len i = rE B len 48 57 150 (tS B len i) ∧ ∀ j, tS B len i ≤ j → j < tE B len i → 48 ≤ B j ∧ B j ≤ 57 := by
  have e : tE B len i = rE B len 48 57 150 (tS B len i) := by
    unfold tE
    rw [if_neg (by omega), if_neg hn, if_pos hd]
  exact ⟨e, fun j h1 h2 => inR_t.mp (rE_in _ _ j h1 (by rw [← e]; exact h2))⟩
theorem nextToken_ok {σ : Mem} {B : Nat → Nat} {len i : Nat} (h : TX σ B len) (h5 : σ.1 8 0 5 = nI i) (hi : i ≤ len) : ∃ τ, f8_nextToken 0 σ = some τ ∧ F8 σ τ ∧ LC B len i τ := by
  have hlen := h.1
  obtain ⟨s1, s2⟩ := tS_ok (B := B) hi
  obtain ⟨e1, e2, e3⟩ := tE_ok (B := B) hi
  obtain ⟨σ3, hσ3⟩ : ∃ σ3 : Mem, σ3 = sI σ 8 0 4 (nI (tS B len i)) := ⟨_, rfl⟩
  have f3 : F8 σ σ3 := by rw [hσ3]; exact F8.sI (by omega)
  have h3 : TX σ3 B len := h.fr f3
  have g4 : σ3.1 8 0 4 = nI (tS B len i) := by rw [hσ3, rdI, if_pos ⟨rfl, rfl, rfl⟩]
  obtain ⟨b, eb⟩ := at_any (σ := σ3) (i := tS B len i) (by omega)
  have pre : f8_nextToken 0 σ = (bnd (f6_at 1 (nI (tS B len i)) σ3) fun w4 => if nI (tS B len i) < nI len then (if (f10_within w4 97 122) = 0 then (if (f10_within w4 48 57) = 0 then (lt (sI σ3 8 0 5 (nI (tS B len i) + 1)) fun σ8 => lt (if w4 = 59 then (2) else (1) : Int32) fun w9 => lt (sI σ8 8 0 3 w9) fun σ12 => some σ12) else (bnd (f8_runEnd 0 (nI (tS B len i)) 48 57 σ3) fun w13 => lt (sI σ3 8 0 5 w13) fun σ15 => bnd (f8_numberToken 0 σ15) fun w16 => lt (sI w16.2 8 0 3 w16.1) fun σ18 => some σ18)) else (bnd (f8_runEnd 0 (nI (tS B len i)) 97 122 σ3) fun w20 => lt (sI σ3 8 0 5 w20) fun σ22 => bnd (f8_wordToken 0 σ22) fun w23 => lt (sI σ22 8 0 3 w23) fun σ25 => some σ25)) else (lt (sI σ3 8 0 5 (nI (tS B len i))) fun σ27 => lt (sI σ27 8 0 3 0) fun σ28 => some σ28)) := by
    unfold f8_nextToken
    rw [h5, show f8_runEnd 0 (nI i) 32 32 σ = _ from runEnd_ok (lo := 32) (hi := 32) h (by decide) (by decide) hi, bnd_s, lt_e, show sI σ 8 0 4 (nI (rE B len 32 32 150 i)) = σ3 from hσ3.symm, g4, h3.2.1]
  rw [pre]
  by_cases z : len ≤ tS B len i
  · have c0 : tC B len i = 0 := by unfold tC; rw [if_pos z]
    have ee : tE B len i = tS B len i := by unfold tE; rw [if_pos z]
    rw [eb, bnd_s, if_neg (nI_nlt z (by omega)), lt_e, lt_e]
    refine ⟨_, rfl, f3.tr ((F8.sI (by omega)).tr (F8.sI (by omega))), ?_, ?_, ?_, fun w => absurd w (by rw [c0]; decide)⟩
    · rw [rdI, if_pos ⟨rfl, rfl, rfl⟩, c0]; rfl
    · rw [rdI, if_neg (by omega), rdI, if_neg (by omega)]; exact g4
    · rw [rdI, if_neg (by omega), rdI, if_pos ⟨rfl, rfl, rfl⟩, ee]
  have hsl : tS B len i < len := by omega
  obtain ⟨d1, d2⟩ := h3.2.2 (tS B len i) hsl
  rw [at_row (N := 150) rfl (by decide) (by omega), bnd_s, if_pos (nI_lt hsl (by omega)), d1, show f10_within (nI (B (tS B len i))) 97 122 = _ from wiN (lo := 97) (hi := 122) (by omega) (by decide) (by decide), show f10_within (nI (B (tS B len i))) 48 57 = _ from wiN (lo := 48) (hi := 57) (by omega) (by decide) (by decide)]
  show ∃ τ, (if bI (inR 97 122 (B (tS B len i))) = 0 then (if bI (inR 48 57 (B (tS B len i))) = 0 then _ else _) else _) = some τ ∧ _
  by_cases z2 : inR 97 122 (B (tS B len i)) = true
  · have ee : tE B len i = rE B len 97 122 150 (tS B len i) := by unfold tE; rw [if_neg z, if_pos z2]
    have cc : tC B len i = wOf B (tS B len i) (tE B len i) 6 0 := by unfold tC; rw [if_neg z, if_pos z2]
    rw [z2, if_neg (show ¬ bI true = 0 by decide), show f8_runEnd 0 (nI (tS B len i)) 97 122 σ3 = _ from runEnd_ok (lo := 97) (hi := 122) h3 (by decide) (by decide) s2, bnd_s, lt_e, ← ee, wordToken_ok (B := B) (len := len) (s := tS B len i) (e := tE B len i) (h3.fr (F8.sI (by omega))) (by rw [rdI, if_neg (by omega)]; exact g4) (by rw [rdI, if_pos ⟨rfl, rfl, rfl⟩]) e1 e2, bnd_s, lt_e]
    refine ⟨_, rfl, f3.tr ((F8.sI (by omega)).tr (F8.sI (by omega))), ?_, ?_, ?_, fun w => ?_⟩
    · rw [rdI, if_pos ⟨rfl, rfl, rfl⟩, cc]
    · rw [rdI, if_neg (by omega), rdI, if_neg (by omega)]; exact g4
    · rw [rdI, if_neg (by omega), rdI, if_pos ⟨rfl, rfl, rfl⟩]
    · have := wOf_ne (B := B) (s := tS B len i) (e := tE B len i) 6 0
      rw [cc] at w
      omega
  rw [Bool.eq_false_iff.mpr z2, if_pos (show bI false = 0 by rfl)]
  by_cases z3 : inR 48 57 (B (tS B len i)) = true
  · obtain ⟨ee, dv⟩ := digit_val hi hsl z2 z3
    have hse := e3 hsl
    rw [z3, if_neg (show ¬ bI true = 0 by decide), show f8_runEnd 0 (nI (tS B len i)) 48 57 σ3 = _ from runEnd_ok (lo := 48) (hi := 57) h3 (by decide) (by decide) s2, bnd_s, lt_e, ← ee]
    obtain ⟨σ1, hσ1⟩ : ∃ σ1 : Mem, σ1 = sI (sI σ3 8 0 5 (nI (tE B len i))) 8 0 6 0 := ⟨_, rfl⟩
    have f1 : F8 σ3 σ1 := by rw [hσ1]; exact (F8.sI (by omega)).tr (F8.sI (by omega))
    have k4 : σ1.1 8 0 4 = nI (tS B len i) := by rw [hσ1, rdI, if_neg (by omega), rdI, if_neg (by omega)]; exact g4
    have k5 : σ1.1 8 0 5 = nI (tE B len i) := by rw [hσ1, rdI, if_neg (by omega), rdI, if_pos ⟨rfl, rfl, rfl⟩]
    have k6 : σ1.1 8 0 6 = nI 0 := by rw [hσ1, rdI, if_pos ⟨rfl, rfl, rfl⟩]; rfl
    have h1 : TX σ1 B len := h3.fr f1
    have hnum : ∃ σ2, f8_numberToken 0 (sI σ3 8 0 5 (nI (tE B len i))) = some (nI (tC B len i), σ2) ∧ F8 σ1 σ2 ∧ σ2.1 8 0 4 = nI (tS B len i) ∧ σ2.1 8 0 5 = nI (tE B len i) ∧ (tC B len i = 3 → σ2.1 8 0 6 = nI (tV B len i)) := by
      unfold f8_numberToken
      rw [lt_e, ← hσ1, k4, k5, pk_sub e1]
      by_cases z4 : tE B len i - tS B len i ≤ 2
      · have cc : tC B len i = 3 := by unfold tC; rw [if_neg z, if_neg z2, if_pos z3, if_pos z4]
        obtain ⟨v1, v2⟩ := dv (tS B len i) (Nat.le_refl _) hse
        have r1 : ∀ (n : Nat) (τ : Mem) (j x : Nat), TX τ B len → τ.1 8 0 5 = nI (tE B len i) → τ.1 8 0 6 = nI x → j < tE B len i → 48 ≤ B j → B j ≤ 57 → l8_numberToken_25 0 (n + 1) (nI j) τ = l8_numberToken_25 0 n (nI (j + 1)) (sI τ 8 0 6 (nI (10 * x + (B j - 48)))) := by
          intro n τ j x t1 t2 t3 t4 t5 t6
          rw [l8_numberToken_25, t2, if_neg (nI_ge t4 (by omega)), at_row (N := 150) rfl (by decide) (by omega), bnd_s, (t1.2.2 j (by omega)).1, t3, lt_e, nI_1, show (10 : Int32) * nI x = nI (10 * x) from pk_mul 10 x, nI_add, show nI (10 * x + B j) - 48 = nI (10 * x + B j - 48) from pk_sub (b := 48) (by omega), show 10 * x + B j - 48 = 10 * x + (B j - 48) by omega]
        have r0 : ∀ (n : Nat) (τ : Mem), τ.1 8 0 5 = nI (tE B len i) → l8_numberToken_25 0 (n + 1) (nI (tE B len i)) τ = some (nI (tE B len i), τ) := by
          intro n τ t2
          rw [l8_numberToken_25, t2, if_pos (nI_le (Nat.le_refl _) (by omega))]
        rw [if_pos (leR _ 2), show (2000 : Nat) = 1998 + 1 + 1 from rfl, r1 (1998 + 1) σ1 (tS B len i) 0 h1 k5 k6 hse v1 v2]
        by_cases z5 : tE B len i - tS B len i ≤ 1
        · have e5 : tS B len i + 1 = tE B len i := by omega
          rw [e5, r0 1998 _ (by rw [rdI, if_neg (by omega)]; exact k5), bnd_s]
          refine ⟨_, by rw [cc]; rfl, F8.sI (by omega), by rw [rdI, if_neg (by omega)]; exact k4, by rw [rdI, if_neg (by omega)]; exact k5, fun _ => ?_⟩
          unfold tV
          rw [if_pos z5, rdI, if_pos ⟨rfl, rfl, rfl⟩, Nat.mul_zero, Nat.zero_add]
        · have e5 : tS B len i + 1 + 1 = tE B len i := by omega
          obtain ⟨v3, v4⟩ := dv (tS B len i + 1) (by omega) (by omega)
          rw [r1 1998 _ (tS B len i + 1) (10 * 0 + (B (tS B len i) - 48)) (h1.fr (F8.sI (by omega))) (by rw [rdI, if_neg (by omega)]; exact k5) (by rw [rdI, if_pos ⟨rfl, rfl, rfl⟩]) (by omega) v3 v4, e5, show (1998 : Nat) = 1997 + 1 from rfl, r0 1997 _ (by rw [rdI, if_neg (by omega), rdI, if_neg (by omega)]; exact k5), bnd_s]
          refine ⟨_, by rw [cc]; rfl, (F8.sI (by omega)).tr (F8.sI (by omega)), by rw [rdI, if_neg (by omega), rdI, if_neg (by omega)]; exact k4, by rw [rdI, if_neg (by omega), rdI, if_neg (by omega)]; exact k5, fun _ => ?_⟩
          unfold tV
          rw [if_neg z5, rdI, if_pos ⟨rfl, rfl, rfl⟩, Nat.mul_zero, Nat.zero_add]
      · have cc : tC B len i = 1 := by unfold tC; rw [if_neg z, if_neg z2, if_pos z3, if_neg z4]
        rw [if_neg (nleR _ 2)]
        exact ⟨σ1, by rw [cc]; rfl, F8.rf _, k4, k5, fun w => absurd w (by rw [cc]; decide)⟩
    obtain ⟨σ2, n1, n2, n3, n4, n5⟩ := hnum
    rw [n1, bnd_s, lt_e]
    refine ⟨_, rfl, f3.tr (f1.tr (n2.tr (F8.sI (by omega)))), ?_, ?_, ?_, fun w => ?_⟩
    · rw [rdI, if_pos ⟨rfl, rfl, rfl⟩]
    · rw [rdI, if_neg (by omega)]; exact n3
    · rw [rdI, if_neg (by omega)]; exact n4
    · rw [rdI, if_neg (by omega)]; exact n5 w
  · have ee : tE B len i = tS B len i + 1 := by unfold tE; rw [if_neg z, if_neg z2, if_neg z3]
    have cc : tC B len i = if B (tS B len i) = 59 then 2 else 1 := by unfold tC; rw [if_neg z, if_neg z2, if_neg z3]
    have hw : (if nI (B (tS B len i)) = 59 then (2 : Int32) else 1) = nI (tC B len i) := by
      rw [cc]
      by_cases w : B (tS B len i) = 59
      · rw [if_pos w, if_pos (by rw [w]; rfl)]; rfl
      · rw [if_neg w, if_neg (neR _ 59 w)]; rfl
    rw [Bool.eq_false_iff.mpr z3, if_pos (show bI false = 0 by rfl), lt_e, hw, lt_e, lt_e, nI_1]
    refine ⟨_, rfl, f3.tr ((F8.sI (by omega)).tr (F8.sI (by omega))), ?_, ?_, ?_, fun w => ?_⟩
    · rw [rdI, if_pos ⟨rfl, rfl, rfl⟩]
    · rw [rdI, if_neg (by omega), rdI, if_neg (by omega)]; exact g4
    · rw [rdI, if_neg (by omega), rdI, if_pos ⟨rfl, rfl, rfl⟩, ee]
    · rw [cc] at w
      split at w
      · exact absurd w (by decide)
      · exact absurd w (by decide)
