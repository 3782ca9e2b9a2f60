/-! spare -/
theorem cby_ne {A : Nat → Nat} {u y : Nat} : ∀ (r i : Nat) (b : Int32), ¬ b = 0 → ¬ cby A u y r i b = 0
  | 0, _, _, h => h
  | r + 1, i, b, h => by
    show ¬ cby A u y r (i + 1) (if st A u y i = 0 then b ||| ((1 : Int32) <<< (nI i &&& 31)) else b) = 0
    refine cby_ne r (i + 1) _ ?_
    split
    · intro q
      exact h (Int32.or_eq_zero_iff.mp q).1
    · exact h
theorem shl_ne : ∀ i, i < 12 → ¬ (1 : Int32) <<< (nI i &&& 31) = 0 := by decide
theorem cby_0 {A : Nat → Nat} {u y : Nat} : ∀ (r i : Nat), i + r ≤ 12 → (cby A u y r i 0 = 0 ↔ ∀ c, i ≤ c → c < i + r → ¬ st A u y c = 0)
  | 0, i, _ => ⟨fun _ c h1 h2 => absurd h2 (by omega), fun _ => rfl⟩
  | r + 1, i, hr => by
    rw [show cby A u y (r + 1) i 0 = cby A u y r (i + 1) (if st A u y i = 0 then 0 ||| ((1 : Int32) <<< (nI i &&& 31)) else 0) from rfl]
    by_cases z : st A u y i = 0
    · rw [if_pos z]
      constructor
      · intro q
        exact absurd q (cby_ne r (i + 1) _ (fun w => shl_ne i (by omega) (Int32.or_eq_zero_iff.mp w).2))
      · exact fun q => absurd z (q i (Nat.le_refl i) (by omega))
    · rw [if_neg z, cby_0 r (i + 1) (by omega)]
      constructor
      · intro q c c1 c2
        rcases (show c = i ∨ i + 1 ≤ c by omega) with e | e
        · rw [e]; exact z
        · exact q c e (by omega)
      · exact fun q c c1 c2 => q c (by omega) (by omega)
/-- what stands in the row of cells: who would be struck ahead of him, or he himself -/
def ahd (A : Nat → Nat) (u y c : Nat) : Nat := if mbh A u y c = true then SS A y c else 1
theorem ahd_lt (A : Nat → Nat) (u y c : Nat) : ahd A u y c < 64 := by
  unfold ahd
  split
  · exact SS_lt A y c
  · decide
def spd (A : Nat → Nat) (u y s : Nat) : Bool := aB (fun c => !decide ((s ||| 1) &&& ahd A u y c = 0)) 12
theorem aB_iff {P : Nat → Bool} : ∀ n, (aB P n = true ↔ ∀ k, k < n → P k = true)
  | 0 => ⟨fun _ k hk => absurd hk (Nat.not_lt_zero k), fun _ => rfl⟩
  | n + 1 => by
    show (aB P n && P n) = true ↔ _
    rw [Bool.and_eq_true, aB_iff n]
    constructor
    · rintro ⟨h1, h2⟩ k hk
      rcases (show k < n ∨ k = n by omega) with e | e
      · exact h1 k e
      · rw [e]; exact h2
    · exact fun h => ⟨fun k hk => h k (by omega), h n (by omega)⟩
theorem or1_b {s k : Nat} : (s ||| 1).testBit k = (s.testBit k || decide (k = 0)) := by
  rw [Nat.testBit_or, show (1 : Nat) = 2 ^ 0 from rfl, Nat.testBit_two_pow]
  by_cases z : k = 0
  · rw [z]
  · rw [decide_eq_false z, decide_eq_false (fun w => z w.symm)]
theorem or1_lt {s : Nat} (hs : s < 64) : s ||| 1 < 64 := Nat.or_lt_two_pow (n := 6) hs (by decide)
theorem spd_ok {A : Nat → Nat} {u y s : Nat} (hA : AR A) (hu : u < 2 ^ A 0) (hs : s < 64) (he : s % 2 = 0) : spd A u y s = true ↔ cby A (s ||| (u &&& 1)) y 12 0 0 = 0 := by
  have u6 := pow64 hA.1.1 hu
  have hor : s ||| (u &&& 1) < 64 := Nat.or_lt_two_pow (n := 6) hs (Nat.and_lt_two_pow (n := 6) _ (by decide))
  have hb0 : (s ||| (u &&& 1)).testBit 0 = u.testBit 0 := by
    rw [Nat.testBit_or, even_0 he, Nat.testBit_and]
    show (false || (u.testBit 0 && true)) = _
    simp
  unfold spd
  rw [aB_iff, cby_0 12 0 (by omega)]
  have one : ∀ c, (!decide ((s ||| 1) &&& ahd A u y c = 0)) = true ↔ ¬ st A (s ||| (u &&& 1)) y c = 0 := by
    intro c
    rw [st_zero hA hor, hb0]
    unfold ahd mbh
    by_cases hb : u.testBit 0 = true
    · by_cases hd : 1 ≤ dw A y c 0
      · rw [if_pos (by rw [hb, decide_eq_true hd]; rfl)]
        have e1 : u &&& 1 = 1 := by
          refine bits_ext (Nat.and_lt_two_pow (n := 6) _ (by decide)) (by decide) (fun k hk => ?_)
          rw [Nat.testBit_and, show (1 : Nat) = 2 ^ 0 from rfl, Nat.testBit_two_pow]
          by_cases z : 0 = k
          · subst z; rw [hb]; rfl
          · rw [decide_eq_false z, Bool.and_false]
        rw [e1]
        constructor
        · intro q w
          rw [decide_eq_true w.2.2.2] at q
          exact absurd q (by decide)
        · intro q
          rw [decide_eq_false (fun w => q ⟨things_of hu hb, hb, hd, w⟩)]
          rfl
      · rw [if_neg (by rw [hb, decide_eq_false hd]; decide)]
        constructor
        · exact fun _ w => hd w.2.2.1
        · intro _
          rw [decide_eq_false (fun w => by
            have hz : ((s ||| 1) &&& 1).testBit 0 = Nat.testBit 0 0 := congrArg (fun x => Nat.testBit x 0) w
            rw [Nat.testBit_and, or1_b, Nat.zero_testBit] at hz
            revert hz
            cases s.testBit 0 <;> decide)]
          rfl
    · rw [if_neg (by rw [Bool.eq_false_iff.mpr hb, Bool.false_and]; decide)]
      constructor
      · exact fun _ w => hb w.2.1
      · intro _
        rw [decide_eq_false (fun w => by
          have hz : ((s ||| 1) &&& 1).testBit 0 = Nat.testBit 0 0 := congrArg (fun x => Nat.testBit x 0) w
          rw [Nat.testBit_and, or1_b, Nat.zero_testBit] at hz
          revert hz
          cases s.testBit 0 <;> decide)]
        rfl
  exact ⟨fun q c _ hc => (one c).mp (q c (by omega)), fun q c hc => (one c).mpr (q c (Nat.zero_le c) (by omega))⟩
theorem spare_fill {σ : Mem} {A : Nat → Nat} {q : QT} (hC : HV 0 σ A) (hA : AR A) (hM : Mo (σ.1 4 0) q) (hq : QR A q) (hy : q.2.2.2 < 2000) :
    ∀ (r n i : Nat) (g : Nat → Int32), i + r = 12 → r < n → (∀ j, j < i → g j = nI (ahd A q.1 q.2.2.2 j)) → ∃ z g', l10_spare_2 0 n (nI i) (sA σ 21 0 g) = some (z, sA σ 21 0 g') ∧ ∀ j, j < 12 → g' j = nI (ahd A q.1 q.2.2.2 j) := by
  intro r
  induction r with
  | zero =>
    intro n i g h1 h2 h3
    obtain ⟨n, rfl⟩ : ∃ q, n = q + 1 := ⟨n - 1, by omega⟩
    obtain rfl : i = 12 := by omega
    exact ⟨nI 12, g, by rw [l10_spare_2, if_pos (by decide)], h3⟩
  | succ r ih =>
    intro n i g h1 h2 h3
    obtain ⟨n, rfl⟩ : ∃ q, n = q + 1 := ⟨n - 1, by omega⟩
    have hC' : HV 0 (sA σ 21 0 g) A := hC.fr rfl rfl
    have hM' : Mo ((sA σ 21 0 g).1 4 0) q := hM
    have hs : (if bI (mbh A q.1 q.2.2.2 i) = 0 then some 1 else (bnd (f9_stronger 0 (nI i) (sA σ 21 0 g)) fun w5 => some w5) : Option Int32) = some (nI (ahd A q.1 q.2.2.2 i)) := by
      unfold ahd
      cases hb : mbh A q.1 q.2.2.2 i with
      | false => rfl
      | true =>
        have h0 : 0 < A 0 := by
          unfold mbh at hb
          refine things_of hq.1 ?_
          revert hb
          cases q.1.testBit 0 <;> simp
        rw [if_neg (show ¬ bI true = 0 by decide), stronger_ok hC' hA hM' hy (by omega) h0, bnd_s, if_pos rfl]
    rw [l10_spare_2, if_neg (nleL 12 i), mayBe_ok hC' hA hM' hq hy (by omega), bnd_s, hs, bnd_s, put_row (N := 12) rfl (by decide) (by omega), bnd_s, sI_sA, nI_1]
    refine ih n (i + 1) _ (by omega) (by omega) (fun j hj => ?_)
    by_cases z : j = i
    · subst z; rw [up_s]
    · rw [up_n z]; exact h3 j (by omega)
theorem isSpared_ok {σ : Mem} {A : Nat → Nat} {u y s : Nat} (hs : s < 64) (hg : ∀ j, j < 12 → σ.1 21 0 j = nI (ahd A u y j)) : f10_isSparedBy 0 (nI s) σ = some (bI (spd A u y s)) := by
  have lp : ∀ (r n i : Nat), i + r = 12 → r < n → aB (fun c => !decide ((s ||| 1) &&& ahd A u y c = 0)) i = true → ∃ o, l10_isSparedBy_2 0 (nI s) σ n (nI i) = some o ∧ sm o (fun _ => (1 : Int32)) (fun z => z) = bI (spd A u y s) := by
    intro r
    induction r with
    | zero =>
      intro n i h1 h2 h3
      obtain ⟨n, rfl⟩ : ∃ q, n = q + 1 := ⟨n - 1, by omega⟩
      obtain rfl : i = 12 := by omega
      refine ⟨.inl (nI 12), by rw [l10_isSparedBy_2, if_pos (by decide)], ?_⟩
      unfold spd
      rw [h3]; rfl
    | succ r ih =>
      intro n i h1 h2 h3
      obtain ⟨n, rfl⟩ : ∃ q, n = q + 1 := ⟨n - 1, by omega⟩
      rw [l10_isSparedBy_2, if_neg (nleL 12 i), at_row (N := 12) rfl (by decide) (by omega), bnd_s, hg i (by omega), show (nI s ||| (1 : Int32)) = nI (s ||| 1) from or_nI s hs 1 (by decide), and_nI _ (or1_lt hs) _ (ahd_lt A u y i), nI_1]
      by_cases z : (s ||| 1) &&& ahd A u y i = 0
      · rw [z, if_pos (by rfl)]
        refine ⟨.inr 0, rfl, ?_⟩
        have : spd A u y s = false := Bool.eq_false_iff.mpr (fun w => by
          have := (aB_iff 12).mp w i (by omega)
          rw [decide_eq_true z] at this
          exact absurd this (by decide))
        rw [this]; rfl
      · rw [if_neg (nI_ne0 (by omega) (by have := Nat.and_lt_two_pow (n := 6) (s ||| 1) (ahd_lt A u y i); omega))]
        exact ih n (i + 1) (by omega) (by omega) (by
          show (aB _ i && !decide ((s ||| 1) &&& ahd A u y i = 0)) = true
          rw [h3, decide_eq_false z]; rfl)
  obtain ⟨o, e1, e2⟩ := lp 12 2000 0 (by omega) (by omega) rfl
  unfold f10_isSparedBy
  rw [show l10_isSparedBy_2 0 (nI s) σ 2000 0 = _ from e1, bnd_s, ← e2]
  rcases o with o | o <;> rfl
/-- the best so far; none: no set yet -/
def opI : Option Nat → Int32
  | none => -1
  | some b => nI b
def frw (b : Option Nat) (s : Nat) : Bool := match b with
  | none => true
  | some b => decide (pc s < pc b)
def spr (P : Nat → Bool) : Nat → Nat → Option Nat → Option Nat
  | 0, _, b => b
  | r + 1, s, b => spr P r (s + 2) (if frw b s = true ∧ P s = true then some s else b)
def bok : Option Nat → Prop
  | none => True
  | some b => b < 64
theorem spareC_lp {σ : Mem} {A : Nat → Nat} {u y T : Nat} (hT : T ≤ 64) (hg : ∀ j, j < 12 → σ.1 21 0 j = nI (ahd A u y j)) :
    ∀ (r n s : Nat) (b : Option Nat), s % 2 = 0 → s + 2 * r = T + T % 2 → r < n → bok b → ∃ z, l10_spare_62 0 (nI T) σ n (opI b) (nI s) = some (opI (spr (spd A u y) r s b), z) := by
  intro r
  induction r with
  | zero =>
    intro n s b h0 h1 h2 hb
    obtain ⟨n, rfl⟩ : ∃ q, n = q + 1 := ⟨n - 1, by omega⟩
    exact ⟨nI s, by rw [l10_spare_62, if_pos (nI_le (by omega) (by omega))]; rfl⟩
  | succ r ih =>
    intro n s b h0 h1 h2 hb
    obtain ⟨n, rfl⟩ : ∃ q, n = q + 1 := ⟨n - 1, by omega⟩
    have hs : s < 64 := by omega
    have hf : (if opI b = (-1) then (1 : Int32) else (if (fJ6_bitCount (opI b)) ≤ (fJ6_bitCount (nI s)) then 0 else 1)) = bI (frw b s) := by
      rcases b with _ | b
      · rfl
      · have hb' : b < 64 := hb
        have p1 := pc_le6 hs
        have p2 := pc_le6 hb'
        show (if nI b = (-1) then (1 : Int32) else (if (fJ6_bitCount (nI b)) ≤ (fJ6_bitCount (nI s)) then 0 else 1)) = bI (decide (pc s < pc b))
        rw [if_neg (nI_nm1' hb'), pcC _ hb', pcC _ hs]
        by_cases z : pc b ≤ pc s
        · rw [if_pos (nI_le z (by omega)), decide_eq_false (by omega)]; rfl
        · rw [if_neg (nI_ge (by omega) (by omega)), decide_eq_true (by omega)]; rfl
    have hs2 : (if bI (frw b s) = 0 then some (opI b) else (bnd (f10_isSparedBy 0 (nI s) σ) fun w22 => if w22 = 0 then some (opI b) else some (nI s)) : Option Int32) = some (opI (if frw b s = true ∧ spd A u y s = true then some s else b)) := by
      rw [isSpared_ok hs hg]
      cases frw b s with
      | false => rw [if_pos (show bI false = 0 by rfl), if_neg (by simp)]
      | true =>
        rw [if_neg (show ¬ bI true = 0 by decide), bnd_s]
        cases spd A u y s with
        | false => rw [if_pos (show bI false = 0 by rfl), if_neg (by simp)]
        | true => rw [if_neg (show ¬ bI true = 0 by decide), if_pos (by simp)]; rfl
    rw [l10_spare_62, if_neg (nI_ge (by omega) (by omega)), hf, lt_e, hs2, bnd_s, show nI s + 2 = nI (s + 2) from nI_add s 2]
    refine ih n (s + 2) _ (by omega) (by omega) (by omega) ?_
    split
    · exact hs
    · exact hb
theorem spareR_lp {σ : Mem} {A : Nat → Nat} {q : QT} {P : Nat → Bool} (hR : RV (σ.1 22 0) A) (hA : AR A) (hm : Mr (σ.1 22 0) q) (hq : QR A q) (hy : q.2.2.2 < 2000) (hP : ∀ s, s < 64 → s % 2 = 0 → (P s = true ↔ cby A (s ||| (q.1 &&& 1)) q.2.2.2 12 0 0 = 0)) :
    ∀ (r n s : Nat) (b : Option Nat), s % 2 = 0 → s + 2 * r = 2 ^ A 0 + 2 ^ A 0 % 2 → r < n → bok b → ∃ z, l11_spare_4 0 σ n (opI b) (nI s) = some (opI (spr P r s b), z) := by
  have u6 := pow64 hA.1.1 hq.1
  have hT : 2 ^ A 0 ≤ 64 := Nat.pow_le_pow_right (n := 2) (by decide) hA.1.1
  have ht := hA.1.1
  have em : f11_many 0 σ = nI (A 0) := hR.1.1
  intro r
  induction r with
  | zero =>
    intro n s b h0 h1 h2 hb
    obtain ⟨n, rfl⟩ : ∃ q, n = q + 1 := ⟨n - 1, by omega⟩
    exact ⟨nI s, by rw [l11_spare_4, em, shlN _ (by omega), if_pos (nI_le (by omega) (by omega))]; rfl⟩
  | succ r ih =>
    intro n s b h0 h1 h2 hb
    obtain ⟨n, rfl⟩ : ∃ q, n = q + 1 := ⟨n - 1, by omega⟩
    have hs : s < 64 := by omega
    have hf : (if opI b = (-1) then some 1 else (bnd (f11_bits (nI s)) fun w4 => bnd (f11_bits (opI b)) fun w6 => if w6 ≤ w4 then some 0 else some 1) : Option Int32) = some (bI (frw b s)) := by
      rcases b with _ | b
      · rfl
      · have hb' : b < 64 := hb
        have p1 := pc_le6 hs
        have p2 := pc_le6 hb'
        show (if nI b = (-1) then some 1 else (bnd (f11_bits (nI s)) fun w4 => bnd (f11_bits (nI b)) fun w6 => if w6 ≤ w4 then some 0 else some 1) : Option Int32) = some (bI (decide (pc s < pc b)))
        rw [if_neg (nI_nm1' hb'), pcR _ hb', pcR _ hs, bnd_s, bnd_s]
        by_cases z : pc b ≤ pc s
        · rw [if_pos (nI_le z (by omega)), decide_eq_false (by omega)]; rfl
        · rw [if_neg (nI_ge (by omega) (by omega)), decide_eq_true (by omega)]; rfl
    have hor : s ||| (q.1 &&& 1) < 64 := Nat.or_lt_two_pow (n := 6) hs (Nat.and_lt_two_pow (n := 6) _ (by decide))
    have e1 : (nI s ||| ((σ.1 22 0 6) &&& 1)) = nI (s ||| (q.1 &&& 1)) := by
      rw [hm.1, show nI q.1 &&& (1 : Int32) = nI (q.1 &&& 1) from and_nI _ u6 1 (by decide), or_nI _ hs _ (Nat.and_lt_two_pow (n := 6) _ (by decide))]
    have hs2 : (if bI (frw b s) = 0 then some (opI b) else (bnd (f11_cellsBy 0 (nI s ||| ((σ.1 22 0 6) &&& 1)) σ) fun w12 => if w12 = 0 then some (nI s) else some (opI b)) : Option Int32) = some (opI (if frw b s = true ∧ P s = true then some s else b)) := by
      rw [e1, cellsBy_ok hR hA hor hy hm.2.2.2]
      cases frw b s with
      | false => rw [if_pos (show bI false = 0 by rfl), if_neg (by simp)]
      | true =>
        rw [if_neg (show ¬ bI true = 0 by decide), bnd_s]
        by_cases z : P s = true
        · rw [if_pos ((hP s hs h0).mp z), if_pos ⟨rfl, z⟩]; rfl
        · rw [if_neg (fun w => z ((hP s hs h0).mpr w)), if_neg (fun w => z w.2)]
    rw [l11_spare_4, em, shlN _ (by omega), if_neg (nI_ge (by omega) (by omega)), hf, bnd_s, hs2, bnd_s, show nI s + 2 = nI (s + 2) from nI_add s 2]
    refine ih n (s + 2) _ (by omega) (by omega) (by omega) ?_
    split
    · exact hs
    · exact hb
theorem ok_spare {σ : Mem} (h : Inv σ) : ∃ r τ, f10_spare 0 σ = some (r, τ) ∧ f11_spare 0 τ = some r ∧ Inv τ ∧ τ.1 24 = σ.1 24 := by
  obtain ⟨A, q, ⟨hC, hR⟩, hA, ⟨hM, hm⟩, hq, hy⟩ := h.now
  have hT : 2 ^ A 0 ≤ 64 := Nat.pow_le_pow_right (n := 2) (by decide) hA.1.1
  have hpos : 0 < 2 ^ A 0 := Nat.two_pow_pos _
  have ht := hA.1.1
  obtain ⟨z, g, e1, hg⟩ := spare_fill hC hA hM hq (by omega) 12 2000 0 (σ.1 21 0) (by omega) (by omega) (fun j hj => absurd hj (Nat.not_lt_zero j))
  rw [sA_self] at e1
  obtain ⟨r, hr⟩ : ∃ r, 2 * r = 2 ^ A 0 + 2 ^ A 0 % 2 := ⟨(2 ^ A 0 + 2 ^ A 0 % 2) / 2, by omega⟩
  obtain ⟨z2, e2⟩ := spareC_lp (σ := sA σ 21 0 g) (A := A) (u := q.1) (y := q.2.2.2) (T := 2 ^ A 0) hT (fun j hj => by rw [sA_at]; exact hg j hj) r 2000 0 none (by omega) (by omega) (by omega) trivial
  obtain ⟨z3, e3⟩ := spareR_lp (σ := sA σ 21 0 g) (P := spd A q.1 q.2.2.2) hR hA hm hq (by omega) (fun s hs he => spd_ok hA hq.1 hs he) r 2000 0 none (by omega) (by omega) (by omega) trivial
  have s1 : Sc σ (sA σ 21 0 g) := Sc.row (Or.inr (Or.inr (Or.inl ⟨rfl, by decide⟩)))
  refine ⟨opI (spr (spd A q.1 q.2.2.2) r 0 none), sA σ 21 0 g, ?_, ?_, s1.inv h, s1.z24⟩
  · unfold f10_spare f7_size
    rw [show l10_spare_2 0 2000 0 σ = _ from e1, bnd_s]
    show (bnd (l10_spare_62 0 (1 <<< (σ.1 7 1 3 &&& 31)) (sA σ 21 0 g) 2000 (-1) 0) fun w27 => some (w27.1, sA σ 21 0 g)) = _
    rw [show σ.1 7 1 3 = nI (A 0) from hC.2.1.1, shlN _ (by omega), show l10_spare_62 0 (nI (2 ^ A 0)) (sA σ 21 0 g) 2000 (-1) 0 = _ from e2, bnd_s]
  · unfold f11_spare
    rw [show l11_spare_4 0 (sA σ 21 0 g) 2000 (-1) 0 = _ from e3, bnd_s]
