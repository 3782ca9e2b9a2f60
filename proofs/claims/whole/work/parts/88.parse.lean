/-! what a text tells, pure; and how the class is told -/
def updN (f : Nat → Nat) (k x : Nat) : Nat → Nat := fun j => if j = k then x else f j
theorem un_s {f : Nat → Nat} {k x : Nat} : updN f k x k = x := if_pos rfl
theorem un_n {f : Nat → Nat} {k j x : Nat} (h : ¬ j = k) : updN f k x j = f j := if_neg h
abbrev DT : Type := (Nat → Nat) × QT
def bnds (w : Nat) (A : Nat → Nat) : List (Nat × Nat) := if w = 5 then [(0, 6), (0, 12), (0, 10)] else if w = 6 then [(0, 6), (1, 31), (0, 12)] else if w = 7 then [(0, 6)] else if w = 8 then [(0, A 0)] else if w = 9 then [(1, 100)] else []
def mayw (w : Nat) (A : Nat → Nat) : Bool := if w = 5 then true else if w = 6 then Nat.blt (A 0) 6 else if w = 7 then Nat.blt (A 1) 6 else if w = 8 then true else if w = 9 then true else false
def fitv (B : Nat → Nat) (len i lo hi : Nat) : Bool := decide (tC B len i = 3) && (Nat.ble lo (tV B len i) && Nat.blt (tV B len i) hi)
def rdn (B : Nat → Nat) (len : Nat) : List (Nat × Nat) → Nat → (List Nat × Nat) ⊕ Nat
  | [], i => .inl ([], i)
  | b :: l, i => if fitv B len i b.1 b.2 = true then (match rdn B len l (tE B len i) with | .inl r => .inl (tV B len i :: r.1, r.2) | .inr f => .inr f) else .inr (tS B len i)
def eff (w : Nat) (vs : List Nat) (d : DT) : DT :=
  if w = 5 then (updN (updN d.1 (10 + vs.getD 0 0) (vs.getD 1 0)) (16 + vs.getD 0 0) (vs.getD 2 0), d.2)
  else if w = 6 then (updN (updN (updN (updN d.1 (22 + d.1 0) (vs.getD 0 0)) (28 + d.1 0) (vs.getD 1 0)) (34 + d.1 0) (vs.getD 2 0)) 0 (d.1 0 + 1), (d.2.1 ||| 2 ^ d.1 0, d.2.2))
  else if w = 7 then (updN (updN d.1 (40 + d.1 1) (vs.getD 0 0)) 1 (d.1 1 + 1), d.2)
  else if w = 8 then (d.1, (d.2.1 ^^^ 2 ^ vs.getD 0 0, d.2.2))
  else (d.1, ps d.1 999 (vs.getD 0 0) d.2)
/-- an item behind its word: where the next one begins, and what is then; or the fault -/
def itm (B : Nat → Nat) (len w i : Nat) (d : DT) : (Nat × DT) ⊕ Nat := match rdn B len (bnds w d.1) i with
  | .inr f => .inr f
  | .inl r => if tC B len r.2 = 2 then .inl (tE B len r.2, eff w r.1 d) else .inr (tS B len r.2)
def prs (B : Nat → Nat) (len : Nat) : Nat → Nat → Nat → DT → (Nat × DT) ⊕ Nat
  | 0, _, _, _ => .inr 0
  | n + 1, items, i, d => if tC B len i = 0 then .inl (items, d) else if mayw (tC B len i) d.1 = true then (match itm B len (tC B len i) (tE B len i) d with | .inl r => prs B len n (items + 1) r.1 r.2 | .inr f => .inr f) else .inr (tS B len i)
/-- what is told keeps to -/
def DOK (d : DT) : Prop := AR d.1 ∧ (∀ k, k < d.1 0 → 1 ≤ d.1 (28 + k)) ∧ QR d.1 d.2 ∧ d.2.2.2.2 ≤ 999
theorem fitv_t {B : Nat → Nat} {len i lo hi : Nat} : fitv B len i lo hi = true ↔ tC B len i = 3 ∧ lo ≤ tV B len i ∧ tV B len i < hi := by
  unfold fitv
  rw [Bool.and_eq_true, Bool.and_eq_true]
  exact ⟨fun h => ⟨of_decide_eq_true h.1, Nat.le_of_ble_eq_true h.2.1, blt_of h.2.2⟩, fun h => ⟨decide_eq_true h.1, Nat.ble_eq_true_of_le h.2.1, blt_to h.2.2⟩⟩
theorem tC3 {B : Nat → Nat} {len i : Nat} (h : tC B len i = 3) : tS B len i < len ∧ ¬ inR 97 122 (B (tS B len i)) = true ∧ inR 48 57 (B (tS B len i)) = true ∧ tE B len i - tS B len i ≤ 2 := by
  unfold tC at h
  by_cases z : len ≤ tS B len i
  · rw [if_pos z] at h; exact absurd h (by decide)
  rw [if_neg z] at h
  by_cases z2 : inR 97 122 (B (tS B len i)) = true
  · rw [if_pos z2] at h
    have := wOf_ne (B := B) (s := tS B len i) (e := tE B len i) 6 0
    omega
  rw [if_neg z2] at h
  by_cases z3 : inR 48 57 (B (tS B len i)) = true
  · rw [if_pos z3] at h
    by_cases z4 : tE B len i - tS B len i ≤ 2
    · exact ⟨by omega, z2, z3, z4⟩
    · rw [if_neg z4] at h; exact absurd h (by decide)
  · rw [if_neg z3] at h
    split at h <;> exact absurd h (by decide)
theorem tV_le {B : Nat → Nat} {len i : Nat} (hi : i ≤ len) (h : tC B len i = 3) : tV B len i ≤ 99 := by
  obtain ⟨h1, h2, h3, h4⟩ := tC3 h
  obtain ⟨e1, e2, e3⟩ := tE_ok (B := B) hi
  obtain ⟨ee, dv⟩ := digit_val hi h1 h2 h3
  have d1 := dv (tS B len i) (Nat.le_refl _) (e3 h1)
  unfold tV
  by_cases z : tE B len i - tS B len i ≤ 1
  · rw [if_pos z]; omega
  · rw [if_neg z]
    have d2 := dv (tS B len i + 1) (by omega) (by omega)
    omega
theorem rdn_ok {B : Nat → Nat} {len : Nat} : ∀ (l : List (Nat × Nat)) (i : Nat), i ≤ len → (∀ vs j, rdn B len l i = .inl (vs, j) → i ≤ j ∧ j ≤ len ∧ vs.length = l.length ∧ ∀ k, k < l.length → (l.getD k (0, 0)).1 ≤ vs.getD k 0 ∧ vs.getD k 0 < (l.getD k (0, 0)).2)
  | [], i, hi, vs, j, h => by
    have h : (Sum.inl ([], i) : (List Nat × Nat) ⊕ Nat) = .inl (vs, j) := h
    cases h
    exact ⟨Nat.le_refl _, hi, rfl, fun k hk => absurd hk (Nat.not_lt_zero k)⟩
  | b :: l, i, hi, vs, j, h => by
    obtain ⟨e1, e2, e3⟩ := tE_ok (B := B) hi
    have s1 := (tS_ok (B := B) hi).1
    have h : (if fitv B len i b.1 b.2 = true then (match rdn B len l (tE B len i) with | .inl r => .inl (tV B len i :: r.1, r.2) | .inr f => .inr f) else .inr (tS B len i) : (List Nat × Nat) ⊕ Nat) = .inl (vs, j) := h
    by_cases z : fitv B len i b.1 b.2 = true
    · rw [if_pos z] at h
      cases hr : rdn B len l (tE B len i) with
      | inr f => rw [hr] at h; cases h
      | inl r =>
        rw [hr] at h
        cases h
        obtain ⟨a1, a2, a3, a4⟩ := rdn_ok l (tE B len i) e2 r.1 r.2 hr
        obtain ⟨f1, f2, f3⟩ := fitv_t.mp z
        refine ⟨by omega, a2, by show r.1.length + 1 = l.length + 1; rw [a3], fun k hk => ?_⟩
        rcases k with _ | k
        · exact ⟨f2, f3⟩
        · exact a4 k (by
            have hk : k + 1 < l.length + 1 := hk
            omega)
    · rw [if_neg z] at h; cases h
theorem eff_ok {w : Nat} {vs : List Nat} {d : DT} (hd : DOK d) (hm : mayw w d.1 = true) (hl : vs.length = (bnds w d.1).length) (hv : ∀ k, k < (bnds w d.1).length → ((bnds w d.1).getD k (0, 0)).1 ≤ vs.getD k 0 ∧ vs.getD k 0 < ((bnds w d.1).getD k (0, 0)).2) : DOK (eff w vs d) := by
  obtain ⟨hA, h1, hq, hy⟩ := hd
  obtain ⟨⟨a1, a2⟩, a3, a4, a5⟩ := id hA
  unfold eff
  unfold mayw at hm
  unfold bnds at hv
  by_cases w5 : w = 5
  · rw [if_pos w5]
    rw [if_pos w5] at hv
    have v0 : vs.getD 0 0 < 6 := (hv 0 (by decide)).2
    have v1 : vs.getD 1 0 < 12 := (hv 1 (by decide)).2
    have v2 : vs.getD 2 0 < 10 := (hv 2 (by decide)).2
    have e : ∀ j, ¬ j = 10 + vs.getD 0 0 → ¬ j = 16 + vs.getD 0 0 → updN (updN d.1 (10 + vs.getD 0 0) (vs.getD 1 0)) (16 + vs.getD 0 0) (vs.getD 2 0) j = d.1 j := fun j j1 j2 => by rw [un_n j2, un_n j1]
    unfold DOK QR
    dsimp only
    rw [e 0 (by omega) (by omega), e 1 (by omega) (by omega)]
    refine ⟨⟨⟨by rw [e 0 (by omega) (by omega)]; exact a1, by rw [e 1 (by omega) (by omega)]; exact a2⟩, fun y hy => ?_, fun k hk => ?_, fun k hk => ?_⟩, fun k hk => by rw [e (28 + k) (by omega) (by omega)]; exact h1 k hk, hq, hy⟩
    · by_cases z : y = vs.getD 0 0
      · rw [z, un_s, un_n (by omega), un_s]; omega
      · rw [e _ (by omega) (by omega), e _ (by omega) (by omega)]; exact a3 y hy
    · rw [e 0 (by omega) (by omega)] at hk
      rw [e _ (by omega) (by omega), e _ (by omega) (by omega), e _ (by omega) (by omega)]; exact a4 k hk
    · rw [e 1 (by omega) (by omega)] at hk
      rw [e _ (by omega) (by omega)]; exact a5 k hk
  rw [if_neg w5] at hv hm ⊢
  by_cases w6 : w = 6
  · rw [if_pos w6] at hv hm ⊢
    have ht := blt_of hm
    have v0 : vs.getD 0 0 < 6 := (hv 0 (by decide)).2
    have v1 : 1 ≤ vs.getD 1 0 ∧ vs.getD 1 0 < 31 := hv 1 (by decide)
    have v2 : vs.getD 2 0 < 12 := (hv 2 (by decide)).2
    obtain ⟨A', hA'⟩ : ∃ A', A' = updN (updN (updN (updN d.1 (22 + d.1 0) (vs.getD 0 0)) (28 + d.1 0) (vs.getD 1 0)) (34 + d.1 0) (vs.getD 2 0)) 0 (d.1 0 + 1) := ⟨_, rfl⟩
    have e : ∀ j, ¬ j = 0 → ¬ j = 22 + d.1 0 → ¬ j = 28 + d.1 0 → ¬ j = 34 + d.1 0 → A' j = d.1 j := fun j j0 j1 j2 j3 => by rw [hA', un_n j0, un_n j3, un_n j2, un_n j1]
    have e0 : A' 0 = d.1 0 + 1 := by rw [hA', un_s]
    have x1 : A' (22 + d.1 0) = vs.getD 0 0 := by rw [hA', un_n (by omega), un_n (by omega), un_n (by omega), un_s]
    have x2 : A' (28 + d.1 0) = vs.getD 1 0 := by rw [hA', un_n (by omega), un_n (by omega), un_s]
    have x3 : A' (34 + d.1 0) = vs.getD 2 0 := by rw [hA', un_n (by omega), un_s]
    rw [← hA']
    unfold DOK QR
    dsimp only
    rw [e0, e 1 (by omega) (by omega) (by omega) (by omega)]
    refine ⟨⟨⟨by rw [e0]; omega, by rw [e 1 (by omega) (by omega) (by omega) (by omega)]; exact a2⟩, fun y hy => ?_, fun k hk => ?_, fun k hk => ?_⟩, fun k hk => ?_, ⟨or_lt (Nat.lt_trans hq.1 (Nat.pow_lt_pow_right (by decide) (Nat.lt_succ_self _))) (Nat.lt_succ_self _), hq.2⟩, hy⟩
    · rw [e _ (by omega) (by omega) (by omega) (by omega), e _ (by omega) (by omega) (by omega) (by omega)]; exact a3 y hy
    · rw [e0] at hk
      by_cases z : k = d.1 0
      · rw [z, x1, x2, x3]; omega
      · rw [e _ (by omega) (by omega) (by omega) (by omega), e _ (by omega) (by omega) (by omega) (by omega), e _ (by omega) (by omega) (by omega) (by omega)]; exact a4 k (by omega)
    · rw [e 1 (by omega) (by omega) (by omega) (by omega)] at hk
      rw [e _ (by omega) (by omega) (by omega) (by omega)]; exact a5 k hk
    · by_cases z : k = d.1 0
      · rw [z, x2]; exact v1.1
      · rw [e _ (by omega) (by omega) (by omega) (by omega)]; exact h1 k (by omega)
  rw [if_neg w6] at hv hm ⊢
  by_cases w7 : w = 7
  · rw [if_pos w7] at hv hm ⊢
    have ht := blt_of hm
    have v0 : vs.getD 0 0 < 6 := (hv 0 (by decide)).2
    obtain ⟨A', hA'⟩ : ∃ A', A' = updN (updN d.1 (40 + d.1 1) (vs.getD 0 0)) 1 (d.1 1 + 1) := ⟨_, rfl⟩
    have e : ∀ j, ¬ j = 1 → ¬ j = 40 + d.1 1 → A' j = d.1 j := fun j j0 j1 => by rw [hA', un_n j0, un_n j1]
    have e1 : A' 1 = d.1 1 + 1 := by rw [hA', un_s]
    have x1 : A' (40 + d.1 1) = vs.getD 0 0 := by rw [hA', un_n (by omega), un_s]
    rw [← hA']
    unfold DOK QR
    dsimp only
    rw [e1, e 0 (by omega) (by omega)]
    refine ⟨⟨⟨by rw [e 0 (by omega) (by omega)]; exact a1, by rw [e1]; omega⟩, fun y hy => ?_, fun k hk => ?_, fun k hk => ?_⟩, fun k hk => by rw [e _ (by omega) (by omega)]; exact h1 k hk, ⟨hq.1, Nat.lt_trans hq.2.1 (Nat.pow_lt_pow_right (by decide) (Nat.lt_succ_self _)), hq.2.2⟩, hy⟩
    · rw [e _ (by omega) (by omega), e _ (by omega) (by omega)]; exact a3 y hy
    · rw [e 0 (by omega) (by omega)] at hk
      rw [e _ (by omega) (by omega), e _ (by omega) (by omega), e _ (by omega) (by omega)]; exact a4 k hk
    · rw [e1] at hk
      by_cases z : k = d.1 1
      · rw [z, x1]; omega
      · rw [e _ (by omega) (by omega)]; exact a5 k (by omega)
  rw [if_neg w7] at hv hm ⊢
  by_cases w8 : w = 8
  · rw [if_pos w8] at hv hm ⊢
    have v0 : vs.getD 0 0 < d.1 0 := (hv 0 Nat.one_pos).2
    exact ⟨hA, h1, ⟨xor_lt hq.1 v0, hq.2⟩, hy⟩
  rw [if_neg w8] at hv hm ⊢
  exact ⟨hA, h1, ps_r _ _ hq, ps_sum _ _ hy⟩
/-! the class is told -/
def Fq (σ τ : Mem) : Prop := τ.2 = σ.2 ∧ ∀ c k j, ¬ (c = 8 ∧ 3 ≤ j ∧ j ≤ 6) → ¬ (c = 21 ∧ k = 2) → ¬ (c = 7 ∧ 7 ≤ k ∧ k < 14 ∧ j = 3) → ¬ (c = 20 ∧ 7 ≤ k ∧ k < 14) → ¬ (c = 4 ∧ k = 1) → τ.1 c k j = σ.1 c k j
theorem Fq.rf (σ : Mem) : Fq σ σ := ⟨rfl, fun _ _ _ _ _ _ _ _ => rfl⟩
theorem Fq.tr {σ τ ρ : Mem} (a : Fq σ τ) (b : Fq τ ρ) : Fq σ ρ := ⟨b.1.trans a.1, fun c k j h1 h2 h3 h4 h5 => (b.2 c k j h1 h2 h3 h4 h5).trans (a.2 c k j h1 h2 h3 h4 h5)⟩
theorem F8.q {σ τ : Mem} (h : F8 σ τ) : Fq σ τ := ⟨h.1, fun c k j h1 _ _ _ _ => h.2 c k j h1⟩
theorem Fq.told {σ : Mem} {f : Nat → Int32} : Fq σ (sA σ 21 2 f) := ⟨rfl, fun c k j _ h _ _ _ => by rw [rdA, if_neg h]⟩
theorem TX.fq {σ τ : Mem} {B : Nat → Nat} {len : Nat} (h : TX σ B len) (f : Fq σ τ) : TX τ B len := ⟨h.1, by rw [f.2 _ _ _ (by omega) (by omega) (by omega) (by omega) (by omega)]; exact h.2.1, fun i hi => by rw [f.2 _ _ _ (by omega) (by omega) (by omega) (by omega) (by omega)]; exact h.2.2 i hi⟩
/-- the draft holds what is told -/
def DR (σ : Mem) (d : DT) : Prop := TC 1 σ ∧ HV 1 σ d.1 ∧ Mo (σ.1 4 1) d.2 ∧ (σ.1 7 10 3 = 0 ∧ σ.1 7 11 3 = 0 ∧ σ.1 7 12 3 = 0 ∧ σ.1 7 13 3 = 0)
/-- nothing of the draft has changed -/
def Fx (σ τ : Mem) : Prop := τ.1 7 = σ.1 7 ∧ τ.1 20 = σ.1 20 ∧ τ.1 4 = σ.1 4
theorem DR.fx {σ τ : Mem} {d : DT} (h : DR σ d) (f : Fx σ τ) : DR τ d := by
  obtain ⟨f7, f20, f4⟩ := f
  refine ⟨fun j hj => by rw [f7]; exact h.1 j hj, h.2.1.fr f7 f20, by rw [f4]; exact h.2.2.1, ?_⟩
  rw [f7]; exact h.2.2.2
theorem F8.x {σ τ : Mem} (h : F8 σ τ) : Fx σ τ := ⟨funext fun k => funext fun j => h.2 _ _ _ (by omega), funext fun k => funext fun j => h.2 _ _ _ (by omega), funext fun k => funext fun j => h.2 _ _ _ (by omega)⟩
theorem bnd_C {σ : Mem} {A : Nat → Nat} {w p v : Nat} (h8 : σ.1 7 8 3 = nI (A 0)) (hA : A 0 ≤ 6) (hw : 5 ≤ w ∧ w ≤ 9) (hp : p < (bnds w A).length) (hv : v ≤ 99) :
    f10_within (nI v) (f8_leastOf (nI w) (nI p)) (f8_mostOf (nI w) (nI p) 1 σ) = bI (Nat.ble ((bnds w A).getD p (0, 0)).1 v && Nat.blt v ((bnds w A).getD p (0, 0)).2) := by
  have key : ∀ lo hi : Nat, lo < 1000 → 0 < hi → hi < 1000 → f10_within (nI v) (nI lo) (nI (hi - 1)) = bI (Nat.ble lo v && Nat.blt v hi) := by
    intro lo hi h1 h2 h3
    rw [wiN (by omega) h1 (by omega)]
    have : Nat.ble v (hi - 1) = Nat.blt v hi := by
      show Nat.ble v (hi - 1) = Nat.ble (v + 1) hi
      rw [Bool.eq_iff_iff]
      exact ⟨fun w => Nat.ble_eq_true_of_le (by have := Nat.le_of_ble_eq_true w; omega), fun w => Nat.ble_eq_true_of_le (by have := Nat.le_of_ble_eq_true w; omega)⟩
    rw [this]
  rcases (show w = 5 ∨ w = 6 ∨ w = 7 ∨ w = 8 ∨ w = 9 by omega) with rfl | rfl | rfl | rfl | rfl
  · have hp : p < 3 := hp
    rcases (show p = 0 ∨ p = 1 ∨ p = 2 by omega) with rfl | rfl | rfl
    · exact key 0 6 (by decide) (by decide) (by decide)
    · exact key 0 12 (by decide) (by decide) (by decide)
    · exact key 0 10 (by decide) (by decide) (by decide)
  · have hp : p < 3 := hp
    rcases (show p = 0 ∨ p = 1 ∨ p = 2 by omega) with rfl | rfl | rfl
    · exact key 0 6 (by decide) (by decide) (by decide)
    · exact key 1 31 (by decide) (by decide) (by decide)
    · exact key 0 12 (by decide) (by decide) (by decide)
  · have hp : p < 1 := hp
    obtain rfl : p = 0 := by omega
    exact key 0 6 (by decide) (by decide) (by decide)
  · have hp : p < 1 := hp
    obtain rfl : p = 0 := by omega
    show f10_within (nI v) (nI 0) (σ.1 7 8 3 - 1) = bI (Nat.ble 0 v && Nat.blt v (A 0))
    rw [h8]
    rcases ht : A 0 with _ | t
    · unfold f10_within
      rw [if_neg (nI_nlt (Nat.zero_le v) (by omega)), if_pos (by
        rw [Int32.lt_iff_toInt_lt, nI_toInt (by omega), show (nI 0 - 1).toInt = -1 by decide]
        omega)]
      rw [show Nat.blt v 0 = false from Bool.eq_false_iff.mpr (fun w => by have := blt_of w; omega), Bool.and_false]
      rfl
    · rw [nI_pred]
      exact key 0 (t + 1) (by decide) (by omega) (by omega)
  · have hp : p < 1 := hp
    obtain rfl : p = 0 := by omega
    exact key 1 100 (by decide) (by decide) (by decide)
theorem num_C : ∀ w, 4 ≤ w → w ≤ 9 → ∀ A : Nat → Nat, f8_numbersOf (nI w) = nI (bnds w A).length ∧ (bnds w A).length ≤ 3 := by
  intro w h1 h2 A
  rcases (show w = 4 ∨ w = 5 ∨ w = 6 ∨ w = 7 ∨ w = 8 ∨ w = 9 by omega) with rfl | rfl | rfl | rfl | rfl | rfl <;> exact ⟨rfl, Nat.le_of_ble_eq_true rfl⟩
theorem readNumbers_lp {B : Nat → Nat} {len w : Nat} {A : Nat → Nat} (hA : A 0 ≤ 6) (hw : 5 ≤ w ∧ w ≤ 9) :
    ∀ (l : List (Nat × Nat)) (m p i : Nat) (σ : Mem), p + l.length = (bnds w A).length → (∀ k, k < l.length → (bnds w A).getD (p + k) (0, 0) = l.getD k (0, 0)) → l.length < m → TX σ B len → i ≤ len → σ.1 8 0 5 = nI i → σ.1 7 8 3 = nI (A 0) →
      ∃ o τ, l8_readNumbers_8 0 (nI w) 1 (nI (bnds w A).length) m (nI p) σ = some o ∧ sm o (fun z => z.2) (fun z => z.2) = τ ∧ Fq σ τ ∧ Fx σ τ ∧ (∀ k, k < p → τ.1 21 2 k = σ.1 21 2 k) ∧
        match rdn B len l i with
        | .inl r => sm o (fun _ => true) (fun _ => false) = true ∧ τ.1 8 0 5 = nI r.2 ∧ ∀ k, k < l.length → τ.1 21 2 (p + k) = nI (r.1.getD k 0)
        | .inr f => sm o (fun _ => 7) (fun z => z.1) = 0 ∧ τ.1 8 0 4 = nI f := by
  have hb3 := (num_C w (by omega) hw.2 A).2
  intro l
  induction l with
  | nil =>
    intro m p i σ h1 h0 h2 hT hi h5 h8
    obtain ⟨m, rfl⟩ : ∃ q, m = q + 1 := ⟨m - 1, by omega⟩
    have h1 : p + 0 = (bnds w A).length := h1
    refine ⟨.inl (nI p, σ), σ, ?_, rfl, Fq.rf σ, ⟨rfl, rfl, rfl⟩, fun _ _ => rfl, rfl, h5, fun k hk => absurd hk (Nat.not_lt_zero k)⟩
    rw [l8_readNumbers_8, if_pos (nI_le (by omega) (by omega))]
  | cons b l ih =>
    intro m p i σ h1 h0 h2 hT hi h5 h8
    have h1 : p + (l.length + 1) = (bnds w A).length := h1
    have h2 : l.length + 1 < m := h2
    obtain ⟨m, rfl⟩ : ∃ q, m = q + 1 := ⟨m - 1, by omega⟩
    obtain ⟨τ1, e1, f1, g3, g4, g5, g6⟩ := nextToken_ok hT h5 hi
    obtain ⟨te1, te2, te3⟩ := tE_ok (B := B) hi
    have hc := tC_le (B := B) (len := len) (i := i)
    have hb : (bnds w A).getD p (0, 0) = b := h0 0 (Nat.succ_pos _)
    have hx := f1.x
    have k8 : τ1.1 7 8 3 = nI (A 0) := by rw [hx.1]; exact h8
    rw [l8_readNumbers_8, if_neg (nI_ge (by omega) (by omega)), e1, bnd_s, lt_e, g3]
    show ∃ o τ, _ = some o ∧ _ ∧ _ ∧ _ ∧ _ ∧ match (if fitv B len i b.1 b.2 = true then (match rdn B len l (tE B len i) with | .inl r => .inl (tV B len i :: r.1, r.2) | .inr f => .inr f) else .inr (tS B len i) : (List Nat × Nat) ⊕ Nat) with
        | .inl r => _
        | .inr f => _
    by_cases z : tC B len i = 3
    · have hv := tV_le hi z
      have hbn := bnd_C (v := tV B len i) (p := p) k8 hA hw (by omega) hv
      rw [hb] at hbn
      rw [if_pos (by rw [z]; rfl), g6 z, hbn]
      by_cases z2 : fitv B len i b.1 b.2 = true
      · obtain ⟨-, c1, c2⟩ := fitv_t.mp z2
        rw [Nat.ble_eq_true_of_le c1, blt_to c2, if_neg (show ¬ bI (true && true) = 0 by decide), if_pos z2, put_row (N := 3) rfl (by decide) (by omega), bnd_s, nI_1]
        have hq2 : Fq τ1 (sI τ1 21 2 p (nI (tV B len i))) := Fq.told
        obtain ⟨o, τ, o1, o2, o3, o4, o5, o6⟩ := ih m (p + 1) (tE B len i) (sI τ1 21 2 p (nI (tV B len i))) (by omega) (fun k hk => by
          rw [show p + 1 + k = p + (k + 1) by omega]
          exact h0 (k + 1) (Nat.succ_lt_succ hk)) (by omega) ((hT.fr f1).fq hq2) te2 (by rw [rdI, if_neg (by omega)]; exact g5) (by rw [rdI, if_neg (by omega)]; exact k8)
        refine ⟨o, τ, o1, o2, f1.q.tr (hq2.tr o3), ⟨o4.1.trans hx.1, o4.2.1.trans hx.2.1, o4.2.2.trans hx.2.2⟩, fun k hk => ?_, ?_⟩
        · rw [o5 k (by omega), rdI, if_neg (by omega), f1.2 _ _ _ (by omega)]
        · cases hr : rdn B len l (tE B len i) with
          | inr f => rw [hr] at o6; exact o6
          | inl r =>
            rw [hr] at o6
            obtain ⟨p1, p2, p3⟩ := o6
            refine ⟨p1, p2, fun k hk => ?_⟩
            rcases k with _ | k
            · show τ.1 21 2 (p + 0) = nI (tV B len i)
              rw [Nat.add_zero, o5 p (by omega), rdI, if_pos ⟨rfl, rfl, rfl⟩]
            · show τ.1 21 2 (p + (k + 1)) = nI (r.1.getD k 0)
              rw [show p + (k + 1) = p + 1 + k by omega]
              exact p3 k (by
                have hk : k + 1 < l.length + 1 := hk
                omega)
      · rw [if_neg z2]
        have hz : (Nat.ble b.1 (tV B len i) && Nat.blt (tV B len i) b.2) = false := Bool.eq_false_iff.mpr (fun w => z2 (by unfold fitv; rw [decide_eq_true z, w]; rfl))
        rw [hz, if_pos (show bI false = 0 by rfl)]
        exact ⟨.inr (0, τ1), τ1, rfl, rfl, f1.q, hx, fun k hk => f1.2 _ _ _ (by omega), rfl, g4⟩
    · rw [if_neg (neR _ 3 z), if_neg (fun w => z (fitv_t.mp w).1)]
      exact ⟨.inr (0, τ1), τ1, rfl, rfl, f1.q, hx, fun k hk => f1.2 _ _ _ (by omega), rfl, g4⟩
