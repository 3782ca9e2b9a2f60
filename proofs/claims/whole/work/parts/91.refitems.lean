/-! the reference reads: numbers and items -/
def FR (σ τ : Mem) : Prop := τ.2 = σ.2 ∧ ∀ c k j, ¬ (c = 11 ∧ k = 0 ∧ 13 ≤ j ∧ j ≤ 16) → ¬ (c = 22 ∧ (k = 10 ∨ k = 11)) → τ.1 c k j = σ.1 c k j
theorem FR.rf (σ : Mem) : FR σ σ := ⟨rfl, fun _ _ _ _ _ => rfl⟩
theorem FR.tr {σ τ ρ : Mem} (a : FR σ τ) (b : FR τ ρ) : FR σ ρ := ⟨b.1.trans a.1, fun c k j h1 h2 => (b.2 c k j h1 h2).trans (a.2 c k j h1 h2)⟩
theorem FR.row {σ : Mem} {k : Nat} {f : Nat → Int32} (h : k = 10 ∨ k = 11) : FR σ (sA σ 22 k f) := ⟨rfl, fun c k' j _ h2 => by rw [rdA, if_neg (by omega)]⟩
theorem TR.fr {σ τ : Mem} {B : Nat → Nat} {len : Nat} (h : TR σ B len) (f : FR σ τ) : TR τ B len := ⟨h.1, by rw [f.2 _ _ _ (by omega) (by omega)]; exact h.2.1, fun i hi => by rw [f.2 _ _ _ (by omega) (by omega)]; exact h.2.2 i hi⟩
theorem lookAtR {σ : Mem} {B : Nat → Nat} {len i : Nat} (h : TR σ B len) (hi : i ≤ len) : ∃ τ, f11_lookAt 0 (nI i) σ = some τ ∧ FR σ τ ∧ LR B len i (τ.1 11 0) ∧ τ.1 22 = σ.1 22 := by
  obtain ⟨f, e, l, k⟩ := lookAt_ok h hi
  refine ⟨_, e, ⟨rfl, fun c k' j h1 h2 => ?_⟩, by rw [sA_at]; exact l, rfl⟩
  rw [rdA]
  by_cases z : c = 11 ∧ k' = 0
  · rw [if_pos z, k j (by omega), z.1, z.2]
  · rw [if_neg z]
theorem goBehind_ok {σ : Mem} {B : Nat → Nat} {len i : Nat} (h : TR σ B len) (hi : i ≤ len) (hL : LR B len i (σ.1 11 0)) : ∃ τ, f11_goBehind 0 σ = some τ ∧ FR σ τ ∧ LR B len (tE B len i) (τ.1 11 0) ∧ τ.1 22 = σ.1 22 := by
  obtain ⟨e1, e2, e3⟩ := tE_ok (B := B) hi
  obtain ⟨τ, e, r⟩ := lookAtR h e2
  refine ⟨τ, ?_, r⟩
  unfold f11_goBehind
  rw [hL.1, hL.2.1, nI_add, show tS B len i + (tE B len i - tS B len i) = tE B len i by omega, e, bnd_s]
theorem rC_tC {B : Nat → Nat} {len i : Nat} : (rC B len i = 0 ↔ tC B len i = 0) ∧ (rC B len i = 2 ↔ tC B len i = 3) ∧ (rC B len i = 3 ↔ tC B len i = 2) ∧ (rC B len i = 1 → tC B len i = wOf B (tS B len i) (tE B len i) 6 0) ∧ (¬ rC B len i = 1 → tC B len i ≤ 3) ∧ rC B len i ≤ 4 := by
  have hw := wOf_ne (B := B) (s := tS B len i) (e := tE B len i) 6 0
  unfold rC tC
  by_cases z : len ≤ tS B len i
  · rw [if_pos z, if_pos z]; omega
  · rw [if_neg z, if_neg z]
    by_cases z2 : inR 97 122 (B (tS B len i)) = true
    · rw [if_pos z2, if_pos z2]; omega
    · rw [if_neg z2, if_neg z2]
      by_cases z3 : inR 48 57 (B (tS B len i)) = true
      · rw [if_pos z3, if_pos z3]
        by_cases z4 : tE B len i - tS B len i ≤ 2
        · rw [if_pos z4, if_pos z4]; omega
        · rw [if_neg z4, if_neg z4]; omega
      · rw [if_neg z3, if_neg z3]
        by_cases z4 : B (tS B len i) = 59
        · rw [if_pos z4, if_pos z4]; omega
        · rw [if_neg z4, if_neg z4]; omega
theorem bw_one : ∀ k, k < 6 → ∀ k', k' < 6 → (bwN.getD k []).length = (bwN.getD k' []).length → (bwN.getD k []).getD 0 0 = (bwN.getD k' []).getD 0 0 → k = k' := by decide
theorem bw_pos : ∀ k, k < 6 → 0 < (bwN.getD k []).length := by decide
theorem mtc_one {B : Nat → Nat} {s e k k' : Nat} (hk : k < 6) (hk' : k' < 6) (h : mtc B s e k = true) (h' : mtc B s e k' = true) : k = k' := by
  unfold mtc at h h'
  rw [Bool.and_eq_true] at h h'
  have a1 := of_decide_eq_true h.1
  have a2 := of_decide_eq_true h'.1
  have b1 := of_decide_eq_true ((aB_iff _).mp h.2 0 (bw_pos k hk))
  have b2 := of_decide_eq_true ((aB_iff _).mp h'.2 0 (bw_pos k' hk'))
  exact bw_one k hk k' hk' (a1.symm.trans a2) (b1.symm.trans b2)
theorem wOf_iff {B : Nat → Nat} {s e k : Nat} (hk : k < 6) : ∀ m k0, k0 + m = 6 → k0 ≤ k → (wOf B s e m k0 = 4 + k ↔ mtc B s e k = true)
  | 0, k0, h1, h2 => absurd h2 (by omega)
  | m + 1, k0, h1, h2 => by
    unfold wOf
    cases hm : mtc B s e k0 with
    | true =>
      rw [if_pos rfl]
      constructor
      · intro q
        obtain rfl : k0 = k := by omega
        exact hm
      · intro q
        rw [mtc_one (by omega) hk hm q]
    | false =>
      rw [if_neg (by decide)]
      by_cases z : k0 = k
      · subst z
        rw [hm]
        constructor
        · intro q
          exfalso
          have up : ∀ m k1, k0 < k1 → ¬ wOf B s e m k1 = 4 + k0 := by
            intro m
            induction m with
            | zero => intro k1 h q; have q : 1 = 4 + k0 := q; omega
            | succ m ih =>
              intro k1 h q
              unfold wOf at q
              split at q
              · omega
              · exact ih (k1 + 1) (by omega) q
          exact up m (k0 + 1) (by omega) q
        · intro q; exact absurd q (by decide)
      · exact wOf_iff hk m (k0 + 1) (by omega) (by omega)
theorem word_iff {B : Nat → Nat} {len i k : Nat} (hk : k < 6) : (decide (rC B len i = 1) && mtc B (tS B len i) (tE B len i) k) = decide (tC B len i = 4 + k) := by
  obtain ⟨-, -, -, c4, c5, -⟩ := rC_tC (B := B) (len := len) (i := i)
  by_cases z : rC B len i = 1
  · rw [decide_eq_true z, Bool.true_and, c4 z, Bool.eq_iff_iff, decide_eq_true_iff]
    exact (wOf_iff hk 6 0 rfl (Nat.zero_le k)).symm
  · rw [decide_eq_false z, decide_eq_false (by have := c5 z; omega)]; rfl
theorem gives_ok {σ : Mem} {B : Nat → Nat} {len i k lo hi : Nat} {x2 x3 : Int32} (h : TR σ B len) (hi' : i ≤ len) (hL : LR B len i (σ.1 11 0)) (hk : k < 3) (hw : ∀ v, v ≤ 99 → f10_within (nI v) x2 x3 = bI (Nat.ble lo v && Nat.blt v hi)) :
    ∃ τ, FR σ τ ∧ τ.1 22 10 = σ.1 22 10 ∧ (∀ j, ¬ j = k → τ.1 22 11 j = σ.1 22 11 j) ∧ ((fitv B len i lo hi = true ∧ f11_gives 0 (nI k) x2 x3 σ = some (1, τ) ∧ LR B len (tE B len i) (τ.1 11 0) ∧ τ.1 22 11 k = nI (tV B len i)) ∨ (¬ fitv B len i lo hi = true ∧ f11_gives 0 (nI k) x2 x3 σ = some (0, τ) ∧ τ.1 11 0 13 = nI (tS B len i))) := by
  obtain ⟨c1, c2, c3, -, -, c6⟩ := rC_tC (B := B) (len := len) (i := i)
  unfold f11_gives
  rw [hL.2.2.1, in_within]
  by_cases z : rC B len i = 2
  · have z3 := c2.mp z
    rw [if_pos (show nI (rC B len i) = 2 by rw [z]; rfl), hL.2.2.2 z, hw _ (tV_le hi' z3)]
    by_cases z2 : fitv B len i lo hi = true
    · obtain ⟨-, d1, d2⟩ := fitv_t.mp z2
      rw [Nat.ble_eq_true_of_le d1, blt_to d2, if_neg (show ¬ bI (true && true) = 0 by decide), inb_nI (show k < 3 by omega) (by decide), ck_t, nI_clamp (by omega), lt_e]
      have f0 : FR σ (sI σ 22 11 k (nI (tV B len i))) := FR.row (Or.inr rfl)
      obtain ⟨τ, e, f1, l1, k1⟩ := goBehind_ok (h.fr f0) hi' (show LR B len i ((sI σ 22 11 k (nI (tV B len i))).1 11 0) from hL)
      rw [e, bnd_s]
      refine ⟨τ, f0.tr f1, by rw [k1]; rfl, fun j hj => by rw [k1, rdI, if_neg (by omega)], Or.inl ⟨z2, rfl, l1, by rw [k1, rdI, if_pos ⟨rfl, rfl, rfl⟩]⟩⟩
    · have hz : (Nat.ble lo (tV B len i) && Nat.blt (tV B len i) hi) = false := Bool.eq_false_iff.mpr (fun w => z2 (by unfold fitv; rw [decide_eq_true z3, w]; rfl))
      rw [hz, if_pos (show bI false = 0 by rfl)]
      exact ⟨σ, FR.rf σ, rfl, fun _ _ => rfl, Or.inr ⟨z2, rfl, hL.1⟩⟩
  · rw [if_neg (neR _ 2 z)]
    exact ⟨σ, FR.rf σ, rfl, fun _ _ => rfl, Or.inr ⟨fun q => z (c2.mpr (fitv_t.mp q).1), rfl, hL.1⟩⟩
/-- what has been read behind an item's word -/
def GO (B : Nat → Nat) (len : Nat) (σ τ : Mem) (l : List (Nat × Nat)) (i : Nat) (E : Option (Int32 × Mem)) (K : Mem → Option (Int32 × Mem)) : Prop :=
  FR σ τ ∧ τ.1 22 10 = σ.1 22 10 ∧ match rdn B len l i with
    | .inl r => E = K τ ∧ LR B len r.2 (τ.1 11 0) ∧ ∀ k, k < l.length → τ.1 22 11 k = nI (r.1.getD k 0)
    | .inr f => E = some (0, τ) ∧ τ.1 11 0 13 = nI f
theorem rdn_c {B : Nat → Nat} {len : Nat} {b : Nat × Nat} {l : List (Nat × Nat)} {i : Nat} : rdn B len (b :: l) i = if fitv B len i b.1 b.2 = true then (match rdn B len l (tE B len i) with | .inl r => .inl (tV B len i :: r.1, r.2) | .inr f => .inr f) else .inr (tS B len i) := rfl
theorem gives1 {σ : Mem} {B : Nat → Nat} {len i lo hi : Nat} {x2 x3 : Int32} (K : Mem → Option (Int32 × Mem)) (h : TR σ B len) (hi' : i ≤ len) (hL : LR B len i (σ.1 11 0)) (hw : ∀ v, v ≤ 99 → f10_within (nI v) x2 x3 = bI (Nat.ble lo v && Nat.blt v hi)) :
    ∃ τ, GO B len σ τ [(lo, hi)] i (bnd (f11_gives 0 0 x2 x3 σ) fun w3 => if w3.1 = 0 then some (0, w3.2) else K w3.2) K := by
  obtain ⟨τ, f, k10, k11, c⟩ := gives_ok (k := 0) h hi' hL (by decide) hw
  refine ⟨τ, f, k10, ?_⟩
  rw [rdn_c]
  rcases c with ⟨c1, c2, c3, c4⟩ | ⟨c1, c2, c3⟩
  · rw [if_pos c1, show f11_gives 0 0 x2 x3 σ = _ from c2, bnd_s, if_neg (show ¬ (1 : Int32) = 0 by decide)]
    refine ⟨rfl, c3, fun k hk => ?_⟩
    have hk : k < 1 := hk
    obtain rfl : k = 0 := by omega
    exact c4
  · rw [if_neg c1, show f11_gives 0 0 x2 x3 σ = _ from c2, bnd_s, if_pos (show (0 : Int32) = 0 by rfl)]
    exact ⟨rfl, c3⟩
theorem gives3 {σ : Mem} {B : Nat → Nat} {len i lo0 hi0 lo1 hi1 lo2 hi2 : Nat} {x0 y0 x1 y1 x2 y2 : Int32} (K : Mem → Option (Int32 × Mem)) (h : TR σ B len) (hi' : i ≤ len) (hL : LR B len i (σ.1 11 0)) (hw0 : ∀ v, v ≤ 99 → f10_within (nI v) x0 y0 = bI (Nat.ble lo0 v && Nat.blt v hi0)) (hw1 : ∀ v, v ≤ 99 → f10_within (nI v) x1 y1 = bI (Nat.ble lo1 v && Nat.blt v hi1)) (hw2 : ∀ v, v ≤ 99 → f10_within (nI v) x2 y2 = bI (Nat.ble lo2 v && Nat.blt v hi2)) :
    ∃ τ, GO B len σ τ [(lo0, hi0), (lo1, hi1), (lo2, hi2)] i (bnd (f11_gives 0 0 x0 y0 σ) fun w3 => if w3.1 = 0 then some (0, w3.2) else bnd (f11_gives 0 1 x1 y1 w3.2) fun w5 => if w5.1 = 0 then some (0, w5.2) else bnd (f11_gives 0 2 x2 y2 w5.2) fun w7 => if w7.1 = 0 then some (0, w7.2) else K w7.2) K := by
  obtain ⟨τ, f, k10, k11, c⟩ := gives_ok (k := 0) h hi' hL (by decide) hw0
  unfold GO
  rw [rdn_c]
  rcases c with ⟨c1, c2, c3, c4⟩ | ⟨c1, c2, c3⟩
  rotate_left
  · rw [if_neg c1, show f11_gives 0 0 x0 y0 σ = _ from c2, bnd_s, if_pos (show (0 : Int32) = 0 by rfl)]
    exact ⟨τ, f, k10, rfl, c3⟩
  rw [if_pos c1, show f11_gives 0 0 x0 y0 σ = _ from c2, bnd_s, if_neg (show ¬ (1 : Int32) = 0 by decide), rdn_c]
  have g2 := (tE_ok (B := B) hi').2.1
  obtain ⟨τ', f', k10', k11', c'⟩ := gives_ok (k := 1) (h.fr f) g2 c3 (by decide) hw1
  rcases c' with ⟨c1', c2', c3', c4'⟩ | ⟨c1', c2', c3'⟩
  rotate_left
  · rw [if_neg c1', show f11_gives 0 1 x1 y1 τ = _ from c2', bnd_s, if_pos (show (0 : Int32) = 0 by rfl)]
    exact ⟨τ', f.tr f', k10'.trans k10, rfl, c3'⟩
  rw [if_pos c1', show f11_gives 0 1 x1 y1 τ = _ from c2', bnd_s, if_neg (show ¬ (1 : Int32) = 0 by decide), rdn_c]
  have g3 := (tE_ok (B := B) g2).2.1
  obtain ⟨τ'', f'', k10'', k11'', c''⟩ := gives_ok (k := 2) ((h.fr f).fr f') g3 c3' (by decide) hw2
  rcases c'' with ⟨c1'', c2'', c3'', c4''⟩ | ⟨c1'', c2'', c3''⟩
  rotate_left
  · rw [if_neg c1'', show f11_gives 0 2 x2 y2 τ' = _ from c2'', bnd_s, if_pos (show (0 : Int32) = 0 by rfl)]
    exact ⟨τ'', (f.tr f').tr f'', (k10''.trans k10').trans k10, rfl, c3''⟩
  rw [if_pos c1'', show f11_gives 0 2 x2 y2 τ' = _ from c2'', bnd_s, if_neg (show ¬ (1 : Int32) = 0 by decide)]
  refine ⟨τ'', (f.tr f').tr f'', (k10''.trans k10').trans k10, rfl, c3'', fun k hk => ?_⟩
  have hk : k < 3 := hk
  rcases (show k = 0 ∨ k = 1 ∨ k = 2 by omega) with rfl | rfl | rfl
  · rw [k11'' 0 (by decide), k11' 0 (by decide)]; exact c4
  · rw [k11'' 1 (by decide)]; exact c4'
  · exact c4''
/-- the bounds, as the class has them -/
theorem bnd_R {A : Nat → Nat} {w p : Nat} (hA : A 0 ≤ 6) (hw : 5 ≤ w ∧ w ≤ 9) (hp : p < (bnds w A).length) (v : Nat) (hv : v ≤ 99) :
    f10_within (nI v) (f8_leastOf (nI w) (nI p)) (f8_mostOf (nI w) (nI p) 1 (sI (fun _ _ _ => 0, fun _ _ _ => 0) 7 8 3 (nI (A 0)))) = bI (Nat.ble ((bnds w A).getD p (0, 0)).1 v && Nat.blt v ((bnds w A).getD p (0, 0)).2) :=
  bnd_C (by rw [rdI, if_pos ⟨rfl, rfl, rfl⟩]) hA hw hp hv
