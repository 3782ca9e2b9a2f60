/-! THE CORE: what is struck, what parts come, how summers go by; as numbers, of both sides -/
abbrev QT : Type := Nat × Nat × Nat × Nat
/-- a village's storms, things, parts, as numbers at the places of a row -/
def HV (v : Nat) (σ : Mem) (A : Nat → Nat) : Prop :=
  (σ.1 7 (7 * v) 3 = nI 6 ∧ σ.1 7 (7 * v) 1 = nI 2) ∧ (σ.1 7 (7 * v + 1) 3 = nI (A 0) ∧ σ.1 7 (7 * v + 1) 1 = nI 3) ∧ (σ.1 7 (7 * v + 2) 3 = nI (A 1) ∧ σ.1 7 (7 * v + 2) 1 = nI 1) ∧
  (∀ y, y < 6 → σ.1 20 (7 * v) (2 * y) = nI (A (10 + y)) ∧ σ.1 20 (7 * v) (2 * y + 1) = nI (A (16 + y))) ∧
  (∀ k, k < A 0 → σ.1 20 (7 * v + 1) (3 * k) = nI (A (22 + k)) ∧ σ.1 20 (7 * v + 1) (3 * k + 1) = nI (A (28 + k)) ∧ σ.1 20 (7 * v + 1) (3 * k + 2) = nI (A (34 + k))) ∧
  ∀ k, k < A 1 → σ.1 20 (7 * v + 2) k = nI (A (40 + k))
theorem HV.fr {v : Nat} {σ τ : Mem} {A : Nat → Nat} (h : HV v σ A) (h7 : τ.1 7 = σ.1 7) (h20 : τ.1 20 = σ.1 20) : HV v τ A := by
  unfold HV
  rw [h7, h20]
  exact h
def RV (f : Nat → Int32) (A : Nat → Nat) : Prop :=
  (f 0 = nI (A 0) ∧ f 1 = nI (A 1)) ∧ (∀ y, y < 6 → f (10 + y) = nI (A (10 + y)) ∧ f (16 + y) = nI (A (16 + y))) ∧
  (∀ k, k < A 0 → f (22 + k) = nI (A (22 + k)) ∧ f (28 + k) = nI (A (28 + k)) ∧ f (34 + k) = nI (A (34 + k))) ∧
  ∀ k, k < A 1 → f (40 + k) = nI (A (40 + k))
def AR (A : Nat → Nat) : Prop := (A 0 ≤ 6 ∧ A 1 ≤ 6) ∧ (∀ y, y < 6 → A (10 + y) ≤ 11 ∧ A (16 + y) ≤ 9) ∧ (∀ k, k < A 0 → A (22 + k) ≤ 5 ∧ A (28 + k) ≤ 30 ∧ A (34 + k) ≤ 11) ∧ ∀ k, k < A 1 → A (40 + k) ≤ 5
theorem RV.fr {f g : Nat → Int32} {A : Nat → Nat} (hA : AR A) (h : RV f A) (hg : ∀ j, j < 6 ∨ (10 ≤ j ∧ j < 46) → g j = f j) : RV g A := by
  obtain ⟨⟨a1, a2⟩, a3, a4, a5⟩ := h
  have b1 := hA.1.1
  have b2 := hA.1.2
  refine ⟨⟨?_, ?_⟩, fun y hy => ⟨?_, ?_⟩, fun k hk => ⟨?_, ?_, ?_⟩, fun k hk => ?_⟩
  · rw [hg _ (by omega)]; exact a1
  · rw [hg _ (by omega)]; exact a2
  · rw [hg _ (by omega)]; exact (a3 y hy).1
  · rw [hg _ (by omega)]; exact (a3 y hy).2
  · rw [hg _ (by omega)]; exact (a4 k hk).1
  · rw [hg _ (by omega)]; exact (a4 k hk).2.1
  · rw [hg _ (by omega)]; exact (a4 k hk).2.2
  · rw [hg _ (by omega)]; exact a5 k hk
/-- the moment: up, there, charge, summer -/
def Mo (f : Nat → Int32) (q : QT) : Prop := f 0 = nI q.1 ∧ f 1 = nI q.2.1 ∧ f 2 = nI q.2.2.1 ∧ f 3 = nI q.2.2.2
def Mr (f : Nat → Int32) (q : QT) : Prop := f 6 = nI q.1 ∧ f 7 = nI q.2.1 ∧ f 8 = nI q.2.2.1 ∧ f 9 = nI q.2.2.2
/-- a row of the reference that can be walked -/
def Kr (k0 : Nat) : Prop := k0 = 0 ∨ k0 = 4 ∨ k0 = 10
theorem Kr.ne {k0 : Nat} (h : Kr k0) : decide (¬ k0 = 2) = true := by
  rcases h with rfl | rfl | rfl <;> rfl
theorem Kr.inb {k0 n : Nat} (h : Kr k0) (hn : n < 46) : inb (nI n) (alen 22 k0) = true := by
  rcases h with rfl | rfl | rfl
  · exact inb_nI (show n < 142 by omega) (by decide)
  · exact inb_nI (show n < 46 by omega) (by decide)
  · exact inb_nI (show n < 110 by omega) (by decide)
/-- what a thing draws from a cell -/
def dw (A : Nat → Nat) (y c k : Nat) : Nat := dr (A (22 + k)) (A (28 + k)) (df (A (34 + k)) c) y
/-- the first that draws most -/
def stk (w : Nat → Nat) : Nat → Nat → Int32 → Nat → Int32
  | 0, _, b, _ => b
  | m + 1, i, b, x => if x < w i then stk w m (i + 1) (nI i) (w i) else stk w m (i + 1) b x
def wu (A : Nat → Nat) (u y c k : Nat) : Nat := if u.testBit k = true then dw A y c k else 0
def st (A : Nat → Nat) (u y c : Nat) : Int32 := stk (wu A u y c) (A 0) 0 (-1) 0
theorem dw_le {A : Nat → Nat} (hA : AR A) {y c k : Nat} (hk : k < A 0) : dw A y c k ≤ 60 := dr_le (hA.2.2.1 k hk).2.1
section ATS
variable {v : Nat} {σ : Mem} {A : Nat → Nat}
theorem HV.at0 (h : HV v σ A) (hA : AR A) {k : Nat} (hk : k < A 0) : f7_at (7 * v + 1) (nI k) 0 σ = some (nI (A (22 + k))) := by
  have b := hA.1.1
  rw [← (h.2.2.2.2.1 k hk).1, show 3 * k = k * 3 + 0 by omega]
  exact at_ok (j := 0) (w := 3) (N := 18) h.2.1.1 h.2.1.2 (alen20 (j := 1) (by decide)) hk (by omega) (by omega) (by omega)
theorem HV.at1 (h : HV v σ A) (hA : AR A) {k : Nat} (hk : k < A 0) : f7_at (7 * v + 1) (nI k) 1 σ = some (nI (A (28 + k))) := by
  have b := hA.1.1
  rw [← (h.2.2.2.2.1 k hk).2.1, show 3 * k + 1 = k * 3 + 1 by omega]
  exact at_ok (j := 1) (w := 3) (N := 18) h.2.1.1 h.2.1.2 (alen20 (j := 1) (by decide)) hk (by omega) (by omega) (by omega)
theorem HV.at2 (h : HV v σ A) (hA : AR A) {k : Nat} (hk : k < A 0) : f7_at (7 * v + 1) (nI k) 2 σ = some (nI (A (34 + k))) := by
  have b := hA.1.1
  rw [← (h.2.2.2.2.1 k hk).2.2, show 3 * k + 2 = k * 3 + 2 by omega]
  exact at_ok (j := 2) (w := 3) (N := 18) h.2.1.1 h.2.1.2 (alen20 (j := 1) (by decide)) hk (by omega) (by omega) (by omega)
theorem HV.atp (h : HV v σ A) (hA : AR A) {k : Nat} (hk : k < A 1) : f7_at (7 * v + 2) (nI k) 0 σ = some (nI (A (40 + k))) := by
  have b := hA.1.2
  rw [← h.2.2.2.2.2 k hk, show σ.1 20 (7 * v + 2) k = σ.1 20 (7 * v + 2) (k * 1 + 0) by rw [Nat.mul_one]; rfl]
  exact at_ok (j := 0) (w := 1) (N := 6) h.2.2.1.1 h.2.2.1.2 (alen20 (j := 2) (by decide)) hk (by omega) (by omega) (by omega)
theorem HV.ats0 (h : HV v σ A) {y : Nat} (hy : y < 6) : f7_at (7 * v) (nI y) 0 σ = some (nI (A (10 + y))) := by
  rw [← (h.2.2.2.1 y hy).1, show 2 * y = y * 2 + 0 by omega]
  exact at_ok (j := 0) (w := 2) (N := 12) h.1.1 h.1.2 (alen20 (j := 0) (by decide)) hy (by omega) (by omega) (by omega)
theorem HV.ats1 (h : HV v σ A) {y : Nat} (hy : y < 6) : f7_at (7 * v) (nI y) 1 σ = some (nI (A (16 + y))) := by
  rw [← (h.2.2.2.1 y hy).2, show 2 * y + 1 = y * 2 + 1 by omega]
  exact at_ok (j := 1) (w := 2) (N := 12) h.1.1 h.1.2 (alen20 (j := 0) (by decide)) hy (by omega) (by omega) (by omega)
end ATS
/-- what a storm would strike, one thing's height taken as another: B is A with that height -/
theorem struckIf_lp {v : Nat} {σ : Mem} {A B : Nat → Nat} {m u y c : Nat} {x3 x4 : Int32} (h : HV v σ A) (hA : AR A) (hB : AR B) (hu : u < 64) (hy : y < 2000) (hc : c ≤ 11)
    (m0 : σ.1 4 m 0 = nI u) (m3 : σ.1 4 m 3 = nI y) (b0 : B 0 = A 0) (b1 : ∀ k, k < A 0 → B (22 + k) = A (22 + k) ∧ B (34 + k) = A (34 + k) ∧ (nI k = x3 → x4 = nI (B (28 + k))) ∧ (¬ nI k = x3 → B (28 + k) = A (28 + k))) :
    ∀ (r n i : Nat) (b : Int32) (x : Nat), i + r = A 0 → r < n → x ≤ 60 → ∃ z, l9_struckIf_9 v (nI c) m x3 x4 σ n b (nI x) (nI i) = some (stk (wu B u y c) r i b x, z) := by
  intro r
  have ht := hA.1.1
  induction r with
  | zero =>
    intro n i b x h1 h2 h3
    obtain ⟨n, rfl⟩ : ∃ q, n = q + 1 := ⟨n - 1, by omega⟩
    refine ⟨(nI x, nI i), ?_⟩
    rw [l9_struckIf_9, f7_size, h.2.1.1, if_pos (nI_le (by omega) (by omega))]
    rfl
  | succ r ih =>
    intro n i b x h1 h2 h3
    obtain ⟨n, rfl⟩ : ∃ q, n = q + 1 := ⟨n - 1, by omega⟩
    have hi : i < A 0 := by omega
    obtain ⟨g1, g2, g3, g4⟩ := b1 i hi
    have r2 := hB.2.2.1 i (by omega)
    rw [g1, g2] at r2
    have hw : (if nI i = x3 then some x4 else (bnd (f7_at (7 * v + 1) (nI i) 1 σ) fun w4 => some w4) : Option Int32) = some (nI (B (28 + i))) := by
      by_cases q : nI i = x3
      · rw [if_pos q, g3 q]
      · rw [if_neg q, h.at1 hA hi, bnd_s, g4 q]
    rw [l9_struckIf_9, f7_size, h.2.1.1, if_neg (nI_ge hi (by omega)), hw, bnd_s, h.at2 hA hi, bnd_s, h.at0 hA hi, bnd_s, upN m0 hu (by omega), m3, abN (A (34 + i)) (by omega) c (by omega), drC r2.1 r2.2.1 (df_le r2.2.2 hc) hy, lt_e, nI_1, ← g1, ← g2]
    rw [← g2] at r2
    have d60 : dr (B (22 + i)) (B (28 + i)) (df (B (34 + i)) c) y ≤ 60 := dr_le r2.2.1
    show ∃ z, _ = some (stk (wu B u y c) (r + 1) i b x, z)
    unfold stk
    unfold wu dw
    cases hb : u.testBit i with
    | false =>
      rw [if_pos (by rfl), if_neg (by simp)]
      exact ih n (i + 1) b x (by omega) (by omega) h3
    | true =>
      rw [if_neg (by simp)]
      simp only [if_true]
      by_cases q : x < dr (B (22 + i)) (B (28 + i)) (df (B (34 + i)) c) y
      · rw [if_neg (nI_ge q (by omega)), if_pos q]
        exact ih n (i + 1) (nI i) _ (by omega) (by omega) d60
      · rw [if_pos (nI_le (by omega) (by omega)), if_neg q]
        exact ih n (i + 1) b x (by omega) (by omega) h3
theorem struckIf_ok {v : Nat} {σ : Mem} {A : Nat → Nat} {m u y c : Nat} (h : HV v σ A) (hA : AR A) (hu : u < 64) (hy : y < 2000) (hc : c ≤ 11)
    (m0 : σ.1 4 m 0 = nI u) (m3 : σ.1 4 m 3 = nI y) : f9_struckIf v (nI c) m (-1) 0 σ = some (st A u y c) := by
  obtain ⟨z, e⟩ := struckIf_lp (x3 := -1) (x4 := 0) h hA hA hu hy hc m0 m3 rfl (fun k hk => ⟨rfl, rfl, fun q => absurd q (by
    have := hA.1.1
    rcases (show k = 0 ∨ k = 1 ∨ k = 2 ∨ k = 3 ∨ k = 4 ∨ k = 5 by omega) with rfl | rfl | rfl | rfl | rfl | rfl <;> decide), fun _ => rfl⟩) (A 0) 2000 0 (-1) 0 (by omega) (by have := hA.1.1; omega) (by omega)
  unfold f9_struckIf
  rw [show l9_struckIf_9 v (nI c) m (-1) 0 σ 2000 (-1) 0 0 = _ from e, bnd_s]
  rfl
theorem drawsFrom_ok {k0 : Nat} {σ : Mem} {A : Nat → Nat} {y c i : Nat} (kr : Kr k0) (h : RV (σ.1 22 k0) A) (hA : AR A) (hy : y < 2000) (hc : c ≤ 11) (hi : i < A 0)
    (m3 : σ.1 22 k0 9 = nI y) : f11_drawsFrom k0 (nI i) (nI c) σ = some (nI (dw A y c i)) := by
  have ht := hA.1.1
  obtain ⟨r1, r2, r3⟩ := hA.2.2.1 i hi
  obtain ⟨g1, g2, g3⟩ := h.2.2.1 i hi
  unfold f11_drawsFrom
  rw [show (34 : Int32) = nI 34 from rfl, show (22 : Int32) = nI 22 from rfl, show (28 : Int32) = nI 28 from rfl, show (9 : Int32) = nI 9 from rfl, nI_add, nI_add, nI_add, kr.ne, kr.inb (by omega), kr.inb (by omega), kr.inb (by omega), kr.inb (by omega), nI_clamp (by omega), nI_clamp (by omega), nI_clamp (by omega), g1, g2, g3, m3]
  simp only [ck_t, lt_e]
  rw [abR _ (by omega) _ (by omega), drR r1 r2 (df_le r3 hc) hy]
  rfl
theorem struckOf_lp {k0 : Nat} {σ : Mem} {A : Nat → Nat} {u y c : Nat} (kr : Kr k0) (h : RV (σ.1 22 k0) A) (hA : AR A) (hu : u < 64) (hy : y < 2000) (hc : c ≤ 11)
    (m3 : σ.1 22 k0 9 = nI y) :
    ∀ (r n i : Nat) (b : Int32) (x : Nat), i + r = A 0 → r < n → x ≤ 60 → ∃ z, l11_struckOf_8 k0 (nI u) (nI c) σ n b (nI x) (nI i) = some (stk (wu A u y c) r i b x, z) := by
  intro r
  have ht := hA.1.1
  have k0' : inb 0 (alen 22 k0) = true := kr.inb (n := 0) (by decide)
  induction r with
  | zero =>
    intro n i b x h1 h2 h3
    obtain ⟨n, rfl⟩ : ∃ q, n = q + 1 := ⟨n - 1, by omega⟩
    refine ⟨(nI x, nI i), ?_⟩
    rw [l11_struckOf_8, kr.ne, k0', ck_t, ck_t, h.1.1, if_pos (nI_le (by omega) (by omega))]
    rfl
  | succ r ih =>
    intro n i b x h1 h2 h3
    obtain ⟨n, rfl⟩ : ∃ q, n = q + 1 := ⟨n - 1, by omega⟩
    have hi : i < A 0 := by omega
    have hw : (if f11_has (nI u) (nI i) = 0 then some 0 else (bnd (f11_drawsFrom k0 (nI i) (nI c) σ) fun w6 => some w6) : Option Int32) = some (nI (wu A u y c i)) := by
      rw [hasN hu (by omega)]
      unfold wu
      cases u.testBit i with
      | false => rfl
      | true =>
        simp only [if_true]
        rw [if_neg (by decide), drawsFrom_ok kr h hA hy hc hi m3, bnd_s]
    have d60 : wu A u y c i ≤ 60 := by
      unfold wu
      split
      · exact dw_le hA hi
      · omega
    rw [l11_struckOf_8, kr.ne, k0', ck_t, ck_t, h.1.1, if_neg (nI_ge hi (by omega)), hw, bnd_s, lt_e, lt_e, nI_1]
    unfold stk
    by_cases q : x < wu A u y c i
    · rw [if_neg (nI_ge q (by omega)), if_neg (nI_ge q (by omega)), if_pos q]
      exact ih n (i + 1) (nI i) _ (by omega) (by omega) d60
    · rw [if_pos (nI_le (by omega) (by omega)), if_pos (nI_le (by omega) (by omega)), if_neg q]
      exact ih n (i + 1) b x (by omega) (by omega) h3
theorem struckOf_ok {k0 : Nat} {σ : Mem} {A : Nat → Nat} {u y c : Nat} (kr : Kr k0) (h : RV (σ.1 22 k0) A) (hA : AR A) (hu : u < 64) (hy : y < 2000) (hc : c ≤ 11)
    (m3 : σ.1 22 k0 9 = nI y) : f11_struckOf k0 (nI u) (nI c) σ = some (st A u y c) := by
  obtain ⟨z, e⟩ := struckOf_lp kr h hA hu hy hc m3 (A 0) 2000 0 (-1) 0 (by omega) (by have := hA.1.1; omega) (by omega)
  unfold f11_struckOf
  rw [show l11_struckOf_8 k0 (nI u) (nI c) σ 2000 (-1) 0 0 = _ from e, bnd_s]
  rfl
