/-! SUMMERS: parts come, a summer, so many of them -/
def brg (A : Nat → Nat) (y : Nat) : Nat → Nat → Nat → Nat → Nat × Nat
  | 0, _, w, g => (w, g)
  | m + 1, i, w, g => if w.testBit i = true then brg A y m (i + 1) w g else if g < nd (A (40 + i)) (pc w) y then (w, g) else brg A y m (i + 1) (w ||| 2 ^ i) (g - nd (A (40 + i)) (pc w) y)
theorem brg_r {A : Nat → Nat} {y : Nat} : ∀ (r i w g : Nat), i + r = A 1 → w < 2 ^ A 1 → g ≤ 999 → (brg A y r i w g).1 < 2 ^ A 1 ∧ (brg A y r i w g).2 ≤ 999
  | 0, i, w, g, _, h1, h2 => ⟨h1, h2⟩
  | r + 1, i, w, g, h0, h1, h2 => by
    unfold brg
    split
    · exact brg_r r (i + 1) w g (by omega) h1 h2
    · split
      · exact ⟨h1, h2⟩
      · exact brg_r r (i + 1) _ _ (by omega) (or_lt h1 (by omega)) (by omega)
def Kp (f g : Nat → Int32) : Prop := ∀ j, j < 6 ∨ 10 ≤ j → g j = f j
theorem Kp.rf (f : Nat → Int32) : Kp f f := fun _ _ => rfl
theorem Kp.tr {f g h : Nat → Int32} (a : Kp f g) (b : Kp g h) : Kp f h := fun j hj => (b j hj).trans (a j hj)
theorem Kp.RV {f g : Nat → Int32} {A : Nat → Nat} (hA : AR A) (h : RV f A) (k : Kp f g) : RV g A := h.fr hA (fun j hj => k j (by omega))
theorem Kp.up {f : Nat → Int32} {j : Nat} {x : Int32} (h : 6 ≤ j ∧ j < 10) : Kp f (upd f j x) := fun i hi => up_n (by omega)
theorem bring_lp {v k1 : Nat} {σ : Mem} {A : Nat → Nat} {u y : Nat} (h : HV v σ A) (hA : AR A) (hy : y < 2000) :
    ∀ (r n i : Nat) (f : Nat → Int32) (w g : Nat), i + r = A 1 → r < n → w < 2 ^ A 1 → g ≤ 999 → Mo f (u, w, g, y) →
    ∃ o f', l9_bringParts_2 v k1 n (nI i) (sA σ 4 k1 f) = some o ∧ sm o (fun z => z.2) (fun z => z) = sA σ 4 k1 f' ∧ Mo f' (u, (brg A y r i w g).1, (brg A y r i w g).2, y) := by
  have hp := hA.1.2
  intro r
  induction r with
  | zero =>
    intro n i f w g h1 h2 h3 h4 hM
    obtain ⟨n, rfl⟩ : ∃ q, n = q + 1 := ⟨n - 1, by omega⟩
    have hC : HV v (sA σ 4 k1 f) A := h.fr rfl rfl
    refine ⟨.inl (nI i, sA σ 4 k1 f), f, ?_, rfl, hM⟩
    rw [l9_bringParts_2, f7_size, hC.2.2.1.1, if_pos (nI_le (by omega) (by omega))]
  | succ r ih =>
    intro n i f w g h1 h2 h3 h4 hM
    obtain ⟨n, rfl⟩ : ∃ q, n = q + 1 := ⟨n - 1, by omega⟩
    have hC : HV v (sA σ 4 k1 f) A := h.fr rfl rfl
    obtain ⟨M0, M1, M2, M3⟩ := hM
    have hi : i < A 1 := by omega
    have w6 : w < 64 := pow64 hp h3
    have e1 : (sA σ 4 k1 f).1 4 k1 1 = nI w := by rw [sA_at]; exact M1
    have e2 : (sA σ 4 k1 f).1 4 k1 2 = nI g := by rw [sA_at]; exact M2
    have e3 : (sA σ 4 k1 f).1 4 k1 3 = nI y := by rw [sA_at]; exact M3
    have e4 : f4_partsThere k1 (sA σ 4 k1 f) = nI (pc w) := by unfold f4_partsThere; rw [e1, pcC w w6]
    have hn : nd (A (40 + i)) (pc w) y ≤ 22 := nd_le (pc_le w w6)
    rw [l9_bringParts_2, f7_size, hC.2.2.1.1, if_neg (nI_ge hi (by omega)), thereN e1 w6 (by omega)]
    unfold brg
    cases hb : w.testBit i with
    | true =>
      rw [if_pos rfl, if_neg (by decide), if_pos rfl, nI_1]
      exact ih n (i + 1) f w g (by omega) (by omega) h3 h4 ⟨M0, M1, M2, M3⟩
    | false =>
      rw [if_pos (by decide), if_neg (by decide), hC.atp hA hi, bnd_s, e4, e3, ndC (hA.2.2.2 i hi) (pc_le w w6) hy, e2]
      by_cases q : g < nd (A (40 + i)) (pc w) y
      · rw [if_neg (nI_ge q (by omega)), if_pos q]
        exact ⟨.inr (sA σ 4 k1 f), f, rfl, rfl, ⟨M0, M1, M2, M3⟩⟩
      · rw [if_pos (nI_le (by omega) (by omega)), if_neg q, lt_e, lt_e, pk_sub (by omega), sI_sA, sI_sA, sA_at, up_n (by decide), M1, orN w w6 i (by omega), nI_1]
        refine ih n (i + 1) _ (w ||| 2 ^ i) (g - nd (A (40 + i)) (pc w) y) (by omega) (by omega) (or_lt h3 hi) (by omega) ⟨?_, ?_, ?_, ?_⟩
        · rw [up_n (by decide), up_n (by decide)]; exact M0
        · rw [up_s]
        · rw [up_n (by decide), up_s]
        · rw [up_n (by decide), up_n (by decide)]; exact M3
theorem bring_ok {v k1 : Nat} {σ : Mem} {A : Nat → Nat} {u y w g : Nat} {f : Nat → Int32} (h : HV v σ A) (hA : AR A) (hy : y < 2000) (h3 : w < 2 ^ A 1) (h4 : g ≤ 999) (hM : Mo f (u, w, g, y)) :
    ∃ f', f9_bringParts v k1 (sA σ 4 k1 f) = some (sA σ 4 k1 f') ∧ Mo f' (u, (brg A y (A 1) 0 w g).1, (brg A y (A 1) 0 w g).2, y) := by
  obtain ⟨o, f', e, e2, hM'⟩ := bring_lp (k1 := k1) h hA hy (A 1) 2000 0 f w g (by omega) (by have := hA.1.2; omega) h3 h4 hM
  refine ⟨f', ?_, hM'⟩
  unfold f9_bringParts
  rw [show l9_bringParts_2 v k1 2000 0 (sA σ 4 k1 f) = _ from e, bnd_s, ← e2]
  rcases o with o | o <;> rfl
theorem firstOf_lp {k0 : Nat} {σ : Mem} {A : Nat → Nat} {w i : Nat} (kr : Kr k0) (h : RV (σ.1 22 k0) A) (hA : AR A) (w6 : w < 64) (m1 : σ.1 22 k0 7 = nI w) (hi : i ≤ A 1)
    (h1 : ∀ j, j < i → w.testBit j = true) (h2 : i < A 1 → w.testBit i = false) :
    ∀ (m n s : Nat), s + m = i → m < n → l11_firstOf_2 k0 σ n (nI s) = some (nI i) := by
  have hp := hA.1.2
  have k1 : inb 1 (alen 22 k0) = true := kr.inb (n := 1) (by decide)
  have k7 : inb 7 (alen 22 k0) = true := kr.inb (n := 7) (by decide)
  intro m
  induction m with
  | zero =>
    intro n s e1 e2
    obtain ⟨n, rfl⟩ : ∃ q, n = q + 1 := ⟨n - 1, by omega⟩
    have : s = i := by omega
    subst this
    rw [l11_firstOf_2, kr.ne, k1, k7]
    simp only [ck_t]
    rw [h.1.2]
    by_cases q : A 1 ≤ s
    · rw [if_pos (nI_le q (by omega))]
    · rw [if_neg (nI_ge (by omega) (by omega)), m1, hasN w6 (by omega), h2 (by omega), if_pos (by decide)]
  | succ m ih =>
    intro n s e1 e2
    obtain ⟨n, rfl⟩ : ∃ q, n = q + 1 := ⟨n - 1, by omega⟩
    rw [l11_firstOf_2, kr.ne, k1, k7]
    simp only [ck_t]
    rw [h.1.2, if_neg (nI_ge (by omega) (by omega)), m1, hasN w6 (by omega), h1 s (by omega), if_neg (by decide), nI_1]
    exact ih n (s + 1) (by omega) (by omega)
theorem firstOf_at {k0 : Nat} {σ : Mem} {A : Nat → Nat} {w i : Nat} (kr : Kr k0) (h : RV (σ.1 22 k0) A) (hA : AR A) (w6 : w < 64) (m1 : σ.1 22 k0 7 = nI w) (hi : i < A 1)
    (h1 : ∀ j, j < i → w.testBit j = true) (h2 : w.testBit i = false) : f11_firstOf k0 σ = some (nI i) := by
  have hp := hA.1.2
  unfold f11_firstOf
  rw [show l11_firstOf_2 k0 σ 2000 0 = _ from firstOf_lp kr h hA w6 m1 (by omega) h1 (fun _ => h2) i 2000 0 (by omega) (by omega), bnd_s, kr.ne, show inb 1 (alen 22 k0) = true from kr.inb (n := 1) (by decide), ck_t, ck_t, h.1.2, if_neg (nI_ge hi (by omega))]
theorem firstOf_no {k0 : Nat} {σ : Mem} {A : Nat → Nat} {w : Nat} (kr : Kr k0) (h : RV (σ.1 22 k0) A) (hA : AR A) (w6 : w < 64) (m1 : σ.1 22 k0 7 = nI w)
    (h1 : ∀ j, j < A 1 → w.testBit j = true) : f11_firstOf k0 σ = some (-1) := by
  have hp := hA.1.2
  unfold f11_firstOf
  rw [show l11_firstOf_2 k0 σ 2000 0 = _ from firstOf_lp kr h hA w6 m1 (Nat.le_refl _) h1 (fun q => absurd q (Nat.lt_irrefl _)) (A 1) 2000 0 (by omega) (by omega), bnd_s, kr.ne, show inb 1 (alen 22 k0) = true from kr.inb (n := 1) (by decide), ck_t, ck_t, h.1.2, if_pos (nI_le (Nat.le_refl _) (by omega))]
theorem nI_nm1 : ∀ i, i < 6 → ¬ nI i = -1 := by decide
theorem goParts_lp {k0 : Nat} {σ : Mem} {A : Nat → Nat} {u y : Nat} (kr : Kr k0) (hA : AR A) (hy : y < 2000) :
    ∀ (r n i : Nat) (f : Nat → Int32) (w g : Nat), i + r = A 1 → r < n → w < 2 ^ A 1 → g ≤ 999 → RV f A → Mr f (u, w, g, y) → (∀ j, j < i → w.testBit j = true) →
    ∃ x z f', f11_firstOf k0 (sA σ 22 k0 f) = some x ∧ l11_goParts_5 k0 n x (sA σ 22 k0 f) = some (z, sA σ 22 k0 f') ∧ Kp f f' ∧ Mr f' (u, (brg A y r i w g).1, (brg A y r i w g).2, y) := by
  have hp := hA.1.2
  intro r
  induction r with
  | zero =>
    intro n i f w g h1 h2 h3 h4 hR hM hb
    obtain ⟨n, rfl⟩ : ∃ q, n = q + 1 := ⟨n - 1, by omega⟩
    have hR' : RV ((sA σ 22 k0 f).1 22 k0) A := by rw [sA_at]; exact hR
    refine ⟨-1, -1, f, firstOf_no kr hR' hA (pow64 hp h3) (by rw [sA_at]; exact hM.2.1) (fun j hj => hb j (by omega)), ?_, Kp.rf f, hM⟩
    rw [l11_goParts_5, if_pos rfl]
  | succ r ih =>
    intro n i f w g h1 h2 h3 h4 hR hM hb
    have w6 : w < 64 := pow64 hp h3
    have hi : i < A 1 := by omega
    unfold brg
    cases hbi : w.testBit i with
    | true =>
      rw [if_pos rfl]
      exact ih n (i + 1) f w g (by omega) (by omega) h3 h4 hR hM (fun j hj => by
        rcases Nat.lt_succ_iff_lt_or_eq.mp hj with q | q
        · exact hb j q
        · rw [q]; exact hbi)
    | false =>
      obtain ⟨n, rfl⟩ : ∃ q, n = q + 1 := ⟨n - 1, by omega⟩
      have hR' : RV ((sA σ 22 k0 f).1 22 k0) A := by rw [sA_at]; exact hR
      have e0 := firstOf_at (σ := sA σ 22 k0 f) kr hR' hA w6 (by rw [sA_at]; exact hM.2.1) hi hb hbi
      obtain ⟨M0, M1, M2, M3⟩ := id hM
      have hn : nd (A (40 + i)) (pc w) y ≤ 22 := nd_le (pc_le w w6)
      have k7 : inb 7 (alen 22 k0) = true := kr.inb (n := 7) (by decide)
      have k8 : inb 8 (alen 22 k0) = true := kr.inb (n := 8) (by decide)
      have k9 : inb 9 (alen 22 k0) = true := kr.inb (n := 9) (by decide)
      have k40 : inb (nI (40 + i)) (alen 22 k0) = true := kr.inb (by omega)
      rw [if_neg (by decide), e0]
      by_cases q : g < nd (A (40 + i)) (pc w) y
      · refine ⟨nI i, nI i, f, rfl, ?_, Kp.rf f, ?_⟩
        · rw [l11_goParts_5, if_neg (nI_nm1 i (by omega)), show (40 : Int32) = nI 40 from rfl, nI_add, kr.ne, k7, k8, k9, k40]
          simp only [ck_t]
          rw [sA_at, show f 7 = nI w from M1, pcR w w6, bnd_s, nI_clamp (by omega), hR.2.2.2 i hi, show f 9 = nI y from M3, ndR (hA.2.2.2 i hi) (pc_le w w6) hy, show f 8 = nI g from M2, if_pos (nI_lt q (by omega))]
        · rw [if_pos q]; exact hM
      · rw [if_neg q]
        have hR2 : RV (upd (upd f 8 (nI (g - nd (A (40 + i)) (pc w) y))) 7 (nI (w ||| 2 ^ i))) A := (Kp.tr (Kp.up (by omega)) (Kp.up (by omega))).RV hA hR
        obtain ⟨x, z, f', g1, g2, g3, g4⟩ := ih n (i + 1) (upd (upd f 8 (nI (g - nd (A (40 + i)) (pc w) y))) 7 (nI (w ||| 2 ^ i))) (w ||| 2 ^ i) (g - nd (A (40 + i)) (pc w) y) (by omega) (by omega) (or_lt h3 hi) (by omega) hR2 ⟨by rw [up_n (by decide), up_n (by decide)]; exact M0, by rw [up_s], by rw [up_n (by decide), up_s], by rw [up_n (by decide), up_n (by decide)]; exact M3⟩ (fun j hj => by
          rw [Nat.testBit_or]
          rcases Nat.lt_succ_iff_lt_or_eq.mp hj with q | q
          · rw [hb j q]; rfl
          · rw [q, Nat.testBit_two_pow_self]; simp)
        refine ⟨nI i, z, f', rfl, ?_, Kp.tr (Kp.tr (Kp.up (by omega)) (Kp.up (by omega))) g3, g4⟩
        rw [l11_goParts_5, if_neg (nI_nm1 i (by omega)), show (40 : Int32) = nI 40 from rfl, nI_add, kr.ne, k7, k8, k9, k40]
        simp only [ck_t, lt_e]
        rw [sA_at, show f 7 = nI w from M1, pcR w w6, bnd_s, nI_clamp (by omega), hR.2.2.2 i hi, show f 9 = nI y from M3, ndR (hA.2.2.2 i hi) (pc_le w w6) hy, show f 8 = nI g from M2, if_neg (nI_nlt (by omega) (by omega)), bnd_s, ndR (hA.2.2.2 i hi) (pc_le w w6) hy, pk_sub (by omega), sI_sA, sI_sA, sA_at, up_n (by decide), show f 7 = nI w from M1, orN w w6 i (by omega), g1, bnd_s, g2]
theorem goParts_ok {k0 : Nat} {σ : Mem} {A : Nat → Nat} {u y w g : Nat} {f : Nat → Int32} (kr : Kr k0) (hA : AR A) (hy : y < 2000) (h3 : w < 2 ^ A 1) (h4 : g ≤ 999) (hR : RV f A) (hM : Mr f (u, w, g, y)) :
    ∃ f', f11_goParts k0 (sA σ 22 k0 f) = some (sA σ 22 k0 f') ∧ Kp f f' ∧ Mr f' (u, (brg A y (A 1) 0 w g).1, (brg A y (A 1) 0 w g).2, y) := by
  obtain ⟨x, z, f', e1, e2, e3, e4⟩ := goParts_lp (σ := σ) kr hA hy (A 1) 2000 0 f w g (by omega) (by have := hA.1.2; omega) h3 h4 hR hM (fun j hj => absurd hj (Nat.not_lt_zero j))
  refine ⟨f', ?_, e3, e4⟩
  unfold f11_goParts
  rw [e1, bnd_s, e2, bnd_s]
/-! a summer -/
def ch (A : Nat → Nat) (c s : Nat) (q : QT) : Nat := if 0 < s ∧ st A q.1 q.2.2.2 c = 0 then min (q.2.2.1 + s) 999 else q.2.2.1
def gs (A : Nat → Nat) (c s : Nat) (q : QT) : QT := (q.1, (brg A q.2.2.2 (A 1) 0 q.2.1 (ch A c s q)).1, (brg A q.2.2.2 (A 1) 0 q.2.1 (ch A c s q)).2, q.2.2.2 + 1)
def QR (A : Nat → Nat) (q : QT) : Prop := q.1 < 2 ^ A 0 ∧ q.2.1 < 2 ^ A 1 ∧ q.2.2.1 ≤ 999
theorem ch_r {A : Nat → Nat} {c s : Nat} {q : QT} (h : QR A q) : ch A c s q ≤ 999 := by
  have := h.2.2
  unfold ch
  split <;> omega
theorem gs_r {A : Nat → Nat} {c s : Nat} {q : QT} (h : QR A q) : QR A (gs A c s q) := by
  have := brg_r (A := A) (y := q.2.2.2) (A 1) 0 q.2.1 (ch A c s q) (by omega) h.2.1 (ch_r h)
  exact ⟨h.1, this.1, this.2⟩
theorem pass_ok {v k1 : Nat} {σ : Mem} {A : Nat → Nat} {q : QT} {f : Nat → Int32} {c s : Nat} (h : HV v σ A) (hA : AR A) (hq : QR A q) (hy : q.2.2.2 < 1999) (hc : c ≤ 11) (hs : s ≤ 9) (hM : Mo f q) :
    ∃ f', f9_pass v k1 (nI c) (nI s) (sA σ 4 k1 f) = some (sA σ 4 k1 f') ∧ Mo f' (gs A c s q) := by
  obtain ⟨u, w, g, y⟩ := q
  obtain ⟨q0, q1, q2⟩ := id hq
  dsimp only at q0 q1 q2 hy
  have u6 : u < 64 := pow64 hA.1.1 q0
  obtain ⟨M0, M1, M2, M3⟩ := id hM
  have hC : HV v (sA σ 4 k1 f) A := h.fr rfl rfl
  have e1 : ∃ f1, (if nI s < 1 then some (sA σ 4 k1 f) else (bnd (f9_struckIf v (nI c) k1 (-1) 0 (sA σ 4 k1 f)) fun w3 => if w3 = 0 then (lt (sI (sA σ 4 k1 f) 4 k1 2 (mnI (((sA σ 4 k1 f).1 4 k1 2) + nI s) 999)) fun σ5 => some σ5) else some (sA σ 4 k1 f)) : Option Mem) = some (sA σ 4 k1 f1) ∧ Mo f1 (u, w, ch A c s (u, w, g, y), y) := by
    unfold ch
    by_cases z : 0 < s
    · rw [if_neg (nltR s 1), struckIf_ok (y := y) hC hA u6 (by omega) hc (by rw [sA_at]; exact M0) (by rw [sA_at]; exact M3), bnd_s]
      by_cases z2 : st A u y c = 0
      · refine ⟨upd f 2 (nI (min (g + s) 999)), ?_, ?_⟩
        · rw [if_pos z2, lt_e, sI_sA, sA_at, show f 2 = nI g from M2, nI_add]
          congr 3
          unfold mnI
          by_cases z3 : g + s ≤ 999
          · rw [if_neg (nltL 999 (g + s)), Nat.min_eq_left z3]
          · rw [if_pos (ltL 999 (g + s)), Nat.min_eq_right (by omega)]; rfl
        · rw [if_pos ⟨z, z2⟩]
          exact ⟨by rw [up_n (by decide)]; exact M0, by rw [up_n (by decide)]; exact M1, by rw [up_s], by rw [up_n (by decide)]; exact M3⟩
      · refine ⟨f, ?_, ?_⟩
        · rw [if_neg z2]
        · rw [if_neg (fun z3 => z2 z3.2)]
          exact hM
    · have : s = 0 := by omega
      subst this
      refine ⟨f, ?_, ?_⟩
      · rw [if_pos (by decide)]
      · rw [if_neg (fun z3 => z z3.1)]
        exact hM
  obtain ⟨f1, e1, hM1⟩ := e1
  obtain ⟨f2, e2, hM2⟩ := bring_ok (k1 := k1) h hA (by omega) q1 (ch_r hq) hM1
  refine ⟨upd f2 3 (nI (y + 1)), ?_, ?_⟩
  · unfold f9_pass
    rw [e1, bnd_s, e2, bnd_s, lt_e, sA_at, sI_sA, show f2 3 = nI y from hM2.2.2.2, nI_1]
  · exact ⟨by rw [up_n (by decide)]; exact hM2.1, by rw [up_n (by decide)]; exact hM2.2.1, by rw [up_n (by decide)]; exact hM2.2.2.1, by rw [up_s]; rfl⟩
theorem goSummer_ok {k0 : Nat} {σ : Mem} {A : Nat → Nat} {q : QT} {f : Nat → Int32} {c s : Nat} (kr : Kr k0) (hR : RV f A) (hA : AR A) (hq : QR A q) (hy : q.2.2.2 < 1999) (hc : c ≤ 11) (hs : s ≤ 9) (hM : Mr f q) :
    ∃ f', f11_goSummer k0 (nI c) (nI s) (sA σ 22 k0 f) = some (sA σ 22 k0 f') ∧ Kp f f' ∧ Mr f' (gs A c s q) := by
  obtain ⟨u, w, g, y⟩ := q
  obtain ⟨q0, q1, q2⟩ := id hq
  dsimp only at q0 q1 q2 hy
  have u6 : u < 64 := pow64 hA.1.1 q0
  obtain ⟨M0, M1, M2, M3⟩ := id hM
  have hR' : RV ((sA σ 22 k0 f).1 22 k0) A := by rw [sA_at]; exact hR
  have k6 : inb 6 (alen 22 k0) = true := kr.inb (n := 6) (by decide)
  have k8 : inb 8 (alen 22 k0) = true := kr.inb (n := 8) (by decide)
  have k9 : inb 9 (alen 22 k0) = true := kr.inb (n := 9) (by decide)
  unfold f11_goSummer
  rw [kr.ne, k6, k8, k9]
  simp only [ck_t, lt_e]
  rw [sA_at]
  have e1 : ∃ f1, (if nI s ≤ 0 then some (sA σ 22 k0 f) else (bnd (f11_struckOf k0 (f 6) (nI c) (sA σ 22 k0 f)) fun w5 => if w5 = 0 then some (sI (sA σ 22 k0 f) 22 k0 8 (if f 8 + nI s ≤ 999 then f 8 + nI s else 999)) else some (sA σ 22 k0 f)) : Option Mem) = some (sA σ 22 k0 f1) ∧ Kp f f1 ∧ Mr f1 (u, w, ch A c s (u, w, g, y), y) := by
    unfold ch
    by_cases z : 0 < s
    · rw [if_neg (nleR s 0), show f 6 = nI u from M0, struckOf_ok (y := y) kr hR' hA u6 (by omega) hc (by rw [sA_at]; exact M3), bnd_s]
      by_cases z2 : st A u y c = 0
      · refine ⟨upd f 8 (nI (min (g + s) 999)), ?_, Kp.up (by omega), ?_⟩
        · rw [if_pos z2, sI_sA, show f 8 = nI g from M2, nI_add]
          congr 3
          by_cases z3 : g + s ≤ 999
          · rw [if_pos (leR (g + s) 999), Nat.min_eq_left z3]
          · rw [if_neg (nleR (g + s) 999), Nat.min_eq_right (by omega)]; rfl
        · rw [if_pos ⟨z, z2⟩]
          exact ⟨by rw [up_n (by decide)]; exact M0, by rw [up_n (by decide)]; exact M1, by rw [up_s], by rw [up_n (by decide)]; exact M3⟩
      · refine ⟨f, ?_, Kp.rf f, ?_⟩
        · rw [if_neg z2]
        · rw [if_neg (fun z3 => z2 z3.2)]
          exact hM
    · have : s = 0 := by omega
      subst this
      refine ⟨f, ?_, Kp.rf f, ?_⟩
      · rw [if_pos (by decide)]
      · rw [if_neg (fun z3 => z z3.1)]
        exact hM
  obtain ⟨f1, e1, hK1, hM1⟩ := e1
  obtain ⟨f2, e2, hK2, hM2⟩ := goParts_ok (σ := σ) kr hA (by omega) q1 (ch_r hq) (hK1.RV hA hR) hM1
  refine ⟨upd f2 9 (nI (y + 1)), ?_, hK1.tr (hK2.tr (Kp.up (by omega))), ?_⟩
  · rw [e1, bnd_s, e2, bnd_s, sA_at, sI_sA, show f2 9 = nI y from hM2.2.2.2, nI_1]
  · exact ⟨by rw [up_n (by decide)]; exact hM2.1, by rw [up_n (by decide)]; exact hM2.2.1, by rw [up_n (by decide)]; exact hM2.2.2.1, by rw [up_s]; rfl⟩
/-! so many summers -/
def gd (A : Nat → Nat) (q : QT) : QT := gs A (A (10 + q.2.2.2 % 6)) (A (16 + q.2.2.2 % 6)) q
def ps (A : Nat → Nat) (L : Nat) : Nat → QT → QT
  | 0, q => q
  | n + 1, q => if L ≤ q.2.2.2 then q else ps A L n (gd A q)
theorem gd_r {A : Nat → Nat} {q : QT} (h : QR A q) : QR A (gd A q) := gs_r h
theorem ps_r {A : Nat → Nat} {L : Nat} : ∀ (n : Nat) (q : QT), QR A q → QR A (ps A L n q)
  | 0, q, h => h
  | n + 1, q, h => by
    unfold ps
    split
    · exact h
    · exact ps_r n _ (gd_r h)
theorem ps_up {A : Nat → Nat} {L : Nat} : ∀ (n : Nat) (q : QT), (ps A L n q).1 = q.1
  | 0, q => rfl
  | n + 1, q => by
    unfold ps
    split
    · rfl
    · exact ps_up n (gd A q)
theorem ps_sum {A : Nat → Nat} {L : Nat} : ∀ (n : Nat) (q : QT), q.2.2.2 ≤ L → (ps A L n q).2.2.2 ≤ L
  | 0, q, h => h
  | n + 1, q, h => by
    unfold ps
    split
    · exact h
    · refine ps_sum n (gd A q) ?_
      show q.2.2.2 + 1 ≤ L
      omega
theorem mod6 {y : Nat} (hy : y < 2000) : nI y - nI y / 6 * 6 = nI (y % 6) := pk_rem (d := 6) (by omega) (by decide) (by decide)
theorem passTold_lp {v k1 : Nat} {σ : Mem} {A : Nat → Nat} {N L : Nat} (h : HV v σ A) (hA : AR A) (hN : N < 100) (hL : L ≤ 1000000) :
    ∀ (r n i : Nat) (f : Nat → Int32) (q : QT), i + r = N → r < n → QR A q → q.2.2.2 + r < 1999 → Mo f q →
    ∃ z f', l9_passTold_3 v k1 (nI N) (nI L) n (nI i) (sA σ 4 k1 f) = some (z, sA σ 4 k1 f') ∧ Mo f' (ps A L r q) := by
  intro r
  induction r with
  | zero =>
    intro n i f q h1 h2 hq hy hM
    obtain ⟨n, rfl⟩ : ∃ q, n = q + 1 := ⟨n - 1, by omega⟩
    refine ⟨nI i, f, ?_, hM⟩
    rw [l9_passTold_3, if_pos (nI_le (by omega) (by omega))]
  | succ r ih =>
    intro n i f q h1 h2 hq hy hM
    obtain ⟨n, rfl⟩ : ∃ q, n = q + 1 := ⟨n - 1, by omega⟩
    have e3 : (sA σ 4 k1 f).1 4 k1 3 = nI q.2.2.2 := by rw [sA_at]; exact hM.2.2.2
    have hC : HV v (sA σ 4 k1 f) A := h.fr rfl rfl
    rw [l9_passTold_3, if_neg (nI_ge (by omega) (by omega)), e3]
    unfold ps
    by_cases z : L ≤ q.2.2.2
    · rw [if_pos (nI_le z (by omega)), if_pos z]
      exact ⟨nI i, f, rfl, hM⟩
    · have y6 : q.2.2.2 % 6 < 6 := Nat.mod_lt _ (by decide)
      obtain ⟨f1, e1, hM1⟩ := pass_ok (k1 := k1) h hA hq (by omega) (hA.2.1 (q.2.2.2 % 6) y6).1 (hA.2.1 (q.2.2.2 % 6) y6).2 hM
      rw [if_neg (nI_ge (by omega) (by omega)), if_neg z, mod6 (by omega), hC.ats0 y6, bnd_s, hC.ats1 y6, bnd_s, e1, bnd_s, nI_1]
      refine ih n (i + 1) f1 (gd A q) (by omega) (by omega) (gd_r hq) ?_ hM1
      show q.2.2.2 + 1 + r < 1999
      omega
theorem passTold_ok {v k1 : Nat} {σ : Mem} {A : Nat → Nat} {N L : Nat} {f : Nat → Int32} {q : QT} (h : HV v σ A) (hA : AR A) (hN : N < 100) (hL : L ≤ 1000000) (hq : QR A q) (hy : q.2.2.2 + N < 1999) (hM : Mo f q) :
    ∃ f', f9_passTold v k1 (nI N) (nI L) (sA σ 4 k1 f) = some (sA σ 4 k1 f') ∧ Mo f' (ps A L N q) := by
  obtain ⟨z, f', e, hM'⟩ := passTold_lp (k1 := k1) h hA hN hL N 2000 0 f q (by omega) (by omega) hq hy hM
  refine ⟨f', ?_, hM'⟩
  unfold f9_passTold
  rw [show l9_passTold_3 v k1 (nI N) (nI L) 2000 0 (sA σ 4 k1 f) = _ from e, bnd_s]
theorem goTold_ok {k0 : Nat} {σ : Mem} {A : Nat → Nat} {q : QT} {f : Nat → Int32} (kr : Kr k0) (hR : RV f A) (hA : AR A) (hq : QR A q) (hy : q.2.2.2 < 1999) (hM : Mr f q) :
    ∃ f', f11_goTold k0 (sA σ 22 k0 f) = some (sA σ 22 k0 f') ∧ Kp f f' ∧ Mr f' (gd A q) := by
  have y6 : q.2.2.2 % 6 < 6 := Nat.mod_lt _ (by decide)
  obtain ⟨f1, e1, hK, hM1⟩ := goSummer_ok (σ := σ) kr hR hA hq hy (hA.2.1 (q.2.2.2 % 6) y6).1 (hA.2.1 (q.2.2.2 % 6) y6).2 hM
  refine ⟨f1, ?_, hK, hM1⟩
  unfold f11_goTold
  rw [sA_at, show f 9 = nI q.2.2.2 from hM.2.2.2, mod6 (by omega), show (10 : Int32) = nI 10 from rfl, show (16 : Int32) = nI 16 from rfl, nI_add, nI_add, kr.ne, show inb 9 (alen 22 k0) = true from kr.inb (n := 9) (by decide), kr.inb (by omega), kr.inb (by omega)]
  simp only [ck_t]
  rw [nI_clamp (by omega), nI_clamp (by omega), (hR.2.1 _ y6).1, (hR.2.1 _ y6).2, e1, bnd_s]
theorem goSummers_lp {k0 : Nat} {σ : Mem} {A : Nat → Nat} {N : Nat} (kr : Kr k0) (hA : AR A) (hN : N < 100) :
    ∀ (r n i : Nat) (f : Nat → Int32) (q : QT), i + r = N → r < n → RV f A → QR A q → q.2.2.2 ≤ 999 → Mr f q →
    ∃ z f', l11_goSummers_2 k0 (nI N) n (nI i) (sA σ 22 k0 f) = some (z, sA σ 22 k0 f') ∧ Kp f f' ∧ Mr f' (ps A 999 r q) := by
  have k9 : inb 9 (alen 22 k0) = true := kr.inb (n := 9) (by decide)
  intro r
  induction r with
  | zero =>
    intro n i f q h1 h2 hR hq hy hM
    obtain ⟨n, rfl⟩ : ∃ q, n = q + 1 := ⟨n - 1, by omega⟩
    refine ⟨nI i, f, ?_, Kp.rf f, hM⟩
    rw [l11_goSummers_2, if_pos (nI_le (by omega) (by omega))]
  | succ r ih =>
    intro n i f q h1 h2 hR hq hy hM
    obtain ⟨n, rfl⟩ : ∃ q, n = q + 1 := ⟨n - 1, by omega⟩
    have e3 : (sA σ 22 k0 f).1 22 k0 9 = nI q.2.2.2 := by rw [sA_at]; exact hM.2.2.2
    rw [l11_goSummers_2, if_neg (nI_ge (by omega) (by omega)), kr.ne, k9, ck_t, ck_t, e3]
    unfold ps
    by_cases z : 999 ≤ q.2.2.2
    · rw [if_pos (leL 999 q.2.2.2), if_pos z]
      exact ⟨nI i, f, rfl, Kp.rf f, hM⟩
    · obtain ⟨f1, e1, hK, hM1⟩ := goTold_ok (σ := σ) kr hR hA hq (by omega) hM
      rw [if_neg (nleL 999 q.2.2.2), if_neg z, e1, bnd_s, nI_1]
      obtain ⟨z', f', g1, g2, g3⟩ := ih n (i + 1) f1 (gd A q) (by omega) (by omega) (hK.RV hA hR) (gd_r hq) (by show q.2.2.2 + 1 ≤ 999; omega) hM1
      exact ⟨z', f', g1, hK.tr g2, g3⟩
theorem goSummers_ok {k0 : Nat} {σ : Mem} {A : Nat → Nat} {N : Nat} {f : Nat → Int32} {q : QT} (kr : Kr k0) (hA : AR A) (hN : N < 100) (hR : RV f A) (hq : QR A q) (hy : q.2.2.2 ≤ 999) (hM : Mr f q) :
    ∃ f', f11_goSummers k0 (nI N) (sA σ 22 k0 f) = some (sA σ 22 k0 f') ∧ Kp f f' ∧ Mr f' (ps A 999 N q) := by
  obtain ⟨z, f', e, hK, hM'⟩ := goSummers_lp (σ := σ) kr hA hN N 2000 0 f q (by omega) (by omega) hR hq hy hM
  refine ⟨f', ?_, hK, hM'⟩
  unfold f11_goSummers
  rw [show l11_goSummers_2 k0 (nI N) 2000 0 (sA σ 22 k0 f) = _ from e, bnd_s]
