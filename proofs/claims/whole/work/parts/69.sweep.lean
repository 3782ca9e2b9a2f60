/-! two in a sweep -/
def gn (w i j : Nat) : Nat := if df i w = df j w then 6 else if df j w ≤ df i w then 0 else 12 - df i w
theorem gnC {σ : Mem} {w i j : Nat} (h : σ.1 0 0 1 = nI w) (hw : w < 12) (hi : i < 12) (hj : j < 12) : f0_gain 0 (nI i) (nI j) σ = nI (gn w i j) := by
  have d1 : df i w ≤ 11 := df_le (by omega) (by omega)
  have d2 : df j w ≤ 11 := df_le (by omega) (by omega)
  unfold f0_gain gn
  rw [h, abN i hi w hw, abN j hj w hw]
  by_cases z : df i w = df j w
  · rw [if_pos (by rw [z]), if_pos z]; rfl
  · rw [if_neg (fun e => z ((nI_eq (by omega) (by omega)).mp e)), if_neg z]
    by_cases z2 : df j w ≤ df i w
    · rw [if_pos (nI_le z2 (by omega)), if_pos z2]; rfl
    · rw [if_neg (nI_ge (by omega) (by omega)), if_neg z2]
      exact pk_sub (a := 12) (by omega)
theorem offN : ∀ a, a < 12 → ∀ b, b < 12 → f11_off (nI a) (nI b) = nI (df a b) := by decide +kernel
theorem gnR {w i j : Nat} (hw : w < 12) (hi : i < 12) (hj : j < 12) : f11_getsBy (nI i) (nI j) (nI w) = nI (gn w i j) := by
  have d1 : df i w ≤ 11 := df_le (by omega) (by omega)
  have d2 : df j w ≤ 11 := df_le (by omega) (by omega)
  unfold f11_getsBy gn
  rw [offN i hi w hw, offN j hj w hw]
  by_cases z : df i w = df j w
  · rw [if_pos (by rw [z]), if_pos z]; rfl
  · rw [if_neg (fun e => z ((nI_eq (by omega) (by omega)).mp e)), if_neg z]
    by_cases z2 : df j w ≤ df i w
    · rw [if_pos (nI_le z2 (by omega)), if_pos z2]; rfl
    · rw [if_neg (nI_ge (by omega) (by omega)), if_neg z2]
      exact pk_sub (a := 12) (by omega)
theorem gn_le (w i j : Nat) : gn w i j ≤ 12 := by
  unfold gn
  repeat' split
  all_goals omega
/-- the most that can be had -/
def mxl (w j : Nat) : Nat → Nat → Nat → Nat
  | 0, _, x => x
  | r + 1, b, x => mxl w j r (b + 1) (max x (gn w b j))
theorem settle_lp {σ : Mem} {w j : Nat} (h : σ.1 0 0 1 = nI w) (hw : w < 12) (hj : j < 12) :
    ∀ (r n i x : Nat), i + r = 10 → r < n → x ≤ 12 → ∃ z, l0_settle_18 0 (nI j) σ n (nI x) (nI i) = some (nI (mxl w j r i x), z) := by
  intro r
  induction r with
  | zero =>
    intro n i x h1 h2 h3
    obtain ⟨n, rfl⟩ : ∃ q, n = q + 1 := ⟨n - 1, by omega⟩
    obtain rfl : i = 10 := by omega
    exact ⟨nI 10, by rw [l0_settle_18, if_pos (by decide)]; rfl⟩
  | succ r ih =>
    intro n i x h1 h2 h3
    obtain ⟨n, rfl⟩ : ∃ q, n = q + 1 := ⟨n - 1, by omega⟩
    have g := gn_le w i j
    have e : mxI (nI x) (nI (gn w i j)) = nI (max x (gn w i j)) := by
      unfold mxI
      by_cases z : x < gn w i j
      · rw [if_pos (nI_lt z (by omega)), Nat.max_eq_right (by omega)]
      · rw [if_neg (nI_nlt (by omega) (by omega)), Nat.max_eq_left (by omega)]
    rw [l0_settle_18, if_neg (nleL 10 i), gnC h hw (by omega) hj, e, nI_1]
    exact ih n (i + 1) _ (by omega) (by omega) (by omega)
theorem put_row {k i N : Nat} {x : Int32} {σ : Mem} (hN : alen 21 k = N) (hN2 : N < 1000) (hi : i < N) : f6_put k (nI i) x σ = some (sI σ 21 k i x) := by
  unfold f6_put
  rw [hN, if_neg (nI_pos (by omega)), nIc, if_neg (nI_ge hi (by omega)), inb_nI hi (by omega), ck_t, lt_e, nI_clamp (by omega)]
theorem at_row {k i N : Nat} {σ : Mem} (hN : alen 21 k = N) (hN2 : N < 1000) (hi : i < N) : f6_at k (nI i) σ = some (σ.1 21 k i) := by
  unfold f6_at
  rw [hN, if_neg (nI_pos (by omega)), nIc, if_neg (nI_ge hi (by omega)), inb_nI hi (by omega), ck_t, nI_clamp (by omega)]
theorem settle_lp2 {σ : Mem} {w : Nat} (h : σ.1 0 0 1 = nI w) (hw : w < 12) :
    ∀ (r n i : Nat) (f : Nat → Int32), i + r = 10 → r < n → (∀ j, j < i → f j = nI (mxl w j 10 0 0)) →
    ∃ z g, l0_settle_7 0 n (nI i) (sA σ 21 7 f) = some (z, sA σ 21 7 g) ∧ ∀ j, j < 10 → g j = nI (mxl w j 10 0 0) := by
  intro r
  induction r with
  | zero =>
    intro n i f h1 h2 h3
    obtain ⟨n, rfl⟩ : ∃ q, n = q + 1 := ⟨n - 1, by omega⟩
    obtain rfl : i = 10 := by omega
    exact ⟨nI 10, f, by rw [l0_settle_7, if_pos (by decide)], h3⟩
  | succ r ih =>
    intro n i f h1 h2 h3
    obtain ⟨n, rfl⟩ : ∃ q, n = q + 1 := ⟨n - 1, by omega⟩
    obtain ⟨z, e⟩ := settle_lp (σ := sA σ 21 7 f) (w := w) (j := i) h hw (by omega) 10 2000 0 0 (by omega) (by omega) (by omega)
    rw [l0_settle_7, if_neg (nleL 10 i), show l0_settle_18 0 (nI i) (sA σ 21 7 f) 2000 0 0 = _ from e, bnd_s, put_row (N := 10) rfl (by decide) (by omega), bnd_s, sI_sA, nI_1]
    refine ih n (i + 1) _ (by omega) (by omega) (fun j hj => ?_)
    by_cases q : j = i
    · subst q; rw [up_s]
    · rw [up_n q]; exact h3 j (by omega)
/-- no other bet would get more -/
def isb (w i j : Nat) : Bool := (List.range 10).all fun b => Nat.ble (gn w b j) (gn w i j)
theorem isb_t {w i j : Nat} : isb w i j = true ↔ ∀ b, b < 10 → gn w b j ≤ gn w i j := by
  unfold isb
  rw [List.all_eq_true]
  constructor
  · exact fun h b hb => Nat.le_of_ble_eq_true (h b (List.mem_range.mpr hb))
  · exact fun h b hb => Nat.ble_eq_true_of_le (h b (List.mem_range.mp hb))
theorem mx_isb : ∀ w, w < 11 → ∀ i, i < 10 → ∀ j, j < 10 → decide (gn w i j = mxl w j 10 0 0) = isb w i j := by decide +kernel
theorem isBest_lp {w i j : Nat} (hw : w < 12) (hi : i < 10) (hj : j < 10) :
    ∀ (r n b : Nat), b + r = 10 → r < n → (∀ c, c < b → gn w c j ≤ gn w i j) → ∃ z, l11_isBest_5 (nI i) (nI j) (nI w) n 1 (nI b) = some ((if isb w i j = true then 1 else 0), z) := by
  intro r
  have g := gn_le w i j
  induction r with
  | zero =>
    intro n b h1 h2 h3
    obtain ⟨n, rfl⟩ : ∃ q, n = q + 1 := ⟨n - 1, by omega⟩
    obtain rfl : b = 10 := by omega
    have : isb w i j = true := isb_t.mpr h3
    exact ⟨nI 10, by rw [l11_isBest_5, if_pos (by decide), this]; rfl⟩
  | succ r ih =>
    intro n b h1 h2 h3
    obtain ⟨n, rfl⟩ : ∃ q, n = q + 1 := ⟨n - 1, by omega⟩
    have gb := gn_le w b j
    rw [l11_isBest_5, if_neg (nleL 10 b), if_neg (by decide), gnR hw (by omega) (by omega), gnR hw (by omega) (by omega), lt_e, nI_1]
    by_cases z : gn w b j ≤ gn w i j
    · rw [if_neg (nI_nlt z (by omega))]
      refine ih n (b + 1) (by omega) (by omega) (fun c hc => ?_)
      rcases Nat.lt_succ_iff_lt_or_eq.mp hc with q | q
      · exact h3 c q
      · rw [q]; exact z
    · have : isb w i j = false := Bool.eq_false_iff.mpr (fun q => z (isb_t.mp q b (by omega)))
      obtain ⟨n, rfl⟩ : ∃ q, n = q + 1 := ⟨n - 1, by omega⟩
      refine ⟨nI (b + 1), ?_⟩
      rw [if_pos (nI_lt (by omega) (by omega)), this, l11_isBest_5]
      by_cases z2 : 10 ≤ b + 1
      · rw [if_pos (leL 10 (b + 1))]; rfl
      · rw [if_neg (nleL 10 (b + 1)), if_pos rfl]; rfl
theorem isBest_ok {w i j : Nat} (hw : w < 12) (hi : i < 10) (hj : j < 10) : f11_isBest (nI i) (nI j) (nI w) = some (if isb w i j = true then 1 else 0) := by
  obtain ⟨z, e⟩ := isBest_lp hw hi hj 10 2000 0 (by omega) (by omega) (fun c hc => absurd hc (Nat.not_lt_zero c))
  unfold f11_isBest
  rw [show l11_isBest_5 (nI i) (nI j) (nI w) 2000 1 0 = _ from e, bnd_s]
  cases isb w i j <;> rfl
def rsts (w pair : Nat) : Bool := isb w (pair / 10) (pair % 10) && isb w (pair % 10) (pair / 10)
def fnd (w : Nat) (x : Int32) : Nat → Nat → Nat → Option Nat
  | 0, _, _ => none
  | r + 1, i, c => if rsts w i = true then (if nI c = x then some i else fnd w x r (i + 1) (c + 1)) else fnd w x r (i + 1) c
def cnr (w : Nat) : Nat → Nat → Nat → Nat
  | 0, _, c => c
  | r + 1, i, c => if rsts w i = true then cnr w r (i + 1) (c + 1) else cnr w r (i + 1) c
theorem div10 {i : Nat} (hi : i < 100) : nI i / 10 = nI (i / 10) := pk_div (d := 10) (by omega) (by decide) (by decide)
theorem mod10 {i : Nat} (hi : i < 100) : nI i - nI i / 10 * 10 = nI (i % 10) := pk_rem (d := 10) (by omega) (by decide) (by decide)
theorem rests_ok {σ : Mem} {w i : Nat} (h : σ.1 0 0 1 = nI w) (hw : w < 11) (hg : ∀ j, j < 10 → σ.1 21 7 j = nI (mxl w j 10 0 0)) (hi : i < 100) : f0_rests 0 (nI i) σ = some (if rsts w i = true then 1 else 0) := by
  have a1 : i / 10 < 10 := by omega
  have a2 : i % 10 < 10 := by omega
  have mb : ∀ j, j < 10 → mxl w j 10 0 0 ≤ 12 := fun j _ => by
    have : ∀ (r b x : Nat), x ≤ 12 → mxl w j r b x ≤ 12 := fun r => by
      induction r with
      | zero => exact fun b x hx => hx
      | succ r ih => exact fun b x hx => ih (b + 1) _ (by have := gn_le w b j; omega)
    exact this 10 0 0 (by omega)
  have e1 := mx_isb w hw (i / 10) a1 (i % 10) a2
  have e2 := mx_isb w hw (i % 10) a2 (i / 10) a1
  have g1 := gn_le w (i / 10) (i % 10)
  have g2 := gn_le w (i % 10) (i / 10)
  unfold f0_rests rsts
  rw [mod10 hi, div10 hi, at_row (N := 10) rfl (by decide) a2, bnd_s, gnC h (by omega) (by omega) (by omega), hg _ a2, at_row (N := 10) rfl (by decide) a1, bnd_s, gnC h (by omega) (by omega) (by omega), hg _ a1, ← e1, ← e2]
  have b1 := mb _ a1
  have b2 := mb _ a2
  by_cases z : gn w (i / 10) (i % 10) = mxl w (i % 10) 10 0 0
  · rw [if_pos (by rw [z]), decide_eq_true z]
    by_cases z2 : gn w (i % 10) (i / 10) = mxl w (i / 10) 10 0 0
    · rw [if_pos (by rw [z2]), decide_eq_true z2]; rfl
    · rw [if_neg (fun q => z2 ((nI_eq (by omega) (by omega)).mp q)), decide_eq_false z2]; rfl
  · rw [if_neg (fun q => z ((nI_eq (by omega) (by omega)).mp q)), decide_eq_false z]; rfl
theorem resting_lp {σ : Mem} {w : Nat} (h : σ.1 0 0 1 = nI w) (hw : w < 11) (hg : ∀ j, j < 10 → σ.1 21 7 j = nI (mxl w j 10 0 0)) :
    ∀ (r n i c : Nat), i + r = 100 → r < n → ∃ z, l0_resting_4 0 σ n (nI c) (nI i) = some (nI (cnr w r i c), z) := by
  intro r
  induction r with
  | zero =>
    intro n i c h1 h2
    obtain ⟨n, rfl⟩ : ∃ q, n = q + 1 := ⟨n - 1, by omega⟩
    obtain rfl : i = 100 := by omega
    exact ⟨nI 100, by rw [l0_resting_4, if_pos (by decide)]; rfl⟩
  | succ r ih =>
    intro n i c h1 h2
    obtain ⟨n, rfl⟩ : ∃ q, n = q + 1 := ⟨n - 1, by omega⟩
    rw [l0_resting_4, if_neg (nleL 100 i), rests_ok h hw hg (by omega), bnd_s, lt_e, nI_1, nI_1]
    unfold cnr
    cases rsts w i with
    | true => exact ih n (i + 1) (c + 1) (by omega) (by omega)
    | false => exact ih n (i + 1) c (by omega) (by omega)
theorem restingAt_lp {σ : Mem} {w : Nat} {x : Int32} (h : σ.1 0 0 1 = nI w) (hw : w < 11) (hg : ∀ j, j < 10 → σ.1 21 7 j = nI (mxl w j 10 0 0)) :
    ∀ (r n i c : Nat), i + r = 100 → r < n → ∃ o, l0_restingAt_4 0 x σ n (nI c) (nI i) = some o ∧ sm o (fun _ => (-5 : Int32)) (fun z => z) = (match fnd w x r i c with | some p => nI p | none => -5) := by
  intro r
  induction r with
  | zero =>
    intro n i c h1 h2
    obtain ⟨n, rfl⟩ : ∃ q, n = q + 1 := ⟨n - 1, by omega⟩
    obtain rfl : i = 100 := by omega
    exact ⟨.inl (nI c, nI 100), by rw [l0_restingAt_4, if_pos (by decide)], rfl⟩
  | succ r ih =>
    intro n i c h1 h2
    obtain ⟨n, rfl⟩ : ∃ q, n = q + 1 := ⟨n - 1, by omega⟩
    rw [l0_restingAt_4, if_neg (nleL 100 i), rests_ok h hw hg (by omega), bnd_s, nI_1, nI_1]
    unfold fnd
    cases rsts w i with
    | true =>
      rw [if_pos rfl, if_neg (by decide), if_pos rfl]
      by_cases z : nI c = x
      · rw [if_pos z, if_pos z]
        exact ⟨.inr (nI i), rfl, rfl⟩
      · rw [if_neg z, if_neg z]
        exact ih n (i + 1) (c + 1) (by omega) (by omega)
    | false =>
      rw [if_pos (by decide), if_neg (by decide)]
      exact ih n (i + 1) c (by omega) (by omega)
theorem sweepR_lp {σ : Mem} {w : Nat} {x : Int32} (hw : w < 11) :
    ∀ (r n i c : Nat), i + r = 100 → r < n → l11_sweep_50 x (nI w) σ n (nI c) (nI i) = some (match fnd w x r i c with | some p => .inr (nI p, σ) | none => .inl (nI (cnr w r i c), nI 100)) := by
  intro r
  induction r with
  | zero =>
    intro n i c h1 h2
    obtain ⟨n, rfl⟩ : ∃ q, n = q + 1 := ⟨n - 1, by omega⟩
    obtain rfl : i = 100 := by omega
    rw [l11_sweep_50, if_pos (by decide)]
    rfl
  | succ r ih =>
    intro n i c h1 h2
    obtain ⟨n, rfl⟩ : ∃ q, n = q + 1 := ⟨n - 1, by omega⟩
    rw [l11_sweep_50, if_neg (nleL 100 i), mod10 (by omega), div10 (by omega), isBest_ok (by omega) (by omega) (by omega), bnd_s, isBest_ok (by omega) (by omega) (by omega), nI_1, nI_1]
    unfold fnd cnr rsts
    cases isb w (i / 10) (i % 10) with
    | true =>
      rw [if_pos rfl, if_neg (by decide), bnd_s]
      cases isb w (i % 10) (i / 10) with
      | true =>
        rw [if_pos rfl, if_neg (by decide)]
        simp only [Bool.and_self, if_true]
        by_cases z : nI c = x
        · rw [if_pos z, if_pos z]
        · rw [if_neg z, if_neg z]
          exact ih n (i + 1) (c + 1) (by omega) (by omega)
      | false =>
        rw [if_pos (by decide)]
        simp only [Bool.and_false, Bool.false_eq_true, if_false]
        exact ih n (i + 1) c (by omega) (by omega)
    | false =>
      rw [if_pos (by decide)]
      simp only [Bool.false_and, Bool.false_eq_true, if_false]
      exact ih n (i + 1) c (by omega) (by omega)
theorem fnd_none {w : Nat} : ∀ (r i c : Nat), c + r < 1000 → fnd w (-1) r i c = none
  | 0, _, _, _ => rfl
  | r + 1, i, c, h => by
    unfold fnd
    split
    · rw [if_neg (fun q => by
        have h2 : (nI c).toInt = (-1 : Int32).toInt := congrArg Int32.toInt q
        rw [nI_toInt (by omega), show (-1 : Int32).toInt = -1 by decide] at h2
        omega)]
      exact fnd_none r (i + 1) (c + 1) (by omega)
    · exact fnd_none r (i + 1) c (by omega)
theorem whn_ok {A : Nat → Nat} {p : Nat} : ∀ (r i : Nat) (q : QT), i + r = 61 → whn A p r i q = -1 ∨ ∃ m, m ≤ 60 ∧ whn A p r i q = nI m
  | 0, _, _, _ => Or.inl rfl
  | r + 1, i, q, h => by
    unfold whn
    split
    · exact Or.inr ⟨i, by omega, rfl⟩
    · exact whn_ok r (i + 1) _ (by omega)
theorem bad10 (σ : Mem) : (f10_refuseBadTen 0 σ).2.1 22 0 = σ.1 22 0 := rfl
theorem ok_bad10 {f g : Mem → Option (Int32 × Mem)} {σ : Mem} (h : Inv σ) (hf : f σ = some (f10_refuseBadTen 0 σ)) (hg : g (f10_refuseBadTen 0 σ).2 = some (f11_bad 0 (-10) (f10_refuseBadTen 0 σ).2)) : OKc f g σ :=
  ⟨-10, _, _, hf, hg, by
    have := inv_ref (i := 0) (by decide) h
    show Inv (sI (sI σ 10 0 13 (σ.1 10 0 13 + 1)) 22 3 0 ((sI σ 10 0 13 (σ.1 10 0 13 + 1)).1 22 3 0 + 1))
    rw [rdI, if_neg (by omega)]
    exact this, rfl, rfl⟩
theorem ok_sweep {σ : Mem} (x1 x2 : Int32) (h : Inv σ) : OKc (f10_sweep 0 x1 x2) (f11_sweep 0 x1 x2) σ := by
  obtain ⟨A, q, ⟨hC, hR⟩, hA, ⟨hM, hm⟩, hq, hy⟩ := h.now
  by_cases c1 : f10_within x1 0 (nI (A 1) - 1) = 0
  · refine ok_bad10 h ?_ ?_
    · unfold f10_sweep
      rw [hC.isP, if_pos c1]; rfl
    · unfold f11_sweep
      rw [RV.isP (A := A) (by rw [bad10]; exact hR), if_pos c1]; rfl
  obtain ⟨p, hp, rfl⟩ := wi_thing (by have := hA.1.2; omega) c1
  by_cases c2 : -1 ≤ x2
  · obtain ⟨f, e1⟩ := until_ok hC hA hM hq hy hp
    obtain ⟨w, hw, ew1, ew2⟩ : ∃ w, w < 11 ∧ (if whn A p 61 0 q = (-1) then (10 : Int32) else mnI (whn A p 61 0 q) 10) = nI w ∧ (if whn A p 61 0 q = (-1) then (10 : Int32) else if whn A p 61 0 q ≤ 10 then whn A p 61 0 q else 10) = nI w := by
      rcases whn_ok (A := A) (p := p) 61 0 q rfl with e | ⟨m, hm60, e⟩
      · exact ⟨10, by decide, by rw [e]; rfl, by rw [e]; rfl⟩
      · rw [e, if_neg (fun q => by
          have h2 : (nI m).toInt = (-1 : Int32).toInt := congrArg Int32.toInt q
          rw [nI_toInt (by omega), show (-1 : Int32).toInt = -1 by decide] at h2
          omega), if_neg (fun q => by
          have h2 : (nI m).toInt = (-1 : Int32).toInt := congrArg Int32.toInt q
          rw [nI_toInt (by omega), show (-1 : Int32).toInt = -1 by decide] at h2
          omega)]
        unfold mnI
        by_cases z : m ≤ 10
        · exact ⟨m, by omega, by rw [if_neg (nltL 10 m)], by rw [if_pos (leR m 10)]⟩
        · exact ⟨10, by decide, by rw [if_pos (ltL 10 m)]; rfl, by rw [if_neg (nleR m 10)]; rfl⟩
    have hw0 : (sI (sA σ 4 4 f) 0 0 1 (nI w)).1 0 0 1 = nI w := by rw [rdI, if_pos ⟨rfl, rfl, rfl⟩]
    obtain ⟨z, g, e2, hg⟩ := settle_lp2 (w := w) hw0 (by omega) 10 2000 0 ((sI (sA σ 4 4 f) 0 0 1 (nI w)).1 21 7) (by omega) (by omega) (fun j hj => absurd hj (Nat.not_lt_zero j))
    rw [sA_self] at e2
    have es : f0_settle 0 (nI w) (sA σ 4 4 f) = some (sA (sI (sA σ 4 4 f) 0 0 1 (nI w)) 21 7 g) := by
      unfold f0_settle
      rw [lt_e, show l0_settle_7 0 2000 0 (sI (sA σ 4 4 f) 0 0 1 (nI w)) = _ from e2, bnd_s]
    obtain ⟨τ, hτ⟩ : ∃ τ : Mem, τ = sA (sI (sA σ 4 4 f) 0 0 1 (nI w)) 21 7 g := ⟨_, rfl⟩
    rw [← hτ] at es
    have t0 : τ.1 22 0 = σ.1 22 0 := by rw [hτ]; rfl
    have t1 : τ.1 0 0 1 = nI w := by rw [hτ]; exact hw0
    have t2 : ∀ j, j < 10 → τ.1 21 7 j = nI (mxl w j 10 0 0) := fun j hj => by rw [hτ, sA_at]; exact hg j hj
    have s1 : Sc σ τ := by
      rw [hτ]
      exact ((Sc.row (Or.inl ⟨rfl, by decide⟩)).tr (Sc.row (f := upd _ 1 (nI w)) (c := 0) (k := 0) (Or.inr (Or.inr (Or.inr (Or.inl rfl)))))).tr (Sc.row (Or.inr (Or.inr (Or.inl ⟨rfl, by decide⟩))))
    obtain ⟨f2, e3⟩ := whenOf_ok (σ := τ) (A := A) (q := q) (p := p) (by rw [t0]; exact hR) hA (by rw [t0]; exact hm) hq hy hp
    have e4 := sweepR_lp (σ := sA τ 22 4 f2) (x := x2) hw 100 2000 0 0 (by omega) (by omega)
    have s2 : Sc τ (sA τ 22 4 f2) := Sc.row (Or.inr (Or.inl ⟨rfl, by decide, by decide⟩))
    by_cases c3 : x2 = -1
    · subst c3
      obtain ⟨z2, e5⟩ := resting_lp t1 hw t2 100 2000 0 0 (by omega) (by omega)
      refine ok_scr (r := nI (cnr w 100 0 0)) h ?_ s1 ?_ s2
      · unfold f10_sweep
        rw [hC.isP, if_neg c1, if_pos c2, e1, bnd_s]
        show lt (if whn A p 61 0 q = (-1) then (10 : Int32) else mnI (whn A p 61 0 q) 10) _ = _
        rw [ew1, lt_e, es, bnd_s, if_pos rfl]
        unfold f0_resting
        rw [show l0_resting_4 0 τ 2000 0 0 = _ from e5, bnd_s, bnd_s]
      · unfold f11_sweep
        rw [RV.isP (A := A) (by rw [t0]; exact hR), if_neg c1, if_pos c2, e3, bnd_s]
        show lt (if whn A p 61 0 q = (-1) then (10 : Int32) else if whn A p 61 0 q ≤ 10 then whn A p 61 0 q else 10) _ = _
        rw [ew2, lt_e, show l11_sweep_50 (-1) (nI w) (sA τ 22 4 f2) 2000 0 0 = _ from e4, fnd_none 100 0 0 (by omega), bnd_s]
        rfl
    · obtain ⟨o, e5, e6⟩ := restingAt_lp (x := x2) t1 hw t2 100 2000 0 0 (by omega) (by omega)
      refine ok_scr (r := match fnd w x2 100 0 0 with | some p => nI p | none => -5) h ?_ s1 ?_ s2
      · unfold f10_sweep
        rw [hC.isP, if_neg c1, if_pos c2, e1, bnd_s]
        show lt (if whn A p 61 0 q = (-1) then (10 : Int32) else mnI (whn A p 61 0 q) 10) _ = _
        rw [ew1, lt_e, es, bnd_s, if_neg c3]
        unfold f0_restingAt
        rw [show l0_restingAt_4 0 x2 τ 2000 0 0 = _ from e5, bnd_s, ← e6]
        rcases o with o | o <;> rfl
      · unfold f11_sweep
        rw [RV.isP (A := A) (by rw [t0]; exact hR), if_neg c1, if_pos c2, e3, bnd_s]
        show lt (if whn A p 61 0 q = (-1) then (10 : Int32) else if whn A p 61 0 q ≤ 10 then whn A p 61 0 q else 10) _ = _
        rw [ew2, lt_e, show l11_sweep_50 x2 (nI w) (sA τ 22 4 f2) 2000 0 0 = _ from e4, bnd_s]
        cases fnd w x2 100 0 0 with
        | some p => rfl
        | none =>
          show (if x2 = (-1) then _ else _) = _
          rw [if_neg c3]
  · refine ok_bad10 h ?_ ?_
    · unfold f10_sweep
      rw [hC.isP, if_neg c1, if_neg c2]; rfl
    · unfold f11_sweep
      rw [RV.isP (A := A) (by rw [bad10]; exact hR), if_neg c1, if_neg c2]; rfl
