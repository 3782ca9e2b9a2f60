/-! order: the whole call -/
theorem order_lp {σ : Mem} {A : Nat → Nat} {q : QT} {n c t code0 : Nat} {l : List Nat} {x2 : Int32} (hR : RV (σ.1 22 0) A) (hA : AR A) (hm : Mr (σ.1 22 0) q) (hq : QR A q) (hy : q.2.2.2 < 2000) (hn : n + pc q.2.1 ≤ 6) (hc : c ≤ 99) (hl : l.length = n)
    (hlt : ∀ i, i < n → l.getD i 0 < A 1) (h5 : ∀ j, j < n → σ.1 22 5 j = nI (l.getD j 0)) (ht : t ≤ 6)
    (k1 : code0 < fct n) (k2 : cbk (NN A q.2.2.2) (pc q.2.1) c (prm n l code0) = t) (k3 : ∀ code, code < fct n → cbk (NN A q.2.2.2) (pc q.2.1) c (prm n l code) ≤ t) (k4 : ∀ code, code < code0 → cbk (NN A q.2.2.2) (pc q.2.1) c (prm n l code) < t) :
    ∀ (r m code : Nat) (x : Int32) (τ : Mem), code + r = fct n → r < m → F67 σ τ → (code ≤ code0 → -1 ≤ x.toInt ∧ x.toInt < t) → (code0 < code → x = nI t ∧ ∀ j, j < n → τ.1 22 7 j = nI ((prm n l code0).getD j 0)) →
      ∃ z τ', l11_order_60 0 (nI c) x2 (nI n) (nI (fct n)) m x (nI code) τ = some (nI t, z, τ') ∧ F67 σ τ' ∧ ∀ j, j < n → τ'.1 22 7 j = nI ((prm n l code0).getD j 0) := by
  have hf := fct_6 n (by omega)
  intro r
  induction r with
  | zero =>
    intro m code x τ a1 a2 a3 a4 a5
    obtain ⟨m, rfl⟩ : ∃ q, m = q + 1 := ⟨m - 1, by omega⟩
    obtain ⟨b1, b2⟩ := a5 (by omega)
    refine ⟨nI code, τ, ?_, a3, b2⟩
    rw [l11_order_60, if_pos (nI_le (by omega) (by omega)), b1]
  | succ r ih =>
    intro m code x τ a1 a2 a3 a4 a5
    obtain ⟨m, rfl⟩ : ∃ q, m = q + 1 := ⟨m - 1, by omega⟩
    have e22 : τ.1 22 0 = σ.1 22 0 := a3.2 22 0 (by decide)
    have e5 : τ.1 22 5 = σ.1 22 5 := a3.2 22 5 (by decide)
    obtain ⟨g, e1, g1⟩ := layOrder_ok (σ := τ) (n := n) (code := code) (l := l) (by omega) hl (fun j hj => by rw [e5]; exact h5 j hj) (by omega)
    have hcb := k3 code (by omega)
    have e2 := comeBy_ok (σ := sA τ 22 6 g) (ol := prm n l code) (c := c) (n := n) (by show RV (τ.1 22 0) A; rw [e22]; exact hR) hA (by show Mr (τ.1 22 0) q; rw [e22]; exact hm) hq hy hn hc (prm_len n l code) (fun j hj => by
      obtain ⟨⟨i, i1, i2⟩, i3⟩ := g1 j hj
      exact ⟨by rw [i2]; exact hlt i i1, by rw [sA_at]; exact i3⟩)
    rw [l11_order_60, if_neg (nI_ge (by omega) (by omega)), e1, bnd_s, e2, bnd_s, nI_1]
    by_cases w : code0 < code
    · obtain ⟨b1, b2⟩ := a5 w
      rw [b1, if_pos (nI_le hcb (by omega)), bnd_s]
      exact ih m (code + 1) (nI t) (sA τ 22 6 g) (by omega) (by omega) a3.r6 (fun h => absurd h (by omega)) (fun _ => ⟨rfl, b2⟩)
    · obtain ⟨b1, b2⟩ := a4 (by omega)
      by_cases w2 : code = code0
      · subst w2
        obtain ⟨z3, g7, e3, g8⟩ := copy_ok (σ := sA τ 22 6 g) (n := n) (x1 := nI c) (x2 := x2) (x4 := nI (fct n)) (x5 := nI (cbk (NN A q.2.2.2) (pc q.2.1) c (prm n l code))) (x6 := nI code) (by omega)
        rw [if_neg (fun h => by
          have := Int32.le_iff_toInt_le.mp h
          rw [nI_toInt (by omega), k2] at this
          omega), e3, bnd_s, bnd_s]
        refine ih m (code + 1) _ (sA (sA τ 22 6 g) 22 7 g7) (by omega) (by omega) a3.r6.r7 (fun h => absurd h (by omega)) (fun _ => ⟨by rw [k2], fun j hj => ?_⟩)
        rw [sA_at, g8 j hj, sA_at]
        exact (g1 j hj).2
      · have hlt2 := k4 code (by omega)
        by_cases w3 : nI (cbk (NN A q.2.2.2) (pc q.2.1) c (prm n l code)) ≤ x
        · rw [if_pos w3, bnd_s]
          exact ih m (code + 1) x (sA τ 22 6 g) (by omega) (by omega) a3.r6 (fun _ => ⟨b1, b2⟩) (fun h => absurd h (by omega))
        · obtain ⟨z3, g7, e3, g8⟩ := copy_ok (σ := sA τ 22 6 g) (n := n) (x1 := nI c) (x2 := x2) (x4 := nI (fct n)) (x5 := nI (cbk (NN A q.2.2.2) (pc q.2.1) c (prm n l code))) (x6 := nI code) (by omega)
          rw [if_neg w3, e3, bnd_s, bnd_s]
          exact ih m (code + 1) _ (sA (sA τ 22 6 g) 22 7 g7) (by omega) (by omega) a3.r6.r7 (fun _ => by
            show -1 ≤ (nI (cbk (NN A q.2.2.2) (pc q.2.1) c (prm n l code))).toInt ∧ (nI (cbk (NN A q.2.2.2) (pc q.2.1) c (prm n l code))).toInt < t
            rw [nI_toInt (by omega)]
            omega) (fun h => absurd h (by omega))
theorem search_ok {σ : Mem} {A : Nat → Nat} {q : QT} {c : Nat} (hC : HV 0 σ A) (hA : AR A) (hM : Mo (σ.1 4 0) q) (hq : QR A q) (hy : q.2.2.2 < 2000) (hc : c ≤ 99) :
    ∃ most τ, most ≤ 6 ∧ Chn (NN A q.2.2.2) most (frl (A 1) q.2.1) (pc q.2.1) c = true ∧ Chn (NN A q.2.2.2) (most + 1) (frl (A 1) q.2.1) (pc q.2.1) c = false ∧
      f5_search 0 0 (nI c) σ = some τ ∧ Sc σ τ ∧ τ.1 5 0 3 = nI (frl (A 1) q.2.1).length ∧ τ.1 5 0 4 = nI most ∧ ∀ j, j < (frl (A 1) q.2.1).length → τ.1 21 5 j = nI ((chl (NN A q.2.2.2) (frl (A 1) q.2.1).length most (frl (A 1) q.2.1) (pc q.2.1) c).getD j 0) := by
  have hp6 := hA.1.2
  have w6 := pow64 hp6 hq.2.1
  have hlen := frl_4 (A 1) (by omega) q.2.1 w6 hq.2.1
  have hll := frl_len (A 1) q.2.1
  have hpc := pc_le _ w6
  obtain ⟨σ3, hσ3⟩ : ∃ σ3 : Mem, σ3 = sI σ 5 0 3 (nI (frl (A 1) q.2.1).length) := ⟨_, rfl⟩
  have hC3 : HV 0 σ3 A := by rw [hσ3]; exact hC.fr rfl rfl
  have hM3 : Mo (σ3.1 4 0) q := by rw [hσ3]; exact hM
  obtain ⟨f, e1, f1, f2, f3⟩ := spend_ok (c := c) hC3 hA hM3 hy hq.2.1 hc
  obtain ⟨m1, m2, m3⟩ := most_is hp6 hq.2.1 f1 f2 f3
  obtain ⟨most, hmost⟩ : ∃ m, m = mxF (rea f) 64 - pc q.2.1 := ⟨_, rfl⟩
  rw [← hmost] at m2 m3
  have hmx : mxF (rea f) 64 ≤ 6 := mxF_le 64 (fun k hk => by
    unfold rea
    split
    · exact pc_le6 hk
    · omega)
  have hm6 : most ≤ 6 := by omega
  have e2 := mostReached_ok (σ := sA σ3 21 3 f) (f := f) w6 (fun T _ => by rw [sA_at]) m1
  rw [← hmost] at e2
  obtain ⟨σ8, hσ8⟩ : ∃ σ8 : Mem, σ8 = sI (sA σ3 21 3 f) 5 0 4 (nI most) := ⟨_, rfl⟩
  have hC8 : HV 0 σ8 A := by rw [hσ8]; exact hC3.fr rfl rfl
  have hM8 : Mo (σ8.1 4 0) q := by rw [hσ8]; exact hM3
  obtain ⟨f4, L, e3, h4, hL⟩ := reach_ok (σ := σ8) (goal := pc q.2.1 + most) hC8 hA hM8 hy (by omega)
  have hC9 : HV 0 (sA σ8 21 4 f4) A := hC8.fr rfl rfl
  have h53 : (sA σ8 21 4 f4).1 5 0 3 = nI (frl (A 1) q.2.1).length := by
    show σ8.1 5 0 3 = _
    rw [hσ8, rdI, if_neg (by omega)]
    show σ3.1 5 0 3 = _
    rw [hσ3, rdI, if_pos ⟨rfl, rfl, rfl⟩]
  have h54 : (sA σ8 21 4 f4).1 5 0 4 = nI most := by
    show σ8.1 5 0 4 = _
    rw [hσ8, rdI, if_pos ⟨rfl, rfl, rfl⟩]
  obtain ⟨z1, z2, z3, g, e4, -, g2⟩ := choose_lp (σ := sA σ8 21 4 f4) (f4 := f4) (q := q) (n := (frl (A 1) q.2.1).length) (most := most) hC9 hA hM8 hy h53 h54 (by omega) hm6 (show pc q.2.1 + most ≤ 6 by omega) (fun T hT => by rw [sA_at]; exact h4 T hT) hL (frl (A 1) q.2.1).length 2000 0 q.2.1 c (nI c) ((sA σ8 21 4 f4).1 21 5) (by omega) (by omega) w6 rfl (fun _ => ⟨rfl, hc, by omega, m2⟩)
  rw [sA_self] at e4
  refine ⟨most, sA (sA σ8 21 4 f4) 21 5 g, hm6, m2, m3, ?_, ?_, h53, h54, fun j hj => ?_⟩
  · unfold f5_search f7_size
    rw [show σ.1 7 (7 * 0 + 2) 3 = nI (A 1) from hC.2.2.1.1, hM.2.1, pcC _ w6, pk_sub (by omega), show A 1 - pc q.2.1 = (frl (A 1) q.2.1).length by omega, lt_e, ← hσ3, e1, bnd_s, e2, bnd_s, lt_e, ← hσ8, show σ8.1 5 0 4 = nI most from h54, nI_add, e3, bnd_s]
    unfold f5_choose
    rw [show (sA σ8 21 4 f4).1 4 0 1 = nI q.2.1 from hM8.2.1, show l5_choose_14 0 0 2000 (nI q.2.1) (nI c) 0 (sA σ8 21 4 f4) = _ from e4, bnd_s, bnd_s]
  · have s1 : Sc σ σ3 := by rw [hσ3]; exact Sc.row (f := upd _ 3 _) (c := 5) (k := 0) (Or.inr (Or.inr (Or.inr (Or.inr (Or.inr rfl)))))
    have s2 : Sc σ3 (sA σ3 21 3 f) := Sc.row (Or.inr (Or.inr (Or.inl ⟨rfl, by decide⟩)))
    have s3 : Sc (sA σ3 21 3 f) σ8 := by rw [hσ8]; exact Sc.row (f := upd _ 4 _) (c := 5) (k := 0) (Or.inr (Or.inr (Or.inr (Or.inr (Or.inr rfl)))))
    have s4 : Sc σ8 (sA σ8 21 4 f4) := Sc.row (Or.inr (Or.inr (Or.inl ⟨rfl, by decide⟩)))
    have s5 : Sc (sA σ8 21 4 f4) (sA (sA σ8 21 4 f4) 21 5 g) := Sc.row (Or.inr (Or.inr (Or.inl ⟨rfl, by decide⟩)))
    exact s1.tr (s2.tr (s3.tr (s4.tr s5)))
  · have := g2 j hj
    rw [Nat.zero_add, Nat.sub_zero] at this
    rw [sA_at]
    exact this
theorem ok_order {σ : Mem} (x1 x2 : Int32) (h : Inv σ) : OKc (f10_order 0 x1 x2) (f11_order 0 x1 x2) σ := by
  obtain ⟨A, q, ⟨hC, hR⟩, hA, ⟨hM, hm⟩, hq, hy⟩ := h.now
  have hp6 := hA.1.2
  have w6 := pow64 hp6 hq.2.1
  by_cases c1 : f10_within x1 0 (nI 99) = 0
  · refine ok_bad10 h ?_ ?_
    · unfold f10_order
      rw [show (99 : Int32) = nI 99 from rfl, if_pos c1]; rfl
    · unfold f11_order
      rw [in099, if_pos c1]; rfl
  obtain ⟨c, hc, rfl⟩ := wi_yes (by decide) c1
  by_cases c2 : -1 ≤ x2
  · obtain ⟨most, τ, hm6, m2, m3, e1, s1, h53, h54, h5j⟩ := search_ok hC hA hM hq (by omega) hc
    obtain ⟨n, hn⟩ : ∃ n, n = (frl (A 1) q.2.1).length := ⟨_, rfl⟩
    rw [← hn] at h53 h5j
    have hlen := frl_4 (A 1) (by omega) q.2.1 w6 hq.2.1
    rw [← hn] at hlen
    obtain ⟨code0, k1, k2, k3, k4, k5⟩ := perm_best n (frl (A 1) q.2.1) (pc q.2.1) c most hn.symm m2 m3
    have t0 : τ.1 22 0 = σ.1 22 0 := s1.row0
    obtain ⟨g5, e2, g6⟩ := layMissing_ok (σ := τ) (P := A 1) (W := q.2.1) hp6 w6 (by rw [t0]; exact hR.1.2) (by rw [t0]; exact hm.2.1)
    rw [← hn] at e2 g6
    obtain ⟨z0, e3⟩ := orders_ok (n := n) (by omega) (x1 := nI c) (x2 := x2) (x5 := -1)
    obtain ⟨z, τ2, e4, F, g7⟩ := order_lp (σ := sA τ 22 5 g5) (A := A) (q := q) (n := n) (c := c) (t := most) (code0 := code0) (l := frl (A 1) q.2.1) (x2 := x2) (by show RV (τ.1 22 0) A; rw [t0]; exact hR) hA (by show Mr (τ.1 22 0) q; rw [t0]; exact hm) hq (by omega) (by omega) hc hn.symm (fun i hi => (frl_2 (A 1) (by omega) q.2.1 w6 i (by omega) (by omega)).1) (fun j hj => by rw [sA_at]; exact g6 j hj) hm6 k1 k3 k4 k5 (fct n) 2000 0 (-1) (sA τ 22 5 g5) (by omega) (by have := fct_6 n (by omega); omega) ⟨rfl, fun _ _ _ => rfl⟩ (fun _ => by rw [m1_int]; omega) (fun w => absurd w (Nat.not_lt_zero _))
    have s2 : Sc τ τ2 := (Sc.row (σ := τ) (f := g5) (c := 22) (k := 5) (Or.inr (Or.inl ⟨rfl, by decide, by decide⟩))).tr ⟨F.1, fun c' k' j' hp => by rw [F.2 c' k' (fun w => by unfold prt at hp; omega)]⟩
    have er : f11_order 0 (nI c) x2 τ = if x2 = (-1) then some (nI most, τ2) else (if x2 < nI n then (ck (inb x2 6) <| some (τ2.1 22 7 (x2 : Int32).toNatClampNeg, τ2)) else some ((-5), τ2)) := by
      unfold f11_order
      rw [in099, if_neg c1, if_pos c2, e2, bnd_s, e3, bnd_s, show l11_order_60 0 (nI c) x2 (nI n) (nI (fct n)) 2000 (-1) 0 (sA τ 22 5 g5) = _ from e4, bnd_s]
    have ec : f10_order 0 (nI c) x2 σ = if x2 = (-1) then some (nI most, τ) else (if nI n ≤ x2 then some ((-5), τ) else (bnd (f5_at 0 x2 τ) fun w8 => some (w8, τ))) := by
      unfold f10_order f5_most f5_length
      rw [show f10_within (nI c) 0 99 = f10_within (nI c) 0 (nI 99) from rfl, if_neg c1, if_pos c2, e1, bnd_s, h53, h54]
    by_cases c3 : x2 = -1
    · refine ok_scr (r := nI most) h ?_ s1 ?_ s2
      · rw [ec, if_pos c3]
      · rw [er, if_pos c3]
    · have hnn : ¬ x2 < 0 := fun w => c3 (by
        rw [Int32.lt_iff_toInt_lt] at w
        rw [Int32.le_iff_toInt_le, m1_int] at c2
        rw [show (0 : Int32).toInt = 0 by decide] at w
        exact Int32.toInt_inj.mp (by rw [m1_int]; omega))
      obtain ⟨k, hk, rfl⟩ := nI_of hnn
      by_cases c4 : k < n
      · refine ok_scr (r := nI ((chl (NN A q.2.2.2) n most (frl (A 1) q.2.1) (pc q.2.1) c).getD k 0)) h ?_ s1 ?_ s2
        · rw [ec, if_neg c3, if_neg (nI_ge c4 (by omega))]
          unfold f5_at
          rw [at_row (N := 6) rfl (by decide) (by omega), bnd_s, bnd_s, h5j k c4]
        · rw [er, if_neg c3, if_pos (nI_lt c4 (by omega)), inb_nI (by omega) (by decide), ck_t, nI_clamp hk, g7 k c4, k2]
      · refine ok_scr (r := -5) h ?_ s1 ?_ s2
        · rw [ec, if_neg c3, if_pos (nI_le (by omega) hk)]
        · rw [er, if_neg c3, if_neg (nI_nlt (by omega) hk)]
  · refine ok_bad10 h ?_ ?_
    · unfold f10_order
      rw [show f10_within (nI c) 0 99 = f10_within (nI c) 0 (nI 99) from rfl, if_neg c1, if_neg c2]; rfl
    · unfold f11_order
      rw [in099, if_neg c1, if_neg c2]; rfl
