/-! ORDERS of the reference: by numbers -/
def idxs (n F : Nat) : List Nat := (List.range n).filter F.testBit
theorem idx_2 : ∀ n, n < 7 → ∀ F, F < 64 → ∀ i, i < 6 → i < (idxs n F).length → (idxs n F).getD i 0 < n ∧ F.testBit ((idxs n F).getD i 0) = true ∧ cB F.testBit ((idxs n F).getD i 0) = i := by decide +kernel
def ide (n F i : Nat) : Bool := !Nat.blt i (idxs n F).length || decide ((idxs n F).eraseIdx i = idxs n (F &&& (63 ^^^ 2 ^ (idxs n F).getD i 0)))
theorem ide_all : ∀ n, n < 7 → ∀ F, F < 64 → ∀ i, i < 6 → ide n F i = true := by decide +kernel
theorem idx_3 {n F i : Nat} (hn : n < 7) (hF : F < 64) (hi : i < 6) (h : i < (idxs n F).length) : (idxs n F).eraseIdx i = idxs n (F &&& (63 ^^^ 2 ^ (idxs n F).getD i 0)) := by
  have := ide_all n hn F hF i hi
  unfold ide at this
  rw [blt_to h] at this
  exact of_decide_eq_true this
theorem idx_full : ∀ n, n < 7 → idxs n (2 ^ n - 1) = List.range n := by decide +kernel
theorem idx_len (n F : Nat) : (idxs n F).length ≤ n := by
  have := List.length_filter_le F.testBit (List.range n)
  rw [List.length_range] at this
  exact this
theorem fct_6 : ∀ n, n < 7 → fct n ≤ 720 := by decide
theorem cB_mono (P : Nat → Bool) (a : Nat) : ∀ d, cB P a ≤ cB P (a + d)
  | 0 => Nat.le_refl _
  | d + 1 => Nat.le_trans (cB_mono P a d) (Nat.le_add_right _ _)
/-- the place of a choice -/
theorem pick_ok {F T : Nat} {x2 x4 x5 x6 : Int32} (hF : F < 64) (hT : T < 6) (hb : F.testBit T = true) : ∃ z, l11_layOrder_83 0 x2 (nI F) x4 x5 x6 2000 (nI (cB F.testBit T)) 0 = some (z, nI T) := by
  have lp : ∀ (r m i : Nat), i + r = T → r < m → ∃ z, l11_layOrder_83 0 x2 (nI F) x4 x5 x6 m (nI (cB F.testBit T - cB F.testBit i)) (nI i) = some (z, nI T) := by
    intro r
    induction r with
    | zero =>
      intro m i h1 h2
      obtain ⟨m, rfl⟩ : ∃ q, m = q + 1 := ⟨m - 1, by omega⟩
      obtain rfl : i = T := by omega
      rw [l11_layOrder_83, Nat.sub_self, hasN hF hT, hb]
      exact ⟨nI 0, by rw [if_neg (by decide), if_pos (by decide)]⟩
    | succ r ih =>
      intro m i h1 h2
      obtain ⟨m, rfl⟩ : ∃ q, m = q + 1 := ⟨m - 1, by omega⟩
      have hle := cB_le F.testBit T
      have hm := cB_mono F.testBit (i + 1) r
      rw [show i + 1 + r = T by omega, show cB F.testBit (i + 1) = cB F.testBit i + b01 (F.testBit i) from rfl] at hm
      have ihh := ih m (i + 1) (by omega) (by omega)
      rw [show cB F.testBit (i + 1) = cB F.testBit i + b01 (F.testBit i) from rfl] at ihh
      rw [l11_layOrder_83, hasN hF (by omega)]
      cases hbi : F.testBit i with
      | false =>
        rw [hbi] at ihh
        rw [if_pos (by decide), lt_e, nI_1]
        rw [show (if (if false = true then (1 : Int32) else 0) = 0 then (0 : Int32) else 1) = 0 from rfl, show ∀ x : Int32, x - 0 = x from fun x => by rw [Int32.sub_zero]]
        exact ihh
      | true =>
        rw [hbi, b01_t] at hm ihh
        rw [if_neg (by decide), if_neg (nleR (cB F.testBit T - cB F.testBit i) 0), lt_e, nI_1]
        rw [show (if (if true = true then (1 : Int32) else 0) = 0 then (0 : Int32) else 1) = 1 from rfl, show nI (cB F.testBit T - cB F.testBit i) - 1 = nI (cB F.testBit T - (cB F.testBit i + 1)) from by
          rw [show (1 : Int32) = nI 1 from rfl, pk_sub (by omega)]; congr 1]
        exact ihh
  have := lp T 2000 0 (by omega) (by omega)
  exact this
theorem by_ok {n : Nat} (hn : n ≤ 6) {x3 x4 : Int32} : ∃ z, l11_layOrder_15 0 (nI n) x3 x4 2000 1 2 = some (nI (fct (n - 1)), z) := by
  have lp : ∀ (r m k : Nat), 2 ≤ k → k + r = n → r < m → ∃ z, l11_layOrder_15 0 (nI n) x3 x4 m (nI (fct (k - 1))) (nI k) = some (nI (fct (n - 1)), z) := by
    intro r
    induction r with
    | zero =>
      intro m k h0 h1 h2
      obtain ⟨m, rfl⟩ : ∃ q, m = q + 1 := ⟨m - 1, by omega⟩
      obtain rfl : k = n := by omega
      exact ⟨nI k, by rw [l11_layOrder_15, if_pos (nI_le (by omega) (by omega))]⟩
    | succ r ih =>
      intro m k h0 h1 h2
      obtain ⟨m, rfl⟩ : ∃ q, m = q + 1 := ⟨m - 1, by omega⟩
      rw [l11_layOrder_15, if_neg (nI_ge (by omega) (by omega)), pk_mul, nI_1]
      have e : fct (k - 1) * k = fct (k + 1 - 1) := by
        obtain ⟨j, rfl⟩ : ∃ j, k = j + 1 := ⟨k - 1, by omega⟩
        show fct j * (j + 1) = (j + 1) * fct j
        exact Nat.mul_comm _ _
      rw [e]
      exact ih m (k + 1) (by omega) (by omega) (by omega)
  by_cases h : 2 ≤ n
  · exact lp (n - 2) 2000 2 (by omega) (by omega) (by omega)
  · have : n = 0 ∨ n = 1 := by omega
    rcases this with rfl | rfl
    · exact ⟨2, rfl⟩
    · exact ⟨2, rfl⟩
theorem orders_ok {n : Nat} (hn : n ≤ 6) {x1 x2 x5 : Int32} : ∃ z, l11_order_38 0 x1 x2 (nI n) x5 2000 1 2 = some (nI (fct n), z) := by
  have lp : ∀ (r m k : Nat), 2 ≤ k → k + r = n + 1 → r < m → ∃ z, l11_order_38 0 x1 x2 (nI n) x5 m (nI (fct (k - 1))) (nI k) = some (nI (fct n), z) := by
    intro r
    induction r with
    | zero =>
      intro m k h0 h1 h2
      obtain ⟨m, rfl⟩ : ∃ q, m = q + 1 := ⟨m - 1, by omega⟩
      obtain rfl : k = n + 1 := by omega
      exact ⟨nI (n + 1), by rw [l11_order_38, if_pos (nI_lt (by omega) (by omega))]; rfl⟩
    | succ r ih =>
      intro m k h0 h1 h2
      obtain ⟨m, rfl⟩ : ∃ q, m = q + 1 := ⟨m - 1, by omega⟩
      rw [l11_order_38, if_neg (nI_nlt (by omega) (by omega)), pk_mul, nI_1]
      have e : fct (k - 1) * k = fct (k + 1 - 1) := by
        obtain ⟨j, rfl⟩ : ∃ j, k = j + 1 := ⟨k - 1, by omega⟩
        show fct j * (j + 1) = (j + 1) * fct j
        exact Nat.mul_comm _ _
      rw [e]
      exact ih m (k + 1) (by omega) (by omega) (by omega)
  by_cases h : 1 ≤ n
  · exact lp (n - 1) 2000 2 (by omega) (by omega) (by omega)
  · obtain rfl : n = 0 := by omega
    exact ⟨2, rfl⟩
theorem layOrder_lp {σ : Mem} {n : Nat} {fl : Nat → Nat} (hn : n ≤ 6) (h5 : ∀ j, j < n → σ.1 22 5 j = nI (fl j)) :
    ∀ (r m pl F code : Nat) (x : Int32) (g : Nat → Int32), pl + r = n → r < m → F < 64 → (idxs n F).length = r → code < fct r → (0 < r → x = nI (fct (r - 1))) →
      ∃ z1 z2 z3 z4 g', l11_layOrder_37 0 (nI n) m (nI F) (nI code) x (nI pl) (sA σ 22 6 g) = some (z1, z2, z3, z4, sA σ 22 6 g') ∧ (∀ j, j < pl → g' j = g j) ∧ ∀ j, j < r → (prm r (idxs n F) code).getD j 0 < n ∧ g' (pl + j) = nI (fl ((prm r (idxs n F) code).getD j 0)) := by
  intro r
  induction r with
  | zero =>
    intro m pl F code x g h1 h2 h3 h4 h6 h7
    obtain ⟨m, rfl⟩ : ∃ q, m = q + 1 := ⟨m - 1, by omega⟩
    exact ⟨nI F, nI code, x, nI pl, g, by rw [l11_layOrder_37, if_pos (nI_le (by omega) (by omega))], fun _ _ => rfl, fun j hj => absurd hj (Nat.not_lt_zero j)⟩
  | succ r ih =>
    intro m pl F code x g h1 h2 hF hlen hcode hx
    obtain ⟨m, rfl⟩ : ∃ q, m = q + 1 := ⟨m - 1, by omega⟩
    have hx := hx (Nat.succ_pos r)
    rw [Nat.add_sub_cancel] at hx
    subst hx
    have hfp := fct_pos r
    have hf6 := fct_6 r (by omega)
    have hf7 := fct_6 (r + 1) (by omega)
    have hpk := head_lt hcode
    have hpl : code / fct r < (idxs n F).length := by omega
    obtain ⟨i1, i2, i3⟩ := idx_2 n (by omega) F hF (code / fct r) (by omega) hpl
    have i4 := idx_3 (show n < 7 by omega) hF (show code / fct r < 6 by omega) hpl
    obtain ⟨T, hT⟩ : ∃ T, T = (idxs n F).getD (code / fct r) 0 := ⟨_, rfl⟩
    rw [← hT] at i1 i2 i3 i4
    have hlen2 : (idxs n (F &&& (63 ^^^ 2 ^ T))).length = r := by
      rw [← i4, List.length_eraseIdx, if_pos (by omega)]; omega
    have hby : (if (nI n - 2) ≤ nI pl then some 1 else (ck (decide (¬ ((nI n - 1) - nI pl) = 0)) <| some (nI (fct r) / ((nI n - 1) - nI pl))) : Option Int32) = some (nI (fct (r - 1))) := by
      by_cases z : r ≤ 1
      · have e1 : fct (r - 1) = 1 := by
          rcases (show r = 0 ∨ r = 1 by omega) with rfl | rfl <;> rfl
        rw [e1, if_pos]
        · rfl
        · by_cases z2 : 2 ≤ n
          · rw [show nI n - 2 = nI (n - 2) from pk_sub (b := 2) z2]
            exact nI_le (by omega) (by omega)
          · obtain ⟨rfl, rfl⟩ : n = 1 ∧ pl = 0 := by omega
            decide
      · rw [show nI n - 2 = nI (n - 2) from pk_sub (b := 2) (by omega), if_neg (nI_ge (by omega) (by omega)), show nI n - 1 = nI (n - 1) from pk_sub (b := 1) (by omega), pk_sub (show pl ≤ n - 1 by omega), show n - 1 - pl = r by omega, decide_eq_true (nI_ne0 (by omega) (by omega)), ck_t, pk_div (by omega) (by omega) (by omega)]
        obtain ⟨k, rfl⟩ : ∃ k, r = k + 1 := ⟨r - 1, by omega⟩
        rw [show fct (k + 1) = (k + 1) * fct k from rfl, Nat.mul_div_cancel_left _ (Nat.succ_pos k)]
        rfl
    obtain ⟨zp, ep⟩ := pick_ok (F := F) (T := T) (x2 := nI n) (x4 := nI (code % fct r)) (x5 := nI (fct (r - 1))) (x6 := nI pl) hF (by omega) i2
    rw [i3] at ep
    obtain ⟨z1, z2, z3, z4, g', e, g1, g2⟩ := ih m (pl + 1) (F &&& (63 ^^^ 2 ^ T)) (code % fct r) (nI (fct (r - 1))) (upd g pl (nI (fl T))) (by omega) (by omega) (dif_lt hF) hlen2 (Nat.mod_lt _ hfp) (fun _ => rfl)
    refine ⟨z1, z2, z3, z4, g', ?_, fun j hj => ?_, fun j hj => ?_⟩
    · rw [l11_layOrder_37, if_neg (nI_ge (by omega) (by omega)), decide_eq_true (nI_ne0 hfp (by omega)), ck_t, ck_t, hby, bnd_s, pk_rem (by omega) hfp (by omega), pk_div (by omega) hfp (by omega), ep, bnd_s, inb_nI (show T < 6 by omega) (by decide), inb_nI (show pl < 6 by omega) (by decide), ck_t, ck_t, nI_clamp (by omega), nI_clamp (by omega), show (sA σ 22 6 g).1 22 5 = σ.1 22 5 from rfl, h5 T i1, lt_e, sI_sA, shlN T (by omega), notN F hF (2 ^ T) (show 2 ^ T < 2 ^ 6 from Nat.pow_lt_pow_right (by decide) (by omega)), nI_1]
      exact e
    · rw [g1 j (by omega), up_n (by omega)]
    · have ep2 : prm (r + 1) (idxs n F) code = T :: prm r (idxs n (F &&& (63 ^^^ 2 ^ T))) (code % fct r) := by
        rw [← i4, hT]; rfl
      rw [ep2]
      rcases j with _ | j
      · show T < n ∧ g' (pl + 0) = nI (fl T)
        exact ⟨i1, by rw [Nat.add_zero, g1 pl (by omega), up_s]⟩
      · have := g2 j (by omega)
        show (prm r (idxs n (F &&& (63 ^^^ 2 ^ T))) (code % fct r)).getD j 0 < n ∧ g' (pl + (j + 1)) = nI (fl ((prm r (idxs n (F &&& (63 ^^^ 2 ^ T))) (code % fct r)).getD j 0))
        rw [show pl + (j + 1) = pl + 1 + j by omega]
        exact this
theorem prm_len : ∀ (n : Nat) (l : List Nat) (code : Nat), (prm n l code).length = n
  | 0, _, _ => rfl
  | n + 1, l, code => by
    show (prm n _ _).length + 1 = n + 1
    rw [prm_len n]
theorem getD_map {f : Nat → Nat} {l : List Nat} {i : Nat} (h : i < l.length) : (l.map f).getD i 0 = f (l.getD i 0) := by
  rw [List.getD_eq_getElem?_getD, List.getD_eq_getElem?_getD, List.getElem?_map, List.getElem?_eq_getElem h]
  rfl
theorem eraseIdx_map (f : Nat → Nat) : ∀ (l : List Nat) (i : Nat), (l.map f).eraseIdx i = (l.eraseIdx i).map f
  | [], _ => rfl
  | _ :: _, 0 => rfl
  | a :: l, i + 1 => by
    show f a :: (l.map f).eraseIdx i = f a :: (l.eraseIdx i).map f
    rw [eraseIdx_map f l i]
theorem prm_map (f : Nat → Nat) : ∀ (n : Nat) (l : List Nat) (code : Nat), l.length = n → code < fct n → prm n (l.map f) code = (prm n l code).map f
  | 0, _, _, _, _ => rfl
  | n + 1, l, code, hl, hc => by
    have hi := head_lt hc
    show (l.map f).getD (code / fct n) 0 :: prm n ((l.map f).eraseIdx (code / fct n)) (code % fct n) = f (l.getD (code / fct n) 0) :: (prm n (l.eraseIdx (code / fct n)) (code % fct n)).map f
    rw [getD_map (by omega), eraseIdx_map, prm_map f n _ _ (by rw [List.length_eraseIdx, if_pos (by omega)]; omega) (Nat.mod_lt _ (fct_pos n))]
theorem range_map {l : List Nat} {n : Nat} (h : l.length = n) : (List.range n).map (fun i => l.getD i 0) = l := by
  subst h
  refine List.ext_getElem? (fun i => ?_)
  rw [List.getElem?_map]
  by_cases z : i < l.length
  · rw [List.getElem?_range z, List.getElem?_eq_getElem z]
    show some (l.getD i 0) = _
    rw [List.getD_eq_getElem?_getD, List.getElem?_eq_getElem z]
    rfl
  · rw [List.getElem?_eq_none (by rw [List.length_range]; omega), List.getElem?_eq_none (by omega)]
    rfl
theorem layOrder_ok {σ : Mem} {n code : Nat} {l : List Nat} (hn : n ≤ 6) (hl : l.length = n) (h5 : ∀ j, j < n → σ.1 22 5 j = nI (l.getD j 0)) (hc : code < fct n) :
    ∃ g, f11_layOrder 0 (nI code) (nI n) σ = some (sA σ 22 6 g) ∧ ∀ j, j < n → (∃ i, i < n ∧ (prm n l code).getD j 0 = l.getD i 0) ∧ g j = nI ((prm n l code).getD j 0) := by
  have hpow : 1 ≤ 2 ^ n := Nat.two_pow_pos n
  have hpow6 : 2 ^ n ≤ 64 := Nat.pow_le_pow_right (n := 2) (by decide) hn
  have hfree : ((1 : Int32) <<< (nI n &&& 31)) - 1 = nI (2 ^ n - 1) := by
    rw [shlN n (by omega)]
    exact pk_sub (b := 1) hpow
  obtain ⟨z0, e0⟩ := by_ok hn (x3 := nI (2 ^ n - 1)) (x4 := nI code)
  have hfull := idx_full n (by omega)
  obtain ⟨z1, z2, z3, z4, g, e1, -, g2⟩ := layOrder_lp (σ := σ) (fl := fun j => l.getD j 0) hn h5 n 2000 0 (2 ^ n - 1) code (nI (fct (n - 1))) (σ.1 22 6) (by omega) (by omega) (by omega) (by rw [hfull, List.length_range]) hc (fun _ => rfl)
  rw [sA_self] at e1
  rw [hfull] at g2
  have hm := prm_map (fun i => l.getD i 0) n (List.range n) code List.length_range hc
  rw [range_map hl] at hm
  refine ⟨g, ?_, fun j hj => ?_⟩
  · unfold f11_layOrder
    rw [hfree, e0, bnd_s, show l11_layOrder_37 0 (nI n) 2000 (nI (2 ^ n - 1)) (nI code) (nI (fct (n - 1))) 0 σ = _ from e1, bnd_s]
  · obtain ⟨a1, a2⟩ := g2 j hj
    rw [Nat.zero_add] at a2
    rw [hm, getD_map (by rw [prm_len]; exact hj)]
    exact ⟨⟨_, a1, rfl⟩, a2⟩
theorem frl_succ (p W : Nat) : frl (p + 1) W = if W.testBit p = true then frl p W else frl p W ++ [p] := by
  unfold frl
  rw [List.range_succ, List.filter_append]
  cases h : W.testBit p with
  | true => simp [h]
  | false => simp [h]
theorem getD_app {l : List Nat} {p j : Nat} : (l ++ [p]).getD j 0 = if j < l.length then l.getD j 0 else if j = l.length then p else 0 := by
  rw [List.getD_eq_getElem?_getD, List.getElem?_append]
  by_cases z : j < l.length
  · rw [if_pos z, if_pos z, ← List.getD_eq_getElem?_getD]
  · rw [if_neg z, if_neg z]
    by_cases z2 : j = l.length
    · rw [if_pos z2, z2, Nat.sub_self]; rfl
    · rw [if_neg z2, List.getElem?_eq_none (by simp; omega)]; rfl
theorem layMissing_ok {σ : Mem} {P W : Nat} (hP : P ≤ 6) (hW : W < 64) (h1 : σ.1 22 0 1 = nI P) (h7 : σ.1 22 0 7 = nI W) :
    ∃ g, f11_layMissing 0 σ = some (nI (frl P W).length, sA σ 22 5 g) ∧ ∀ j, j < (frl P W).length → g j = nI ((frl P W).getD j 0) := by
  have lp : ∀ (r m p : Nat) (g : Nat → Int32), p + r = P → r < m → (∀ j, j < (frl p W).length → g j = nI ((frl p W).getD j 0)) →
      ∃ z g', l11_layMissing_4 0 m (nI (frl p W).length) (nI p) (sA σ 22 5 g) = some (nI (frl P W).length, z, sA σ 22 5 g') ∧ ∀ j, j < (frl P W).length → g' j = nI ((frl P W).getD j 0) := by
    intro r
    induction r with
    | zero =>
      intro m p g a1 a2 a3
      obtain ⟨m, rfl⟩ : ∃ q, m = q + 1 := ⟨m - 1, by omega⟩
      obtain rfl : p = P := by omega
      exact ⟨nI p, g, by rw [l11_layMissing_4, show (sA σ 22 5 g).1 22 0 1 = nI p from h1, if_pos (nI_le (by omega) (by omega))], a3⟩
    | succ r ih =>
      intro m p g a1 a2 a3
      obtain ⟨m, rfl⟩ : ∃ q, m = q + 1 := ⟨m - 1, by omega⟩
      have hlen := frl_len p W
      have hs := frl_succ p W
      rw [l11_layMissing_4, show (sA σ 22 5 g).1 22 0 1 = nI P from h1, if_neg (nI_ge (by omega) (by omega)), show (sA σ 22 5 g).1 22 0 7 = nI W from h7, hasN hW (by omega)]
      cases hb : W.testBit p with
      | true =>
        rw [hb, if_pos rfl] at hs
        rw [if_neg (by decide), bnd_s, nI_1, ← hs]
        exact ih m (p + 1) g (by omega) (by omega) (by rw [hs]; exact a3)
      | false =>
        rw [hb, if_neg (by decide)] at hs
        rw [if_pos (by decide), inb_nI (by omega) (by decide), ck_t, nI_clamp (by omega), lt_e, bnd_s, sI_sA, nI_1, nI_1, show (frl p W).length + 1 = (frl (p + 1) W).length by rw [hs, List.length_append]; rfl]
        refine ih m (p + 1) _ (by omega) (by omega) (fun j hj => ?_)
        rw [hs, List.length_append] at hj
        have hj : j < (frl p W).length + 1 := hj
        rw [hs, getD_app]
        by_cases w : j < (frl p W).length
        · rw [if_pos w, up_n (by omega)]; exact a3 j w
        · obtain rfl : j = (frl p W).length := by omega
          rw [if_neg w, if_pos rfl, up_s]
  obtain ⟨z, g, e, h⟩ := lp P 2000 0 (σ.1 22 5) (by omega) (by omega) (fun j hj => absurd hj (Nat.not_lt_zero j))
  rw [sA_self] at e
  refine ⟨g, ?_, h⟩
  unfold f11_layMissing
  rw [show l11_layMissing_4 0 2000 0 0 σ = _ from e, bnd_s]
theorem comeBy_ok {σ : Mem} {A : Nat → Nat} {q : QT} {n c : Nat} {ol : List Nat} (hR : RV (σ.1 22 0) A) (hA : AR A) (hm : Mr (σ.1 22 0) q) (hq : QR A q) (hy : q.2.2.2 < 2000) (hn : n + pc q.2.1 ≤ 6) (hc : c ≤ 99) (hl : ol.length = n)
    (h6 : ∀ j, j < n → ol.getD j 0 < A 1 ∧ σ.1 22 6 j = nI (ol.getD j 0)) :
    f11_comeBy 0 (nI n) (nI c) σ = some (nI (cbk (NN A q.2.2.2) (pc q.2.1) c ol)) := by
  have hp6 := hA.1.2
  have w6 := pow64 hp6 hq.2.1
  have lp : ∀ (r m j x : Nat), j + r = n → r < m → x ≤ 99 → ∃ z, l11_comeBy_17 0 (nI n) (nI (pc q.2.1)) σ m (nI x) (nI j) = some (z, nI (j + cbk (NN A q.2.2.2) (pc q.2.1 + j) x (ol.drop j))) := by
    intro r
    induction r with
    | zero =>
      intro m j x a1 a2 a3
      obtain ⟨m, rfl⟩ : ∃ q, m = q + 1 := ⟨m - 1, by omega⟩
      obtain rfl : j = n := by omega
      rw [List.drop_eq_nil_of_le (by omega)]
      exact ⟨nI x, by rw [l11_comeBy_17, if_pos (nI_le (by omega) (by omega))]; rfl⟩
    | succ r ih =>
      intro m j x a1 a2 a3
      obtain ⟨m, rfl⟩ : ∃ q, m = q + 1 := ⟨m - 1, by omega⟩
      obtain ⟨b1, b2⟩ := h6 j (by omega)
      have hdr : ol.drop j = ol.getD j 0 :: ol.drop (j + 1) := by
        rw [List.drop_eq_getElem_cons (show j < ol.length by omega), List.getD_eq_getElem?_getD, List.getElem?_eq_getElem (show j < ol.length by omega)]
        rfl
      have hN := NN_le (A := A) (y := q.2.2.2) (p := ol.getD j 0) (show pc q.2.1 + j ≤ 6 by omega)
      rw [hdr, l11_comeBy_17, if_neg (nI_ge (by omega) (by omega)), inb_nI (show j < 6 by omega) (by decide), ck_t, nI_clamp (by omega), b2, show (40 : Int32) = nI 40 from rfl, nI_add, inb_nI (by omega) (by decide), ck_t, nI_clamp (by omega), hR.2.2.2 _ b1, hm.2.2.2, nI_add, ndR (hA.2.2.2 _ b1) (show pc q.2.1 + j ≤ 6 by omega) hy]
      show ∃ z, _ = some (z, nI (j + if NN A q.2.2.2 (pc q.2.1 + j) (ol.getD j 0) ≤ x then cbk (NN A q.2.2.2) (pc q.2.1 + j + 1) (x - NN A q.2.2.2 (pc q.2.1 + j) (ol.getD j 0)) (ol.drop (j + 1)) + 1 else 0))
      by_cases w : NN A q.2.2.2 (pc q.2.1 + j) (ol.getD j 0) ≤ x
      · rw [if_pos w, if_neg (show ¬ nI x < nI (nd (A (40 + ol.getD j 0)) (pc q.2.1 + j) q.2.2.2) from nI_nlt w (by omega)), ck_t, ck_t, lt_e, show nI x - nI (nd (A (40 + ol.getD j 0)) (pc q.2.1 + j) q.2.2.2) = nI (x - NN A q.2.2.2 (pc q.2.1 + j) (ol.getD j 0)) from pk_sub w, nI_1]
        obtain ⟨z, e⟩ := ih m (j + 1) (x - NN A q.2.2.2 (pc q.2.1 + j) (ol.getD j 0)) (by omega) (by omega) (by omega)
        refine ⟨z, ?_⟩
        rw [e, show pc q.2.1 + (j + 1) = pc q.2.1 + j + 1 by omega, show j + (cbk (NN A q.2.2.2) (pc q.2.1 + j + 1) (x - NN A q.2.2.2 (pc q.2.1 + j) (ol.getD j 0)) (ol.drop (j + 1)) + 1) = j + 1 + cbk (NN A q.2.2.2) (pc q.2.1 + j + 1) (x - NN A q.2.2.2 (pc q.2.1 + j) (ol.getD j 0)) (ol.drop (j + 1)) by omega]
      · rw [if_neg w, if_pos (show nI x < nI (nd (A (40 + ol.getD j 0)) (pc q.2.1 + j) q.2.2.2) from nI_lt (Nat.not_le.mp w) (by
          have : nd (A (40 + ol.getD j 0)) (pc q.2.1 + j) q.2.2.2 ≤ 22 := hN
          omega))]
        exact ⟨nI x, rfl⟩
  obtain ⟨z, e⟩ := lp n 2000 0 c (by omega) (by omega) hc
  rw [Nat.zero_add, Nat.add_zero, List.drop_zero] at e
  unfold f11_comeBy
  rw [hm.2.1, pcR _ w6, bnd_s, show l11_comeBy_17 0 (nI n) (nI (pc q.2.1)) σ 2000 (nI c) 0 = _ from e, bnd_s]
/-- nothing but the two rows of orders differs -/
def F67 (σ τ : Mem) : Prop := τ.2 = σ.2 ∧ ∀ c k, ¬ (c = 22 ∧ (k = 6 ∨ k = 7)) → τ.1 c k = σ.1 c k
theorem F67.r6 {σ τ : Mem} {g : Nat → Int32} (h : F67 σ τ) : F67 σ (sA τ 22 6 g) := ⟨h.1, fun c k hn => (sA_off (fun q => hn ⟨q.1, Or.inl q.2⟩)).trans (h.2 c k hn)⟩
theorem F67.r7 {σ τ : Mem} {g : Nat → Int32} (h : F67 σ τ) : F67 σ (sA τ 22 7 g) := ⟨h.1, fun c k hn => (sA_off (fun q => hn ⟨q.1, Or.inr q.2⟩)).trans (h.2 c k hn)⟩
theorem copy_ok {σ : Mem} {n : Nat} {x1 x2 x4 x5 x6 : Int32} (hn : n ≤ 6) : ∃ z g, l11_order_96 0 x1 x2 (nI n) x4 x5 x6 2000 0 σ = some (z, sA σ 22 7 g) ∧ ∀ j, j < n → g j = σ.1 22 6 j := by
  have lp : ∀ (r m i : Nat) (g : Nat → Int32), i + r = n → r < m → (∀ j, j < i → g j = σ.1 22 6 j) → ∃ z g', l11_order_96 0 x1 x2 (nI n) x4 x5 x6 m (nI i) (sA σ 22 7 g) = some (z, sA σ 22 7 g') ∧ ∀ j, j < n → g' j = σ.1 22 6 j := by
    intro r
    induction r with
    | zero =>
      intro m i g a1 a2 a3
      obtain ⟨m, rfl⟩ : ∃ q, m = q + 1 := ⟨m - 1, by omega⟩
      obtain rfl : i = n := by omega
      exact ⟨nI i, g, by rw [l11_order_96, if_pos (nI_le (by omega) (by omega))], a3⟩
    | succ r ih =>
      intro m i g a1 a2 a3
      obtain ⟨m, rfl⟩ : ∃ q, m = q + 1 := ⟨m - 1, by omega⟩
      rw [l11_order_96, if_neg (nI_ge (by omega) (by omega)), inb_nI (show i < 6 by omega) (by decide), ck_t, ck_t, nI_clamp (by omega), lt_e, sI_sA, nI_1, show (sA σ 22 7 g).1 22 6 = σ.1 22 6 from rfl]
      refine ih m (i + 1) _ (by omega) (by omega) (fun j hj => ?_)
      by_cases w : j = i
      · subst w; rw [up_s]
      · rw [up_n w]; exact a3 j (by omega)
  obtain ⟨z, g, e, h⟩ := lp n 2000 0 (σ.1 22 7) (by omega) (by omega) (fun j hj => absurd hj (Nat.not_lt_zero j))
  rw [sA_self] at e
  exact ⟨z, g, e, h⟩
