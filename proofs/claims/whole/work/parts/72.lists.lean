/-! thing, seen, note, mark, forget, type, clear -/
theorem add_row {q n w m : Nat} {x1 x2 x3 x4 x5 : Int32} {σ : Mem} (hn : σ.1 7 q 3 = nI n) (hw : σ.1 7 q 1 = nI w) (hm : σ.1 7 q 0 = nI m) (hN : alen 20 q = m * w) (hlt : n < m) (h1 : 1 ≤ w) (h5 : w ≤ 5) (hm2 : m < 100) :
    ∃ g, f7_add q x1 x2 x3 x4 x5 σ = some (sA (sI σ 7 q 3 (nI (n + 1))) 20 q g) ∧ (∀ j, j < n * w → g j = σ.1 20 q j) ∧ ∀ c, c < w → g (n * w + c) = ([x1, x2, x3, x4, x5].take w).getD c 0 := by
  have hlen : ([x1, x2, x3, x4, x5].take w).length = w := by rw [List.length_take]; simp; omega
  refine ⟨(putL q (n * w) ([x1, x2, x3, x4, x5].take w) 0 (sI σ 7 q 3 (nI (n + 1)))).1 20 q, ?_, fun j hj => ?_, fun c hc => ?_⟩
  · rw [add_ok hn hw hm hN hlt h1 h5 hm2]
    refine congrArg some (mem_ext (fun c k j => ?_) (putL_2 _ _ _ _ _))
    rw [rdA, rdP, rdP]
    by_cases z : c = 20 ∧ k = q
    · rw [if_pos z, z.1, z.2]
    · rw [if_neg z, if_neg (fun h => z ⟨h.1, h.2.1⟩)]
  · rw [rdP, if_neg (by omega)]
    rfl
  · rw [rdP, if_pos ⟨rfl, rfl, by omega, by omega⟩]
    congr 1; omega
theorem wi_yes1 {x : Int32} {n : Nat} (hn : n < 1000) (h : ¬ f10_within x (nI 1) (nI n) = 0) : ∃ y, 1 ≤ y ∧ y ≤ n ∧ x = nI y := by
  unfold f10_within at h
  split at h
  · exact absurd rfl h
  · rename_i h1
    split at h
    · exact absurd rfl h
    · rename_i h2
      have h0 : ¬ x < 0 := fun q => h1 (by
        rw [Int32.lt_iff_toInt_lt] at q ⊢
        have e0 : (0 : Int32).toInt = 0 := by decide
        have e1 : (nI 1).toInt = 1 := by decide
        omega)
      obtain ⟨y, hy, rfl⟩ := nI_of h0
      exact ⟨y, Nat.not_lt.mp (fun q => h1 (nI_lt q (by decide))), Nat.not_lt.mp (fun q => h2 (nI_lt q hy)), rfl⟩
theorem in130 (x : Int32) : f11_in x.toInt64 1 30 = f10_within x (nI 1) (nI 30) := in_within x 1 30
theorem neR (i k : Nat) (h : ¬ i = k) (hi : i < 2 ^ 31 := by omega) (hk : k < 2 ^ 31 := by omega) : ¬ nI i = (@OfNat.ofNat Int32 k Int32.instOfNat) := fun q => h ((nI_eq hi hk).mp q)
theorem full0 (σ : Mem) : (f10_refuseFull 0 σ).2.1 22 0 = σ.1 22 0 := rfl
theorem ok_seen {σ : Mem} (x1 x2 : Int32) (h : Inv σ) : OKc (f10_seen 0 x1 x2) (f11_seen 0 x1 x2) σ := by
  obtain ⟨t, p, s, n, m, e, hv, hr⟩ := h.vr
  have hC := (hv.HV hr).1
  have hR := hr.AR.2
  have e0 := hr.aof0.1
  obtain ⟨b1, b2, b3, b4, b5, b6⟩ := hr.2.1
  have a2 : σ.1 22 0 2 = nI s := hr.1.2.2.1
  have s3 : σ.1 7 3 3 = nI s := hv.2.1.2.2.2.1
  have hm : σ.1 7 3 0 = nI 5 := (hv.1 3 (by decide)).1
  have hw : σ.1 7 3 1 = nI 2 := (hv.1 3 (by decide)).2
  by_cases c1 : f10_within x1 0 (nI 11) = 0
  · refine ok_bad h ?_ ?_
    · unfold f10_seen
      rw [isC10, if_pos c1]; rfl
    · unfold f11_seen
      rw [isC11, if_pos c1]; rfl
  obtain ⟨c, hc, rfl⟩ := wi_yes (by decide) c1
  by_cases c2 : ¬ x2 = -1 ∧ f10_within x2 0 (nI t - 1) = 0
  · refine ok_bad h ?_ ?_
    · unfold f10_seen
      rw [isC10, if_neg c1, if_neg c2.1, hC.isT, e0, if_pos c2.2]; rfl
    · unfold f11_seen
      rw [isC11, if_neg c1, if_neg c2.1, RV.isT (A := Aof (σ.1 22 0)) (by rw [bad0]; exact hR), e0, if_pos c2.2]; rfl
  have f1 : f10_seen 0 (nI c) x2 σ = (if f7_isFull 3 σ = 0 then (bnd (f7_add 3 (nI c) x2 0 0 0 σ) fun w5 => some (f7_size 3 w5, w5)) else (lt (f10_refuseFull 0 σ) fun w8 => some (w8.1, w8.2))) := by
    unfold f10_seen
    rw [isC10, if_neg c1]
    by_cases q : x2 = -1
    · rw [if_pos q]
    · rw [if_neg q, hC.isT, e0, if_neg (fun z => c2 ⟨q, z⟩)]
  have f2 : ∀ τ : Mem, τ.1 22 0 = σ.1 22 0 → f11_seen 0 (nI c) x2 τ = (if nI s = 5 then (lt (f11_full 0 τ) fun w4 => some (w4.1, w4.2)) else some (nI (s + 1), sA τ 22 0 (upd (upd (upd (σ.1 22 0) (46 + 2 * s) (nI c)) (46 + 2 * s + 1) x2) 2 (nI (s + 1))))) := by
    intro τ hτ
    have core : (if τ.1 22 0 2 = 5 then (lt (f11_full 0 τ) fun w4 => some (w4.1, w4.2)) else (ck (inb (46 + (2 * (τ.1 22 0 2))) 142) <| lt (sI τ 22 0 ((46 + (2 * (τ.1 22 0 2))) : Int32).toNatClampNeg (nI c)) fun σ7 => ck (inb ((46 + (2 * (σ7.1 22 0 2))) + 1) 142) <| lt (sI σ7 22 0 (((46 + (2 * (σ7.1 22 0 2))) + 1) : Int32).toNatClampNeg x2) fun σ9 => lt (sI σ9 22 0 2 ((σ9.1 22 0 2) + 1)) fun σ10 => some ((σ10.1 22 0 2), σ10))) = (if nI s = 5 then (lt (f11_full 0 τ) fun w4 => some (w4.1, w4.2)) else some (nI (s + 1), sA τ 22 0 (upd (upd (upd (σ.1 22 0) (46 + 2 * s) (nI c)) (46 + 2 * s + 1) x2) 2 (nI (s + 1))))) := by
      rw [hτ, a2]
      by_cases q : nI s = 5
      · rw [if_pos q, if_pos q]
      · rw [if_neg q, if_neg q, show (46 : Int32) = nI 46 from rfl, show (2 : Int32) = nI 2 from rfl, pk_mul, nI_add, inb_nI (by omega) (by decide), ck_t, nI_clamp (by omega), lt_e, show ∀ j x, sI τ 22 0 j x = sA τ 22 0 (upd (τ.1 22 0) j x) from fun _ _ => rfl, hτ, sA_at, up_n (by omega), a2, pk_mul, nI_add, nI_1, inb_nI (by omega) (by decide), ck_t, nI_clamp (by omega), lt_e, sI_sA, lt_e, sA_at, up_n (by omega), up_n (by omega), a2, nI_1, sI_sA, sA_at, up_s]
    unfold f11_seen
    rw [isC11, if_neg c1]
    by_cases q : x2 = -1
    · rw [if_pos q]; exact core
    · rw [if_neg q, RV.isT (A := Aof (σ.1 22 0)) (by rw [hτ]; exact hR), e0, if_neg (fun z => c2 ⟨q, z⟩)]; exact core
  by_cases cs : s = 5
  · refine ok_full h ?_ ?_
    · rw [f1, if_neg (by
        unfold f7_isFull
        rw [s3, hm, cs]
        decide)]
      rfl
    · rw [f2 _ (full0 σ), if_pos (by rw [cs]; rfl)]; rfl
  obtain ⟨g, e1, g1, g2⟩ := add_row (x1 := nI c) (x2 := x2) (x3 := 0) (x4 := 0) (x5 := 0) s3 hw hm rfl (show s < 5 by omega) (by decide) (by decide) (by decide)
  obtain ⟨b, hb⟩ : ∃ b : Nat → Int32, b = upd (upd (upd (σ.1 22 0) (46 + 2 * s) (nI c)) (46 + 2 * s + 1) x2) 2 (nI (s + 1)) := ⟨_, rfl⟩
  have hab : ∀ j, (j < 2 ∨ (5 ≤ j ∧ j < 46) ∨ 110 ≤ j) → b j = σ.1 22 0 j := fun j hj => by rw [hb, up_n (by omega), up_n (by omega), up_n (by omega)]
  have hab2 : ∀ j, 56 ≤ j ∧ j < 110 → b j = σ.1 22 0 j := fun j hj => by rw [hb, up_n (by omega), up_n (by omega), up_n (by omega)]
  refine ok_now (r := nI (s + 1)) (τ1 := sA (sI σ 7 3 3 (nI (s + 1))) 20 3 g) (τ2 := sA (sA (sI σ 7 3 3 (nI (s + 1))) 20 3 g) 22 0 b) h ?_ ((Nw.size (by decide)).tr (Nw.row (Or.inl ⟨rfl, by decide⟩))) ?_ (Nw.row (Or.inr (Or.inr ⟨rfl, rfl⟩))) ?_
  · rw [f1, if_pos (by
      unfold f7_isFull
      rw [s3, hm, if_pos (nI_lt (by omega) (by decide))]), e1, bnd_s]
    unfold f7_size
    show some ((sI σ 7 3 3 (nI (s + 1))).1 7 3 3, _) = _
    rw [rdI, if_pos ⟨rfl, rfl, rfl⟩]
  · rw [f2 (sA (sI σ 7 3 3 (nI (s + 1))) 20 3 g) rfl, if_neg (neR s 5 cs), hb]
  · rw [sA_at]
    refine ⟨t, p, s + 1, n, m, e, VR.lists (b := b) hv ⟨b1, b2, b6⟩ (fun k j hk hj => ?_) ⟨?_, ?_, ?_⟩ (fun k j hk hj => ?_) (fun j => rfl) ⟨fun i hi => ?_, fun i hi => ?_, fun i hi => ?_⟩ hab, hr.lists ⟨by omega, b4, b5⟩ ⟨?_, ?_, ?_⟩ hab ⟨fun i hi => ?_, fun i hi => ?_, fun i hi => ?_⟩⟩
    · show (sI σ 7 3 3 (nI (s + 1))).1 7 k j = _
      rw [rdI, if_neg (by omega)]
    · show (sI σ 7 3 3 (nI (s + 1))).1 7 3 3 = _
      rw [rdI, if_pos ⟨rfl, rfl, rfl⟩]
    · exact hv.2.1.2.2.2.2.1
    · exact hv.2.1.2.2.2.2.2.1
    · show (sA (sI σ 7 3 3 (nI (s + 1))) 20 3 g).1 20 k j = _
      rw [rdA, if_neg (by omega)]
      rfl
    · show g i = b (46 + i)
      rcases (show i < s * 2 ∨ i = s * 2 + 0 ∨ i = s * 2 + 1 by omega) with q | q | q
      · rw [g1 i q, hb, up_n (by omega), up_n (by omega), up_n (by omega)]
        exact hv.2.2.2.2.2.2.1 i (by omega)
      · rw [q, g2 0 (by decide), show 46 + (s * 2 + 0) = 46 + 2 * s by omega, hb, up_n (by omega), up_n (by omega), up_s]
        rfl
      · rw [q, g2 1 (by decide), show 46 + (s * 2 + 1) = 46 + 2 * s + 1 by omega, hb, up_n (by omega), up_s]
        rfl
    · rw [hab2 _ (by omega)]; exact hv.2.2.2.2.2.2.2.1 i hi
    · rw [hab2 _ (by omega)]; exact hv.2.2.2.2.2.2.2.2.1 i hi
    · rw [hb, up_s]
    · rw [hb, up_n (by omega), up_n (by omega), up_n (by omega)]; exact hr.1.2.2.2.1
    · rw [hb, up_n (by omega), up_n (by omega), up_n (by omega)]; exact hr.1.2.2.2.2.1
    · rcases (show i < s ∨ i = s by omega) with q | q
      · rw [hb, up_n (by omega), up_n (by omega), up_n (by omega)]; exact hr.2.2.2.2.2.2.2.1 i q
      · rw [q, hb, up_n (by omega), up_n (by omega), up_s]; exact ⟨c, hc, rfl⟩
    · rw [hab2 _ (by omega), hab2 _ (by omega), hab2 _ (by omega)]; exact hr.2.2.2.2.2.2.2.2.1 i hi
    · rw [hab2 _ (by omega), hab2 _ (by omega)]; exact hr.2.2.2.2.2.2.2.2.2 i hi
theorem in099 (x : Int32) : f11_in x.toInt64 0 99 = f10_within x 0 (nI 99) := in_within x 0 99
theorem ok_note {σ : Mem} (x1 x2 x3 x4 x5 : Int32) (h : Inv σ) : OKc (f10_note 0 x1 x2 x3 x4 x5) (f11_note 0 x1 x2 x3 x4 x5) σ := by
  obtain ⟨t, p, s, n, m, e, hv, hr⟩ := h.vr
  have hC := (hv.HV hr).1
  have hR := hr.AR.2
  have e0 := hr.aof0.1
  obtain ⟨b1, b2, b3, b4, b5, b6⟩ := hr.2.1
  have a3 : σ.1 22 0 3 = nI n := hr.1.2.2.2.1
  have s4 : σ.1 7 4 3 = nI n := hv.2.1.2.2.2.2.1
  have hm : σ.1 7 4 0 = nI 6 := (hv.1 4 (by decide)).1
  have hw : σ.1 7 4 1 = nI 5 := (hv.1 4 (by decide)).2
  have hi10 : ∀ x, f10_isHeight x = f10_within x (nI 1) (nI 30) := fun x => rfl
  by_cases c1 : f10_within x1 0 (nI t - 1) = 0
  · refine ok_bad h ?_ ?_
    · unfold f10_note
      rw [hC.isT, e0, if_pos c1, lt_e, if_pos rfl]; rfl
    · unfold f11_note
      rw [RV.isT (A := Aof (σ.1 22 0)) (by rw [bad0]; exact hR), e0, if_pos c1]; rfl
  obtain ⟨k, hk, rfl⟩ := wi_thing (by omega) c1
  by_cases c2 : f10_within x2 (nI 1) (nI 30) = 0
  · refine ok_bad h ?_ ?_
    · unfold f10_note
      rw [hC.isT, e0, if_neg c1, hi10, if_pos c2, lt_e, if_pos rfl]; rfl
    · unfold f11_note
      rw [RV.isT (A := Aof (σ.1 22 0)) (by rw [bad0]; exact hR), e0, if_neg c1, in130, if_pos c2]; rfl
  obtain ⟨y2, hy1, hy2, rfl⟩ := wi_yes1 (by decide) c2
  by_cases c3 : f10_within x3 0 (nI 11) = 0
  · refine ok_bad h ?_ ?_
    · unfold f10_note
      rw [hC.isT, e0, if_neg c1, hi10, if_neg c2, show (11 : Int32) = nI 11 from rfl, if_pos c3, lt_e, if_pos rfl]; rfl
    · unfold f11_note
      rw [RV.isT (A := Aof (σ.1 22 0)) (by rw [bad0]; exact hR), e0, if_neg c1, in130, if_neg c2, isC11, if_pos c3]; rfl
  obtain ⟨y3, hy3, rfl⟩ := wi_yes (by decide) c3
  by_cases c4 : f10_within x4 0 (nI 99) = 0
  · refine ok_bad h ?_ ?_
    · unfold f10_note
      rw [hC.isT, e0, if_neg c1, hi10, if_neg c2, show (11 : Int32) = nI 11 from rfl, if_neg c3, lt_e, if_neg (by decide), show (99 : Int32) = nI 99 from rfl, if_pos c4]; rfl
    · unfold f11_note
      rw [RV.isT (A := Aof (σ.1 22 0)) (by rw [bad0]; exact hR), e0, if_neg c1, in130, if_neg c2, isC11, if_neg c3, in099, if_pos c4]; rfl
  obtain ⟨y4, hy4, rfl⟩ := wi_yes (by decide) c4
  by_cases c5 : f10_within x5 0 (nI 99) = 0
  · refine ok_bad h ?_ ?_
    · unfold f10_note
      rw [hC.isT, e0, if_neg c1, hi10, if_neg c2, show (11 : Int32) = nI 11 from rfl, if_neg c3, lt_e, if_neg (by decide), show (99 : Int32) = nI 99 from rfl, if_neg c4, if_pos c5]; rfl
    · unfold f11_note
      rw [RV.isT (A := Aof (σ.1 22 0)) (by rw [bad0]; exact hR), e0, if_neg c1, in130, if_neg c2, isC11, if_neg c3, in099, if_neg c4, in099, if_pos c5]; rfl
  have f1 : f10_note 0 (nI k) (nI y2) (nI y3) (nI y4) x5 σ = (if f7_isFull 4 σ = 0 then (bnd (f7_add 4 (nI k) (nI y2) (nI y3) (nI y4) x5 σ) fun w5 => some (f7_size 4 w5, w5)) else (lt (f10_refuseFull 0 σ) fun w8 => some (w8.1, w8.2))) := by
    unfold f10_note
    rw [hC.isT, e0, if_neg c1, hi10, if_neg c2, show (11 : Int32) = nI 11 from rfl, if_neg c3, lt_e, if_neg (by decide), show (99 : Int32) = nI 99 from rfl, if_neg c4, if_neg c5]
  by_cases cs : n = 6
  · refine ok_full h ?_ ?_
    · rw [f1, if_neg (by
        unfold f7_isFull
        rw [s4, hm, cs]
        decide)]
      rfl
    · unfold f11_note
      rw [RV.isT (A := Aof (σ.1 22 0)) (by rw [full0]; exact hR), e0, if_neg c1, in130, if_neg c2, isC11, if_neg c3, in099, if_neg c4, in099, if_neg c5, full0, a3, if_pos (by rw [cs]; rfl)]; rfl
  obtain ⟨g, e1, g1, g2⟩ := add_row (x1 := nI k) (x2 := nI y2) (x3 := nI y3) (x4 := nI y4) (x5 := x5) s4 hw hm rfl (show n < 6 by omega) (by decide) (by decide) (by decide)
  obtain ⟨b, hb⟩ : ∃ b : Nat → Int32, b = upd (upd (upd (upd (upd (upd (σ.1 22 0) (56 + 5 * n) (nI k)) (56 + 5 * n + 1) (nI y2)) (56 + 5 * n + 2) (nI y3)) (56 + 5 * n + 3) (nI y4)) (56 + 5 * n + 4) x5) 3 (nI (n + 1)) := ⟨_, rfl⟩
  have hab0 : ∀ j, ¬ j = 3 → ¬ (56 + 5 * n ≤ j ∧ j < 56 + 5 * n + 5) → b j = σ.1 22 0 j := fun j hj h2 => by rw [hb, up_n hj, up_n (by omega), up_n (by omega), up_n (by omega), up_n (by omega), up_n (by omega)]
  have hab : ∀ j, (j < 2 ∨ (5 ≤ j ∧ j < 46) ∨ 110 ≤ j) → b j = σ.1 22 0 j := fun j hj => hab0 j (by omega) (by omega)
  have v0 : b (56 + 5 * n) = nI k := by rw [hb, up_n (by omega), up_n (by omega), up_n (by omega), up_n (by omega), up_n (by omega), up_s]
  have v1 : b (56 + 5 * n + 1) = nI y2 := by rw [hb, up_n (by omega), up_n (by omega), up_n (by omega), up_n (by omega), up_s]
  have v2 : b (56 + 5 * n + 2) = nI y3 := by rw [hb, up_n (by omega), up_n (by omega), up_n (by omega), up_s]
  have v3 : b (56 + 5 * n + 3) = nI y4 := by rw [hb, up_n (by omega), up_n (by omega), up_s]
  have v4 : b (56 + 5 * n + 4) = x5 := by rw [hb, up_n (by omega), up_s]
  refine ok_now (r := nI (n + 1)) (τ1 := sA (sI σ 7 4 3 (nI (n + 1))) 20 4 g) (τ2 := sA (sA (sI σ 7 4 3 (nI (n + 1))) 20 4 g) 22 0 b) h ?_ ((Nw.size (by decide)).tr (Nw.row (Or.inl ⟨rfl, by decide⟩))) ?_ (Nw.row (Or.inr (Or.inr ⟨rfl, rfl⟩))) ?_
  · rw [f1, if_pos (by
      unfold f7_isFull
      rw [s4, hm, if_pos (nI_lt (by omega) (by decide))]), e1, bnd_s]
    unfold f7_size
    show some ((sI σ 7 4 3 (nI (n + 1))).1 7 4 3, _) = _
    rw [rdI, if_pos ⟨rfl, rfl, rfl⟩]
  · unfold f11_note
    obtain ⟨τ, hτ⟩ : ∃ τ : Mem, τ = sA (sI σ 7 4 3 (nI (n + 1))) 20 4 g := ⟨_, rfl⟩
    have t0 : τ.1 22 0 = σ.1 22 0 := by rw [hτ]; rfl
    rw [← hτ, RV.isT (A := Aof (σ.1 22 0)) (by rw [t0]; exact hR), e0, if_neg c1, in130, if_neg c2, isC11, if_neg c3, in099, if_neg c4, in099, if_neg c5, t0, a3, if_neg (neR n 6 cs), show (56 : Int32) = nI 56 from rfl, show (5 : Int32) = nI 5 from rfl, show (4 : Int32) = nI 4 from rfl, show (3 : Int32) = nI 3 from rfl, show (2 : Int32) = nI 2 from rfl, pk_mul, nI_add, nI_add, nI_add, nI_add, nI_1, inb_nI (by omega) (by decide), inb_nI (by omega) (by decide), inb_nI (by omega) (by decide), inb_nI (by omega) (by decide), inb_nI (by omega) (by decide), nI_clamp (by omega), nI_clamp (by omega), nI_clamp (by omega), nI_clamp (by omega), nI_clamp (by omega)]
    simp only [ck_t, lt_e]
    rw [show ∀ j x, sI τ 22 0 j x = sA τ 22 0 (upd (τ.1 22 0) j x) from fun _ _ => rfl, t0, sI_sA, sI_sA, sI_sA, sI_sA, sA_at, up_n (by omega), up_n (by omega), up_n (by omega), up_n (by omega), up_n (by omega), a3, nI_1, sI_sA, sA_at, up_s, hb]
  · rw [sA_at]
    refine ⟨t, p, s, n + 1, m, e, VR.lists (b := b) hv ⟨b1, b2, b6⟩ (fun k j hk hj => ?_) ⟨?_, ?_, ?_⟩ (fun k j hk hj => ?_) (fun j => rfl) ⟨fun i hi => ?_, fun i hi => ?_, fun i hi => ?_⟩ hab, hr.lists ⟨b3, by omega, b5⟩ ⟨?_, ?_, ?_⟩ hab ⟨fun i hi => ?_, fun i hi => ?_, fun i hi => ?_⟩⟩
    · show (sI σ 7 4 3 (nI (n + 1))).1 7 k j = _
      rw [rdI, if_neg (by omega)]
    · exact hv.2.1.2.2.2.1
    · show (sI σ 7 4 3 (nI (n + 1))).1 7 4 3 = _
      rw [rdI, if_pos ⟨rfl, rfl, rfl⟩]
    · exact hv.2.1.2.2.2.2.2.1
    · show (sA (sI σ 7 4 3 (nI (n + 1))) 20 4 g).1 20 k j = _
      rw [rdA, if_neg (by omega)]
      rfl
    · rw [hab0 _ (by omega) (by omega)]; exact hv.2.2.2.2.2.2.1 i hi
    · show g i = b (56 + i)
      rcases (show i < n * 5 ∨ i = n * 5 + 0 ∨ i = n * 5 + 1 ∨ i = n * 5 + 2 ∨ i = n * 5 + 3 ∨ i = n * 5 + 4 by omega) with q | q | q | q | q | q
      · rw [g1 i q, hab0 _ (by omega) (by omega)]
        exact hv.2.2.2.2.2.2.2.1 i (by omega)
      · rw [q, g2 0 (by decide), show 56 + (n * 5 + 0) = 56 + 5 * n by omega, v0]; rfl
      · rw [q, g2 1 (by decide), show 56 + (n * 5 + 1) = 56 + 5 * n + 1 by omega, v1]; rfl
      · rw [q, g2 2 (by decide), show 56 + (n * 5 + 2) = 56 + 5 * n + 2 by omega, v2]; rfl
      · rw [q, g2 3 (by decide), show 56 + (n * 5 + 3) = 56 + 5 * n + 3 by omega, v3]; rfl
      · rw [q, g2 4 (by decide), show 56 + (n * 5 + 4) = 56 + 5 * n + 4 by omega, v4]; rfl
    · rw [hab0 _ (by omega) (by omega)]; exact hv.2.2.2.2.2.2.2.2.1 i hi
    · rw [hab0 _ (by omega) (by omega)]; exact hr.1.2.2.1
    · rw [hb, up_s]
    · rw [hab0 _ (by omega) (by omega)]; exact hr.1.2.2.2.2.1
    · rw [hab0 _ (by omega) (by omega)]; exact hr.2.2.2.2.2.2.2.1 i hi
    · rcases (show i < n ∨ i = n by omega) with q | q
      · rw [hab0 _ (by omega) (by omega), hab0 _ (by omega) (by omega), hab0 _ (by omega) (by omega)]; exact hr.2.2.2.2.2.2.2.2.1 i q
      · rw [q, show 57 + 5 * n = 56 + 5 * n + 1 by omega, show 58 + 5 * n = 56 + 5 * n + 2 by omega, show 59 + 5 * n = 56 + 5 * n + 3 by omega, v1, v2, v3]
        exact ⟨⟨y2, hy2, rfl⟩, ⟨y3, hy3, rfl⟩, ⟨y4, hy4, rfl⟩⟩
    · rw [hab0 _ (by omega) (by omega), hab0 _ (by omega) (by omega)]; exact hr.2.2.2.2.2.2.2.2.2 i hi
theorem ok_mark {σ : Mem} (x1 x2 x3 x4 : Int32) (h : Inv σ) : OKc (f10_mark 0 x1 x2 x3 x4) (f11_mark 0 x1 x2 x3 x4) σ := by
  obtain ⟨t, p, s, n, m, e, hv, hr⟩ := h.vr
  have hC := (hv.HV hr).1
  have hR := hr.AR.2
  have e0 := hr.aof0.2.1
  obtain ⟨b1, b2, b3, b4, b5, b6⟩ := hr.2.1
  have a3 : σ.1 22 0 4 = nI m := hr.1.2.2.2.2.1
  have s4 : σ.1 7 5 3 = nI m := hv.2.1.2.2.2.2.2.1
  have hm : σ.1 7 5 0 = nI 6 := (hv.1 5 (by decide)).1
  have hw : σ.1 7 5 1 = nI 4 := (hv.1 5 (by decide)).2
  by_cases c1 : f10_within x1 0 (nI p - 1) = 0
  · refine ok_bad h ?_ ?_
    · unfold f10_mark
      rw [hC.isP, e0, if_pos c1, lt_e, if_pos rfl]; rfl
    · unfold f11_mark
      rw [RV.isP (A := Aof (σ.1 22 0)) (by rw [bad0]; exact hR), e0, if_pos c1]; rfl
  obtain ⟨k, hk, rfl⟩ := wi_thing (by omega) c1
  by_cases c2 : f10_within x2 0 (nI 5) = 0
  · refine ok_bad h ?_ ?_
    · unfold f10_mark
      rw [hC.isP, e0, if_neg c1, n5, if_pos c2, lt_e, if_pos rfl]; rfl
    · unfold f11_mark
      rw [RV.isP (A := Aof (σ.1 22 0)) (by rw [bad0]; exact hR), e0, if_neg c1, in05, if_pos c2]; rfl
  obtain ⟨y2, hy2, rfl⟩ := wi_yes (by decide) c2
  by_cases c4 : f10_within x3 0 (nI 99) = 0
  · refine ok_bad h ?_ ?_
    · unfold f10_mark
      rw [hC.isP, e0, if_neg c1, n5, if_neg c2, lt_e, if_neg (by decide), show (99 : Int32) = nI 99 from rfl, if_pos c4]; rfl
    · unfold f11_mark
      rw [RV.isP (A := Aof (σ.1 22 0)) (by rw [bad0]; exact hR), e0, if_neg c1, in05, if_neg c2, in099, if_pos c4]; rfl
  obtain ⟨y3, hy3, rfl⟩ := wi_yes (by decide) c4
  by_cases c5 : f10_within x4 0 (nI 99) = 0
  · refine ok_bad h ?_ ?_
    · unfold f10_mark
      rw [hC.isP, e0, if_neg c1, n5, if_neg c2, lt_e, if_neg (by decide), show (99 : Int32) = nI 99 from rfl, if_neg c4, if_pos c5]; rfl
    · unfold f11_mark
      rw [RV.isP (A := Aof (σ.1 22 0)) (by rw [bad0]; exact hR), e0, if_neg c1, in05, if_neg c2, in099, if_neg c4, in099, if_pos c5]; rfl
  have f1 : f10_mark 0 (nI k) (nI y2) (nI y3) x4 σ = (if f7_isFull 5 σ = 0 then (bnd (f7_add 5 (nI k) (nI y2) (nI y3) x4 0 σ) fun w5 => some (f7_size 5 w5, w5)) else (lt (f10_refuseFull 0 σ) fun w8 => some (w8.1, w8.2))) := by
    unfold f10_mark
    rw [hC.isP, e0, if_neg c1, show f10_within (nI y2) 0 5 = f10_within (nI y2) 0 (nI 5) from rfl, if_neg c2, lt_e, if_neg (by decide), show (99 : Int32) = nI 99 from rfl, if_neg c4, if_neg c5]
  by_cases cs : m = 6
  · refine ok_full h ?_ ?_
    · rw [f1, if_neg (by
        unfold f7_isFull
        rw [s4, hm, cs]
        decide)]
      rfl
    · unfold f11_mark
      rw [RV.isP (A := Aof (σ.1 22 0)) (by rw [full0]; exact hR), e0, if_neg c1, in05, if_neg c2, in099, if_neg c4, in099, if_neg c5, full0, a3, if_pos (by rw [cs]; rfl)]; rfl
  obtain ⟨g, e1, g1, g2⟩ := add_row (x1 := nI k) (x2 := nI y2) (x3 := nI y3) (x4 := x4) (x5 := 0) s4 hw hm rfl (show m < 6 by omega) (by decide) (by decide) (by decide)
  obtain ⟨b, hb⟩ : ∃ b : Nat → Int32, b = upd (upd (upd (upd (upd (σ.1 22 0) (86 + 4 * m) (nI k)) (86 + 4 * m + 1) (nI y2)) (86 + 4 * m + 2) (nI y3)) (86 + 4 * m + 3) x4) 4 (nI (m + 1)) := ⟨_, rfl⟩
  have hab0 : ∀ j, ¬ j = 4 → ¬ (86 + 4 * m ≤ j ∧ j < 86 + 4 * m + 4) → b j = σ.1 22 0 j := fun j hj h2 => by rw [hb, up_n hj, up_n (by omega), up_n (by omega), up_n (by omega), up_n (by omega)]
  have hab : ∀ j, (j < 2 ∨ (5 ≤ j ∧ j < 46) ∨ 110 ≤ j) → b j = σ.1 22 0 j := fun j hj => hab0 j (by omega) (by omega)
  have v0 : b (86 + 4 * m) = nI k := by rw [hb, up_n (by omega), up_n (by omega), up_n (by omega), up_n (by omega), up_s]
  have v1 : b (86 + 4 * m + 1) = nI y2 := by rw [hb, up_n (by omega), up_n (by omega), up_n (by omega), up_s]
  have v2 : b (86 + 4 * m + 2) = nI y3 := by rw [hb, up_n (by omega), up_n (by omega), up_s]
  have v3 : b (86 + 4 * m + 3) = x4 := by rw [hb, up_n (by omega), up_s]
  refine ok_now (r := nI (m + 1)) (τ1 := sA (sI σ 7 5 3 (nI (m + 1))) 20 5 g) (τ2 := sA (sA (sI σ 7 5 3 (nI (m + 1))) 20 5 g) 22 0 b) h ?_ ((Nw.size (by decide)).tr (Nw.row (Or.inl ⟨rfl, by decide⟩))) ?_ (Nw.row (Or.inr (Or.inr ⟨rfl, rfl⟩))) ?_
  · rw [f1, if_pos (by
      unfold f7_isFull
      rw [s4, hm, if_pos (nI_lt (by omega) (by decide))]), e1, bnd_s]
    unfold f7_size
    show some ((sI σ 7 5 3 (nI (m + 1))).1 7 5 3, _) = _
    rw [rdI, if_pos ⟨rfl, rfl, rfl⟩]
  · unfold f11_mark
    obtain ⟨τ, hτ⟩ : ∃ τ : Mem, τ = sA (sI σ 7 5 3 (nI (m + 1))) 20 5 g := ⟨_, rfl⟩
    have t0 : τ.1 22 0 = σ.1 22 0 := by rw [hτ]; rfl
    rw [← hτ, RV.isP (A := Aof (σ.1 22 0)) (by rw [t0]; exact hR), e0, if_neg c1, in05, if_neg c2, in099, if_neg c4, in099, if_neg c5, t0, a3, if_neg (neR m 6 cs), show (86 : Int32) = nI 86 from rfl, show (4 : Int32) = nI 4 from rfl, show (3 : Int32) = nI 3 from rfl, show (2 : Int32) = nI 2 from rfl, pk_mul, nI_add, nI_add, nI_add, nI_1, inb_nI (by omega) (by decide), inb_nI (by omega) (by decide), inb_nI (by omega) (by decide), inb_nI (by omega) (by decide), nI_clamp (by omega), nI_clamp (by omega), nI_clamp (by omega), nI_clamp (by omega)]
    simp only [ck_t, lt_e]
    rw [show ∀ j x, sI τ 22 0 j x = sA τ 22 0 (upd (τ.1 22 0) j x) from fun _ _ => rfl, t0, sI_sA, sI_sA, sI_sA, sA_at, up_n (by omega), up_n (by omega), up_n (by omega), up_n (by omega), a3, nI_1, sI_sA, sA_at, up_s, hb]
  · rw [sA_at]
    refine ⟨t, p, s, n, m + 1, e, VR.lists (b := b) hv ⟨b1, b2, b6⟩ (fun k j hk hj => ?_) ⟨?_, ?_, ?_⟩ (fun k j hk hj => ?_) (fun j => rfl) ⟨fun i hi => ?_, fun i hi => ?_, fun i hi => ?_⟩ hab, hr.lists ⟨b3, b4, by omega⟩ ⟨?_, ?_, ?_⟩ hab ⟨fun i hi => ?_, fun i hi => ?_, fun i hi => ?_⟩⟩
    · show (sI σ 7 5 3 (nI (m + 1))).1 7 k j = _
      rw [rdI, if_neg (by omega)]
    · exact hv.2.1.2.2.2.1
    · exact hv.2.1.2.2.2.2.1
    · show (sI σ 7 5 3 (nI (m + 1))).1 7 5 3 = _
      rw [rdI, if_pos ⟨rfl, rfl, rfl⟩]
    · show (sA (sI σ 7 5 3 (nI (m + 1))) 20 5 g).1 20 k j = _
      rw [rdA, if_neg (by omega)]
      rfl
    · rw [hab0 _ (by omega) (by omega)]; exact hv.2.2.2.2.2.2.1 i hi
    · rw [hab0 _ (by omega) (by omega)]; exact hv.2.2.2.2.2.2.2.1 i hi
    · show g i = b (86 + i)
      rcases (show i < m * 4 ∨ i = m * 4 + 0 ∨ i = m * 4 + 1 ∨ i = m * 4 + 2 ∨ i = m * 4 + 3 by omega) with q | q | q | q | q
      · rw [g1 i q, hab0 _ (by omega) (by omega)]
        exact hv.2.2.2.2.2.2.2.2.1 i (by omega)
      · rw [q, g2 0 (by decide), show 86 + (m * 4 + 0) = 86 + 4 * m by omega, v0]; rfl
      · rw [q, g2 1 (by decide), show 86 + (m * 4 + 1) = 86 + 4 * m + 1 by omega, v1]; rfl
      · rw [q, g2 2 (by decide), show 86 + (m * 4 + 2) = 86 + 4 * m + 2 by omega, v2]; rfl
      · rw [q, g2 3 (by decide), show 86 + (m * 4 + 3) = 86 + 4 * m + 3 by omega, v3]; rfl
    · rw [hab0 _ (by omega) (by omega)]; exact hr.1.2.2.1
    · rw [hab0 _ (by omega) (by omega)]; exact hr.1.2.2.2.1
    · rw [hb, up_s]
    · rw [hab0 _ (by omega) (by omega)]; exact hr.2.2.2.2.2.2.2.1 i hi
    · rw [hab0 _ (by omega) (by omega), hab0 _ (by omega) (by omega), hab0 _ (by omega) (by omega)]; exact hr.2.2.2.2.2.2.2.2.1 i hi
    · rcases (show i < m ∨ i = m by omega) with q | q
      · rw [hab0 _ (by omega) (by omega), hab0 _ (by omega) (by omega)]; exact hr.2.2.2.2.2.2.2.2.2 i q
      · rw [q, show 87 + 4 * m = 86 + 4 * m + 1 by omega, show 88 + 4 * m = 86 + 4 * m + 2 by omega, v1, v2]
        exact ⟨⟨y2, hy2, rfl⟩, ⟨y3, hy3, rfl⟩⟩

/-! forget -/
theorem forget_q {σ : Mem} {t p s n m e s' n' m' : Nat} {i : Nat} (hi : i < 3) (hv : VR 0 σ (σ.1 22 0) t p s n m e) (hr : Ro (σ.1 22 0) t p s n m e)
    (hs : (s' = s ∧ ¬ i = 0 ∨ s' = 0 ∧ i = 0) ∧ (n' = n ∧ ¬ i = 1 ∨ n' = 0 ∧ i = 1) ∧ (m' = m ∧ ¬ i = 2 ∨ m' = 0 ∧ i = 2)) :
    VQ 0 (sA (sI σ 7 (3 + i) 3 0) 22 0 (upd (σ.1 22 0) (2 + i) 0)) (upd (σ.1 22 0) (2 + i) 0) := by
  obtain ⟨b1, b2, b3, b4, b5, b6⟩ := hr.2.1
  obtain ⟨hs1, hs2, hs3⟩ := hs
  have hab : ∀ j, (j < 2 ∨ (5 ≤ j ∧ j < 46) ∨ 110 ≤ j) → upd (σ.1 22 0) (2 + i) 0 j = σ.1 22 0 j := fun j hj => by rw [up_n (by omega)]
  have h7 : ∀ k j, (sA (sI σ 7 (3 + i) 3 0) 22 0 (upd (σ.1 22 0) (2 + i) 0)).1 7 k j = if k = 3 + i ∧ j = 3 then 0 else σ.1 7 k j := fun k j => by
    show (sI σ 7 (3 + i) 3 0).1 7 k j = _
    rw [rdI]
    by_cases z : k = 3 + i ∧ j = 3
    · rw [if_pos ⟨rfl, z.1, z.2⟩, if_pos z]
    · rw [if_neg (fun q => z ⟨q.2.1, q.2.2⟩), if_neg z]
  have h20 : ∀ k, (sA (sI σ 7 (3 + i) 3 0) 22 0 (upd (σ.1 22 0) (2 + i) 0)).1 20 k = σ.1 20 k := fun k => rfl
  refine ⟨t, p, s', n', m', e, VR.lists (b := upd (σ.1 22 0) (2 + i) 0) hv ⟨b1, b2, b6⟩ (fun k j hk hj => by rw [h7, if_neg (by omega)]) ⟨?_, ?_, ?_⟩ (fun k j hk hj => by rw [h20]) (fun j => rfl) ⟨fun j hj => ?_, fun j hj => ?_, fun j hj => ?_⟩ hab, hr.lists ⟨by omega, by omega, by omega⟩ ⟨?_, ?_, ?_⟩ hab ⟨fun j hj => ?_, fun j hj => ?_, fun j hj => ?_⟩⟩
  · rw [h7]
    by_cases z : 3 = 3 + i
    · rw [if_pos ⟨z, rfl⟩, show s' = 0 by omega]; rfl
    · rw [if_neg (fun q => z q.1), show s' = s by omega]; exact hv.2.1.2.2.2.1
  · rw [h7]
    by_cases z : 4 = 3 + i
    · rw [if_pos ⟨z, rfl⟩, show n' = 0 by omega]; rfl
    · rw [if_neg (fun q => z q.1), show n' = n by omega]; exact hv.2.1.2.2.2.2.1
  · rw [h7]
    by_cases z : 5 = 3 + i
    · rw [if_pos ⟨z, rfl⟩, show m' = 0 by omega]; rfl
    · rw [if_neg (fun q => z q.1), show m' = m by omega]; exact hv.2.1.2.2.2.2.2.1
  · rw [h20, up_n (by omega)]; exact hv.2.2.2.2.2.2.1 j (by omega)
  · rw [h20, up_n (by omega)]; exact hv.2.2.2.2.2.2.2.1 j (by omega)
  · rw [h20, up_n (by omega)]; exact hv.2.2.2.2.2.2.2.2.1 j (by omega)
  · by_cases z : 2 = 2 + i
    · rw [← z, up_s, show s' = 0 by omega]; rfl
    · rw [up_n z, show s' = s by omega]; exact hr.1.2.2.1
  · by_cases z : 3 = 2 + i
    · rw [← z, up_s, show n' = 0 by omega]; rfl
    · rw [up_n z, show n' = n by omega]; exact hr.1.2.2.2.1
  · by_cases z : 4 = 2 + i
    · rw [← z, up_s, show m' = 0 by omega]; rfl
    · rw [up_n z, show m' = m by omega]; exact hr.1.2.2.2.2.1
  · rw [up_n (by omega)]; exact hr.2.2.2.2.2.2.2.1 j (by omega)
  · rw [up_n (by omega), up_n (by omega), up_n (by omega)]; exact hr.2.2.2.2.2.2.2.2.1 j (by omega)
  · rw [up_n (by omega), up_n (by omega)]; exact hr.2.2.2.2.2.2.2.2.2 j (by omega)
theorem ok_forget {σ : Mem} (x1 : Int32) (h : Inv σ) : OKc (fun σ => some (f10_forget 0 x1 σ)) (f11_forget 0 x1) σ := by
  obtain ⟨t, p, s, n, m, e, hv, hr⟩ := h.vr
  by_cases c1 : f10_within x1 0 (nI 2) = 0
  · have c2 : ¬ x1 = 0 ∧ ¬ x1 = 1 ∧ ¬ x1 = 2 := by
      refine ⟨fun q => ?_, fun q => ?_, fun q => ?_⟩
      all_goals subst q; revert c1; decide
    refine ok_bad h ?_ ?_
    · show some (f10_forget 0 x1 σ) = _
      unfold f10_forget
      rw [if_neg c2.1, if_neg c2.2.1, if_neg c2.2.2]; rfl
    · unfold f11_forget
      rw [in02, if_pos c1]; rfl
  obtain ⟨i, hi, rfl⟩ := wi_yes (by decide) c1
  have ef : f10_forget 0 (nI i) σ = (σ.1 7 (3 + i) 3, sI σ 7 (3 + i) 3 0) := by
    rcases (show i = 0 ∨ i = 1 ∨ i = 2 by omega) with rfl | rfl | rfl
    · rfl
    · unfold f10_forget
      rw [if_neg (by decide), if_pos (by rfl)]; rfl
    · unfold f10_forget
      rw [if_neg (by decide), if_neg (by decide), if_pos (by rfl)]; rfl
  have er : σ.1 7 (3 + i) 3 = σ.1 22 0 (2 + i) := by
    rcases (show i = 0 ∨ i = 1 ∨ i = 2 by omega) with rfl | rfl | rfl
    · exact hv.2.1.2.2.2.1.trans hr.1.2.2.1.symm
    · exact hv.2.1.2.2.2.2.1.trans hr.1.2.2.2.1.symm
    · exact hv.2.1.2.2.2.2.2.1.trans hr.1.2.2.2.2.1.symm
  refine ok_now (r := σ.1 22 0 (2 + i)) (τ1 := sI σ 7 (3 + i) 3 0) (τ2 := sA (sI σ 7 (3 + i) 3 0) 22 0 (upd (σ.1 22 0) (2 + i) 0)) h ?_ (Nw.size (by omega)) ?_ (Nw.row (Or.inr (Or.inr ⟨rfl, rfl⟩))) ?_
  · show some (f10_forget 0 (nI i) σ) = _
    rw [ef, er]
  · unfold f11_forget
    rw [in02, if_neg c1, show (2 : Int32) = nI 2 from rfl, nI_add, inb_nI (by omega) (by decide), ck_t, ck_t, lt_e, nI_clamp (by omega)]
    rfl
  · rw [sA_at]
    rcases (show i = 0 ∨ i = 1 ∨ i = 2 by omega) with rfl | rfl | rfl
    · exact forget_q (s' := 0) (n' := n) (m' := m) (by decide) hv hr (by omega)
    · exact forget_q (s' := s) (n' := 0) (m' := m) (by decide) hv hr (by omega)
    · exact forget_q (s' := s) (n' := n) (m' := 0) (by decide) hv hr (by omega)
/-! type, clear -/
theorem Inv.text {σ τ : Mem} (h : Inv σ) (hX : InvX τ) (ho : ∀ c k j, c = 7 ∨ c = 20 ∨ c = 4 ∨ c = 10 ∨ (c = 22 ∧ k < 9) → τ.1 c k j = σ.1 c k j) (h2 : τ.2 = σ.2) : Inv τ := by
  obtain ⟨h1, ⟨g1, g2, g3⟩, h3, -, h5, h6⟩ := h
  have z : τ.1 22 0 = σ.1 22 0 := funext fun j => ho _ _ _ (by omega)
  refine ⟨?_, ⟨g1.congr (fun k _ _ => ⟨ho _ _ _ (by omega), ho _ _ _ (by omega)⟩), g2.congr (fun k _ _ => ⟨ho _ _ _ (by omega), ho _ _ _ (by omega)⟩), g3.congr (fun k _ _ => ⟨ho _ _ _ (by omega), ho _ _ _ (by omega)⟩)⟩, h3.congr (fun i _ => ho _ _ _ (by omega)) (fun i _ => ho _ _ _ (by omega)) (fun j => ho _ _ _ (by omega)) (fun k j _ => ho _ _ _ (by omega)) (fun k j _ => ho _ _ _ (by omega)) (fun v j _ _ => ho _ _ _ (by omega)), hX, ⟨by rw [h2]; exact h5.1, by rw [h2]; exact h5.2⟩, fun i hi => ?_⟩
  · rw [z]
    exact h1.congr (fun k j _ _ => ho _ _ _ (by omega)) (fun k j _ _ => ho _ _ _ (by omega)) (fun j => ho _ _ _ (by omega)) (fun j _ => rfl)
  · rw [ho _ _ _ (by omega), ho _ _ _ (by omega)]
    exact h6 i hi
theorem in0127 (x : Int32) : f11_in x.toInt64 0 127 = f10_within x 0 (nI 127) := in_within x 0 127
theorem ok_type {σ : Mem} (x1 : Int32) (h : Inv σ) : OKc (f10_type 0 x1) (f11_type 0 x1) σ := by
  obtain ⟨len, l1, l2, l3, l4⟩ := h.2.2.2.1
  by_cases c1 : f10_within x1 0 (nI 127) = 0
  · refine ok_bad h ?_ ?_
    · unfold f10_type
      rw [show (127 : Int32) = nI 127 from rfl, if_pos c1]; rfl
    · unfold f11_type
      rw [in0127, if_pos c1]; rfl
  obtain ⟨c, hc, rfl⟩ := wi_yes (by decide) c1
  by_cases cs : len = 150
  · refine ok_full h ?_ ?_
    · unfold f10_type f8_isFull
      rw [show (127 : Int32) = nI 127 from rfl, if_neg c1, l2, cs, if_neg (by decide)]; rfl
    · unfold f11_type
      rw [in0127, if_neg c1, show (f10_refuseFull 0 σ).2.1 11 0 12 = nI len from l3, cs, if_pos (by rfl)]; rfl
  have e1 : f8_add 0 (nI c) σ = some (sI (sI σ 21 1 len (nI c)) 8 0 2 (nI (len + 1))) := by
    unfold f8_add
    rw [l2, put_row (N := 150) rfl (by decide) (by omega), bnd_s, lt_e, show (sI σ 21 1 len (nI c)).1 8 0 2 = nI len from l2, nI_1]
  obtain ⟨τ1, hτ⟩ : ∃ τ1 : Mem, τ1 = sI (sI σ 21 1 len (nI c)) 8 0 2 (nI (len + 1)) := ⟨_, rfl⟩
  obtain ⟨τ2, hτ2⟩ : ∃ τ2 : Mem, τ2 = sI (sI τ1 22 9 len (nI c)) 11 0 12 (nI (len + 1)) := ⟨_, rfl⟩
  have r2 : ∀ c' k j, τ2.1 c' k j = if c' = 11 ∧ k = 0 ∧ j = 12 then nI (len + 1) else if c' = 22 ∧ k = 9 ∧ j = len then nI c else if c' = 8 ∧ k = 0 ∧ j = 2 then nI (len + 1) else if c' = 21 ∧ k = 1 ∧ j = len then nI c else σ.1 c' k j := fun c' k j => by
    rw [hτ2, hτ]
    simp only [rdI]
  refine ⟨nI (len + 1), τ1, τ2, ?_, ?_, h.text ⟨len + 1, by omega, ?_, ?_, fun i hi => ?_⟩ (fun c' k j ho => ?_) (by rw [hτ2, hτ]; rfl), by rw [hτ]; rfl, by rw [hτ2, hτ]; rfl⟩
  · unfold f10_type f8_isFull
    rw [show (127 : Int32) = nI 127 from rfl, if_neg c1, l2, if_pos (ltR len 150), if_pos rfl, e1, bnd_s, hτ]
    unfold f8_length
    rw [rdI, if_pos ⟨rfl, rfl, rfl⟩]
  · unfold f11_type
    rw [in0127, if_neg c1, show τ1.1 11 0 12 = nI len from by rw [hτ]; exact l3, if_neg (neR len 150 cs), inb_nI (by omega) (by decide), ck_t, nI_clamp (by omega), lt_e, lt_e, show (sI τ1 22 9 len (nI c)).1 11 0 12 = nI len from by rw [hτ]; exact l3, nI_1, ← hτ2, r2, if_pos ⟨rfl, rfl, rfl⟩]
  · rw [r2, if_neg (by omega), if_neg (by omega), if_pos ⟨rfl, rfl, rfl⟩]
  · rw [r2, if_pos ⟨rfl, rfl, rfl⟩]
  · have w1 : τ2.1 21 1 i = if i = len then nI c else σ.1 21 1 i := by
      rw [r2, if_neg (by omega), if_neg (by omega), if_neg (by omega)]
      by_cases q : i = len
      · rw [if_pos ⟨rfl, rfl, q⟩, if_pos q]
      · rw [if_neg (fun z => q z.2.2), if_neg q]
    have w2 : τ2.1 22 9 i = if i = len then nI c else σ.1 22 9 i := by
      rw [r2, if_neg (by omega)]
      by_cases q : i = len
      · rw [if_pos ⟨rfl, rfl, q⟩, if_pos q]
      · rw [if_neg (fun z => q z.2.2), if_neg (by omega), if_neg (by omega), if_neg q]
    rw [w1, w2]
    by_cases q : i = len
    · rw [if_pos q, if_pos q]
      exact ⟨rfl, c, hc, rfl⟩
    · rw [if_neg q, if_neg q]
      exact l4 i (by omega)
  · rw [r2, if_neg (by omega), if_neg (by omega), if_neg (by omega), if_neg (by omega)]
theorem ok_clear {σ : Mem} (h : Inv σ) : OKc (fun σ => some (f10_clear 0 σ)) (fun σ => some (f11_clear 0 σ)) σ := by
  obtain ⟨len, l1, l2, l3, l4⟩ := h.2.2.2.1
  refine ⟨nI len, sI σ 8 0 2 0, sI (sI σ 8 0 2 0) 11 0 12 0, ?_, ?_, h.text ⟨0, by omega, rfl, rfl, fun i hi => absurd hi (Nat.not_lt_zero i)⟩ (fun c k j ho => ?_) rfl, rfl, rfl⟩
  · show some (f10_clear 0 σ) = _
    unfold f10_clear f8_empty f8_length
    rw [lt_e, lt_e, l2]
  · show some (f11_clear 0 (sI σ 8 0 2 0)) = _
    unfold f11_clear
    rw [lt_e, show (sI σ 8 0 2 0).1 11 0 12 = nI len from l3]
  · rw [rdI, if_neg (by omega), rdI, if_neg (by omega)]
