/-! how tall; who stands ahead of him -/
def tlA (A : Nat → Nat) (k h : Nat) : Nat → Nat := fun j => if j = 28 + k then h else A j
theorem tlA_AR {A : Nat → Nat} (hA : AR A) {k h : Nat} (hk : k < A 0) (hh : h ≤ 30) : AR (tlA A k h) := by
  have h6 := hA.1.1
  refine ⟨⟨?_, ?_⟩, fun y hy => ⟨?_, ?_⟩, fun i hi => ⟨?_, ?_, ?_⟩, fun i hi => ?_⟩
  · show (if 0 = 28 + k then h else A 0) ≤ 6
    rw [if_neg (by omega)]; exact hA.1.1
  · show (if 1 = 28 + k then h else A 1) ≤ 6
    rw [if_neg (by omega)]; exact hA.1.2
  · show (if 10 + y = 28 + k then h else A (10 + y)) ≤ 11
    rw [if_neg (by omega)]; exact (hA.2.1 y hy).1
  · show (if 16 + y = 28 + k then h else A (16 + y)) ≤ 9
    rw [if_neg (by omega)]; exact (hA.2.1 y hy).2
  · have hi' : i < A 0 := by
      rw [show tlA A k h 0 = A 0 from if_neg (by omega)] at hi; exact hi
    show (if 22 + i = 28 + k then h else A (22 + i)) ≤ 5
    rw [if_neg (by omega)]; exact (hA.2.2.1 i hi').1
  · have hi' : i < A 0 := by
      rw [show tlA A k h 0 = A 0 from if_neg (by omega)] at hi; exact hi
    show (if 28 + i = 28 + k then h else A (28 + i)) ≤ 30
    split
    · exact hh
    · exact (hA.2.2.1 i hi').2.1
  · have hi' : i < A 0 := by
      rw [show tlA A k h 0 = A 0 from if_neg (by omega)] at hi; exact hi
    show (if 34 + i = 28 + k then h else A (34 + i)) ≤ 11
    rw [if_neg (by omega)]; exact (hA.2.2.1 i hi').2.2
  · have hi' : i < A 1 := by
      rw [show tlA A k h 1 = A 1 from if_neg (by omega)] at hi; exact hi
    show (if 40 + i = 28 + k then h else A (40 + i)) ≤ 5
    rw [if_neg (by omega)]; exact hA.2.2.2 i hi'
theorem struckIfT {σ : Mem} {A : Nat → Nat} {u y c k h : Nat} (hC : HV 0 σ A) (hA : AR A) (hu : u < 64) (hy : y < 2000) (hc : c ≤ 11) (m0 : σ.1 4 0 0 = nI u) (m3 : σ.1 4 0 3 = nI y) (hk : k < A 0) (hh : h ≤ 30) :
    f9_struckIf 0 (nI c) 0 (nI k) (nI h) σ = some (st (tlA A k h) u y c) := by
  have h6 := hA.1.1
  have e0 : tlA A k h 0 = A 0 := if_neg (by omega)
  obtain ⟨z, e⟩ := struckIf_lp (x3 := nI k) (x4 := nI h) hC hA (tlA_AR hA hk hh) hu hy hc m0 m3 e0 (fun i hi => ⟨if_neg (by omega), if_neg (by omega), fun q => by
    have : i = k := (nI_eq (by omega) (by omega)).mp q
    rw [this]
    show nI h = nI (if 28 + k = 28 + k then h else A (28 + k))
    rw [if_pos rfl], fun q => if_neg (fun w => q (by rw [show i = k by omega]))⟩) (A 0) 2000 0 (-1) 0 (by omega) (by omega) (by omega)
  unfold f9_struckIf
  rw [show l9_struckIf_9 0 (nI c) 0 (nI k) (nI h) σ 2000 (-1) 0 0 = _ from e, bnd_s]
  unfold st
  rw [e0]
/-- whether a seen one is so -/
def sfit (a : Nat → Int32) (B : Nat → Nat) (u y i : Nat) : Bool := decide (st B u y (Aof a (46 + 2 * i)) = a (46 + 2 * i + 1))
theorem fitsSeen_ok {σ : Mem} {A : Nat → Nat} {a : Nat → Int32} {q : QT} {k h s : Nat} (hC : HV 0 σ A) (hA : AR A) (hM : Mo (σ.1 4 0) q) (hq : QR A q) (hy : q.2.2.2 < 2000) (hk : k < A 0) (hh : h ≤ 30)
    (s3 : σ.1 7 3 3 = nI s) (w3 : σ.1 7 3 1 = nI 2) (hs : s ≤ 5) (hl : ∀ i, i < 2 * s → σ.1 20 3 i = a (46 + i)) (hx : ∀ i, i < s → ∃ c, c ≤ 11 ∧ a (46 + 2 * i) = nI c) :
    f9_fitsSeen 0 (nI k) (nI h) σ = some (bI (aB (sfit a (tlA A k h) q.1 q.2.2.2) s)) := by
  have u6 := pow64 hA.1.1 hq.1
  have lp : ∀ (r n i : Nat), i + r = s → r < n → aB (sfit a (tlA A k h) q.1 q.2.2.2) i = true → ∃ o, l9_fitsSeen_2 0 (nI k) (nI h) σ n (nI i) = some o ∧ sm o (fun _ => (1 : Int32)) (fun z => z) = bI (aB (sfit a (tlA A k h) q.1 q.2.2.2) s) := by
    intro r
    induction r with
    | zero =>
      intro n i h1 h2 h3
      obtain ⟨n, rfl⟩ : ∃ q, n = q + 1 := ⟨n - 1, by omega⟩
      obtain rfl : i = s := by omega
      exact ⟨.inl (nI i), by rw [l9_fitsSeen_2, f7_size, show σ.1 7 (7 * 0 + 3) 3 = nI i from s3, if_pos (nI_le (by omega) (by omega))], by rw [h3]; rfl⟩
    | succ r ih =>
      intro n i h1 h2 h3
      obtain ⟨n, rfl⟩ : ∃ q, n = q + 1 := ⟨n - 1, by omega⟩
      have hi : i < s := by omega
      obtain ⟨c, hc, ec⟩ := hx i hi
      have a0 : f7_at (7 * 0 + 3) (nI i) 0 σ = some (nI c) := by
        rw [show f7_at (7 * 0 + 3) (nI i) 0 σ = _ from at_ok (i := i) (j := 0) (n := s) (w := 2) (N := 10) s3 w3 rfl hi (by decide) (by omega) (by omega), ← ec, show i * 2 + 0 = 2 * i by omega]
        exact congrArg some (hl _ (by omega))
      have a1 : f7_at (7 * 0 + 3) (nI i) 1 σ = some (a (46 + 2 * i + 1)) := by
        rw [show f7_at (7 * 0 + 3) (nI i) 1 σ = _ from at_ok (i := i) (j := 1) (n := s) (w := 2) (N := 10) s3 w3 rfl hi (by decide) (by omega) (by omega), show i * 2 + 1 = 2 * i + 1 by omega]
        exact congrArg some (hl _ (by omega))
      have hP : sfit a (tlA A k h) q.1 q.2.2.2 i = decide (st (tlA A k h) q.1 q.2.2.2 c = a (46 + 2 * i + 1)) := by
        unfold sfit
        rw [aof ec (by omega)]
      rw [l9_fitsSeen_2, f7_size, show σ.1 7 (7 * 0 + 3) 3 = nI s from s3, if_neg (nI_ge hi (by omega)), a0, bnd_s, struckIfT hC hA u6 hy hc hM.1 hM.2.2.2 hk hh, bnd_s, a1, bnd_s, nI_1]
      by_cases z : st (tlA A k h) q.1 q.2.2.2 c = a (46 + 2 * i + 1)
      · rw [if_pos z]
        exact ih n (i + 1) (by omega) (by omega) (by
          show (aB _ i && sfit a (tlA A k h) q.1 q.2.2.2 i) = true
          rw [h3, hP, decide_eq_true z]; rfl)
      · rw [if_neg z]
        refine ⟨.inr 0, rfl, ?_⟩
        have gen : ∀ m, i < m → aB (sfit a (tlA A k h) q.1 q.2.2.2) m = false := by
          intro m
          induction m with
          | zero => exact fun w => absurd w (Nat.not_lt_zero i)
          | succ m ih2 =>
            intro w
            show (aB _ m && sfit a (tlA A k h) q.1 q.2.2.2 m) = false
            rcases (show i < m ∨ m = i by omega) with w2 | w2
            · rw [ih2 w2]; rfl
            · rw [w2, hP, decide_eq_false z, Bool.and_false]
        rw [gen s hi]; rfl
  obtain ⟨o, e1, e2⟩ := lp s 2000 0 (by omega) (by omega) rfl
  unfold f9_fitsSeen
  rw [show l9_fitsSeen_2 0 (nI k) (nI h) σ 2000 0 = _ from e1, bnd_s, ← e2]
  rcases o with o | o <;> rfl
theorem isSeenBy_ok {σ : Mem} {A : Nat → Nat} {q : QT} {k h s : Nat} {g : Nat → Int32} (hR : RV (σ.1 22 0) A) (hA : AR A) (hM : Mr (σ.1 22 0) q) (hq : QR A q) (hy : q.2.2.2 < 2000) (hk : k < A 0) (hh : h ≤ 30)
    (s3 : σ.1 22 0 2 = nI s) (hs : s ≤ 5) (hx : ∀ i, i < s → ∃ c, c ≤ 11 ∧ σ.1 22 0 (46 + 2 * i) = nI c) :
    ∃ g', f11_isSeenBy 0 (nI k) (nI h) (sA σ 22 4 g) = some (bI (aB (sfit (σ.1 22 0) (tlA A k h) q.1 q.2.2.2) s), sA σ 22 4 g') := by
  have u6 := pow64 hA.1.1 hq.1
  have h6 := hA.1.1
  obtain ⟨g1, e1, hg⟩ := layHand_ok (k0 := 0) (σ := sA σ 22 4 g)
  rw [sA_sA] at e1
  have hg' : ∀ j, j < 46 → g1 j = σ.1 22 0 j := hg
  obtain ⟨b, hb⟩ : ∃ b : Nat → Int32, b = upd g1 (28 + k) (nI h) := ⟨_, rfl⟩
  have hT0 : tlA A k h 0 = A 0 := if_neg (by omega)
  have hT1 : tlA A k h 1 = A 1 := if_neg (by omega)
  have hRb : RV b (tlA A k h) := by
    have R := hand_RV hA hR hg'
    have n1 : ∀ j, ¬ j = 28 + k → tlA A k h j = A j := fun j hj => if_neg hj
    refine ⟨⟨?_, ?_⟩, fun y hy => ⟨?_, ?_⟩, fun i hi => ⟨?_, ?_, ?_⟩, fun i hi => ?_⟩
    · rw [hb, up_n (by omega), n1 _ (by omega)]; exact R.1.1
    · rw [hb, up_n (by omega), n1 _ (by omega)]; exact R.1.2
    · rw [hb, up_n (by omega), n1 _ (by omega)]; exact (R.2.1 y hy).1
    · rw [hb, up_n (by omega), n1 _ (by omega)]; exact (R.2.1 y hy).2
    · rw [hT0] at hi
      rw [hb, up_n (by omega), n1 _ (by omega)]; exact (R.2.2.1 i hi).1
    · rw [hT0] at hi
      by_cases z : i = k
      · subst z
        rw [hb, up_s]
        show nI h = nI (if 28 + i = 28 + i then h else A (28 + i))
        rw [if_pos rfl]
      · rw [hb, up_n (by omega), n1 _ (by omega)]; exact (R.2.2.1 i hi).2.1
    · rw [hT0] at hi
      rw [hb, up_n (by omega), n1 _ (by omega)]; exact (R.2.2.1 i hi).2.2
    · rw [hT1] at hi
      rw [hb, up_n (by omega), n1 _ (by omega)]; exact R.2.2.2 i hi
  have b6 : b 6 = nI q.1 := by rw [hb, up_n (by omega), hg' 6 (by decide)]; exact hM.1
  have b9 : b 9 = nI q.2.2.2 := by rw [hb, up_n (by omega), hg' 9 (by decide)]; exact hM.2.2.2
  have lp : ∀ (r n i : Nat), i + r = s → r < n → ∃ z, l11_isSeenBy_19 0 (sA σ 22 4 b) n (bI (aB (sfit (σ.1 22 0) (tlA A k h) q.1 q.2.2.2) i)) (nI i) = some (bI (aB (sfit (σ.1 22 0) (tlA A k h) q.1 q.2.2.2) s), z) := by
    intro r
    induction r with
    | zero =>
      intro n i h1 h2
      obtain ⟨n, rfl⟩ : ∃ q, n = q + 1 := ⟨n - 1, by omega⟩
      obtain rfl : i = s := by omega
      exact ⟨nI i, by rw [l11_isSeenBy_19, show (sA σ 22 4 b).1 22 0 2 = nI i from s3, if_pos (nI_le (by omega) (by omega))]⟩
    | succ r ih =>
      intro n i h1 h2
      obtain ⟨n, rfl⟩ : ∃ q, n = q + 1 := ⟨n - 1, by omega⟩
      have hi : i < s := by omega
      obtain ⟨c, hc, ec⟩ := hx i hi
      have hP : sfit (σ.1 22 0) (tlA A k h) q.1 q.2.2.2 i = decide (st (tlA A k h) q.1 q.2.2.2 c = σ.1 22 0 (46 + 2 * i + 1)) := by
        unfold sfit
        rw [aof ec (by omega)]
      have hso : (if bI (aB (sfit (σ.1 22 0) (tlA A k h) q.1 q.2.2.2) i) = 0 then some 0 else (ck (inb (46 + (2 * nI i)) 142) <| bnd (f11_struckOf 4 ((sA σ 22 4 b).1 22 4 6) ((sA σ 22 4 b).1 22 0 ((46 + (2 * nI i)) : Int32).toNatClampNeg) (sA σ 22 4 b)) fun w8 => ck (inb ((46 + (2 * nI i)) + 1) 142) <| if w8 = ((sA σ 22 4 b).1 22 0 (((46 + (2 * nI i)) + 1) : Int32).toNatClampNeg) then some 1 else some 0) : Option Int32) = some (bI (aB (sfit (σ.1 22 0) (tlA A k h) q.1 q.2.2.2) (i + 1))) := by
        rw [show aB (sfit (σ.1 22 0) (tlA A k h) q.1 q.2.2.2) (i + 1) = (aB (sfit (σ.1 22 0) (tlA A k h) q.1 q.2.2.2) i && sfit (σ.1 22 0) (tlA A k h) q.1 q.2.2.2 i) from rfl, hP]
        cases aB (sfit (σ.1 22 0) (tlA A k h) q.1 q.2.2.2) i with
        | false => rfl
        | true =>
          rw [if_neg (show ¬ bI true = 0 by decide), show (46 : Int32) = nI 46 from rfl, show (2 : Int32) = nI 2 from rfl, pk_mul, nI_add, nI_1, inb_nI (by omega) (by decide), inb_nI (by omega) (by decide), ck_t, nI_clamp (by omega), nI_clamp (by omega), show (sA σ 22 4 b).1 22 0 = σ.1 22 0 from rfl, ec, sA_at, b6, struckOf_ok (σ := sA σ 22 4 b) (A := tlA A k h) (y := q.2.2.2) Kr4 (by rw [sA_at]; exact hRb) (tlA_AR hA hk hh) u6 hy hc (by rw [sA_at]; exact b9), bnd_s, ck_t]
          by_cases z : st (tlA A k h) q.1 q.2.2.2 c = σ.1 22 0 (46 + 2 * i + 1)
          · rw [if_pos z, decide_eq_true z]; rfl
          · rw [if_neg z, decide_eq_false z]; rfl
      rw [l11_isSeenBy_19, show (sA σ 22 4 b).1 22 0 2 = nI s from s3, if_neg (nI_ge hi (by omega)), hso, bnd_s, nI_1]
      exact ih n (i + 1) (by omega) (by omega)
  obtain ⟨z, e2⟩ := lp s 2000 0 (by omega) (by omega)
  refine ⟨b, ?_⟩
  unfold f11_isSeenBy
  rw [e1, bnd_s, show (28 : Int32) = nI 28 from rfl, nI_add, inb_nI (by omega) (by decide), ck_t, nI_clamp (by omega), lt_e, sI_sA, ← hb, show l11_isSeenBy_19 0 (sA σ 22 4 b) 2000 1 0 = _ from e2, bnd_s]
  cases aB (sfit (σ.1 22 0) (tlA A k h) q.1 q.2.2.2) s <;> rfl
/-- heights that fit: how many, the least, the greatest -/
def tlL (P : Nat → Bool) : Nat → Nat → Nat → Int32 → Int32 → Int32 × Int32 × Int32
  | 0, _, n, l, g => (nI n, l, g)
  | r + 1, h, n, l, g => if P h = true then tlL P r (h + 1) (n + 1) (if n = 0 then nI h else l) (nI h) else tlL P r (h + 1) n l g
theorem ok_tall {σ : Mem} (x1 x2 : Int32) (h : Inv σ) : OKc (f10_tall 0 x1 x2) (f11_tall 0 x1 x2) σ := by
  obtain ⟨t, p, s, n, m, e, hv, hr⟩ := h.vr
  obtain ⟨hC, hM⟩ := hv.HV hr
  obtain ⟨hA, hR⟩ := hr.AR
  obtain ⟨hm, hq, hy⟩ := hr.Mr
  have e0 := hr.aof0.1
  obtain ⟨b1, b2, b3, b4, b5, b6⟩ := hr.2.1
  by_cases c1 : f10_within x1 0 (nI t - 1) = 0
  · refine ok_bad h ?_ ?_
    · unfold f10_tall
      rw [hC.isT, e0, if_pos c1]; rfl
    · unfold f11_tall
      rw [RV.isT (A := Aof (σ.1 22 0)) (by rw [bad0]; exact hR), e0, if_pos c1]; rfl
  obtain ⟨k, hk, rfl⟩ := wi_thing (by omega) c1
  by_cases c2 : f10_within x2 0 (nI 2) = 0
  · refine ok_bad h ?_ ?_
    · unfold f10_tall
      rw [hC.isT, e0, if_neg c1, n2, if_pos c2]; rfl
    · unfold f11_tall
      rw [RV.isT (A := Aof (σ.1 22 0)) (by rw [bad0]; exact hR), e0, if_neg c1, in02, if_pos c2]; rfl
  obtain ⟨w, hw, rfl⟩ := wi_yes (by decide) c2
  obtain ⟨P, hP⟩ : ∃ P : Nat → Bool, P = fun h => aB (sfit (σ.1 22 0) (tlA (Aof (σ.1 22 0)) k h) (qof (σ.1 22 0)).1 (qof (σ.1 22 0)).2.2.2) s := ⟨_, rfl⟩
  have fC : ∀ h, h ≤ 30 → f9_fitsSeen 0 (nI k) (nI h) σ = some (bI (P h)) := fun h hh => by
    rw [hP]
    exact fitsSeen_ok hC hA hM hq (by omega) (by omega) hh hv.2.1.2.2.2.1 (hv.1 3 (by decide)).2 b3 hv.2.2.2.2.2.2.1 hr.2.2.2.2.2.2.2.1
  have fR : ∀ h g, h ≤ 30 → ∃ g', f11_isSeenBy 0 (nI k) (nI h) (sA σ 22 4 g) = some (bI (P h), sA σ 22 4 g') := fun h g hh => by
    rw [hP]
    exact isSeenBy_ok hR hA hm hq (by omega) (by omega) hh hr.1.2.2.1 b3 hr.2.2.2.2.2.2.2.1
  have lpC : ∀ (r f h n : Nat) (l g : Int32), h + r = 31 → r < f → n ≤ h → (n = 0 → l = -1) → (0 < n → ¬ l = -1) → ∃ z, l10_tall_33 0 (nI k) (nI w) σ f (nI n) l g (nI h) = some ((tlL P r h n l g).1, (tlL P r h n l g).2.1, (tlL P r h n l g).2.2, z) := by
    intro r
    induction r with
    | zero =>
      intro f h n l g h1 h2 h3 h4 h5
      obtain ⟨f, rfl⟩ : ∃ q, f = q + 1 := ⟨f - 1, by omega⟩
      obtain rfl : h = 31 := by omega
      exact ⟨nI 31, by rw [l10_tall_33, if_pos (by decide)]; rfl⟩
    | succ r ih =>
      intro f h n l g h1 h2 h3 h4 h5
      obtain ⟨f, rfl⟩ : ∃ q, f = q + 1 := ⟨f - 1, by omega⟩
      rw [l10_tall_33, if_neg (nltL 30 h), fC h (by omega), bnd_s, nI_1, nI_1]
      unfold tlL
      cases P h with
      | true =>
        rw [if_neg (show ¬ bI true = 0 by decide), if_pos rfl, lt_e, lt_e]
        by_cases z : n = 0
        · rw [if_pos (h4 z), if_pos z]
          exact ih f (h + 1) (n + 1) (nI h) (nI h) (by omega) (by omega) (by omega) (by omega) (fun _ q => by
            have h2 : (nI h).toInt = (-1 : Int32).toInt := congrArg Int32.toInt q
            rw [nI_toInt (by omega), show (-1 : Int32).toInt = -1 by decide] at h2
            omega)
        · rw [if_neg (h5 (by omega)), if_neg z]
          exact ih f (h + 1) (n + 1) l (nI h) (by omega) (by omega) (by omega) (by omega) (fun _ => h5 (by omega))
      | false =>
        rw [if_pos (show bI false = 0 by rfl), if_neg (by decide), lt_e]
        exact ih f (h + 1) n l g (by omega) (by omega) (by omega) h4 h5
  have lpR : ∀ (r f h n : Nat) (l g : Int32) (b : Nat → Int32), h + r = 31 → r < f → n ≤ h → ∃ z b', l11_tall_38 0 (nI k) (nI w) f (nI n) l g (nI h) (sA σ 22 4 b) = some ((tlL P r h n l g).1, (tlL P r h n l g).2.1, (tlL P r h n l g).2.2, z, sA σ 22 4 b') := by
    intro r
    induction r with
    | zero =>
      intro f h n l g b h1 h2 h3
      obtain ⟨f, rfl⟩ : ∃ q, f = q + 1 := ⟨f - 1, by omega⟩
      obtain rfl : h = 31 := by omega
      exact ⟨nI 31, b, by rw [l11_tall_38, if_pos (by decide)]; rfl⟩
    | succ r ih =>
      intro f h n l g b h1 h2 h3
      obtain ⟨f, rfl⟩ : ∃ q, f = q + 1 := ⟨f - 1, by omega⟩
      obtain ⟨b', eb⟩ := fR h b (by omega)
      rw [l11_tall_38, if_neg (nltL 30 h), eb, bnd_s, nI_1, nI_1]
      unfold tlL
      cases P h with
      | true =>
        rw [if_neg (show ¬ bI true = 0 by decide), if_pos rfl, lt_e, lt_e]
        by_cases z : n = 0
        · rw [if_pos (by rw [z]; rfl), if_pos z]
          exact ih f (h + 1) (n + 1) (nI h) (nI h) b' (by omega) (by omega) (by omega)
        · rw [if_neg (nI_ne0 (by omega) (by omega)), if_neg z]
          exact ih f (h + 1) (n + 1) l (nI h) b' (by omega) (by omega) (by omega)
      | false =>
        rw [if_pos (show bI false = 0 by rfl), if_neg (by decide), lt_e]
        exact ih f (h + 1) n l g b' (by omega) (by omega) (by omega)
  obtain ⟨z1, e1⟩ := lpC 30 2000 1 0 (-1) (-1) (by omega) (by omega) (by omega) (fun _ => rfl) (fun q => absurd q (by decide))
  obtain ⟨z2, b', e2⟩ := lpR 30 2000 1 0 (-1) (-1) (σ.1 22 4) (by omega) (by omega) (by omega)
  rw [sA_self] at e2
  refine ok_scr (r := if nI w = 0 then (tlL P 30 1 0 (-1) (-1)).1 else if nI w = 1 then (tlL P 30 1 0 (-1) (-1)).2.1 else (tlL P 30 1 0 (-1) (-1)).2.2) (τ1 := σ) (τ2 := sA σ 22 4 b') h ?_ (Sc.rf σ) ?_ (Sc.row (Or.inr (Or.inl ⟨rfl, by decide, by decide⟩)))
  · unfold f10_tall
    rw [hC.isT, e0, if_neg c1, n2, if_neg c2, show l10_tall_33 0 (nI k) (nI w) σ 2000 0 (-1) (-1) 1 = _ from e1, bnd_s]
    by_cases q0 : nI w = 0
    · rw [if_pos q0, if_pos q0]
    · rw [if_neg q0, if_neg q0]
      by_cases q1 : nI w = 1
      · rw [if_pos q1, if_pos q1]
      · rw [if_neg q1, if_neg q1]
  · unfold f11_tall
    rw [hR.isT, e0, if_neg c1, in02, if_neg c2, show l11_tall_38 0 (nI k) (nI w) 2000 0 (-1) (-1) 1 σ = _ from e2, bnd_s]
    by_cases q0 : nI w = 0
    · rw [if_pos q0, if_pos q0]
    · rw [if_neg q0, if_neg q0]
      by_cases q1 : nI w = 1
      · rw [if_pos q1, if_pos q1]
      · rw [if_neg q1, if_neg q1]
/-! who would be struck ahead of him -/
theorem stk_ne {w : Nat → Nat} : ∀ (m i : Nat) (b : Int32) (x : Nat), ¬ b = 0 → 1 ≤ i → i + m ≤ 6 → ¬ stk w m i b x = 0
  | 0, _, _, _, h, _, _ => h
  | m + 1, i, b, x, h, h1, h2 => by
    unfold stk
    split
    · exact stk_ne m (i + 1) _ _ (nI_ne0 (by omega) (by omega)) (by omega) (by omega)
    · exact stk_ne m (i + 1) _ _ h (by omega) (by omega)
theorem stk_0 {w : Nat → Nat} {x : Nat} : ∀ (m i : Nat), 1 ≤ i → i + m ≤ 6 → (stk w m i 0 x = 0 ↔ ∀ k, i ≤ k → k < i + m → w k ≤ x)
  | 0, i, _, _ => ⟨fun _ k h1 h2 => absurd h2 (by omega), fun _ => rfl⟩
  | m + 1, i, h1, h2 => by
    unfold stk
    by_cases z : x < w i
    · rw [if_pos z]
      constructor
      · exact fun q => absurd q (stk_ne m (i + 1) _ _ (nI_ne0 (by omega) (by omega)) (by omega) (by omega))
      · exact fun q => absurd (q i (Nat.le_refl i) (by omega)) (by omega)
    · rw [if_neg z, stk_0 m (i + 1) (by omega) (by omega)]
      constructor
      · intro q k k1 k2
        rcases (show k = i ∨ i + 1 ≤ k by omega) with e | e
        · rw [e]; omega
        · exact q k e (by omega)
      · exact fun q k k1 k2 => q k (by omega) (by omega)
def SS (A : Nat → Nat) (y c : Nat) : Nat := bset (fun k => decide (1 ≤ k ∧ k < A 0 ∧ dw A y c 0 < dw A y c k)) 6
theorem SS_t {A : Nat → Nat} {y c k : Nat} (hk : k < 6) : (SS A y c).testBit k = decide (1 ≤ k ∧ k < A 0 ∧ dw A y c 0 < dw A y c k) := bset_t6 hk
theorem SS_lt (A : Nat → Nat) (y c : Nat) : SS A y c < 64 := bset6 _
theorem st_zero {A : Nat → Nat} {u y c : Nat} (hA : AR A) (hu : u < 64) : st A u y c = 0 ↔ 0 < A 0 ∧ u.testBit 0 = true ∧ 1 ≤ dw A y c 0 ∧ u &&& SS A y c = 0 := by
  have h6 := hA.1.1
  unfold st
  rcases ht : A 0 with _ | t
  · constructor
    · intro q
      exact absurd (show (-1 : Int32) = 0 from q) (by decide)
    · exact fun q => absurd q.1 (Nat.lt_irrefl 0)
  unfold stk
  have w0 : wu A u y c 0 = if u.testBit 0 = true then dw A y c 0 else 0 := rfl
  by_cases z : 0 < wu A u y c 0
  · rw [if_pos z, show (nI 0) = 0 from rfl, stk_0 t 1 (by omega) (by omega)]
    have hb : u.testBit 0 = true := by
      by_cases q : u.testBit 0 = true
      · exact q
      · rw [w0, if_neg q] at z; exact absurd z (Nat.lt_irrefl 0)
    rw [w0, if_pos hb] at z
    constructor
    · intro q
      refine ⟨by omega, hb, z, bits_ext (Nat.and_lt_two_pow (n := 6) _ (SS_lt A y c)) (by decide) (fun k hk => ?_)⟩
      rw [Nat.testBit_and, SS_t hk, Nat.zero_testBit]
      by_cases e : u.testBit k = true ∧ (1 ≤ k ∧ k < A 0 ∧ dw A y c 0 < dw A y c k)
      · have := q k e.2.1 (by omega)
        rw [w0, if_pos hb] at this
        unfold wu at this
        rw [if_pos e.1] at this
        omega
      · by_cases e1 : u.testBit k = true
        · rw [decide_eq_false (fun e2 => e ⟨e1, e2⟩), Bool.and_false]
        · rw [Bool.eq_false_iff.mpr e1]; rfl
    · intro q k k1 k2
      rw [w0, if_pos hb]
      unfold wu
      by_cases e1 : u.testBit k = true
      · rw [if_pos e1]
        have hz : (u &&& SS A y c).testBit k = Nat.testBit 0 k := congrArg (fun x => Nat.testBit x k) q.2.2.2
        rw [Nat.testBit_and, SS_t (by omega), Nat.zero_testBit, e1, Bool.true_and] at hz
        have := of_decide_eq_false hz
        omega
      · rw [if_neg e1]; exact Nat.zero_le _
  · rw [if_neg z]
    constructor
    · exact fun q => absurd q (stk_ne t 1 _ _ (by decide) (by omega) (by omega))
    · intro q
      rw [w0, if_pos q.2.1] at z
      omega
def mbh (A : Nat → Nat) (u y c : Nat) : Bool := u.testBit 0 && decide (1 ≤ dw A y c 0)
theorem things_of {A : Nat → Nat} {u : Nat} (hu : u < 2 ^ A 0) (h : u.testBit 0 = true) : 0 < A 0 := by
  rcases ht : A 0 with _ | t
  · rw [ht] at hu
    have : u = 0 := by omega
    rw [this, Nat.zero_testBit] at h
    exact absurd h (by decide)
  · omega
theorem mayBe_ok {σ : Mem} {A : Nat → Nat} {q : QT} {c : Nat} (hC : HV 0 σ A) (hA : AR A) (hM : Mo (σ.1 4 0) q) (hq : QR A q) (hy : q.2.2.2 < 2000) (hc : c ≤ 11) : f9_mayBeHim 0 (nI c) σ = some (bI (mbh A q.1 q.2.2.2 c)) := by
  have u6 := pow64 hA.1.1 hq.1
  unfold f9_mayBeHim mbh
  rw [show f4_isUp 0 0 σ = _ from upN (k := 0) hM.1 u6 (by decide)]
  cases hb : q.1.testBit 0 with
  | false => rfl
  | true =>
    have h0 := things_of hq.1 hb
    have hd := dw_le (y := q.2.2.2) (c := c) hA h0
    rw [if_neg (by decide), show f9_drawOf 0 0 (nI c) σ = _ from drawOf_ok (k := 0) hC hA hM hy h0 hc, bnd_s, Bool.true_and]
    by_cases z : 1 ≤ dw A q.2.2.2 c 0
    · rw [if_neg (nltR (dw A q.2.2.2 c 0) 1), decide_eq_true z]; rfl
    · rw [if_pos (ltR (dw A q.2.2.2 c 0) 1), decide_eq_false z]; rfl
theorem stronger_ok {σ : Mem} {A : Nat → Nat} {q : QT} {c : Nat} (hC : HV 0 σ A) (hA : AR A) (hM : Mo (σ.1 4 0) q) (hy : q.2.2.2 < 2000) (hc : c ≤ 11) (h0 : 0 < A 0) : f9_stronger 0 (nI c) σ = some (nI (SS A q.2.2.2 c)) := by
  have h6 := hA.1.1
  have hd0 := dw_le (y := q.2.2.2) (c := c) hA h0
  obtain ⟨P, hP⟩ : ∃ P : Nat → Bool, P = fun k => decide (1 ≤ k ∧ k < A 0 ∧ dw A q.2.2.2 c 0 < dw A q.2.2.2 c k) := ⟨_, rfl⟩
  have tail : ∀ m, A 0 + m ≤ 6 → bset P (A 0 + m) = bset P (A 0) := by
    intro m
    induction m with
    | zero => exact fun _ => rfl
    | succ m ih =>
      intro hm
      rw [show A 0 + (m + 1) = (A 0 + m) + 1 by omega, show bset P ((A 0 + m) + 1) = if P (A 0 + m) = true then bset P (A 0 + m) ||| 2 ^ (A 0 + m) else bset P (A 0 + m) from rfl, if_neg (by rw [hP]; exact fun w => absurd (of_decide_eq_true w) (by omega)), ih (by omega)]
  have hall : SS A q.2.2.2 c = bset P (A 0) := by
    rw [← tail (6 - A 0) (by omega), show A 0 + (6 - A 0) = 6 by omega, hP]
    rfl
  have lp : ∀ (r n i : Nat), i + r = A 0 → 1 ≤ i → r < n → ∃ z, l9_stronger_12 0 (nI c) (nI (dw A q.2.2.2 c 0)) σ n (nI (bset P i)) (nI i) = some (nI (bset P (A 0)), z) := by
    intro r
    induction r with
    | zero =>
      intro n i h1 h2 h3
      obtain ⟨n, rfl⟩ : ∃ q, n = q + 1 := ⟨n - 1, by omega⟩
      obtain rfl : i = A 0 := by omega
      exact ⟨nI (A 0), by rw [l9_stronger_12, f7_size, hC.2.1.1, if_pos (nI_le (by omega) (by omega))]⟩
    | succ r ih =>
      intro n i h1 h2 h3
      obtain ⟨n, rfl⟩ : ∃ q, n = q + 1 := ⟨n - 1, by omega⟩
      have hd := dw_le (y := q.2.2.2) (c := c) hA (show i < A 0 by omega)
      have hb : bset P i < 64 := Nat.lt_of_lt_of_le (bset_lt _ i) (show 2 ^ i ≤ 2 ^ 6 from Nat.pow_le_pow_right (by decide) (by omega))
      have ihh := ih n (i + 1) (by omega) (by omega) (by omega)
      rw [show bset P (i + 1) = if P i = true then bset P i ||| 2 ^ i else bset P i from rfl] at ihh
      rw [l9_stronger_12, f7_size, hC.2.1.1, if_neg (nI_ge (by omega) (by omega)), drawOf_ok hC hA hM hy (by omega) hc, bnd_s, orN _ hb i (by omega), lt_e, nI_1]
      by_cases z : dw A q.2.2.2 c i ≤ dw A q.2.2.2 c 0
      · rw [if_pos (nI_le z (by omega))]
        rw [if_neg (by rw [hP]; exact fun w => absurd (of_decide_eq_true w) (by omega))] at ihh
        exact ihh
      · rw [if_neg (nI_ge (by omega) (by omega))]
        rw [if_pos (by rw [hP]; exact decide_eq_true ⟨h2, by omega, by omega⟩)] at ihh
        exact ihh
  obtain ⟨z, e⟩ := lp (A 0 - 1) 2000 1 (by omega) (by omega) (by omega)
  have e1 : bset P 1 = 0 := by
    show (if P 0 = true then bset P 0 ||| 2 ^ 0 else bset P 0) = 0
    rw [if_neg (by rw [hP]; exact fun w => absurd (of_decide_eq_true w) (by omega))]
    rfl
  rw [e1, ← hall] at e
  unfold f9_stronger
  rw [show f9_drawOf 0 0 (nI c) σ = _ from drawOf_ok (k := 0) hC hA hM hy h0 hc, bnd_s, show l9_stronger_12 0 (nI c) (nI (dw A q.2.2.2 c 0)) σ 2000 0 1 = _ from e, bnd_s]
/-! lead -/
theorem nI_nm1' {i : Nat} (hi : i < 64) : ¬ nI i = -1 := fun q => by
  have h2 : (nI i).toInt = (-1 : Int32).toInt := congrArg Int32.toInt q
  rw [nI_toInt (by omega), show (-1 : Int32).toInt = -1 by decide] at h2
  omega
theorem notN : ∀ s, s < 64 → ∀ u, u < 64 → nI s &&& (nI u ^^^ (-1)) = nI (s &&& (63 ^^^ u)) := by decide +kernel
theorem sub_le : ∀ g, g < 64 → ∀ s, s < 64 → g &&& s = g → g ≤ s ∧ pc g ≤ pc s := by decide +kernel
theorem dif_t {s u k : Nat} (hk : k < 6) : (s &&& (63 ^^^ u)).testBit k = (s.testBit k && !u.testBit k) := by
  rw [Nat.testBit_and, Nat.testBit_xor, show (63 : Nat) = 2 ^ 6 - 1 from rfl, Nat.testBit_two_pow_sub_one, decide_eq_true hk, Bool.true_xor]
theorem dif_lt {s u : Nat} (hs : s < 64) : s &&& (63 ^^^ u) < 64 := Nat.lt_of_le_of_lt Nat.and_le_left hs
theorem dif_0 {s u : Nat} (hs : s < 64) : s &&& (63 ^^^ u) = 0 ↔ ∀ k, k < 6 → s.testBit k = true → u.testBit k = true := by
  constructor
  · intro q k hk hb
    have h : (s &&& (63 ^^^ u)).testBit k = Nat.testBit 0 k := congrArg (fun x => Nat.testBit x k) q
    rw [dif_t hk, Nat.zero_testBit, hb, Bool.true_and] at h
    cases hu : u.testBit k with
    | true => rfl
    | false => rw [hu] at h; exact absurd h (by decide)
  · intro q
    refine bits_ext (dif_lt hs) (by decide) (fun k hk => ?_)
    rw [dif_t hk, Nat.zero_testBit]
    cases hb : s.testBit k with
    | false => rfl
    | true => rw [q k hk hb]; rfl
theorem even_0 {s : Nat} (h : s % 2 = 0) : s.testBit 0 = false := by
  rw [Nat.testBit_zero, h]; rfl
theorem SS_even (A : Nat → Nat) (y c : Nat) : (SS A y c).testBit 0 = false := by
  rw [SS_t (by decide)]
  exact decide_eq_false (fun q => absurd q.1 (by decide))
/-- what is good to take down -/
theorem lead_good {A : Nat → Nat} {u y c s : Nat} (hA : AR A) (hu : u < 2 ^ A 0) (hs : s < 64) (he : s % 2 = 0) (hsub : s &&& (63 ^^^ u) = 0) :
    st A (u &&& (63 ^^^ s)) y c = 0 ↔ mbh A u y c = true ∧ SS A y c &&& u &&& s = SS A y c &&& u := by
  have u6 := pow64 hA.1.1 hu
  have b0 : (u &&& (63 ^^^ s)).testBit 0 = u.testBit 0 := by
    rw [dif_t (by decide), even_0 he]; simp
  rw [st_zero hA (dif_lt u6), b0]
  unfold mbh
  constructor
  · rintro ⟨h1, h2, h3, h4⟩
    refine ⟨by rw [h2, decide_eq_true h3]; rfl, bits_ext (Nat.and_lt_two_pow (n := 6) _ hs) (Nat.and_lt_two_pow (n := 6) _ u6) (fun k hk => ?_)⟩
    have hz : (u &&& (63 ^^^ s) &&& SS A y c).testBit k = Nat.testBit 0 k := congrArg (fun x => Nat.testBit x k) h4
    rw [Nat.testBit_and, dif_t hk, Nat.zero_testBit] at hz
    rw [Nat.testBit_and, Nat.testBit_and]
    revert hz
    cases u.testBit k <;> cases s.testBit k <;> cases (SS A y c).testBit k <;> decide
  · rintro ⟨h1, h2⟩
    have hb : u.testBit 0 = true := by
      revert h1
      cases u.testBit 0 <;> simp
    rw [hb, Bool.true_and] at h1
    refine ⟨things_of hu hb, hb, of_decide_eq_true h1, bits_ext (Nat.and_lt_two_pow (n := 6) _ (SS_lt A y c)) (by decide) (fun k hk => ?_)⟩
    have hz : (SS A y c &&& u &&& s).testBit k = (SS A y c &&& u).testBit k := congrArg (fun x => Nat.testBit x k) h2
    rw [Nat.testBit_and, Nat.testBit_and] at hz
    rw [Nat.testBit_and, dif_t hk, Nat.zero_testBit]
    revert hz
    cases u.testBit k <;> cases s.testBit k <;> cases (SS A y c).testBit k <;> decide
theorem lead_lp {σ : Mem} {A : Nat → Nat} {q : QT} {c : Nat} (hR : RV (σ.1 22 0) A) (hA : AR A) (hm : Mr (σ.1 22 0) q) (hq : QR A q) (hy : q.2.2.2 < 2000) (hc : c ≤ 11) :
    ∀ (r n i : Nat), i + r = 32 → r < n → 2 * i ≤ 2 ^ A 0 + 1 →
      ∃ z, l11_lead_18 0 (nI c) σ n (if mbh A q.1 q.2.2.2 c = true ∧ SS A q.2.2.2 c &&& q.1 < 2 * i then nI (SS A q.2.2.2 c &&& q.1) else -1) (nI (2 * i)) = some (if mbh A q.1 q.2.2.2 c = true then nI (SS A q.2.2.2 c &&& q.1) else -1, z) := by
  have u6 := pow64 hA.1.1 hq.1
  have ht := hA.1.1
  have hpow : 2 ^ A 0 ≤ 64 := Nat.pow_le_pow_right (n := 2) (by decide) ht
  have hpos : 0 < 2 ^ A 0 := Nat.two_pow_pos _
  have hpar : 2 ^ A 0 % 2 = 0 ∨ A 0 = 0 := by
    rcases A 0 with _ | t
    · exact Or.inr rfl
    · exact Or.inl (by rw [Nat.pow_succ]; omega)
  obtain ⟨G, hG⟩ : ∃ G, G = SS A q.2.2.2 c &&& q.1 := ⟨_, rfl⟩
  have hGlt : G < 2 ^ A 0 := by rw [hG]; exact Nat.lt_of_le_of_lt Nat.and_le_right hq.1
  have hG6 : G < 64 := by omega
  have hGe : G % 2 = 0 := by
    have : G.testBit 0 = false := by rw [hG, Nat.testBit_and, SS_even]; rfl
    rw [Nat.testBit_zero] at this
    have := of_decide_eq_false this
    omega
  rw [← hG]
  have em : f11_many 0 σ = nI (A 0) := hR.1.1
  intro r
  induction r with
  | zero =>
    intro n i h1 h2 h3
    obtain ⟨n, rfl⟩ : ∃ q, n = q + 1 := ⟨n - 1, by omega⟩
    obtain rfl : i = 32 := by omega
    refine ⟨nI 64, ?_⟩
    rw [l11_lead_18, em, shlN _ (by omega), if_pos (nI_le (by omega) (by omega))]
    by_cases z : mbh A q.1 q.2.2.2 c = true
    · rw [if_pos ⟨z, by omega⟩, if_pos z]
    · rw [if_neg (fun w => z w.1), if_neg z]
  | succ r ih =>
    intro n i h1 h2 h3
    obtain ⟨n, rfl⟩ : ∃ q, n = q + 1 := ⟨n - 1, by omega⟩
    by_cases hend : 2 ^ A 0 ≤ 2 * i
    · refine ⟨nI (2 * i), ?_⟩
      rw [l11_lead_18, em, shlN _ (by omega), if_pos (nI_le hend (by omega))]
      by_cases z : mbh A q.1 q.2.2.2 c = true
      · rw [if_pos ⟨z, by omega⟩, if_pos z]
      · rw [if_neg (fun w => z w.1), if_neg z]
    have hs6 : 2 * i < 64 := by omega
    have hstep : (bnd (if (if mbh A q.1 q.2.2.2 c = true ∧ G < 2 * i then nI G else -1) = (-1) then some 1 else (bnd (f11_bits (nI (2 * i))) fun w7 => bnd (f11_bits (if mbh A q.1 q.2.2.2 c = true ∧ G < 2 * i then nI G else -1)) fun w9 => if w9 ≤ w7 then some 0 else some 1) : Option Int32) fun w5 =>
        (if w5 = 0 then some (if mbh A q.1 q.2.2.2 c = true ∧ G < 2 * i then nI G else -1) else (if (nI (2 * i) &&& ((σ.1 22 0 6) ^^^ (-1))) = 0 then (bnd (f11_struckOf 0 ((σ.1 22 0 6) &&& (nI (2 * i) ^^^ (-1))) (nI c) σ) fun w15 => if w15 = 0 then some (nI (2 * i)) else some (if mbh A q.1 q.2.2.2 c = true ∧ G < 2 * i then nI G else -1)) else some (if mbh A q.1 q.2.2.2 c = true ∧ G < 2 * i then nI G else -1)) : Option Int32)) = some (if mbh A q.1 q.2.2.2 c = true ∧ G < 2 * (i + 1) then nI G else -1) := by
      by_cases zb : mbh A q.1 q.2.2.2 c = true ∧ G < 2 * i
      · rw [if_pos zb, if_neg (nI_nm1' hG6), pcR _ hs6, pcR _ hG6, bnd_s, bnd_s, if_pos (show mbh A q.1 q.2.2.2 c = true ∧ G < 2 * (i + 1) from ⟨zb.1, by omega⟩)]
        have p1 := pc_le6 hs6
        have p2 := pc_le6 hG6
        by_cases zf : pc G ≤ pc (2 * i)
        · rw [if_pos (nI_le zf (by omega)), bnd_s, if_pos rfl]
        · rw [if_neg (nI_ge (by omega) (by omega)), bnd_s, if_neg (by decide), hm.1, notN _ hs6 _ u6, notN _ u6 _ hs6]
          by_cases zs : 2 * i &&& (63 ^^^ q.1) = 0
          · rw [zs, if_pos (by rfl), struckOf_ok Kr0 hR hA (dif_lt u6) hy hc hm.2.2.2, bnd_s, if_neg]
            intro w
            have := (lead_good hA hq.1 hs6 (by omega) zs).mp w
            rw [← hG] at this
            exact zf (sub_le G hG6 (2 * i) hs6 this.2).2
          · rw [if_neg (nI_ne0 (by omega) (by have := dif_lt (u := q.1) hs6; omega))]
      · rw [if_neg zb, if_pos rfl, bnd_s, if_neg (by decide), hm.1, notN _ hs6 _ u6, notN _ u6 _ hs6]
        by_cases zs : 2 * i &&& (63 ^^^ q.1) = 0
        · rw [zs, if_pos (by rfl), struckOf_ok Kr0 hR hA (dif_lt u6) hy hc hm.2.2.2, bnd_s]
          have key := lead_good (c := c) (y := q.2.2.2) hA hq.1 hs6 (by omega) zs
          rw [← hG] at key
          by_cases zg : mbh A q.1 q.2.2.2 c = true ∧ G = 2 * i
          · rw [if_pos (key.mpr ⟨zg.1, by rw [zg.2, Nat.and_self]⟩), if_pos ⟨zg.1, by omega⟩, zg.2]
          · rw [if_neg (fun w => by
              have w2 := key.mp w
              have := (sub_le G hG6 (2 * i) hs6 w2.2).1
              by_cases e : G = 2 * i
              · exact zg ⟨w2.1, e⟩
              · exact zb ⟨w2.1, by omega⟩), if_neg (fun w => by
              by_cases e : G = 2 * i
              · exact zg ⟨w.1, e⟩
              · exact zb ⟨w.1, by omega⟩)]
        · have hGi : ¬ (mbh A q.1 q.2.2.2 c = true ∧ G = 2 * i) := by
            intro w
            refine zs ((dif_0 hs6).mpr (fun k hk hb => ?_))
            rw [← w.2, hG, Nat.testBit_and] at hb
            revert hb
            cases q.1.testBit k <;> simp
          rw [if_neg (nI_ne0 (by omega) (by have := dif_lt (u := q.1) hs6; omega)), if_neg (fun w => by
            by_cases e : G = 2 * i
            · exact hGi ⟨w.1, e⟩
            · exact zb ⟨w.1, by omega⟩)]
    obtain ⟨z, e⟩ := ih n (i + 1) (by omega) (by omega) (by omega)
    refine ⟨z, ?_⟩
    rw [l11_lead_18, em, shlN _ (by omega), if_neg (nI_ge (by omega) (by omega)), ← e, show nI (2 * i) + 2 = nI (2 * (i + 1)) from nI_add (2 * i) 2]
    revert hstep
    generalize (if (if mbh A q.1 q.2.2.2 c = true ∧ G < 2 * i then nI G else -1) = (-1) then some 1 else (bnd (f11_bits (nI (2 * i))) fun w7 => bnd (f11_bits (if mbh A q.1 q.2.2.2 c = true ∧ G < 2 * i then nI G else -1)) fun w9 => if w9 ≤ w7 then some 0 else some 1) : Option Int32) = o
    intro hstep
    rcases o with _ | o
    · exact absurd hstep (by intro w; cases w)
    · rw [bnd_s] at hstep ⊢
      rw [hstep, bnd_s]
theorem ok_lead {σ : Mem} (x1 : Int32) (h : Inv σ) : OKc (f10_lead 0 x1) (f11_lead 0 x1) σ := by
  obtain ⟨A, q, ⟨hC, hR⟩, hA, ⟨hM, hm⟩, hq, hy⟩ := h.now
  by_cases c2 : f10_within x1 0 (nI 11) = 0
  · refine ok_bad h ?_ ?_
    · unfold f10_lead
      rw [isC10, if_pos c2]; rfl
    · unfold f11_lead
      rw [isC11, if_pos c2]; rfl
  obtain ⟨c, hc, rfl⟩ := wi_yes (by decide) c2
  have u6 := pow64 hA.1.1 hq.1
  obtain ⟨z, e⟩ := lead_lp (σ := σ) hR hA hm hq (by omega) hc 32 2000 0 (by omega) (by omega) (Nat.zero_le _)
  rw [if_neg (fun w => absurd w.2 (Nat.not_lt_zero _))] at e
  refine ok_ask (if mbh A q.1 q.2.2.2 c = true then nI (SS A q.2.2.2 c &&& q.1) else -1) h ?_ ?_
  · unfold f10_lead
    rw [isC10, if_neg c2, mayBe_ok hC hA hM hq (by omega) hc, bnd_s]
    cases hb : mbh A q.1 q.2.2.2 c with
    | false => rfl
    | true =>
      have h0 : 0 < A 0 := by
        unfold mbh at hb
        refine things_of hq.1 ?_
        revert hb
        cases q.1.testBit 0 <;> simp
      rw [if_neg (show ¬ bI true = 0 by decide), stronger_ok hC hA hM (by omega) hc h0, bnd_s, hM.1, and_nI _ (SS_lt _ _ _) _ u6, if_pos rfl]
  · unfold f11_lead
    rw [isC11, if_neg c2, show l11_lead_18 0 (nI c) σ 2000 (-1) 0 = _ from e, bnd_s]
