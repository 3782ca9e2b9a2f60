/-! looking ahead: then, when, septembers -/
theorem take4 {σ : Mem} {q : QT} (hM : Mo (σ.1 4 0) q) : ∃ f, f4_takeFrom 4 0 σ = sA σ 4 4 f ∧ Mo f q := by
  obtain ⟨m0, m1, m2, m3⟩ := hM
  refine ⟨upd (upd (upd (upd (σ.1 4 4) 0 (nI q.1)) 1 (nI q.2.1)) 2 (nI q.2.2.1)) 3 (nI q.2.2.2), ?_, ?_, ?_, ?_, ?_⟩
  · unfold f4_takeFrom f4_set
    simp only [lt_e, m0, m1, m2, m3]
    rw [show sI σ 4 4 0 (nI q.1) = sA σ 4 4 (upd (σ.1 4 4) 0 (nI q.1)) from rfl, sI_sA, sI_sA, sI_sA]
  · rw [up_n (by decide), up_n (by decide), up_n (by decide), up_s]
  · rw [up_n (by decide), up_n (by decide), up_s]
  · rw [up_n (by decide), up_s]
  · rw [up_s]
theorem layHand_lp {k0 : Nat} {σ : Mem} : ∀ (r n i : Nat) (f : Nat → Int32), i + r = 46 → r < n → (∀ j, j < i → f j = σ.1 22 0 j) →
    ∃ z g, l11_layHand_2 k0 n (nI i) (sA σ 22 4 f) = some (z, sA σ 22 4 g) ∧ ∀ j, j < 46 → g j = σ.1 22 0 j := by
  intro r
  induction r with
  | zero =>
    intro n i f h1 h2 h3
    obtain ⟨n, rfl⟩ : ∃ q, n = q + 1 := ⟨n - 1, by omega⟩
    obtain rfl : i = 46 := by omega
    refine ⟨nI 46, f, ?_, h3⟩
    rw [l11_layHand_2, if_pos (by decide)]
  | succ r ih =>
    intro n i f h1 h2 h3
    obtain ⟨n, rfl⟩ : ∃ q, n = q + 1 := ⟨n - 1, by omega⟩
    rw [l11_layHand_2, if_neg (nleL 46 i), inb_nI (by omega) (by decide), inb_nI (by omega) (by decide), ck_t, ck_t, lt_e, nI_clamp (by omega), sI_sA, nI_1, show (sA σ 22 4 f).1 22 0 = σ.1 22 0 from rfl]
    refine ih n (i + 1) _ (by omega) (by omega) (fun j hj => ?_)
    by_cases z : j = i
    · subst z; rw [up_s]
    · rw [up_n z]; exact h3 j (by omega)
theorem layHand_ok {k0 : Nat} {σ : Mem} : ∃ g, f11_layHand k0 σ = some (sA σ 22 4 g) ∧ ∀ j, j < 46 → g j = σ.1 22 0 j := by
  obtain ⟨z, g, e, h⟩ := layHand_lp (k0 := k0) (σ := σ) 46 2000 0 (σ.1 22 4) (by omega) (by omega) (fun j hj => absurd hj (Nat.not_lt_zero j))
  refine ⟨g, ?_, h⟩
  rw [sA_self] at e
  unfold f11_layHand
  rw [show l11_layHand_2 k0 2000 0 σ = _ from e, bnd_s]
theorem hand_Mr {f g : Nat → Int32} {q : QT} (h : Mr f q) (hg : ∀ j, j < 46 → g j = f j) : Mr g q := ⟨(hg 6 (by decide)).trans h.1, (hg 7 (by decide)).trans h.2.1, (hg 8 (by decide)).trans h.2.2.1, (hg 9 (by decide)).trans h.2.2.2⟩
theorem hand_RV {f g : Nat → Int32} {A : Nat → Nat} (hA : AR A) (h : RV f A) (hg : ∀ j, j < 46 → g j = f j) : RV g A := h.fr hA (fun j hj => hg j (by omega))
theorem then_lp {σ : Mem} {A : Nat → Nat} {N : Nat} (hA : AR A) (hN : N < 100) :
    ∀ (r n i : Nat) (f : Nat → Int32) (q : QT), i + r = N → r < n → RV f A → QR A q → q.2.2.2 + r < 1999 → Mr f q →
    ∃ z f', l11_then_25 0 (nI N) n (nI i) (sA σ 22 4 f) = some (z, sA σ 22 4 f') ∧ Mr f' (ps A 1000000 r q) := by
  intro r
  induction r with
  | zero =>
    intro n i f q h1 h2 hR hq hy hM
    obtain ⟨n, rfl⟩ : ∃ q, n = q + 1 := ⟨n - 1, by omega⟩
    refine ⟨nI i, f, ?_, hM⟩
    rw [l11_then_25, if_pos (nI_le (by omega) (by omega))]
  | succ r ih =>
    intro n i f q h1 h2 hR hq hy hM
    obtain ⟨n, rfl⟩ : ∃ q, n = q + 1 := ⟨n - 1, by omega⟩
    obtain ⟨f1, e1, hK, hM1⟩ := goTold_ok (σ := σ) Kr4 hR hA hq (by omega) hM
    rw [l11_then_25, if_neg (nI_ge (by omega) (by omega)), e1, bnd_s, nI_1]
    unfold ps
    rw [if_neg (by omega)]
    exact ih n (i + 1) f1 (gd A q) (by omega) (by omega) (hK.RV hA hR) (gd_r hq) (by show q.2.2.2 + 1 + r < 1999; omega) hM1
theorem ok_then {σ : Mem} (x1 : Int32) (h : Inv σ) : OKc (f10_then 0 x1) (f11_then 0 x1) σ := by
  obtain ⟨A, q, ⟨hC, hR⟩, hA, ⟨hM, hm⟩, hq, hy⟩ := h.now
  by_cases c1 : f10_within x1 0 (nI 60) = 0
  · refine ok_bad h ?_ ?_
    · unfold f10_then
      rw [show (60 : Int32) = nI 60 from rfl, if_pos c1]; rfl
    · unfold f11_then
      rw [in060, if_pos c1]; rfl
  obtain ⟨N, hN, rfl⟩ := wi_yes (by decide) c1
  obtain ⟨f, e1, hf⟩ := take4 hM
  obtain ⟨f', e2, hf'⟩ := passTold_ok (k1 := 4) (L := 1000000) hC hA (show N < 100 by omega) (by decide) hq (by omega) hf
  obtain ⟨g, e3, hg⟩ := layHand_ok (k0 := 0) (σ := sA σ 4 4 f')
  have hg' : ∀ j, j < 46 → g j = σ.1 22 0 j := hg
  obtain ⟨z, g', e4, hG⟩ := then_lp (σ := sA σ 4 4 f') (N := N) hA (by omega) N 2000 0 g q (by omega) (by omega) (hand_RV hA hR hg') hq (by omega) (hand_Mr hm hg')
  refine ok_scr (r := nI (ps A 1000000 N q).2.1) (τ1 := sA σ 4 4 f') (τ2 := sA (sA σ 4 4 f') 22 4 g') h ?_ (Sc.row (Or.inl ⟨rfl, by decide⟩)) ?_ (Sc.row (Or.inr (Or.inl ⟨rfl, by decide, by decide⟩)))
  · unfold f10_then
    rw [show (60 : Int32) = nI 60 from rfl, if_neg c1, e1, lt_e, show (1000000 : Int32) = nI 1000000 from rfl, e2, bnd_s, sA_at, hf'.2.1]
  · unfold f11_then
    rw [in060, if_neg c1, e3, bnd_s, show l11_then_25 0 (nI N) 2000 0 (sA (sA σ 4 4 f') 22 4 g) = _ from e4, bnd_s, sA_at, hG.2.1]
/-- in how many summers a part is there -/
def whn (A : Nat → Nat) (p : Nat) : Nat → Nat → QT → Int32
  | 0, _, _ => -1
  | r + 1, i, q => if q.2.1.testBit p = true then nI i else whn A p r (i + 1) (gd A q)
theorem until_lp {σ : Mem} {A : Nat → Nat} {p : Nat} (hC : HV 0 σ A) (hA : AR A) (hp : p < A 1) :
    ∀ (r n i : Nat) (f : Nat → Int32) (q : QT), i + r = 61 → r < n → QR A q → q.2.2.2 + r < 1990 → Mo f q →
    ∃ o f', l10_summersUntil_16 0 (nI p) n (nI i) (sA σ 4 4 f) = some o ∧ sm o (fun z => (-1, z.2)) (fun z => z) = (whn A p r i q, sA σ 4 4 f') := by
  have p6 := hA.1.2
  intro r
  induction r with
  | zero =>
    intro n i f q h1 h2 hq hy hM
    obtain ⟨n, rfl⟩ : ∃ q, n = q + 1 := ⟨n - 1, by omega⟩
    obtain rfl : i = 61 := by omega
    refine ⟨.inl (nI 61, sA σ 4 4 f), f, ?_, rfl⟩
    rw [l10_summersUntil_16, if_pos (by decide)]
  | succ r ih =>
    intro n i f q h1 h2 hq hy hM
    obtain ⟨n, rfl⟩ : ∃ q, n = q + 1 := ⟨n - 1, by omega⟩
    have w6 : q.2.1 < 64 := pow64 p6 hq.2.1
    rw [l10_summersUntil_16, if_neg (nltL 60 i), thereN (u := q.2.1) (by rw [sA_at]; exact hM.2.1) w6 (by omega)]
    unfold whn
    cases hb : q.2.1.testBit p with
    | true =>
      rw [if_pos rfl, if_neg (by decide), if_pos rfl]
      exact ⟨.inr (nI i, sA σ 4 4 f), f, rfl, rfl⟩
    | false =>
      obtain ⟨f1, e1, hM1⟩ := passTold_ok (k1 := 4) (N := 1) (L := 1000000) hC hA (by decide) (by decide) hq (by omega) hM
      have e2 : ps A 1000000 1 q = gd A q := by
        show (if 1000000 ≤ q.2.2.2 then q else gd A q) = _
        rw [if_neg (by omega)]
      rw [e2] at hM1
      rw [if_pos (by decide), if_neg (by decide), show (1 : Int32) = nI 1 from rfl, show (1000000 : Int32) = nI 1000000 from rfl, e1, bnd_s, nI_add]
      exact ih n (i + 1) f1 (gd A q) (by omega) (by omega) (gd_r hq) (by show q.2.2.2 + 1 + r < 1990; omega) hM1
theorem until_ok {σ : Mem} {A : Nat → Nat} {p : Nat} {q : QT} (hC : HV 0 σ A) (hA : AR A) (hM : Mo (σ.1 4 0) q) (hq : QR A q) (hy : q.2.2.2 ≤ 999) (hp : p < A 1) :
    ∃ f, f10_summersUntil 0 (nI p) σ = some (whn A p 61 0 q, sA σ 4 4 f) := by
  obtain ⟨f, e1, hf⟩ := take4 hM
  obtain ⟨o, f', e2, e3⟩ := until_lp (σ := σ) hC hA hp 61 2000 0 f q (by omega) (by omega) hq (by omega) hf
  refine ⟨f', ?_⟩
  unfold f10_summersUntil
  rw [e1, lt_e, show l10_summersUntil_16 0 (nI p) 2000 0 (sA σ 4 4 f) = _ from e2, bnd_s, ← e3]
  rcases o with o | o <;> rfl
theorem whenOf_lp {σ : Mem} {A : Nat → Nat} {p : Nat} (hA : AR A) (hp : p < A 1) :
    ∀ (r n i : Nat) (f : Nat → Int32) (q : QT), i + r = 61 → r < n → RV f A → QR A q → q.2.2.2 + r < 1990 → Mr f q →
    ∃ o f', l11_whenOf_6 0 (nI p) n (nI i) (sA σ 22 4 f) = some o ∧ sm o (fun z => (-1, z.2)) (fun z => z) = (whn A p r i q, sA σ 22 4 f') := by
  have p6 := hA.1.2
  intro r
  induction r with
  | zero =>
    intro n i f q h1 h2 hR hq hy hM
    obtain ⟨n, rfl⟩ : ∃ q, n = q + 1 := ⟨n - 1, by omega⟩
    obtain rfl : i = 61 := by omega
    refine ⟨.inl (nI 61, sA σ 22 4 f), f, ?_, rfl⟩
    rw [l11_whenOf_6, if_pos (by decide)]
  | succ r ih =>
    intro n i f q h1 h2 hR hq hy hM
    obtain ⟨n, rfl⟩ : ∃ q, n = q + 1 := ⟨n - 1, by omega⟩
    have w6 : q.2.1 < 64 := pow64 p6 hq.2.1
    rw [l11_whenOf_6, if_neg (nltL 60 i), sA_at, hM.2.1, hasN w6 (by omega)]
    unfold whn
    cases hb : q.2.1.testBit p with
    | true =>
      rw [if_pos rfl, if_neg (by decide), if_pos rfl]
      exact ⟨.inr (nI i, sA σ 22 4 f), f, rfl, rfl⟩
    | false =>
      obtain ⟨f1, e1, hK, hM1⟩ := goTold_ok (σ := σ) Kr4 hR hA hq (by omega) hM
      rw [if_pos (by decide), if_neg (by decide), e1, bnd_s, nI_1]
      exact ih n (i + 1) f1 (gd A q) (by omega) (by omega) (hK.RV hA hR) (gd_r hq) (by show q.2.2.2 + 1 + r < 1990; omega) hM1
theorem whenOf_ok {σ : Mem} {A : Nat → Nat} {p : Nat} {q : QT} (hR : RV (σ.1 22 0) A) (hA : AR A) (hM : Mr (σ.1 22 0) q) (hq : QR A q) (hy : q.2.2.2 ≤ 999) (hp : p < A 1) :
    ∃ f, f11_whenOf 0 (nI p) σ = some (whn A p 61 0 q, sA σ 22 4 f) := by
  obtain ⟨g, e1, hg⟩ := layHand_ok (k0 := 0) (σ := σ)
  obtain ⟨o, f', e2, e3⟩ := whenOf_lp (σ := σ) hA hp 61 2000 0 g q (by omega) (by omega) (hand_RV hA hR hg) hq (by omega) (hand_Mr hM hg)
  refine ⟨f', ?_⟩
  unfold f11_whenOf
  rw [e1, bnd_s, show l11_whenOf_6 0 (nI p) 2000 0 (sA σ 22 4 g) = _ from e2, bnd_s, ← e3]
  rcases o with o | o <;> rfl
theorem ok_when {σ : Mem} (x1 : Int32) (h : Inv σ) : OKc (f10_when 0 x1) (f11_when 0 x1) σ := by
  obtain ⟨A, q, ⟨hC, hR⟩, hA, ⟨hM, hm⟩, hq, hy⟩ := h.now
  by_cases c1 : f10_within x1 0 (nI (A 1) - 1) = 0
  · refine ok_bad h ?_ ?_
    · unfold f10_when
      rw [hC.isP, if_pos c1]; rfl
    · unfold f11_when
      rw [RV.isP (A := A) (by rw [bad0]; exact hR), if_pos c1]; rfl
  obtain ⟨p, hp, rfl⟩ := wi_thing (by have := hA.1.2; omega) c1
  obtain ⟨f, e1⟩ := until_ok hC hA hM hq hy hp
  obtain ⟨g, e2⟩ := whenOf_ok (σ := sA σ 4 4 f) hR hA hm hq hy hp
  refine ok_scr (r := whn A p 61 0 q) (τ1 := sA σ 4 4 f) (τ2 := sA (sA σ 4 4 f) 22 4 g) h ?_ (Sc.row (Or.inl ⟨rfl, by decide⟩)) ?_ (Sc.row (Or.inr (Or.inl ⟨rfl, by decide, by decide⟩)))
  · unfold f10_when
    rw [hC.isP, if_neg c1, e1, bnd_s]
  · unfold f11_when
    rw [RV.isP (σ := sA σ 4 4 f) hR, if_neg c1, e2, bnd_s]
/-! septembers -/
def nx (x : Nat) : Nat := (x * 1103515245 + 12345) % 2147483648
def sep (A : Nat → Nat) : Nat → Nat → QT → QT
  | 0, _, q => q
  | r + 1, x, q => sep A r (nx x) (gs A (nx x / 65536 % 12) (nx x / 1048576 % 10) q)
theorem nxL {x : Nat} (hx : x < 2147483648) : (lN x * 1103515245 + 12345) - (lN x * 1103515245 + 12345) / 2147483648 * 2147483648 = lN (nx x) := by
  have e : lN x * 1103515245 + 12345 = lN (x * 1103515245 + 12345) := by
    rw [show (1103515245 : Int64) = lN 1103515245 from rfl, show (12345 : Int64) = lN 12345 from rfl, lN_mul, lN_add]
  rw [e]
  exact pk_lRem (b := 2147483648) (by omega) (by decide) (by decide)
theorem nx_lt (x : Nat) : nx x < 2147483648 := Nat.mod_lt _ (by decide)
theorem nxC (x : Nat) : (((lN (nx x) / 65536) - (lN (nx x) / 65536) / 12 * 12) : Int64).toInt32 = nI (nx x / 65536 % 12) := by
  have h := nx_lt x
  rw [show lN (nx x) / 65536 = lN (nx x / 65536) from pk_lDiv (b := 65536) (by omega) (by decide) (by decide)]
  rw [show lN (nx x / 65536) - lN (nx x / 65536) / 12 * 12 = lN (nx x / 65536 % 12) from pk_lRem (b := 12) (by omega) (by decide) (by decide), lN_i]
theorem nxS (x : Nat) : (((lN (nx x) / 1048576) - (lN (nx x) / 1048576) / 10 * 10) : Int64).toInt32 = nI (nx x / 1048576 % 10) := by
  have h := nx_lt x
  rw [show lN (nx x) / 1048576 = lN (nx x / 1048576) from pk_lDiv (b := 1048576) (by omega) (by decide) (by decide)]
  rw [show lN (nx x / 1048576) - lN (nx x / 1048576) / 10 * 10 = lN (nx x / 1048576 % 10) from pk_lRem (b := 10) (by omega) (by decide) (by decide), lN_i]
theorem sep_lpC {σ : Mem} {A : Nat → Nat} {N : Nat} (hC : HV 0 σ A) (hA : AR A) (hN : N < 100) :
    ∀ (r n i x : Nat) (f : Nat → Int32) (q : QT), i + r = N → r < n → x < 2147483648 → QR A q → q.2.2.2 + r < 1990 → Mo f q →
    ∃ z1 z2 f', l10_septembers_46 0 (nI N) n (lN x) (nI i) (sA σ 4 4 f) = some (z1, z2, sA σ 4 4 f') ∧ Mo f' (sep A r x q) := by
  intro r
  induction r with
  | zero =>
    intro n i x f q h1 h2 hx hq hy hM
    obtain ⟨n, rfl⟩ : ∃ q, n = q + 1 := ⟨n - 1, by omega⟩
    refine ⟨lN x, nI i, f, ?_, hM⟩
    rw [l10_septembers_46, if_pos (nI_le (by omega) (by omega))]
  | succ r ih =>
    intro n i x f q h1 h2 hx hq hy hM
    obtain ⟨n, rfl⟩ : ∃ q, n = q + 1 := ⟨n - 1, by omega⟩
    obtain ⟨f1, e1, hM1⟩ := pass_ok (k1 := 4) (c := nx x / 65536 % 12) (s := nx x / 1048576 % 10) hC hA hq (by omega) (by omega) (by omega) hM
    rw [l10_septembers_46, if_neg (nI_ge (by omega) (by omega)), nxL hx, lt_e, nxC, nxS, e1, bnd_s, nI_1]
    exact ih n (i + 1) (nx x) f1 _ (by omega) (by omega) (nx_lt x) (gs_r hq) (by show q.2.2.2 + 1 + r < 1990; omega) hM1
theorem sep_lpR {σ : Mem} {A : Nat → Nat} {N : Nat} (hA : AR A) (hN : N < 100) :
    ∀ (r n i x : Nat) (f : Nat → Int32) (q : QT), i + r = N → r < n → x < 2147483648 → RV f A → QR A q → q.2.2.2 + r < 1990 → Mr f q →
    ∃ z1 z2 f', l11_septembers_41 0 (nI N) n (lN x) (nI i) (sA σ 22 4 f) = some (z1, z2, sA σ 22 4 f') ∧ Mr f' (sep A r x q) := by
  intro r
  induction r with
  | zero =>
    intro n i x f q h1 h2 hx hR hq hy hM
    obtain ⟨n, rfl⟩ : ∃ q, n = q + 1 := ⟨n - 1, by omega⟩
    refine ⟨lN x, nI i, f, ?_, hM⟩
    rw [l11_septembers_41, if_pos (nI_le (by omega) (by omega))]
  | succ r ih =>
    intro n i x f q h1 h2 hx hR hq hy hM
    obtain ⟨n, rfl⟩ : ∃ q, n = q + 1 := ⟨n - 1, by omega⟩
    obtain ⟨f1, e1, hK, hM1⟩ := goSummer_ok (σ := σ) (c := nx x / 65536 % 12) (s := nx x / 1048576 % 10) Kr4 hR hA hq (by omega) (by omega) (by omega) hM
    rw [l11_septembers_41, if_neg (nI_ge (by omega) (by omega)), nxL hx, lt_e, nxC, nxS, e1, bnd_s, nI_1]
    exact ih n (i + 1) (nx x) f1 _ (by omega) (by omega) (nx_lt x) (hK.RV hA hR) (gs_r hq) (by show q.2.2.2 + 1 + r < 1990; omega) hM1
theorem wi_big {x : Int32} {n : Nat} (hn : n < 2 ^ 31) (h : ¬ f10_within x 0 (nI n) = 0) : ∃ y, y ≤ n ∧ x = nI y := by
  unfold f10_within at h
  split at h
  · exact absurd rfl h
  · rename_i h1
    split at h
    · exact absurd rfl h
    · rename_i h2
      obtain ⟨y, hy, rfl⟩ := nI_of h1
      exact ⟨y, Nat.not_lt.mp (fun q => h2 (nI_lt q hy)), rfl⟩
theorem sep_r {A : Nat → Nat} : ∀ (r x : Nat) (q : QT), QR A q → QR A (sep A r x q)
  | 0, _, _, h => h
  | r + 1, x, q, h => sep_r r (nx x) _ (gs_r h)
theorem in0s (x : Int32) : f11_in x.toInt64 0 999999 = f10_within x 0 (nI 999999) := in_within x 0 999999
theorem ok_septembers {σ : Mem} (x1 x2 : Int32) (h : Inv σ) : OKc (f10_septembers 0 x1 x2) (f11_septembers 0 x1 x2) σ := by
  obtain ⟨A, q, ⟨hC, hR⟩, hA, ⟨hM, hm⟩, hq, hy⟩ := h.now
  by_cases c1 : f10_within x1 0 (nI 999999) = 0
  · refine ok_bad h ?_ ?_
    · unfold f10_septembers
      rw [show (999999 : Int32) = nI 999999 from rfl, if_pos c1]; rfl
    · unfold f11_septembers
      rw [in0s, if_pos c1]; rfl
  obtain ⟨X, hX, rfl⟩ := wi_big (by decide) c1
  by_cases c2 : f10_within x2 0 (nI 60) = 0
  · refine ok_bad h ?_ ?_
    · unfold f10_septembers
      rw [show (999999 : Int32) = nI 999999 from rfl, if_neg c1, show (60 : Int32) = nI 60 from rfl, if_pos c2]; rfl
    · unfold f11_septembers
      rw [in0s, if_neg c1, in060, if_pos c2]; rfl
  obtain ⟨N, hN, rfl⟩ := wi_yes (by decide) c2
  obtain ⟨f, e1, hf⟩ := take4 hM
  obtain ⟨z1, z2, f', e2, hf'⟩ := sep_lpC (σ := σ) (N := N) hC hA (by omega) N 2000 0 X f q (by omega) (by omega) (by omega) hq (by omega) hf
  obtain ⟨g, e3, hg⟩ := layHand_ok (k0 := 0) (σ := sA σ 4 4 f')
  have hg' : ∀ j, j < 46 → g j = σ.1 22 0 j := hg
  obtain ⟨z3, z4, g', e4, hG⟩ := sep_lpR (σ := sA σ 4 4 f') (N := N) hA (by omega) N 2000 0 X g q (by omega) (by omega) (by omega) (hand_RV hA hR hg') hq (by omega) (hand_Mr hm hg')
  have w6 : (sep A N X q).2.1 < 64 := pow64 hA.1.2 (sep_r N X q hq).2.1
  refine ok_scr (r := nI (pc (sep A N X q).2.1)) (τ1 := sA σ 4 4 f') (τ2 := sA (sA σ 4 4 f') 22 4 g') h ?_ (Sc.row (Or.inl ⟨rfl, by decide⟩)) ?_ (Sc.row (Or.inr (Or.inl ⟨rfl, by decide, by decide⟩)))
  · unfold f10_septembers f4_partsThere
    rw [show (999999 : Int32) = nI 999999 from rfl, if_neg c1, show (60 : Int32) = nI 60 from rfl, if_neg c2, e1, lt_e, nI_l (by omega), show l10_septembers_46 0 (nI N) 2000 (lN X) 0 (sA σ 4 4 f) = _ from e2, bnd_s]
    show some (fJ6_bitCount ((sA σ 4 4 f').1 4 4 1), _) = _
    rw [sA_at, hf'.2.1, pcC _ w6]
  · unfold f11_septembers
    rw [in0s, if_neg c1, in060, if_neg c2, e3, bnd_s, nI_l (by omega), show l11_septembers_41 0 (nI N) 2000 (lN X) 0 (sA (sA σ 4 4 f') 22 4 g) = _ from e4, bnd_s]
    show bnd (f11_bits ((sA (sA σ 4 4 f') 22 4 g').1 22 4 7)) _ = _
    rw [sA_at, hG.2.1, pcR _ w6, bnd_s]
