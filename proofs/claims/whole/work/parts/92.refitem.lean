/-! the reference reads an item -/
theorem RV.storm {h : Nat → Int32} {A : Nat → Nat} {y c g : Nat} (hA : AR A) (hy : y < 6) (hR : RV h A) : RV (upd (upd h (10 + y) (nI c)) (16 + y) (nI g)) (updN (updN A (10 + y) c) (16 + y) g) := by
  obtain ⟨A', hA'⟩ : ∃ A', A' = updN (updN A (10 + y) c) (16 + y) g := ⟨_, rfl⟩
  obtain ⟨h', hh'⟩ : ∃ h', h' = upd (upd h (10 + y) (nI c)) (16 + y) (nI g) := ⟨_, rfl⟩
  have e : ∀ j, ¬ j = 10 + y → ¬ j = 16 + y → A' j = A j := fun j j1 j2 => by rw [hA', un_n j2, un_n j1]
  have eh : ∀ j, ¬ j = 10 + y → ¬ j = 16 + y → h' j = h j := fun j j1 j2 => by rw [hh', up_n j2, up_n j1]
  obtain ⟨⟨a1, a2⟩, -, -, -⟩ := hA
  obtain ⟨⟨r1, r2⟩, r3, r4, r5⟩ := hR
  have s1 : h' (10 + y) = nI (A' (10 + y)) := by rw [hh', hA', up_n (by omega), up_s, un_n (by omega), un_s]
  have s2 : h' (16 + y) = nI (A' (16 + y)) := by rw [hh', hA', up_s, un_s]
  rw [← hA', ← hh']
  refine ⟨⟨?_, ?_⟩, fun y' hy' => ?_, fun k hk => ?_, fun k hk => ?_⟩
  · rw [e 0 (by omega) (by omega), eh 0 (by omega) (by omega)]; exact r1
  · rw [e 1 (by omega) (by omega), eh 1 (by omega) (by omega)]; exact r2
  · by_cases z : y' = y
    · rw [z]; exact ⟨s1, s2⟩
    · rw [e _ (by omega) (by omega), e _ (by omega) (by omega), eh _ (by omega) (by omega), eh _ (by omega) (by omega)]; exact r3 y' hy'
  · rw [e 0 (by omega) (by omega)] at hk
    rw [e _ (by omega) (by omega), e _ (by omega) (by omega), e _ (by omega) (by omega), eh _ (by omega) (by omega), eh _ (by omega) (by omega), eh _ (by omega) (by omega)]; exact r4 k hk
  · rw [e 1 (by omega) (by omega)] at hk
    rw [e _ (by omega) (by omega), eh _ (by omega) (by omega)]; exact r5 k hk
theorem RV.thing {h : Nat → Int32} {A : Nat → Nat} {x g c : Nat} {u : Int32} (hA : AR A) (ht : A 0 < 6) (hR : RV h A) : RV (upd (upd (upd (upd (upd h (22 + A 0) (nI x)) (28 + A 0) (nI g)) (34 + A 0) (nI c)) 6 u) 0 (nI (A 0 + 1))) (updN (updN (updN (updN A (22 + A 0) x) (28 + A 0) g) (34 + A 0) c) 0 (A 0 + 1)) := by
  obtain ⟨A', hA'⟩ : ∃ A', A' = updN (updN (updN (updN A (22 + A 0) x) (28 + A 0) g) (34 + A 0) c) 0 (A 0 + 1) := ⟨_, rfl⟩
  obtain ⟨h', hh'⟩ : ∃ h', h' = upd (upd (upd (upd (upd h (22 + A 0) (nI x)) (28 + A 0) (nI g)) (34 + A 0) (nI c)) 6 u) 0 (nI (A 0 + 1)) := ⟨_, rfl⟩
  have e : ∀ j, ¬ j = 0 → ¬ j = 22 + A 0 → ¬ j = 28 + A 0 → ¬ j = 34 + A 0 → A' j = A j := fun j j0 j1 j2 j3 => by rw [hA', un_n j0, un_n j3, un_n j2, un_n j1]
  have eh : ∀ j, ¬ j = 0 → ¬ j = 6 → ¬ j = 22 + A 0 → ¬ j = 28 + A 0 → ¬ j = 34 + A 0 → h' j = h j := fun j j0 j6 j1 j2 j3 => by rw [hh', up_n j0, up_n j6, up_n j3, up_n j2, up_n j1]
  obtain ⟨⟨a1, a2⟩, -, -, -⟩ := hA
  obtain ⟨⟨r1, r2⟩, r3, r4, r5⟩ := hR
  have e0 : A' 0 = A 0 + 1 := by rw [hA', un_s]
  have s0 : h' 0 = nI (A 0 + 1) := by rw [hh', up_s]
  have s1 : h' (22 + A 0) = nI (A' (22 + A 0)) := by rw [hh', hA', up_n (by omega), up_n (by omega), up_n (by omega), up_n (by omega), up_s, un_n (by omega), un_n (by omega), un_n (by omega), un_s]
  have s2 : h' (28 + A 0) = nI (A' (28 + A 0)) := by rw [hh', hA', up_n (by omega), up_n (by omega), up_n (by omega), up_s, un_n (by omega), un_n (by omega), un_s]
  have s3 : h' (34 + A 0) = nI (A' (34 + A 0)) := by rw [hh', hA', up_n (by omega), up_n (by omega), up_s, un_n (by omega), un_s]
  rw [← hA', ← hh']
  refine ⟨⟨?_, ?_⟩, fun y' hy' => ?_, fun k hk => ?_, fun k hk => ?_⟩
  · rw [e0, s0]
  · rw [e 1 (by omega) (by omega) (by omega) (by omega), eh 1 (by omega) (by omega) (by omega) (by omega) (by omega)]; exact r2
  · rw [e _ (by omega) (by omega) (by omega) (by omega), e _ (by omega) (by omega) (by omega) (by omega), eh _ (by omega) (by omega) (by omega) (by omega) (by omega), eh _ (by omega) (by omega) (by omega) (by omega) (by omega)]; exact r3 y' hy'
  · rw [e0] at hk
    by_cases z : k = A 0
    · rw [z]; exact ⟨s1, s2, s3⟩
    · rw [e _ (by omega) (by omega) (by omega) (by omega), e _ (by omega) (by omega) (by omega) (by omega), e _ (by omega) (by omega) (by omega) (by omega), eh _ (by omega) (by omega) (by omega) (by omega) (by omega), eh _ (by omega) (by omega) (by omega) (by omega) (by omega), eh _ (by omega) (by omega) (by omega) (by omega) (by omega)]; exact r4 k (by omega)
  · rw [e 1 (by omega) (by omega) (by omega) (by omega)] at hk
    rw [e _ (by omega) (by omega) (by omega) (by omega), eh _ (by omega) (by omega) (by omega) (by omega) (by omega)]; exact r5 k hk
theorem RV.part {h : Nat → Int32} {A : Nat → Nat} {x : Nat} (hA : AR A) (hR : RV h A) : RV (upd (upd h (40 + A 1) (nI x)) 1 (nI (A 1 + 1))) (updN (updN A (40 + A 1) x) 1 (A 1 + 1)) := by
  obtain ⟨A', hA'⟩ : ∃ A', A' = updN (updN A (40 + A 1) x) 1 (A 1 + 1) := ⟨_, rfl⟩
  obtain ⟨h', hh'⟩ : ∃ h', h' = upd (upd h (40 + A 1) (nI x)) 1 (nI (A 1 + 1)) := ⟨_, rfl⟩
  have e : ∀ j, ¬ j = 1 → ¬ j = 40 + A 1 → A' j = A j := fun j j1 j2 => by rw [hA', un_n j1, un_n j2]
  have eh : ∀ j, ¬ j = 1 → ¬ j = 40 + A 1 → h' j = h j := fun j j1 j2 => by rw [hh', up_n j1, up_n j2]
  obtain ⟨⟨a1, a2⟩, -, -, -⟩ := hA
  obtain ⟨⟨r1, r2⟩, r3, r4, r5⟩ := hR
  have e1 : A' 1 = A 1 + 1 := by rw [hA', un_s]
  have s1 : h' 1 = nI (A 1 + 1) := by rw [hh', up_s]
  have s2 : h' (40 + A 1) = nI (A' (40 + A 1)) := by rw [hh', hA', up_n (by omega), up_s, un_n (by omega), un_s]
  rw [← hA', ← hh']
  refine ⟨⟨?_, ?_⟩, fun y' hy' => ?_, fun k hk => ?_, fun k hk => ?_⟩
  · rw [e 0 (by omega) (by omega), eh 0 (by omega) (by omega)]; exact r1
  · rw [e1, s1]
  · rw [e _ (by omega) (by omega), e _ (by omega) (by omega), eh _ (by omega) (by omega), eh _ (by omega) (by omega)]; exact r3 y' hy'
  · rw [e 0 (by omega) (by omega)] at hk
    rw [e _ (by omega) (by omega), e _ (by omega) (by omega), e _ (by omega) (by omega), eh _ (by omega) (by omega), eh _ (by omega) (by omega), eh _ (by omega) (by omega)]; exact r4 k hk
  · rw [e1] at hk
    by_cases z : k = A 1
    · rw [z]; exact s2
    · rw [e _ (by omega) (by omega), eh _ (by omega) (by omega)]; exact r5 k (by omega)
/-- the row drafted holds what is told -/
def RR (σ : Mem) (d : DT) : Prop := RV (σ.1 22 10) d.1 ∧ Mr (σ.1 22 10) d.2 ∧ ∀ j, 2 ≤ j → j < 6 → σ.1 22 10 j = 0
theorem RR.mk {σ : Mem} {A : Nat → Nat} {q : QT} (h1 : RV (σ.1 22 10) A) (h2 : Mr (σ.1 22 10) q) (h3 : ∀ j, 2 ≤ j → j < 6 → σ.1 22 10 j = 0) : RR σ (A, q) := ⟨h1, h2, h3⟩
theorem RR.fr {σ τ : Mem} {d : DT} (h : RR σ d) (e : τ.1 22 10 = σ.1 22 10) : RR τ d := by
  unfold RR
  rw [e]; exact h
/-- what an item's reading comes to, behind its word -/
def GI (B : Nat → Nat) (len : Nat) (σ τ : Mem) (w i : Nat) (d : DT) (E : Option (Int32 × Mem)) : Prop :=
  FR σ τ ∧ match rdn B len (bnds w d.1) i with
    | .inl r => E = some (1, τ) ∧ LR B len r.2 (τ.1 11 0) ∧ RR τ (eff w r.1 d)
    | .inr f => E = some (0, τ) ∧ τ.1 11 0 13 = nI f
theorem b0_5 (v : Nat) (hv : v ≤ 99) : f10_within (nI v) 0 5 = bI (Nat.ble 0 v && Nat.blt v 6) := bnd_R (A := fun _ => 0) (w := 5) (p := 0) (Nat.zero_le _) (by decide) (by decide) v hv
theorem b0_11 (v : Nat) (hv : v ≤ 99) : f10_within (nI v) 0 11 = bI (Nat.ble 0 v && Nat.blt v 12) := bnd_R (A := fun _ => 0) (w := 5) (p := 1) (Nat.zero_le _) (by decide) (by decide) v hv
theorem b0_9 (v : Nat) (hv : v ≤ 99) : f10_within (nI v) 0 9 = bI (Nat.ble 0 v && Nat.blt v 10) := bnd_R (A := fun _ => 0) (w := 5) (p := 2) (Nat.zero_le _) (by decide) (by decide) v hv
theorem b1_30 (v : Nat) (hv : v ≤ 99) : f10_within (nI v) 1 30 = bI (Nat.ble 1 v && Nat.blt v 31) := bnd_R (A := fun _ => 0) (w := 6) (p := 1) (Nat.zero_le _) (by decide) (by decide) v hv
theorem b1_99 (v : Nat) (hv : v ≤ 99) : f10_within (nI v) 1 99 = bI (Nat.ble 1 v && Nat.blt v 100) := bnd_R (A := fun _ => 0) (w := 9) (p := 0) (Nat.zero_le _) (by decide) (by decide) v hv
theorem b0_t {t : Nat} (ht : t ≤ 6) (v : Nat) (hv : v ≤ 99) : f10_within (nI v) 0 (nI t - 1) = bI (Nat.ble 0 v && Nat.blt v t) := bnd_R (A := fun _ => t) (w := 8) (p := 0) ht (by decide) Nat.one_pos v hv
def KSt (τ : Mem) : Option (Int32 × Mem) := ck (inb (10 + (τ.1 22 11 0)) 110) <| lt (sI τ 22 10 ((10 + (τ.1 22 11 0)) : Int32).toNatClampNeg (τ.1 22 11 1)) fun σ10 => ck (inb (16 + (σ10.1 22 11 0)) 110) <| lt (sI σ10 22 10 ((16 + (σ10.1 22 11 0)) : Int32).toNatClampNeg (σ10.1 22 11 2)) fun σ12 => some (1, σ12)
def KTh (τ : Mem) : Option (Int32 × Mem) := bnd (f11_layThing 10 (τ.1 22 11 0) (τ.1 22 11 1) (τ.1 22 11 2) τ) fun w9 => some (1, w9)
def KPa (τ : Mem) : Option (Int32 × Mem) := ck (inb (40 + (τ.1 22 10 1)) 110) <| lt (sI τ 22 10 ((40 + (τ.1 22 10 1)) : Int32).toNatClampNeg (τ.1 22 11 0)) fun σ6 => lt (sI σ6 22 10 1 ((σ6.1 22 10 1) + 1)) fun σ7 => some (1, σ7)
def KTa (τ : Mem) : Option (Int32 × Mem) := lt (sI τ 22 10 6 ((τ.1 22 10 6) ^^^ (1 <<< ((τ.1 22 11 0) &&& 31)))) fun σ5 => some (1, σ5)
def KSu (τ : Mem) : Option (Int32 × Mem) := bnd (f11_goSummers 10 (τ.1 22 11 0) τ) fun w5 => some (1, w5)
section ITEM
variable {σ : Mem} {B : Nat → Nat} {len i : Nat} {d : DT}
theorem GI.of {σ1 τ : Mem} {w : Nat} {l : List (Nat × Nat)} {E : Option (Int32 × Mem)} {K : Mem → Option (Int32 × Mem)} (hi : i ≤ len) (f1 : FR σ σ1) (hl : bnds w d.1 = l) (g : GO B len σ1 τ l i E K)
    (hK : ∀ vs, vs.length = l.length → (∀ k, k < l.length → (l.getD k (0, 0)).1 ≤ vs.getD k 0 ∧ vs.getD k 0 < (l.getD k (0, 0)).2) → (∀ k, k < l.length → τ.1 22 11 k = nI (vs.getD k 0)) → ∃ f, K τ = some (1, sA τ 22 10 f) ∧ RR (sA τ 22 10 f) (eff w vs d)) :
    ∃ τ, GI B len σ τ w i d E := by
  obtain ⟨f2, k2, m⟩ := g
  unfold GI
  rw [hl]
  have hrd := rdn_ok (B := B) (len := len) l i hi
  cases hr : rdn B len l i with
  | inr f =>
    rw [hr] at m
    exact ⟨τ, f1.tr f2, m⟩
  | inl r =>
    rw [hr] at m
    obtain ⟨m1, m2, m3⟩ := m
    obtain ⟨-, -, r3, r4⟩ := hrd r.1 r.2 hr
    obtain ⟨f, e, hf⟩ := hK r.1 r3 r4 m3
    exact ⟨sA τ 22 10 f, f1.tr (f2.tr (FR.row (Or.inl rfl))), m1.trans e, m2, hf⟩
theorem givesStorm_ok (h : TR σ B len) (hi : i ≤ len) (hL : LR B len i (σ.1 11 0)) (hd : DOK d) (hR : RR σ d) : ∃ τ, GI B len σ τ 5 (tE B len i) d (f11_givesStorm 0 σ) := by
  obtain ⟨σ1, e1, f1, l1, k1⟩ := goBehind_ok h hi hL
  have te2 := (tE_ok (B := B) hi).2.1
  obtain ⟨τ, g⟩ := gives3 KSt (h.fr f1) te2 l1 b0_5 b0_11 b0_9
  have e0 : f11_givesStorm 0 σ = (bnd (f11_gives 0 0 0 5 σ1) fun w3 => if w3.1 = 0 then some (0, w3.2) else bnd (f11_gives 0 1 0 11 w3.2) fun w5 => if w5.1 = 0 then some (0, w5.2) else bnd (f11_gives 0 2 0 9 w5.2) fun w7 => if w7.1 = 0 then some (0, w7.2) else KSt w7.2) := by
    unfold f11_givesStorm KSt
    rw [e1, bnd_s]
  rw [e0]
  obtain ⟨r1, r2, r3⟩ := hR.fr (g.2.1.trans (congrFun k1 10))
  refine GI.of te2 f1 rfl g (fun vs v1 v2 v3 => ?_)
  have a0 : τ.1 22 11 0 = _ := v3 0 (Nat.le_of_ble_eq_true rfl)
  have a1 : τ.1 22 11 1 = _ := v3 1 (Nat.le_of_ble_eq_true rfl)
  have a2 : τ.1 22 11 2 = _ := v3 2 (Nat.le_of_ble_eq_true rfl)
  have c0 : vs.getD 0 0 < 6 := (v2 0 (Nat.le_of_ble_eq_true rfl)).2
  refine ⟨upd (upd (τ.1 22 10) (10 + vs.getD 0 0) (nI (vs.getD 1 0))) (16 + vs.getD 0 0) (nI (vs.getD 2 0)), ?_, ?_⟩
  · unfold KSt
    rw [a0, a1, show (10 : Int32) + nI (vs.getD 0 0) = nI (10 + vs.getD 0 0) from nI_add 10 _, inb_nI (show 10 + vs.getD 0 0 < 110 by omega) (by decide), ck_t, nI_clamp (by omega), lt_e, show (sI τ 22 10 (10 + vs.getD 0 0) (nI (vs.getD 1 0))).1 22 11 = τ.1 22 11 from rfl, a0, a2, show (16 : Int32) + nI (vs.getD 0 0) = nI (16 + vs.getD 0 0) from nI_add 16 _, inb_nI (show 16 + vs.getD 0 0 < 110 by omega) (by decide), ck_t, nI_clamp (by omega), lt_e, show sI τ 22 10 (10 + vs.getD 0 0) (nI (vs.getD 1 0)) = sA τ 22 10 (upd (τ.1 22 10) (10 + vs.getD 0 0) (nI (vs.getD 1 0))) from rfl, sI_sA]
  · refine RR.mk ?_ ?_ (fun j j1 j2 => ?_)
    · rw [sA_at]; exact RV.storm hd.1 c0 r1
    · rw [sA_at]
      obtain ⟨q1, q2, q3, q4⟩ := r2
      refine ⟨?_, ?_, ?_, ?_⟩
      · rw [up_n (by omega), up_n (by omega)]; exact q1
      · rw [up_n (by omega), up_n (by omega)]; exact q2
      · rw [up_n (by omega), up_n (by omega)]; exact q3
      · rw [up_n (by omega), up_n (by omega)]; exact q4
    · rw [sA_at, up_n (by omega), up_n (by omega)]; exact r3 j j1 j2
theorem givesThing_ok (h : TR σ B len) (hi : i ≤ len) (hL : LR B len i (σ.1 11 0)) (hd : DOK d) (hR : RR σ d) (ht : d.1 0 < 6) : ∃ τ, GI B len σ τ 6 (tE B len i) d (f11_givesThing 0 σ) := by
  obtain ⟨σ1, e1, f1, l1, k1⟩ := goBehind_ok h hi hL
  have te2 := (tE_ok (B := B) hi).2.1
  obtain ⟨τ, g⟩ := gives3 KTh (h.fr f1) te2 l1 b0_5 b1_30 b0_11
  have e0 : f11_givesThing 0 σ = (bnd (f11_gives 0 0 0 5 σ1) fun w3 => if w3.1 = 0 then some (0, w3.2) else bnd (f11_gives 0 1 1 30 w3.2) fun w5 => if w5.1 = 0 then some (0, w5.2) else bnd (f11_gives 0 2 0 11 w5.2) fun w7 => if w7.1 = 0 then some (0, w7.2) else KTh w7.2) := by
    unfold f11_givesThing KTh
    rw [hR.1.1.1, if_neg (neR (d.1 0) 6 (by omega)), e1, bnd_s]
  rw [e0]
  obtain ⟨r1, r2, r3⟩ := hR.fr (g.2.1.trans (congrFun k1 10))
  refine GI.of te2 f1 rfl g (fun vs v1 v2 v3 => ?_)
  have a0 : τ.1 22 11 0 = _ := v3 0 (Nat.le_of_ble_eq_true rfl)
  have a1 : τ.1 22 11 1 = _ := v3 1 (Nat.le_of_ble_eq_true rfl)
  have a2 : τ.1 22 11 2 = _ := v3 2 (Nat.le_of_ble_eq_true rfl)
  refine ⟨upd (upd (upd (upd (upd (τ.1 22 10) (22 + d.1 0) (nI (vs.getD 0 0))) (28 + d.1 0) (nI (vs.getD 1 0))) (34 + d.1 0) (nI (vs.getD 2 0))) 6 (nI (d.2.1 ||| 2 ^ d.1 0))) 0 (nI (d.1 0 + 1)), ?_, ?_⟩
  · unfold KTh
    rw [a0, a1, a2, layThing_ok (Or.inr (Or.inr rfl)) r1.1.1 ht (q64 hd.1 hd.2.2.1) r2.1, bnd_s]
  · refine RR.mk ?_ ?_ (fun j j1 j2 => ?_)
    · rw [sA_at]; exact RV.thing hd.1 ht r1
    · rw [sA_at]
      obtain ⟨q1, q2, q3, q4⟩ := r2
      refine ⟨?_, ?_, ?_, ?_⟩
      · rw [up_n (by omega), up_s]
      · rw [up_n (by omega), up_n (by omega), up_n (by omega), up_n (by omega), up_n (by omega)]; exact q2
      · rw [up_n (by omega), up_n (by omega), up_n (by omega), up_n (by omega), up_n (by omega)]; exact q3
      · rw [up_n (by omega), up_n (by omega), up_n (by omega), up_n (by omega), up_n (by omega)]; exact q4
    · rw [sA_at, up_n (by omega), up_n (by omega), up_n (by omega), up_n (by omega), up_n (by omega)]; exact r3 j j1 j2
theorem givesPart_ok (h : TR σ B len) (hi : i ≤ len) (hL : LR B len i (σ.1 11 0)) (hd : DOK d) (hR : RR σ d) (ht : d.1 1 < 6) : ∃ τ, GI B len σ τ 7 (tE B len i) d (f11_givesPart 0 σ) := by
  obtain ⟨σ1, e1, f1, l1, k1⟩ := goBehind_ok h hi hL
  have te2 := (tE_ok (B := B) hi).2.1
  obtain ⟨τ, g⟩ := gives1 KPa (h.fr f1) te2 l1 b0_5
  have e0 : f11_givesPart 0 σ = (bnd (f11_gives 0 0 0 5 σ1) fun w3 => if w3.1 = 0 then some (0, w3.2) else KPa w3.2) := by
    unfold f11_givesPart KPa
    rw [hR.1.1.2, if_neg (neR (d.1 1) 6 (by omega)), e1, bnd_s]
  rw [e0]
  obtain ⟨r1, r2, r3⟩ := hR.fr (g.2.1.trans (congrFun k1 10))
  refine GI.of te2 f1 rfl g (fun vs v1 v2 v3 => ?_)
  have a0 : τ.1 22 11 0 = _ := v3 0 (Nat.le_of_ble_eq_true rfl)
  have p1 : τ.1 22 10 1 = _ := r1.1.2
  refine ⟨upd (upd (τ.1 22 10) (40 + d.1 1) (nI (vs.getD 0 0))) 1 (nI (d.1 1 + 1)), ?_, ?_⟩
  · unfold KPa
    rw [a0, p1, show (40 : Int32) + nI (d.1 1) = nI (40 + d.1 1) from nI_add 40 _, inb_nI (show 40 + d.1 1 < 110 by omega) (by decide), ck_t, nI_clamp (by omega), lt_e, show sI τ 22 10 (40 + d.1 1) (nI (vs.getD 0 0)) = sA τ 22 10 (upd (τ.1 22 10) (40 + d.1 1) (nI (vs.getD 0 0))) from rfl, sA_at, up_n (by omega), p1, nI_1, sI_sA, lt_e]
  · refine RR.mk ?_ ?_ (fun j j1 j2 => ?_)
    · rw [sA_at]; exact RV.part hd.1 r1
    · rw [sA_at]
      obtain ⟨q1, q2, q3, q4⟩ := r2
      refine ⟨?_, ?_, ?_, ?_⟩
      · rw [up_n (by omega), up_n (by omega)]; exact q1
      · rw [up_n (by omega), up_n (by omega)]; exact q2
      · rw [up_n (by omega), up_n (by omega)]; exact q3
      · rw [up_n (by omega), up_n (by omega)]; exact q4
    · rw [sA_at, up_n (by omega), up_n (by omega)]; exact r3 j j1 j2
theorem givesTake_ok (h : TR σ B len) (hi : i ≤ len) (hL : LR B len i (σ.1 11 0)) (hd : DOK d) (hR : RR σ d) : ∃ τ, GI B len σ τ 8 (tE B len i) d (f11_givesTake 0 σ) := by
  obtain ⟨σ1, e1, f1, l1, k1⟩ := goBehind_ok h hi hL
  have te2 := (tE_ok (B := B) hi).2.1
  obtain ⟨τ, g⟩ := gives1 KTa (h.fr f1) te2 l1 (b0_t hd.1.1.1)
  have e0 : f11_givesTake 0 σ = (bnd (f11_gives 0 0 0 (nI (d.1 0) - 1) σ1) fun w3 => if w3.1 = 0 then some (0, w3.2) else KTa w3.2) := by
    unfold f11_givesTake KTa
    rw [e1, bnd_s, show σ1.1 22 10 0 = nI (d.1 0) from (congrFun (congrFun k1 10) 0).trans hR.1.1.1]
  rw [e0]
  obtain ⟨r1, r2, r3⟩ := hR.fr (g.2.1.trans (congrFun k1 10))
  refine GI.of te2 f1 rfl g (fun vs v1 v2 v3 => ?_)
  have a0 : τ.1 22 11 0 = _ := v3 0 Nat.one_pos
  have c0 : vs.getD 0 0 < d.1 0 := (v2 0 Nat.one_pos).2
  have b0 := hd.1.1.1
  refine ⟨upd (τ.1 22 10) 6 (nI (d.2.1 ^^^ 2 ^ vs.getD 0 0)), ?_, ?_⟩
  · unfold KTa
    rw [a0, r2.1, xorN _ (q64 hd.1 hd.2.2.1) _ (by omega), lt_e]
    rfl
  · refine RR.mk ?_ ?_ (fun j j1 j2 => ?_)
    · rw [sA_at]; exact r1.fr hd.1 (fun j hj => up_n (by omega))
    · rw [sA_at]
      obtain ⟨q1, q2, q3, q4⟩ := r2
      refine ⟨up_s, ?_, ?_, ?_⟩
      · rw [up_n (by omega)]; exact q2
      · rw [up_n (by omega)]; exact q3
      · rw [up_n (by omega)]; exact q4
    · rw [sA_at, up_n (by omega)]; exact r3 j j1 j2
theorem givesSummers_ok (h : TR σ B len) (hi : i ≤ len) (hL : LR B len i (σ.1 11 0)) (hd : DOK d) (hR : RR σ d) : ∃ τ, GI B len σ τ 9 (tE B len i) d (f11_givesSummers 0 σ) := by
  obtain ⟨σ1, e1, f1, l1, k1⟩ := goBehind_ok h hi hL
  have te2 := (tE_ok (B := B) hi).2.1
  obtain ⟨τ, g⟩ := gives1 KSu (h.fr f1) te2 l1 b1_99
  have e0 : f11_givesSummers 0 σ = (bnd (f11_gives 0 0 1 99 σ1) fun w3 => if w3.1 = 0 then some (0, w3.2) else KSu w3.2) := by
    unfold f11_givesSummers KSu
    rw [e1, bnd_s]
  rw [e0]
  obtain ⟨r1, r2, r3⟩ := hR.fr (g.2.1.trans (congrFun k1 10))
  refine GI.of te2 f1 rfl g (fun vs v1 v2 v3 => ?_)
  have a0 : τ.1 22 11 0 = _ := v3 0 (Nat.le_of_ble_eq_true rfl)
  have c0 : vs.getD 0 0 < 100 := (v2 0 (Nat.le_of_ble_eq_true rfl)).2
  obtain ⟨f', e, k, m⟩ := goSummers_ok (k0 := 10) (σ := τ) (Or.inr (Or.inr rfl)) hd.1 c0 r1 hd.2.2.1 hd.2.2.2 r2
  rw [sA_self] at e
  refine ⟨f', ?_, ?_⟩
  · unfold KSu
    rw [a0, e, bnd_s]
  · refine RR.mk ?_ ?_ (fun j j1 j2 => ?_)
    · rw [sA_at]; exact k.RV hd.1 r1
    · rw [sA_at]; exact m
    · rw [sA_at, k j (by omega)]; exact r3 j j1 j2
end ITEM
