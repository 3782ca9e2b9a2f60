/-! THE PURE PART: class and reference answer alike. The relation between a village of the class and a row of the reference -/
theorem in_within (x lo hi : Int32) : f11_in x.toInt64 lo.toInt64 hi.toInt64 = f10_within x lo hi := by
  have h1 : lg_cmp x.toInt64 lo.toInt64 < 0 ↔ x < lo := by
    rw [← Int32.not_le, lg_cmp_ge, Int64.not_le, Int64.lt_iff_toInt_lt, Int32.lt_iff_toInt_lt, Int32.toInt_toInt64, Int32.toInt_toInt64]
  have h2 : 0 < lg_cmp x.toInt64 hi.toInt64 ↔ hi < x := by
    unfold lg_cmp
    simp only [gt_iff_lt, Int64.lt_iff_toInt_lt, ← Int64.toInt_inj, Int32.lt_iff_toInt_lt, Int32.toInt_toInt64]
    repeat' split
    · simp_all
    · rename_i a b; constructor
      · intro h; exact absurd h (by decide)
      · intro h; exact absurd h a
    · rename_i a b; constructor
      · intro h; exact absurd h (by decide)
      · intro h; exact absurd h a
  unfold f11_in f10_within
  by_cases c1 : x < lo
  · rw [if_pos c1, if_pos (h1.mpr c1)]
  · rw [if_neg c1, if_neg (fun h => c1 (h1.mp h))]
    by_cases c2 : hi < x
    · rw [if_pos c2, if_pos (h2.mpr c2)]
    · rw [if_neg c2, if_neg (fun h => c2 (h2.mp h))]
theorem wi_no {x lo hi : Int32} (h : f10_within x lo hi = 0) : x < lo ∨ hi < x := by
  unfold f10_within at h
  split at h
  · exact Or.inl ‹_›
  · split at h
    · exact Or.inr ‹_›
    · exact absurd h (by decide)
/-- within 0 to n: the numbers 0 to n -/
theorem wi_yes {x : Int32} {n : Nat} (hn : n < 1000) (h : ¬ f10_within x 0 (nI n) = 0) : ∃ y, y ≤ n ∧ x = nI y := by
  unfold f10_within at h
  split at h
  · exact absurd rfl h
  · rename_i h1
    split at h
    · exact absurd rfl h
    · rename_i h2
      obtain ⟨y, hy, rfl⟩ := nI_of h1
      exact ⟨y, Nat.not_lt.mp (fun q => h2 (nI_lt q hy)), rfl⟩
theorem wi_t {y n : Nat} (hn : n < 1000) (hy : y ≤ n) : f10_within (nI y) 0 (nI n) = 1 := by
  unfold f10_within
  rw [if_neg (nI_pos (by omega)), if_neg (nI_nlt hy (by omega))]
/-- a village of the class and a row of the reference say the same; t things, p parts, s seen, n notes, m marks, e earlier -/
def VR (v : Nat) (σ : Mem) (a : Nat → Int32) (t p s n m e : Nat) : Prop :=
  TC v σ ∧ (σ.1 7 (7 * v) 3 = nI 6 ∧ σ.1 7 (7 * v + 1) 3 = nI t ∧ σ.1 7 (7 * v + 2) 3 = nI p ∧ σ.1 7 (7 * v + 3) 3 = nI s ∧ σ.1 7 (7 * v + 4) 3 = nI n ∧ σ.1 7 (7 * v + 5) 3 = nI m ∧ σ.1 7 (7 * v + 6) 3 = nI e) ∧
  (∀ j, j < 4 → σ.1 4 v j = a (6 + j)) ∧ (∀ y, y < 6 → σ.1 20 (7 * v) (2 * y) = a (10 + y) ∧ σ.1 20 (7 * v) (2 * y + 1) = a (16 + y)) ∧
  (∀ k, k < t → σ.1 20 (7 * v + 1) (3 * k) = a (22 + k) ∧ σ.1 20 (7 * v + 1) (3 * k + 1) = a (28 + k) ∧ σ.1 20 (7 * v + 1) (3 * k + 2) = a (34 + k)) ∧
  (∀ k, k < p → σ.1 20 (7 * v + 2) k = a (40 + k)) ∧ (∀ i, i < 2 * s → σ.1 20 (7 * v + 3) i = a (46 + i)) ∧ (∀ i, i < 5 * n → σ.1 20 (7 * v + 4) i = a (56 + i)) ∧ (∀ i, i < 4 * m → σ.1 20 (7 * v + 5) i = a (86 + i)) ∧ (∀ i, i < 4 * e → σ.1 20 (7 * v + 6) i = a (110 + i))
/-- what is written down keeps to -/
def RX (a : Nat → Int32) (s n m : Nat) : Prop := (∀ i, i < s → ∃ c, c ≤ 11 ∧ a (46 + 2 * i) = nI c) ∧ (∀ i, i < n → (∃ h, h ≤ 30 ∧ a (57 + 5 * i) = nI h) ∧ (∃ f, f ≤ 11 ∧ a (58 + 5 * i) = nI f) ∧ ∃ y, y ≤ 99 ∧ a (59 + 5 * i) = nI y) ∧ ∀ i, i < m → (∃ k, k ≤ 5 ∧ a (87 + 4 * i) = nI k) ∧ ∃ y, y ≤ 99 ∧ a (88 + 4 * i) = nI y
theorem RX.congr {a b : Nat → Int32} {s n m : Nat} (h : RX a s n m) (hb : s ≤ 5 ∧ n ≤ 6 ∧ m ≤ 6) (hab : ∀ j, 46 ≤ j → j < 110 → b j = a j) : RX b s n m := by
  obtain ⟨h1, h2, h3⟩ := h
  refine ⟨fun i hi => ?_, fun i hi => ?_, fun i hi => ?_⟩
  · rw [hab _ (by omega) (by omega)]; exact h1 i hi
  · rw [hab _ (by omega) (by omega), hab _ (by omega) (by omega), hab _ (by omega) (by omega)]; exact h2 i hi
  · rw [hab _ (by omega) (by omega), hab _ (by omega) (by omega)]; exact h3 i hi
theorem RX.none (a : Nat → Int32) : RX a 0 0 0 := ⟨fun i hi => absurd hi (Nat.not_lt_zero i), fun i hi => absurd hi (Nat.not_lt_zero i), fun i hi => absurd hi (Nat.not_lt_zero i)⟩
/-- what a row's numbers keep to -/
def Ro (a : Nat → Int32) (t p s n m e : Nat) : Prop :=
  (a 0 = nI t ∧ a 1 = nI p ∧ a 2 = nI s ∧ a 3 = nI n ∧ a 4 = nI m ∧ a 5 = nI e) ∧ (t ≤ 6 ∧ p ≤ 6 ∧ s ≤ 5 ∧ n ≤ 6 ∧ m ≤ 6 ∧ e ≤ 8) ∧
  (∀ y, y < 6 → (∃ c, c ≤ 11 ∧ a (10 + y) = nI c) ∧ ∃ g, g ≤ 9 ∧ a (16 + y) = nI g) ∧
  (∀ k, k < t → (∃ d, d ≤ 5 ∧ a (22 + k) = nI d) ∧ (∃ h, 1 ≤ h ∧ h ≤ 30 ∧ a (28 + k) = nI h) ∧ ∃ c, c ≤ 11 ∧ a (34 + k) = nI c) ∧
  (∀ k, k < p → ∃ d, d ≤ 5 ∧ a (40 + k) = nI d) ∧
  ((∃ u, u < 2 ^ t ∧ a 6 = nI u) ∧ (∃ w, w < 2 ^ p ∧ a 7 = nI w) ∧ (∃ c, c ≤ 999 ∧ a 8 = nI c) ∧ ∃ r, r ≤ 999 ∧ a 9 = nI r) ∧
  (∀ i, i < e → (∃ u, u < 2 ^ t ∧ a (110 + 4 * i) = nI u) ∧ (∃ w, w < 2 ^ p ∧ a (111 + 4 * i) = nI w) ∧ (∃ c, c ≤ 999 ∧ a (112 + 4 * i) = nI c) ∧ ∃ r, r ≤ 999 ∧ a (113 + 4 * i) = nI r) ∧
  RX a s n m
theorem VR.congr {v : Nat} {σ τ : Mem} {a b : Nat → Int32} {t p s n m e : Nat} (h : VR v σ a t p s n m e) (h7 : ∀ k j, 7 * v ≤ k → k < 7 * v + 7 → τ.1 7 k j = σ.1 7 k j) (h20 : ∀ k j, 7 * v ≤ k → k < 7 * v + 7 → τ.1 20 k j = σ.1 20 k j) (h4 : ∀ j, τ.1 4 v j = σ.1 4 v j) (hab : ∀ j, j < 142 → b j = a j) (hs : t ≤ 6 ∧ p ≤ 6 ∧ s ≤ 5 ∧ n ≤ 6 ∧ m ≤ 6 ∧ e ≤ 8) : VR v τ b t p s n m e := by
  obtain ⟨c1, ⟨s0, s1, s2, s3, s4, s5, s6⟩, c3, c4, c5, c6, c7, c8, c9, c10⟩ := h
  refine ⟨fun j hj => ?_, ⟨?_, ?_, ?_, ?_, ?_, ?_, ?_⟩, fun j hj => ?_, fun y hy => ?_, fun k hk => ?_, fun k hk => ?_, fun i hi => ?_, fun i hi => ?_, fun i hi => ?_, fun i hi => ?_⟩
  · rw [h7 _ _ (by omega) (by omega), h7 _ _ (by omega) (by omega)]; exact c1 j hj
  · rw [h7 _ _ (by omega) (by omega)]; exact s0
  · rw [h7 _ _ (by omega) (by omega)]; exact s1
  · rw [h7 _ _ (by omega) (by omega)]; exact s2
  · rw [h7 _ _ (by omega) (by omega)]; exact s3
  · rw [h7 _ _ (by omega) (by omega)]; exact s4
  · rw [h7 _ _ (by omega) (by omega)]; exact s5
  · rw [h7 _ _ (by omega) (by omega)]; exact s6
  · rw [h4, hab _ (by omega)]; exact c3 j hj
  · rw [h20 _ _ (by omega) (by omega), h20 _ _ (by omega) (by omega), hab _ (by omega), hab _ (by omega)]; exact c4 y hy
  · rw [h20 _ _ (by omega) (by omega), h20 _ _ (by omega) (by omega), h20 _ _ (by omega) (by omega), hab _ (by omega), hab _ (by omega), hab _ (by omega)]; exact c5 k hk
  · rw [h20 _ _ (by omega) (by omega), hab _ (by omega)]; exact c6 k hk
  · rw [h20 _ _ (by omega) (by omega), hab _ (by omega)]; exact c7 i hi
  · rw [h20 _ _ (by omega) (by omega), hab _ (by omega)]; exact c8 i hi
  · rw [h20 _ _ (by omega) (by omega), hab _ (by omega)]; exact c9 i hi
  · rw [h20 _ _ (by omega) (by omega), hab _ (by omega)]; exact c10 i hi
theorem TC.congr {v : Nat} {σ τ : Mem} (h : TC v σ) (h7 : ∀ k, 7 * v ≤ k → k < 7 * v + 7 → τ.1 7 k 0 = σ.1 7 k 0 ∧ τ.1 7 k 1 = σ.1 7 k 1) : TC v τ := fun j hj => by
  rw [(h7 _ (by omega) (by omega)).1, (h7 _ (by omega) (by omega)).2]; exact h j hj
theorem Ro.congr {a b : Nat → Int32} {t p s n m e : Nat} (h : Ro a t p s n m e) (hab : ∀ j, j < 142 → b j = a j) : Ro b t p s n m e := by
  obtain ⟨⟨a0, a1, a2, a3, a4, a5⟩, hb, c3, c4, c5, ⟨d1, d2, d3, d4⟩, c7, c8⟩ := h
  obtain ⟨b1, b2, b3, b4, b5, b6⟩ := id hb
  refine ⟨⟨?_, ?_, ?_, ?_, ?_, ?_⟩, hb, fun y hy => ?_, fun k hk => ?_, fun k hk => ?_, ⟨?_, ?_, ?_, ?_⟩, fun i hi => ?_, c8.congr ⟨b3, b4, b5⟩ (fun j _ _ => hab j (by omega))⟩
  · rw [hab _ (by omega)]; exact a0
  · rw [hab _ (by omega)]; exact a1
  · rw [hab _ (by omega)]; exact a2
  · rw [hab _ (by omega)]; exact a3
  · rw [hab _ (by omega)]; exact a4
  · rw [hab _ (by omega)]; exact a5
  · rw [hab _ (by omega), hab _ (by omega)]; exact c3 y hy
  · rw [hab _ (by omega), hab _ (by omega), hab _ (by omega)]; exact c4 k hk
  · rw [hab _ (by omega)]; exact c5 k hk
  · rw [hab _ (by omega)]; exact d1
  · rw [hab _ (by omega)]; exact d2
  · rw [hab _ (by omega)]; exact d3
  · rw [hab _ (by omega)]; exact d4
  · rw [hab _ (by omega), hab _ (by omega), hab _ (by omega), hab _ (by omega)]; exact c7 i hi
/-- a village and a row that say the same, whatever their counts -/
def VQ (v : Nat) (σ : Mem) (a : Nat → Int32) : Prop := ∃ t p s n m e, VR v σ a t p s n m e ∧ Ro a t p s n m e
theorem VQ.congr {v : Nat} {σ τ : Mem} {a b : Nat → Int32} (h : VQ v σ a) (h7 : ∀ k j, 7 * v ≤ k → k < 7 * v + 7 → τ.1 7 k j = σ.1 7 k j) (h20 : ∀ k j, 7 * v ≤ k → k < 7 * v + 7 → τ.1 20 k j = σ.1 20 k j) (h4 : ∀ j, τ.1 4 v j = σ.1 4 v j) (hab : ∀ j, j < 142 → b j = a j) : VQ v τ b := by
  obtain ⟨t, p, s, n, m, e, h1, h2⟩ := h
  exact ⟨t, p, s, n, m, e, h1.congr h7 h20 h4 hab h2.2.1, h2.congr hab⟩
/-- all that stands between two calls -/
def InvT (σ : Mem) : Prop := TC 1 σ ∧ TC 2 σ ∧ TC 3 σ
def InvI (σ : Mem) : Prop := ∀ i, i < 2 → σ.1 10 0 (11 + i) = σ.1 22 2 i ∧ (σ.1 22 2 i = 0 ∨ (σ.1 22 2 i = 1 ∧ VQ (2 + i) σ (fun j => σ.1 22 1 (142 * i + j))))
def InvX (σ : Mem) : Prop := ∃ len, len ≤ 150 ∧ σ.1 8 0 2 = nI len ∧ σ.1 11 0 12 = nI len ∧ ∀ i, i < len → σ.1 21 1 i = σ.1 22 9 i ∧ ∃ b, b ≤ 127 ∧ σ.1 22 9 i = nI b
def InvF (σ : Mem) : Prop := σ.2 1 0 0 = σ.2 11 0 4 ∧ σ.2 1 0 1 = σ.2 11 0 5
def InvS (σ : Mem) : Prop := ∀ i, i < 3 → σ.1 10 0 (13 + i) = σ.1 22 3 i
def Inv (σ : Mem) : Prop := VQ 0 σ (σ.1 22 0) ∧ InvT σ ∧ InvI σ ∧ InvX σ ∧ InvF σ ∧ InvS σ
/-- a call's answers are the same, and all stands again behind it; the script stays -/
def OKc (f g : Mem → Option (Int32 × Mem)) (σ : Mem) : Prop := ∃ (r : Int32) (τ1 τ2 : Mem), f σ = some (r, τ1) ∧ g τ1 = some (r, τ2) ∧ Inv τ2 ∧ τ1.1 24 = σ.1 24 ∧ τ2.1 24 = σ.1 24
/-- the images, the text, the fraction stay where nothing of theirs is written -/
theorem InvI.congr {σ τ : Mem} (h : InvI σ) (h10 : ∀ i, i < 2 → τ.1 10 0 (11 + i) = σ.1 10 0 (11 + i)) (h2 : ∀ i, i < 2 → τ.1 22 2 i = σ.1 22 2 i) (h1 : ∀ j, τ.1 22 1 j = σ.1 22 1 j) (h7 : ∀ k j, 14 ≤ k → τ.1 7 k j = σ.1 7 k j) (h20 : ∀ k j, 14 ≤ k → τ.1 20 k j = σ.1 20 k j) (h4 : ∀ v j, 2 ≤ v → v < 4 → τ.1 4 v j = σ.1 4 v j) : InvI τ := by
  intro i hi
  obtain ⟨a, b⟩ := h i hi
  refine ⟨by rw [h10 i hi, h2 i hi]; exact a, ?_⟩
  rw [h2 i hi]
  rcases b with b | ⟨b, c⟩
  · exact Or.inl b
  · exact Or.inr ⟨b, c.congr (fun k j q1 q2 => h7 k j (by omega)) (fun k j q1 q2 => h20 k j (by omega)) (fun j => h4 _ j (by omega) (by omega)) (fun j _ => h1 _)⟩
theorem InvX.congr {σ τ : Mem} (h : InvX σ) (h8 : τ.1 8 0 2 = σ.1 8 0 2) (h11 : τ.1 11 0 12 = σ.1 11 0 12) (h21 : ∀ i, τ.1 21 1 i = σ.1 21 1 i) (h22 : ∀ i, τ.1 22 9 i = σ.1 22 9 i) : InvX τ := by
  obtain ⟨len, a, b, c, d⟩ := h
  exact ⟨len, a, by rw [h8]; exact b, by rw [h11]; exact c, fun i hi => by rw [h21, h22]; exact d i hi⟩
theorem inv_ref {σ : Mem} {i : Nat} (hi : i < 3) (h : Inv σ) : Inv (sI (sI σ 10 0 (13 + i) (σ.1 10 0 (13 + i) + 1)) 22 3 i (σ.1 22 3 i + 1)) := by
  obtain ⟨h1, ⟨g1, g2, g3⟩, h3, h4, h5, h6⟩ := h
  refine ⟨h1.congr (fun k j _ _ => ?_) (fun k j _ _ => ?_) (fun j => ?_) (fun j _ => ?_), ⟨g1.congr (fun k _ _ => ⟨?_, ?_⟩), g2.congr (fun k _ _ => ⟨?_, ?_⟩), g3.congr (fun k _ _ => ⟨?_, ?_⟩)⟩, h3.congr (fun i _ => ?_) (fun i _ => ?_) (fun j => ?_) (fun k j _ => ?_) (fun k j _ => ?_) (fun v j _ _ => ?_), h4.congr ?_ ?_ (fun i => ?_) (fun i => ?_), h5, fun i' hi' => ?_⟩
  rotate_right
  · rw [rdI, if_neg (by omega), rdI, rdI]
    by_cases q : i' = i
    · subst q
      rw [if_pos ⟨rfl, rfl, rfl⟩, if_pos ⟨rfl, rfl, rfl⟩, h6 i' hi']
    · rw [if_neg (by omega), if_neg (by omega), rdI, if_neg (by omega)]
      exact h6 i' hi'
  all_goals rw [rdI, if_neg (by omega), rdI, if_neg (by omega)]
theorem ok_bad {f g : Mem → Option (Int32 × Mem)} {σ : Mem} (h : Inv σ) (hf : f σ = some (f10_refuseBad 0 σ)) (hg : g (f10_refuseBad 0 σ).2 = some (f11_bad 0 (-2) (f10_refuseBad 0 σ).2)) : OKc f g σ :=
  ⟨-2, _, _, hf, hg, by
    have := inv_ref (i := 0) (by decide) h
    show Inv (sI (sI σ 10 0 13 (σ.1 10 0 13 + 1)) 22 3 0 ((sI σ 10 0 13 (σ.1 10 0 13 + 1)).1 22 3 0 + 1))
    rw [rdI, if_neg (by omega)]
    exact this, rfl, rfl⟩
theorem ok_no {f g : Mem → Option (Int32 × Mem)} {σ : Mem} (h : Inv σ) (hf : f σ = some (f10_refuseNo 0 σ)) (hg : g (f10_refuseNo 0 σ).2 = some (f11_no 0 (f10_refuseNo 0 σ).2)) : OKc f g σ :=
  ⟨-3, _, _, hf, hg, by
    have := inv_ref (i := 1) (by decide) h
    show Inv (sI (sI σ 10 0 14 (σ.1 10 0 14 + 1)) 22 3 1 ((sI σ 10 0 14 (σ.1 10 0 14 + 1)).1 22 3 1 + 1))
    rw [rdI, if_neg (by omega)]
    exact this, rfl, rfl⟩
theorem ok_full {f g : Mem → Option (Int32 × Mem)} {σ : Mem} (h : Inv σ) (hf : f σ = some (f10_refuseFull 0 σ)) (hg : g (f10_refuseFull 0 σ).2 = some (f11_full 0 (f10_refuseFull 0 σ).2)) : OKc f g σ :=
  ⟨-4, _, _, hf, hg, by
    have := inv_ref (i := 2) (by decide) h
    show Inv (sI (sI σ 10 0 15 (σ.1 10 0 15 + 1)) 22 3 2 ((sI σ 10 0 15 (σ.1 10 0 15 + 1)).1 22 3 2 + 1))
    rw [rdI, if_neg (by omega)]
    exact this, rfl, rfl⟩
/-- a call that only asks -/
theorem ok_ask {f g : Mem → Option (Int32 × Mem)} {σ : Mem} (r : Int32) (h : Inv σ) (hf : f σ = some (r, σ)) (hg : g σ = some (r, σ)) : OKc f g σ := ⟨r, σ, σ, hf, hg, h, rfl, rfl⟩
/-- the village that is now: what is told at once of it -/
theorem Inv.vr {σ : Mem} (h : Inv σ) : ∃ t p s n m e, VR 0 σ (σ.1 22 0) t p s n m e ∧ Ro (σ.1 22 0) t p s n m e := h.1
/-- what stays where a call changes the village that is now, the row that is now, and room of its own alone -/
def outB (c k j : Nat) : Prop := (c = 7 ∧ 7 ≤ k ∧ (j = 0 ∨ j = 1)) ∨ (c = 7 ∧ 14 ≤ k) ∨ (c = 20 ∧ 14 ≤ k) ∨ (c = 4 ∧ (k = 2 ∨ k = 3)) ∨ c = 10 ∨ (c = 22 ∧ (k = 1 ∨ k = 2 ∨ k = 3 ∨ k = 9)) ∨ (c = 8 ∧ j = 2) ∨ (c = 11 ∧ j = 12) ∨ (c = 21 ∧ k = 1)
theorem Inv.step0 {σ τ : Mem} (h : Inv σ) (hq : VQ 0 τ (τ.1 22 0)) (ho : ∀ c k j, outB c k j → τ.1 c k j = σ.1 c k j) (h2 : τ.2 = σ.2) : Inv τ := by
  obtain ⟨h1, ⟨g1, g2, g3⟩, h3, h4, h5, h6⟩ := h
  refine ⟨hq, ⟨g1.congr (fun k _ _ => ⟨ho _ _ _ ?_, ho _ _ _ ?_⟩), g2.congr (fun k _ _ => ⟨ho _ _ _ ?_, ho _ _ _ ?_⟩), g3.congr (fun k _ _ => ⟨ho _ _ _ ?_, ho _ _ _ ?_⟩)⟩, h3.congr (fun i _ => ho _ _ _ ?_) (fun i _ => ho _ _ _ ?_) (fun j => ho _ _ _ ?_) (fun k j _ => ho _ _ _ ?_) (fun k j _ => ho _ _ _ ?_) (fun v j _ _ => ho _ _ _ ?_), h4.congr (ho _ _ _ ?_) (ho _ _ _ ?_) (fun i => ho _ _ _ ?_) (fun i => ho _ _ _ ?_), ⟨by rw [h2]; exact h5.1, by rw [h2]; exact h5.2⟩, fun i hi => ?_⟩
  rotate_right
  · rw [ho _ _ _ (by unfold outB; omega), ho _ _ _ (by unfold outB; omega)]
    exact h6 i hi
  all_goals unfold outB; omega
/-! weather -/
theorem in05 (x : Int32) : f11_in x.toInt64 0 5 = f10_within x 0 (nI 5) := in_within x 0 5
theorem in01 (x : Int32) : f11_in x.toInt64 0 1 = f10_within x 0 (nI 1) := in_within x 0 1
theorem in09 (x : Int32) : f11_in x.toInt64 0 9 = f10_within x 0 (nI 9) := in_within x 0 9
theorem in011 (x : Int32) : f11_in x.toInt64 0 11 = f10_within x 0 (nI 11) := in_within x 0 11
theorem ok_weather {σ : Mem} (x1 x2 : Int32) (h : Inv σ) : OKc (f10_weather 0 x1 x2) (f11_weather 0 x1 x2) σ := by
  obtain ⟨t, p, s, n, m, e, hv, hr⟩ := h.vr
  by_cases c1 : f10_within x1 0 (nI 5) = 0
  · refine ok_bad h ?_ ?_
    · unfold f10_weather f10_isStorm
      rw [show (5 : Int32) = nI 5 from n5, if_pos c1]; rfl
    · unfold f11_weather
      rw [in05, if_pos c1]; rfl
  obtain ⟨y, hy, rfl⟩ := wi_yes (by decide) c1
  by_cases c2 : f10_within x2 0 (nI 1) = 0
  · refine ok_bad h ?_ ?_
    · unfold f10_weather f10_isStorm
      rw [show (5 : Int32) = nI 5 from n5, if_neg c1, show (1 : Int32) = nI 1 from n1, if_pos c2]; rfl
    · unfold f11_weather
      rw [in05, if_neg c1, in01, if_pos c2]; rfl
  obtain ⟨z, hz, rfl⟩ := wi_yes (by decide) c2
  have hat : f7_at 0 (nI y) (nI z) σ = some (σ.1 20 0 (y * 2 + z)) := at_ok (N := 12) hv.2.1.1 (hv.1 0 (by decide)).2 rfl (by omega) (by omega) (by omega) (by decide)
  refine ok_ask (σ.1 20 0 (y * 2 + z)) h ?_ ?_
  · unfold f10_weather f10_isStorm
    rw [show (5 : Int32) = nI 5 from n5, if_neg c1, show (1 : Int32) = nI 1 from n1, if_neg c2, hat]; rfl
  · unfold f11_weather
    rw [in05, if_neg c1, in01, if_neg c2, lt_e]
    rcases (show z = 0 ∨ z = 1 by omega) with rfl | rfl
    · rw [if_pos (show nI 0 = 0 by decide), show (10 : Int32) = nI 10 by decide, nI_add, inb_nI (by omega) (by decide), ck_t, nI_clamp (by omega), ← (hv.2.2.2.1 y (by omega)).1, Nat.mul_comm 2 y]; rfl
    · rw [if_neg (show ¬ nI 1 = 0 by decide), show (16 : Int32) = nI 16 by decide, nI_add, inb_nI (by omega) (by decide), ck_t, nI_clamp (by omega), ← (hv.2.2.2.1 y (by omega)).2, Nat.mul_comm 2 y]
