/-! STEPS: what a change of the village that is now leaves as it was -/
def Nw (σ τ : Mem) : Prop := τ.2 = σ.2 ∧ ∀ c k j, outB c k j ∨ c = 24 → τ.1 c k j = σ.1 c k j
theorem Nw.rf (σ : Mem) : Nw σ σ := ⟨rfl, fun _ _ _ _ => rfl⟩
theorem Nw.tr {σ τ ρ : Mem} (a : Nw σ τ) (b : Nw τ ρ) : Nw σ ρ := ⟨b.1.trans a.1, fun c k j h => (b.2 c k j h).trans (a.2 c k j h)⟩
theorem Nw.row {σ : Mem} {c k : Nat} {f : Nat → Int32} (h : (c = 20 ∧ k < 14) ∨ (c = 4 ∧ k < 2) ∨ (c = 22 ∧ k = 0)) : Nw σ (sA σ c k f) := ⟨rfl, fun c' k' j hp => by
  rw [rdA, if_neg]
  intro q
  unfold outB at hp
  omega⟩
theorem Nw.size {σ : Mem} {k : Nat} {x : Int32} (h : k < 14) : Nw σ (sI σ 7 k 3 x) := ⟨rfl, fun c' k' j hp => by
  rw [rdI, if_neg]
  intro q
  unfold outB at hp
  omega⟩
theorem Nw.sI {σ : Mem} {c k j : Nat} {x : Int32} (h : (c = 20 ∧ k < 14) ∨ (c = 4 ∧ k < 2) ∨ (c = 22 ∧ k = 0)) : Nw σ (sI σ c k j x) := Nw.row h
theorem Nw.sc {σ τ : Mem} (h : Sc σ τ) : Nw σ τ := ⟨h.1, fun c k j hp => h.2 c k j (by unfold outB at hp; unfold prt; omega)⟩
theorem Nw.inv {σ τ : Mem} (n : Nw σ τ) (h : Inv σ) (hq : VQ 0 τ (τ.1 22 0)) : Inv τ := Inv.step0 h hq (fun c k j ho => n.2 c k j (Or.inl ho)) n.1
theorem Nw.z24 {σ τ : Mem} (n : Nw σ τ) : τ.1 24 = σ.1 24 := funext fun k => funext fun j => n.2 _ _ _ (Or.inr rfl)
theorem ok_now {f g : Mem → Option (Int32 × Mem)} {σ τ1 τ2 : Mem} {r : Int32} (h : Inv σ) (hf : f σ = some (r, τ1)) (n1 : Nw σ τ1) (hg : g τ1 = some (r, τ2)) (n2 : Nw τ1 τ2) (hq : VQ 0 τ2 (τ2.1 22 0)) : OKc f g σ :=
  ⟨r, τ1, τ2, hf, hg, (n1.tr n2).inv h hq, n1.z24, (n1.tr n2).z24⟩
/-- the moment and what may be undone have changed -/
theorem VR.moment {σ τ : Mem} {a b : Nat → Int32} {t p s n m e e' : Nat} (h : VR 0 σ a t p s n m e) (hb : t ≤ 6 ∧ p ≤ 6 ∧ s ≤ 5 ∧ n ≤ 6 ∧ m ≤ 6)
    (h7 : ∀ k j, k < 7 → ¬ (k = 6 ∧ j = 3) → τ.1 7 k j = σ.1 7 k j) (hs : τ.1 7 6 3 = nI e') (h20 : ∀ k j, k < 6 → τ.1 20 k j = σ.1 20 k j)
    (h4 : ∀ j, j < 4 → τ.1 4 0 j = b (6 + j)) (he : ∀ i, i < 4 * e' → τ.1 20 6 i = b (110 + i)) (hab : ∀ j, j < 5 ∨ (10 ≤ j ∧ j < 110) → b j = a j) : VR 0 τ b t p s n m e' := by
  obtain ⟨c1, ⟨s0, s1, s2, s3, s4, s5, s6⟩, c3, c4, c5, c6, c7, c8, c9, c10⟩ := h
  refine ⟨fun j hj => ?_, ⟨?_, ?_, ?_, ?_, ?_, ?_, hs⟩, h4, fun y hy => ?_, fun k hk => ?_, fun k hk => ?_, fun i hi => ?_, fun i hi => ?_, fun i hi => ?_, he⟩
  · rw [h7 _ _ (by omega) (by omega), h7 _ _ (by omega) (by omega)]; exact c1 j hj
  · rw [h7 _ _ (by omega) (by omega)]; exact s0
  · rw [h7 _ _ (by omega) (by omega)]; exact s1
  · rw [h7 _ _ (by omega) (by omega)]; exact s2
  · rw [h7 _ _ (by omega) (by omega)]; exact s3
  · rw [h7 _ _ (by omega) (by omega)]; exact s4
  · rw [h7 _ _ (by omega) (by omega)]; exact s5
  · rw [h20 _ _ (by omega), h20 _ _ (by omega), hab _ (by omega), hab _ (by omega)]; exact c4 y hy
  · rw [h20 _ _ (by omega), h20 _ _ (by omega), h20 _ _ (by omega), hab _ (by omega), hab _ (by omega), hab _ (by omega)]; exact c5 k hk
  · rw [h20 _ _ (by omega), hab _ (by omega)]; exact c6 k hk
  · rw [h20 _ _ (by omega), hab _ (by omega)]; exact c7 i hi
  · rw [h20 _ _ (by omega), hab _ (by omega)]; exact c8 i hi
  · rw [h20 _ _ (by omega), hab _ (by omega)]; exact c9 i hi
/-- a moment's numbers keep to -/
def RM (t p : Nat) (f : Nat → Int32) : Prop := (∃ u, u < 2 ^ t ∧ f 0 = nI u) ∧ (∃ w, w < 2 ^ p ∧ f 1 = nI w) ∧ (∃ c, c ≤ 999 ∧ f 2 = nI c) ∧ ∃ r, r ≤ 999 ∧ f 3 = nI r
theorem Ro.now {a : Nat → Int32} {t p s n m e : Nat} (h : Ro a t p s n m e) : RM t p (fun j => a (6 + j)) := h.2.2.2.2.2.1
theorem Ro.then {a : Nat → Int32} {t p s n m e : Nat} (h : Ro a t p s n m e) {i : Nat} (hi : i < e) : RM t p (fun j => a (110 + 4 * i + j)) := by
  obtain ⟨h1, h2, h3, h4⟩ := h.2.2.2.2.2.2.1 i hi
  refine ⟨h1, ?_, ?_, ?_⟩
  · obtain ⟨w, q1, q2⟩ := h2; exact ⟨w, q1, by rw [← q2]; show a (110 + 4 * i + 1) = a (111 + 4 * i); congr 1; omega⟩
  · obtain ⟨w, q1, q2⟩ := h3; exact ⟨w, q1, by rw [← q2]; show a (110 + 4 * i + 2) = a (112 + 4 * i); congr 1; omega⟩
  · obtain ⟨w, q1, q2⟩ := h4; exact ⟨w, q1, by rw [← q2]; show a (110 + 4 * i + 3) = a (113 + 4 * i); congr 1; omega⟩
theorem Ro.moment {a b : Nat → Int32} {t p s n m e e' : Nat} (h : Ro a t p s n m e) (he : e' ≤ 8) (h5 : b 5 = nI e') (hab : ∀ j, j < 5 ∨ (10 ≤ j ∧ j < 110) → b j = a j)
    (hm : RM t p (fun j => b (6 + j))) (hl : ∀ i, i < e' → RM t p (fun j => b (110 + 4 * i + j))) : Ro b t p s n m e' := by
  obtain ⟨⟨a0, a1, a2, a3, a4, a5⟩, ⟨b1, b2, b3, b4, b5, b6⟩, c3, c4, c5, -, -, c8⟩ := h
  refine ⟨⟨?_, ?_, ?_, ?_, ?_, h5⟩, ⟨b1, b2, b3, b4, b5, he⟩, fun y hy => ?_, fun k hk => ?_, fun k hk => ?_, hm, fun i hi => ?_, c8.congr ⟨b3, b4, b5⟩ (fun j _ _ => hab j (by omega))⟩
  · rw [hab _ (by omega)]; exact a0
  · rw [hab _ (by omega)]; exact a1
  · rw [hab _ (by omega)]; exact a2
  · rw [hab _ (by omega)]; exact a3
  · rw [hab _ (by omega)]; exact a4
  · rw [hab _ (by omega), hab _ (by omega)]; exact c3 y hy
  · rw [hab _ (by omega), hab _ (by omega), hab _ (by omega)]; exact c4 k hk
  · rw [hab _ (by omega)]; exact c5 k hk
  · obtain ⟨h1, h2, h3, h4⟩ := hl i hi
    refine ⟨h1, ?_, ?_, ?_⟩
    · obtain ⟨w, q1, q2⟩ := h2; exact ⟨w, q1, by rw [← q2]; show b (111 + 4 * i) = b (110 + 4 * i + 1); congr 1; omega⟩
    · obtain ⟨w, q1, q2⟩ := h3; exact ⟨w, q1, by rw [← q2]; show b (112 + 4 * i) = b (110 + 4 * i + 2); congr 1; omega⟩
    · obtain ⟨w, q1, q2⟩ := h4; exact ⟨w, q1, by rw [← q2]; show b (113 + 4 * i) = b (110 + 4 * i + 3); congr 1; omega⟩
/-- what was written down has changed -/
theorem VR.lists {σ τ : Mem} {a b : Nat → Int32} {t p s n m e s' n' m' : Nat} (h : VR 0 σ a t p s n m e) (hb : t ≤ 6 ∧ p ≤ 6 ∧ e ≤ 8)
    (h7 : ∀ k j, k < 7 → ¬ ((k = 3 ∨ k = 4 ∨ k = 5) ∧ j = 3) → τ.1 7 k j = σ.1 7 k j) (hs : τ.1 7 3 3 = nI s' ∧ τ.1 7 4 3 = nI n' ∧ τ.1 7 5 3 = nI m') (h20 : ∀ k j, k < 7 → ¬ (k = 3 ∨ k = 4 ∨ k = 5) → τ.1 20 k j = σ.1 20 k j)
    (h4 : ∀ j, τ.1 4 0 j = σ.1 4 0 j) (hl : (∀ i, i < 2 * s' → τ.1 20 3 i = b (46 + i)) ∧ (∀ i, i < 5 * n' → τ.1 20 4 i = b (56 + i)) ∧ ∀ i, i < 4 * m' → τ.1 20 5 i = b (86 + i)) (hab : ∀ j, (j < 2 ∨ (5 ≤ j ∧ j < 46) ∨ 110 ≤ j) → b j = a j) : VR 0 τ b t p s' n' m' e := by
  obtain ⟨c1, ⟨s0, s1, s2, s3, s4, s5, s6⟩, c3, c4, c5, c6, c7, c8, c9, c10⟩ := h
  refine ⟨fun j hj => ?_, ⟨?_, ?_, ?_, hs.1, hs.2.1, hs.2.2, ?_⟩, fun j hj => ?_, fun y hy => ?_, fun k hk => ?_, fun k hk => ?_, hl.1, hl.2.1, hl.2.2, fun i hi => ?_⟩
  · rw [h7 _ _ (by omega) (by omega), h7 _ _ (by omega) (by omega)]; exact c1 j hj
  · rw [h7 _ _ (by omega) (by omega)]; exact s0
  · rw [h7 _ _ (by omega) (by omega)]; exact s1
  · rw [h7 _ _ (by omega) (by omega)]; exact s2
  · rw [h7 _ _ (by omega) (by omega)]; exact s6
  · rw [h4, hab _ (by omega)]; exact c3 j hj
  · rw [h20 _ _ (by omega) (by omega), h20 _ _ (by omega) (by omega), hab _ (by omega), hab _ (by omega)]; exact c4 y hy
  · rw [h20 _ _ (by omega) (by omega), h20 _ _ (by omega) (by omega), h20 _ _ (by omega) (by omega), hab _ (by omega), hab _ (by omega), hab _ (by omega)]; exact c5 k hk
  · rw [h20 _ _ (by omega) (by omega), hab _ (by omega)]; exact c6 k hk
  · rw [h20 _ _ (by omega) (by omega), hab _ (by omega)]; exact c10 i hi
theorem Ro.lists {a b : Nat → Int32} {t p s n m e s' n' m' : Nat} (h : Ro a t p s n m e) (hs : s' ≤ 5 ∧ n' ≤ 6 ∧ m' ≤ 6) (h2 : b 2 = nI s' ∧ b 3 = nI n' ∧ b 4 = nI m') (hab : ∀ j, (j < 2 ∨ (5 ≤ j ∧ j < 46) ∨ 110 ≤ j) → b j = a j) (hx : RX b s' n' m') : Ro b t p s' n' m' e := by
  obtain ⟨⟨a0, a1, a2, a3, a4, a5⟩, ⟨b1, b2, b3, b4, b5, b6⟩, c3, c4, c5, ⟨d1, d2, d3, d4⟩, c7, -⟩ := h
  refine ⟨⟨?_, ?_, h2.1, h2.2.1, h2.2.2, ?_⟩, ⟨b1, b2, hs.1, hs.2.1, hs.2.2, b6⟩, fun y hy => ?_, fun k hk => ?_, fun k hk => ?_, ⟨?_, ?_, ?_, ?_⟩, fun i hi => ?_, hx⟩
  · rw [hab _ (by omega)]; exact a0
  · rw [hab _ (by omega)]; exact a1
  · rw [hab _ (by omega)]; exact a5
  · rw [hab _ (by omega), hab _ (by omega)]; exact c3 y hy
  · rw [hab _ (by omega), hab _ (by omega), hab _ (by omega)]; exact c4 k hk
  · rw [hab _ (by omega)]; exact c5 k hk
  · rw [hab _ (by omega)]; exact d1
  · rw [hab _ (by omega)]; exact d2
  · rw [hab _ (by omega)]; exact d3
  · rw [hab _ (by omega)]; exact d4
  · rw [hab _ (by omega), hab _ (by omega), hab _ (by omega), hab _ (by omega)]; exact c7 i hi
/-! what may be undone -/
def rem (e : Nat) (r mo : Nat → Int32) (j : Nat) : Int32 := if e = 8 then (if j < 28 then r (j + 4) else mo (j - 28)) else if j < 4 * e then r j else mo (j - 4 * e)
theorem rem_congr {e : Nat} {r r' mo mo' : Nat → Int32} (he : e ≤ 8) (hr : ∀ j, j < 4 * e → r j = r' j) (hm : ∀ j, j < 4 → mo j = mo' j) : ∀ j, j < 4 * min (e + 1) 8 → rem e r mo j = rem e r' mo' j := by
  intro j hj
  unfold rem
  by_cases z : e = 8
  · rw [if_pos z, if_pos z]
    by_cases z2 : j < 28
    · rw [if_pos z2, if_pos z2, hr _ (by omega)]
    · rw [if_neg z2, if_neg z2, hm _ (by omega)]
  · rw [if_neg z, if_neg z]
    by_cases z2 : j < 4 * e
    · rw [if_pos z2, if_pos z2, hr _ (by omega)]
    · rw [if_neg z2, if_neg z2, hm _ (by omega)]
theorem rem_r {t p e : Nat} {r mo : Nat → Int32} (he : e ≤ 8) (hr : ∀ i, i < e → RM t p (fun j => r (4 * i + j))) (hm : RM t p mo) : ∀ i, i < min (e + 1) 8 → RM t p (fun j => rem e r mo (4 * i + j)) := by
  intro i hi
  by_cases z : e = 8
  · subst z
    by_cases z2 : i < 7
    · have e0 : ∀ j, j < 4 → rem 8 r mo (4 * i + j) = r (4 * (i + 1) + j) := fun j hj => by
        unfold rem
        rw [if_pos rfl, if_pos (by omega)]
        congr 1; omega
      have h := hr (i + 1) (by omega)
      unfold RM at h ⊢
      dsimp only at h ⊢
      rw [e0 0 (by omega), e0 1 (by omega), e0 2 (by omega), e0 3 (by omega)]
      exact h
    · have e0 : ∀ j, j < 4 → rem 8 r mo (4 * i + j) = mo j := fun j hj => by
        unfold rem
        rw [if_pos rfl, if_neg (by omega)]
        congr 1; omega
      unfold RM at hm ⊢
      dsimp only
      rw [e0 0 (by omega), e0 1 (by omega), e0 2 (by omega), e0 3 (by omega)]
      exact hm
  · by_cases z2 : i < e
    · have e0 : ∀ j, j < 4 → rem e r mo (4 * i + j) = r (4 * i + j) := fun j hj => by
        unfold rem
        rw [if_neg z, if_pos (by omega)]
      have h := hr i z2
      unfold RM at h ⊢
      dsimp only at h ⊢
      rw [e0 0 (by omega), e0 1 (by omega), e0 2 (by omega), e0 3 (by omega)]
      exact h
    · have e0 : ∀ j, j < 4 → rem e r mo (4 * i + j) = mo j := fun j hj => by
        unfold rem
        rw [if_neg z, if_neg (by omega)]
        congr 1; omega
      unfold RM at hm ⊢
      dsimp only
      rw [e0 0 (by omega), e0 1 (by omega), e0 2 (by omega), e0 3 (by omega)]
      exact hm
theorem drop_in {σ : Mem} {i : Nat} (hn : σ.1 7 6 3 = nI 8) (hw : σ.1 7 6 1 = nI 4) (hi : i < 7) :
    ∀ (r n c : Nat) (f : Nat → Int32), c + r = 4 → r < n → ∃ z f', l7_dropFirst_12 6 (nI (i + 1)) n (nI c) (sA σ 20 6 f) = some (z, sA σ 20 6 f') ∧ ∀ j, f' j = if 4 * i + c ≤ j ∧ j < 4 * i + 4 then f (j + 4) else f j := by
  intro r
  induction r with
  | zero =>
    intro n c f h1 h2
    obtain ⟨n, rfl⟩ : ∃ q, n = q + 1 := ⟨n - 1, by omega⟩
    obtain rfl : c = 4 := by omega
    refine ⟨nI 4, f, ?_, fun j => by rw [if_neg (by omega)]⟩
    rw [l7_dropFirst_12, show (sA σ 20 6 f).1 7 6 1 = nI 4 from hw, if_pos (by decide)]
  | succ r ih =>
    intro n c f h1 h2
    obtain ⟨n, rfl⟩ : ∃ q, n = q + 1 := ⟨n - 1, by omega⟩
    rw [l7_dropFirst_12, show (sA σ 20 6 f).1 7 6 1 = nI 4 from hw, if_neg (nI_ge (by omega) (by decide)), at_ok (σ := sA σ 20 6 f) (i := i + 1) (j := c) (n := 8) (w := 4) (N := 32) hn hw rfl (by omega) (by omega) (by omega) (by decide), bnd_s, nI_pred, put_ok (σ := sA σ 20 6 f) (i := i) (j := c) (n := 8) (w := 4) (N := 32) hn hw rfl (by omega) (by omega) (by omega) (by decide), bnd_s, sI_sA, sA_at, nI_1]
    obtain ⟨z, f', e, h⟩ := ih n (c + 1) (upd f (i * 4 + c) (f ((i + 1) * 4 + c))) (by omega) (by omega)
    refine ⟨z, f', e, fun j => ?_⟩
    rw [h j]
    by_cases z : 4 * i + (c + 1) ≤ j ∧ j < 4 * i + 4
    · rw [if_pos z, if_pos (by omega), up_n (by omega)]
    · rw [if_neg z]
      by_cases z2 : j = i * 4 + c
      · rw [if_pos (by omega), z2, up_s]; congr 1; omega
      · rw [if_neg (by omega), up_n z2]
theorem drop_out {σ : Mem} (hn : σ.1 7 6 3 = nI 8) (hw : σ.1 7 6 1 = nI 4) :
    ∀ (r n i : Nat) (f : Nat → Int32), i + r = 7 → r < n → (∀ j, f j = if j < 4 * i then σ.1 20 6 (j + 4) else σ.1 20 6 j) → ∃ z f', l7_dropFirst_2 6 n (nI (i + 1)) (sA σ 20 6 f) = some (z, sA σ 20 6 f') ∧ ∀ j, f' j = if j < 28 then σ.1 20 6 (j + 4) else σ.1 20 6 j := by
  intro r
  induction r with
  | zero =>
    intro n i f h1 h2 h3
    obtain ⟨n, rfl⟩ : ∃ q, n = q + 1 := ⟨n - 1, by omega⟩
    obtain rfl : i = 7 := by omega
    refine ⟨nI 8, f, ?_, h3⟩
    rw [l7_dropFirst_2, show (sA σ 20 6 f).1 7 6 3 = nI 8 from hn, if_pos (by decide)]
  | succ r ih =>
    intro n i f h1 h2 h3
    obtain ⟨n, rfl⟩ : ∃ q, n = q + 1 := ⟨n - 1, by omega⟩
    obtain ⟨z, f', e, h⟩ := drop_in (σ := σ) (i := i) hn hw (by omega) 4 2000 0 f (by omega) (by omega)
    rw [l7_dropFirst_2, show (sA σ 20 6 f).1 7 6 3 = nI 8 from hn, if_neg (nI_ge (by omega) (by decide)), show l7_dropFirst_12 6 (nI (i + 1)) 2000 0 (sA σ 20 6 f) = _ from e, bnd_s, nI_1]
    refine ih n (i + 1) f' (by omega) (by omega) (fun j => ?_)
    rw [h j]
    by_cases z : 4 * i + 0 ≤ j ∧ j < 4 * i + 4
    · rw [if_pos z, if_pos (by omega), h3, if_neg (by omega)]
    · rw [if_neg z, h3]
      by_cases z2 : j < 4 * i
      · rw [if_pos z2, if_pos (by omega)]
      · rw [if_neg z2, if_neg (by omega)]
theorem remember_ok {σ : Mem} {e : Nat} (he : e ≤ 8) (hm : σ.1 7 6 0 = nI 8) (hn : σ.1 7 6 3 = nI e) (hw : σ.1 7 6 1 = nI 4) :
    ∃ g, f9_remember 0 σ = some (sA (sI σ 7 6 3 (nI (min (e + 1) 8))) 20 6 g) ∧ ∀ j, j < 4 * min (e + 1) 8 → g j = rem e (σ.1 20 6) (σ.1 4 0) j := by
  have add : ∀ (τ : Mem) (k : Nat), k < 8 → τ.1 7 6 0 = nI 8 → τ.1 7 6 3 = nI k → τ.1 7 6 1 = nI 4 → τ.1 4 0 = σ.1 4 0 →
      f7_add 6 (τ.1 4 0 0) (τ.1 4 0 1) (τ.1 4 0 2) (τ.1 4 0 3) 0 τ = some (sA (sI τ 7 6 3 (nI (k + 1))) 20 6 (upd (upd (upd (upd (τ.1 20 6) (k * 4 + 0) (σ.1 4 0 0)) (k * 4 + 1) (σ.1 4 0 1)) (k * 4 + 2) (σ.1 4 0 2)) (k * 4 + 3) (σ.1 4 0 3))) := by
    intro τ k hk h0 h3 h1 h4
    rw [add_ok (n := k) (w := 4) (m := 8) h3 h1 h0 rfl hk (by decide) (by decide) (by decide), h4]
    show some (sI (sI (sI (sI (sI τ 7 6 3 (nI (k + 1))) 20 6 (k * 4 + 0) _) 20 6 (k * 4 + 1) _) 20 6 (k * 4 + 2) _) 20 6 (k * 4 + 3) _) = _
    rw [show ∀ x, sI (sI τ 7 6 3 (nI (k + 1))) 20 6 (k * 4 + 0) x = sA (sI τ 7 6 3 (nI (k + 1))) 20 6 (upd (τ.1 20 6) (k * 4 + 0) x) from fun _ => rfl, sI_sA, sI_sA, sI_sA]
  unfold f9_remember
  by_cases z : e = 8
  · subst z
    obtain ⟨z1, f', e1, h⟩ := drop_out hn hw 7 2000 0 (σ.1 20 6) (by omega) (by omega) (fun j => by rw [if_neg (by omega)])
    rw [sA_self] at e1
    have e2 : f7_dropFirst (7 * 0 + 6) σ = some (sI (sA σ 20 6 f') 7 6 3 (nI 7)) := by
      unfold f7_dropFirst f7_dropLast
      rw [show l7_dropFirst_2 (7 * 0 + 6) 2000 1 σ = _ from e1, bnd_s, lt_e, lt_e]
      show some (sI (sA σ 20 6 f') 7 6 3 (mxI (σ.1 7 6 3 - 1) 0)) = _
      rw [hn]
      rfl
    rw [if_neg (by
      unfold f7_isFull
      rw [show σ.1 7 (7 * 0 + 6) 3 = nI 8 from hn, show σ.1 7 (7 * 0 + 6) 0 = nI 8 from hm]
      decide), e2, bnd_s, bnd_s, show f7_add (7 * 0 + 6) _ _ _ _ 0 _ = _ from add (sI (sA σ 20 6 f') 7 6 3 (nI 7)) 7 (by decide) (by rw [rdI, if_neg (by omega)]; exact hm) (by rw [rdI, if_pos ⟨rfl, rfl, rfl⟩]) (by rw [rdI, if_neg (by omega)]; exact hw) rfl, bnd_s]
    refine ⟨_, congrArg some (mem_ext (τ := sA (sI σ 7 6 3 (nI 8)) 20 6 (upd (upd (upd (upd f' (7 * 4 + 0) (σ.1 4 0 0)) (7 * 4 + 1) (σ.1 4 0 1)) (7 * 4 + 2) (σ.1 4 0 2)) (7 * 4 + 3) (σ.1 4 0 3))) (fun c k j => ?_) rfl), fun j hj => ?_⟩
    · rw [rdA, rdA]
      by_cases q : c = 20 ∧ k = 6
      · rw [if_pos q, if_pos q]
        rfl
      · rw [if_neg q, if_neg q, rdI, rdI, rdI, rdA, if_neg q]
        by_cases q2 : c = 7 ∧ k = 6 ∧ j = 3
        · rw [if_pos q2, if_pos q2]
        · rw [if_neg q2, if_neg q2, if_neg q2]
    · have hj : j < 32 := hj
      unfold rem
      rw [if_pos rfl]
      by_cases q : j < 28
      · rw [if_pos q, up_n (by omega), up_n (by omega), up_n (by omega), up_n (by omega), h, if_pos q]
      · rw [if_neg q]
        rcases (show j = 28 ∨ j = 29 ∨ j = 30 ∨ j = 31 by omega) with rfl | rfl | rfl | rfl
        · rw [up_n (by omega), up_n (by omega), up_n (by omega)]; exact up_s
        · rw [up_n (by omega), up_n (by omega)]; exact up_s
        · rw [up_n (by omega)]; exact up_s
        · exact up_s
  · rw [if_pos (by
      unfold f7_isFull
      rw [show σ.1 7 (7 * 0 + 6) 3 = nI e from hn, show σ.1 7 (7 * 0 + 6) 0 = nI 8 from hm, if_pos (nI_lt (by omega) (by omega))]), bnd_s, show f7_add (7 * 0 + 6) _ _ _ _ 0 _ = _ from add σ e (by omega) hm hn hw rfl, bnd_s, show min (e + 1) 8 = e + 1 by omega]
    refine ⟨_, rfl, fun j hj => ?_⟩
    unfold rem
    rw [if_neg z]
    by_cases q : j < 4 * e
    · rw [if_pos q, up_n (by omega), up_n (by omega), up_n (by omega), up_n (by omega)]
    · rw [if_neg q]
      rcases (show j = e * 4 + 0 ∨ j = e * 4 + 1 ∨ j = e * 4 + 2 ∨ j = e * 4 + 3 by omega) with rfl | rfl | rfl | rfl
      · rw [up_n (by omega), up_n (by omega), up_n (by omega), up_s, show e * 4 + 0 - 4 * e = 0 by omega]
      · rw [up_n (by omega), up_n (by omega), up_s, show e * 4 + 1 - 4 * e = 1 by omega]
      · rw [up_n (by omega), up_s, show e * 4 + 2 - 4 * e = 2 by omega]
      · rw [up_s, show e * 4 + 3 - 4 * e = 3 by omega]
/-! the same of the reference -/
theorem save13 {σ : Mem} : ∀ (r n i : Nat) (b : Nat → Int32), i + r = 28 → r < n → (∀ j, b j = if 110 ≤ j ∧ j < 110 + i then σ.1 22 0 (j + 4) else σ.1 22 0 j) →
    ∃ z b', l11_save_13 0 n (nI i) (sA σ 22 0 b) = some (z, sA σ 22 0 b') ∧ ∀ j, b' j = if 110 ≤ j ∧ j < 138 then σ.1 22 0 (j + 4) else σ.1 22 0 j := by
  intro r
  induction r with
  | zero =>
    intro n i b h1 h2 h3
    obtain ⟨n, rfl⟩ : ∃ q, n = q + 1 := ⟨n - 1, by omega⟩
    obtain rfl : i = 28 := by omega
    refine ⟨nI 28, b, ?_, h3⟩
    rw [l11_save_13, if_pos (by decide)]
  | succ r ih =>
    intro n i b h1 h2 h3
    obtain ⟨n, rfl⟩ : ∃ q, n = q + 1 := ⟨n - 1, by omega⟩
    rw [l11_save_13, if_neg (nleL 28 i), show (114 : Int32) = nI 114 from rfl, show (110 : Int32) = nI 110 from rfl, nI_add, nI_add, inb_nI (by omega) (by decide), inb_nI (by omega) (by decide), ck_t, ck_t, nI_clamp (by omega), nI_clamp (by omega), lt_e, sI_sA, sA_at, nI_1]
    refine ih n (i + 1) _ (by omega) (by omega) (fun j => ?_)
    by_cases z : j = 110 + i
    · subst z
      rw [up_s, if_pos (by omega), h3, if_neg (by omega)]
      exact congrArg (σ.1 22 0) (by omega)
    · rw [up_n z, h3]
      by_cases z2 : 110 ≤ j ∧ j < 110 + i
      · rw [if_pos z2, if_pos (by omega)]
      · rw [if_neg z2, if_neg (by omega)]
theorem save53 {σ : Mem} {e : Nat} (he : e < 8) (h5 : σ.1 22 0 5 = nI e) : ∀ (r n i : Nat) (b : Nat → Int32), i + r = 4 → r < n → (∀ j, b j = if 110 + 4 * e ≤ j ∧ j < 110 + 4 * e + i then σ.1 22 0 (6 + (j - (110 + 4 * e))) else σ.1 22 0 j) →
    ∃ z b', l11_save_53 0 n (nI i) (sA σ 22 0 b) = some (z, sA σ 22 0 b') ∧ ∀ j, b' j = if 110 + 4 * e ≤ j ∧ j < 110 + 4 * e + 4 then σ.1 22 0 (6 + (j - (110 + 4 * e))) else σ.1 22 0 j := by
  intro r
  induction r with
  | zero =>
    intro n i b h1 h2 h3
    obtain ⟨n, rfl⟩ : ∃ q, n = q + 1 := ⟨n - 1, by omega⟩
    obtain rfl : i = 4 := by omega
    refine ⟨nI 4, b, ?_, h3⟩
    rw [l11_save_53, if_pos (by decide)]
  | succ r ih =>
    intro n i b h1 h2 h3
    obtain ⟨n, rfl⟩ : ∃ q, n = q + 1 := ⟨n - 1, by omega⟩
    have b5 : b 5 = nI e := by rw [h3, if_neg (by omega)]; exact h5
    have b6 : b (6 + i) = σ.1 22 0 (6 + i) := by rw [h3, if_neg (by omega)]
    rw [l11_save_53, if_neg (nleL 4 i), sA_at, b5, show (110 : Int32) = nI 110 from rfl, show (4 : Int32) = nI 4 from rfl, show (6 : Int32) = nI 6 from rfl, pk_mul, nI_add, nI_add, nI_add, inb_nI (by omega) (by decide), inb_nI (by omega) (by decide), ck_t, ck_t, nI_clamp (by omega), nI_clamp (by omega), lt_e, sI_sA, b6, nI_1]
    refine ih n (i + 1) _ (by omega) (by omega) (fun j => ?_)
    by_cases z : j = 110 + 4 * e + i
    · subst z
      rw [up_s, if_pos (by omega)]
      exact congrArg (σ.1 22 0) (by omega)
    · rw [up_n z, h3]
      by_cases z2 : 110 + 4 * e ≤ j ∧ j < 110 + 4 * e + i
      · rw [if_pos z2, if_pos (by omega)]
      · rw [if_neg z2, if_neg (by omega)]
theorem save_ok {σ : Mem} {e : Nat} (he : e ≤ 8) (h5 : σ.1 22 0 5 = nI e) :
    ∃ b, f11_save 0 σ = some (sA σ 22 0 b) ∧ b 5 = nI (min (e + 1) 8) ∧ (∀ j, j < 5 ∨ (6 ≤ j ∧ j < 110) → b j = σ.1 22 0 j) ∧ ∀ j, j < 4 * min (e + 1) 8 → b (110 + j) = rem e (fun j => σ.1 22 0 (110 + j)) (fun j => σ.1 22 0 (6 + j)) j := by
  have two : ∀ (τ : Mem) (k : Nat), k < 8 → τ.1 22 0 5 = nI k → ∃ z b, l11_save_53 0 2000 0 τ = some (z, sA τ 22 0 b) ∧ ∀ j, b j = if 110 + 4 * k ≤ j ∧ j < 110 + 4 * k + 4 then τ.1 22 0 (6 + (j - (110 + 4 * k))) else τ.1 22 0 j := by
    intro τ k hk h
    have := save53 (σ := τ) hk h 4 2000 0 (τ.1 22 0) (by omega) (by omega) (fun j => by rw [if_neg (by omega)])
    rw [sA_self] at this
    exact this
  unfold f11_save
  by_cases z : e = 8
  · subst z
    obtain ⟨z1, b1, e1, h1⟩ := save13 (σ := σ) 28 2000 0 (σ.1 22 0) (by omega) (by omega) (fun j => by rw [if_neg (by omega)])
    rw [sA_self] at e1
    obtain ⟨z2, b2, e2, h2⟩ := two (sA σ 22 0 (upd b1 5 (nI 7))) 7 (by decide) (by rw [sA_at, up_s])
    rw [sA_at] at h2
    refine ⟨upd b2 5 (nI 8), ?_, by rw [up_s]; rfl, fun j hj => ?_, fun j hj => ?_⟩
    · have b5 : b2 5 = nI 7 := by rw [h2, if_neg (by omega), up_s]
      rw [if_pos (by rw [h5]; rfl), show l11_save_13 0 2000 0 σ = _ from e1, bnd_s, lt_e, bnd_s]
      show bnd (l11_save_53 0 2000 0 (sI (sA σ 22 0 b1) 22 0 5 (nI 7))) _ = _
      rw [sI_sA, e2, bnd_s, lt_e]
      show some (sI (sA (sA σ 22 0 (upd b1 5 (nI 7))) 22 0 b2) 22 0 5 ((sA (sA σ 22 0 (upd b1 5 (nI 7))) 22 0 b2).1 22 0 5 + 1)) = _
      rw [sA_sA, sI_sA, sA_at, b5, nI_1]
    · rw [up_n (by omega), h2, if_neg (by omega), up_n (by omega), h1, if_neg (by omega)]
    · have hj : j < 32 := hj
      rw [up_n (by omega), h2]
      unfold rem
      rw [if_pos rfl]
      by_cases q : j < 28
      · rw [if_neg (by omega), if_pos q, up_n (by omega), h1, if_pos (by omega)]
        rfl
      · rw [if_pos (by omega), if_neg q, up_n (by omega), h1, if_neg (by omega)]
        exact congrArg (σ.1 22 0) (by omega)
  · obtain ⟨z2, b2, e2, h2⟩ := two σ e (by omega) h5
    refine ⟨upd b2 5 (nI (e + 1)), ?_, by rw [up_s, show min (e + 1) 8 = e + 1 by omega], fun j hj => ?_, fun j hj => ?_⟩
    · have b5 : b2 5 = nI e := by rw [h2, if_neg (by omega), h5]
      rw [if_neg (by rw [h5]; exact fun q => z ((nI_eq (by omega) (by decide)).mp q)), bnd_s, e2, bnd_s, lt_e]
      show some (sI (sA σ 22 0 b2) 22 0 5 ((sA σ 22 0 b2).1 22 0 5 + 1)) = _
      rw [sI_sA, sA_at, b5, nI_1]
    · rw [up_n (by omega), h2, if_neg (by omega)]
    · have hj : j < 4 * (e + 1) := by omega
      rw [up_n (by omega), h2]
      unfold rem
      rw [if_neg z]
      by_cases q : j < 4 * e
      · rw [if_neg (by omega), if_pos q]
      · rw [if_pos (by omega), if_neg q]
        exact congrArg (σ.1 22 0) (by omega)
