/-! a village taken over from another; images -/
theorem tf_in {σ : Mem} {k0 k1 n w N i : Nat} (hn0 : σ.1 7 k0 3 = nI n) (hw0 : σ.1 7 k0 1 = nI w) (hn1 : σ.1 7 k1 3 = nI n) (hw1 : σ.1 7 k1 1 = nI w) (hN0 : alen 20 k0 = N) (hN1 : alen 20 k1 = N) (hfit : n * w ≤ N) (hs : n < 100 ∧ w < 100 ∧ N < 1000) (hk : k1 ≠ k0) (hi : i < n) :
    ∀ (r m c : Nat) (f : Nat → Int32), c + r = w → r < m → ∃ z f', l7_takeFrom_27 k0 k1 (nI i) m (nI c) (sA σ 20 k0 f) = some (z, sA σ 20 k0 f') ∧ ∀ j, f' j = if i * w + c ≤ j ∧ j < i * w + w then σ.1 20 k1 j else f j := by
  have hrow : i * w + w ≤ n * w := by
    have : (i + 1) * w ≤ n * w := Nat.mul_le_mul_right w hi
    rw [Nat.succ_mul] at this
    exact this
  intro r
  induction r with
  | zero =>
    intro m c f h1 h2
    obtain ⟨m, rfl⟩ : ∃ q, m = q + 1 := ⟨m - 1, by omega⟩
    obtain rfl : c = w := by omega
    refine ⟨nI c, f, ?_, fun j => by rw [if_neg (by omega)]⟩
    rw [l7_takeFrom_27, show (sA σ 20 k0 f).1 7 k0 1 = nI c from hw0, if_pos (nI_le (by omega) (by omega))]
  | succ r ih =>
    intro m c f h1 h2
    obtain ⟨m, rfl⟩ : ∃ q, m = q + 1 := ⟨m - 1, by omega⟩
    have e1 : (sA σ 20 k0 f).1 20 k1 = σ.1 20 k1 := sA_off (fun q => hk q.2)
    rw [l7_takeFrom_27, show (sA σ 20 k0 f).1 7 k0 1 = nI w from hw0, if_neg (nI_ge (by omega) (by omega)), at_ok (σ := sA σ 20 k0 f) (i := i) (j := c) (n := n) (w := w) (N := N) hn1 hw1 hN1 hi (by omega) (by omega) (by omega), bnd_s, e1, put_ok (σ := sA σ 20 k0 f) (i := i) (j := c) (n := n) (w := w) (N := N) hn0 hw0 hN0 hi (by omega) (by omega) (by omega), bnd_s, sI_sA, nI_1]
    obtain ⟨z, f', e, h⟩ := ih m (c + 1) (upd f (i * w + c) (σ.1 20 k1 (i * w + c))) (by omega) (by omega)
    refine ⟨z, f', e, fun j => ?_⟩
    rw [h j]
    by_cases z : i * w + (c + 1) ≤ j ∧ j < i * w + w
    · rw [if_pos z, if_pos (by omega)]
    · rw [if_neg z]
      by_cases z2 : j = i * w + c
      · rw [if_pos (by omega), z2, up_s]
      · rw [if_neg (by omega), up_n z2]
theorem tf_out {σ : Mem} {k0 k1 n w N : Nat} (hn0 : σ.1 7 k0 3 = nI n) (hw0 : σ.1 7 k0 1 = nI w) (hn1 : σ.1 7 k1 3 = nI n) (hw1 : σ.1 7 k1 1 = nI w) (hN0 : alen 20 k0 = N) (hN1 : alen 20 k1 = N) (hfit : n * w ≤ N) (hs : n < 100 ∧ w < 100 ∧ N < 1000) (hk : k1 ≠ k0) :
    ∀ (r m i : Nat) (f : Nat → Int32), i + r = n → r < m → (∀ j, j < i * w → f j = σ.1 20 k1 j) → ∃ z f', l7_takeFrom_17 k0 k1 m (nI i) (sA σ 20 k0 f) = some (z, sA σ 20 k0 f') ∧ ∀ j, j < n * w → f' j = σ.1 20 k1 j := by
  intro r
  induction r with
  | zero =>
    intro m i f h1 h2 h3
    obtain ⟨m, rfl⟩ : ∃ q, m = q + 1 := ⟨m - 1, by omega⟩
    obtain rfl : i = n := by omega
    refine ⟨nI i, f, ?_, h3⟩
    rw [l7_takeFrom_17, show (sA σ 20 k0 f).1 7 k0 3 = nI i from hn0, if_pos (nI_le (by omega) (by omega))]
  | succ r ih =>
    intro m i f h1 h2 h3
    obtain ⟨m, rfl⟩ : ∃ q, m = q + 1 := ⟨m - 1, by omega⟩
    obtain ⟨z, f', e, h⟩ := tf_in (i := i) hn0 hw0 hn1 hw1 hN0 hN1 hfit hs hk (by omega) w 2000 0 f (by omega) (by omega)
    rw [l7_takeFrom_17, show (sA σ 20 k0 f).1 7 k0 3 = nI n from hn0, if_neg (nI_ge (by omega) (by omega)), show l7_takeFrom_27 k0 k1 (nI i) 2000 0 (sA σ 20 k0 f) = _ from e, bnd_s, nI_1]
    refine ih m (i + 1) f' (by omega) (by omega) (fun j hj => ?_)
    rw [h j]
    rw [Nat.succ_mul] at hj
    by_cases z : i * w + 0 ≤ j ∧ j < i * w + w
    · rw [if_pos z]
    · rw [if_neg z]; exact h3 j (by omega)
theorem tf_ok {σ : Mem} {k0 k1 n w N M : Nat} (hm : σ.1 7 k0 0 = nI M) (hM : n ≤ M) (hM2 : M < 100) (hw0 : σ.1 7 k0 1 = nI w) (hn1 : σ.1 7 k1 3 = nI n) (hw1 : σ.1 7 k1 1 = nI w) (hN0 : alen 20 k0 = N) (hN1 : alen 20 k1 = N) (hfit : n * w ≤ N) (hs : w < 100 ∧ N < 1000) (hk : k1 ≠ k0) :
    ∃ f, f7_takeFrom k0 k1 σ = some (sA (sI σ 7 k0 3 (nI n)) 20 k0 f) ∧ ∀ j, j < n * w → f j = σ.1 20 k1 j := by
  have e0 : mnI (σ.1 7 k1 3) (σ.1 7 k0 0) = nI n := by
    rw [hn1, hm]
    unfold mnI
    rw [if_neg (nI_nlt hM (by omega))]
  obtain ⟨z, f, e, h⟩ := tf_out (σ := sI σ 7 k0 3 (nI n)) (k0 := k0) (k1 := k1) (n := n) (w := w) (N := N) (by rw [rdI, if_pos ⟨rfl, rfl, rfl⟩]) (by rw [rdI, if_neg (by omega)]; exact hw0) (by rw [rdI, if_neg (by omega)]; exact hn1) (by rw [rdI, if_neg (by omega)]; exact hw1) hN0 hN1 hfit ⟨by omega, hs.1, hs.2⟩ hk n 2000 0 ((sI σ 7 k0 3 (nI n)).1 20 k0) (by omega) (by omega) (fun j hj => absurd hj (by omega))
  rw [sA_self] at e
  refine ⟨f, ?_, h⟩
  unfold f7_takeFrom
  rw [e0, lt_e, show l7_takeFrom_17 k0 k1 2000 0 (sI σ 7 k0 3 (nI n)) = _ from e, bnd_s]
def wdt (i : Nat) : Nat := [2, 3, 1, 2, 5, 4, 4].getD i 0
def mst (i : Nat) : Nat := [6, 6, 6, 5, 6, 6, 8].getD i 0
theorem wm_ok : ∀ i, i < 7 → mst i * wdt i = [12, 18, 6, 10, 30, 24, 32].getD i 0 ∧ mst i < 9 ∧ wdt i < 6 ∧ mst i * wdt i < 40 := by decide
/-- so many of the seven tables have been taken over -/
def Tk (v u : Nat) (S : Nat → Nat) (i : Nat) (σ τ : Mem) : Prop :=
  τ.2 = σ.2 ∧ (∀ c k j, ¬ ((c = 7 ∧ 7 * v ≤ k ∧ k < 7 * v + i ∧ j = 3) ∨ (c = 20 ∧ 7 * v ≤ k ∧ k < 7 * v + i)) → τ.1 c k j = σ.1 c k j) ∧ ∀ l, l < i → τ.1 7 (7 * v + l) 3 = nI (S l) ∧ ∀ j, j < S l * wdt l → τ.1 20 (7 * v + l) j = σ.1 20 (7 * u + l) j
theorem Tk.step {v u i : Nat} {S : Nat → Nat} {σ τ : Mem} (hi : i < 7) (huv : u ≠ v) (hv : TC v σ) (hu : TC u σ) (hS : ∀ l, l < 7 → σ.1 7 (7 * u + l) 3 = nI (S l) ∧ S l ≤ mst l) (h : Tk v u S i σ τ) :
    ∃ τ', f7_takeFrom (7 * v + i) (7 * u + i) τ = some τ' ∧ Tk v u S (i + 1) σ τ' := by
  obtain ⟨w1, w2, w3, w4⟩ := wm_ok i hi
  obtain ⟨h1, h2, h3⟩ := h
  have hfit : S i * wdt i ≤ mst i * wdt i := Nat.mul_le_mul_right _ (hS i hi).2
  have hsi := (hS i hi).2
  obtain ⟨f, e, hf⟩ := tf_ok (σ := τ) (k0 := 7 * v + i) (k1 := 7 * u + i) (n := S i) (w := wdt i) (N := mst i * wdt i) (M := mst i) (by rw [h2 _ _ _ (by omega)]; exact (hv i hi).1) hsi (by omega) (by rw [h2 _ _ _ (by omega)]; exact (hv i hi).2) (by rw [h2 _ _ _ (by omega)]; exact (hS i hi).1) (by rw [h2 _ _ _ (by omega)]; exact (hu i hi).2) ((alen20 hi).trans w1.symm) ((alen20 hi).trans w1.symm) hfit ⟨by omega, by omega⟩ (by omega)
  refine ⟨_, e, h1, fun c k j hn => ?_, fun l hl => ⟨?_, fun j hj => ?_⟩⟩
  · rw [rdA, if_neg (by omega), rdI, if_neg (by omega)]
    exact h2 c k j (by omega)
  · rw [rdA, if_neg (by omega), rdI]
    by_cases q : l = i
    · subst q; rw [if_pos ⟨rfl, rfl, rfl⟩]
    · rw [if_neg (by omega)]; exact (h3 l (by omega)).1
  · rw [rdA]
    by_cases q : l = i
    · subst q
      rw [if_pos ⟨rfl, rfl⟩, hf j hj]
      exact h2 _ _ _ (by omega)
    · rw [if_neg (by omega), rdI, if_neg (by omega)]; exact (h3 l (by omega)).2 j hj
theorem takeFrom_ok {v u : Nat} {σ : Mem} {a : Nat → Int32} {t p s n m e : Nat} (huv : u ≠ v) (hv : TC v σ) (hu : VR u σ a t p s n m e) (hb : t ≤ 6 ∧ p ≤ 6 ∧ s ≤ 5 ∧ n ≤ 6 ∧ m ≤ 6 ∧ e ≤ 8) :
    ∃ τ, f9_takeFrom v u σ = some τ ∧ VR v τ a t p s n m e ∧ τ.2 = σ.2 ∧ ∀ c k j, ¬ ((c = 7 ∧ 7 * v ≤ k ∧ k < 7 * v + 7 ∧ j = 3) ∨ (c = 20 ∧ 7 * v ≤ k ∧ k < 7 * v + 7) ∨ (c = 4 ∧ k = v)) → τ.1 c k j = σ.1 c k j := by
  obtain ⟨u1, ⟨s0, s1, s2, s3, s4, s5, s6⟩, u3, u4, u5, u6, u7, u8, u9, u10⟩ := hu
  obtain ⟨S, hSd⟩ : ∃ S : Nat → Nat, S = fun l => [6, t, p, s, n, m, e].getD l 0 := ⟨_, rfl⟩
  have hS : ∀ l, l < 7 → σ.1 7 (7 * u + l) 3 = nI (S l) ∧ S l ≤ mst l := by
    intro l hl
    rw [hSd]
    rcases (show l = 0 ∨ l = 1 ∨ l = 2 ∨ l = 3 ∨ l = 4 ∨ l = 5 ∨ l = 6 by omega) with rfl | rfl | rfl | rfl | rfl | rfl | rfl
    · exact ⟨s0, Nat.le_refl 6⟩
    · exact ⟨s1, hb.1⟩
    · exact ⟨s2, hb.2.1⟩
    · exact ⟨s3, hb.2.2.1⟩
    · exact ⟨s4, hb.2.2.2.1⟩
    · exact ⟨s5, hb.2.2.2.2.1⟩
    · exact ⟨s6, hb.2.2.2.2.2⟩
  have h0 : Tk v u S 0 σ σ := ⟨rfl, fun _ _ _ _ => rfl, fun l hl => absurd hl (Nat.not_lt_zero l)⟩
  obtain ⟨τ1, e1, h1⟩ := h0.step (by decide) huv hv u1 hS
  obtain ⟨τ2, e2, h2⟩ := h1.step (by decide) huv hv u1 hS
  obtain ⟨τ3, e3, h3⟩ := h2.step (by decide) huv hv u1 hS
  obtain ⟨τ4, e4, h4⟩ := h3.step (by decide) huv hv u1 hS
  obtain ⟨τ5, e5, h5⟩ := h4.step (by decide) huv hv u1 hS
  obtain ⟨τ6, e6, h6⟩ := h5.step (by decide) huv hv u1 hS
  obtain ⟨τ7, e7, h7⟩ := h6.step (by decide) huv hv u1 hS
  obtain ⟨g1, g2, g3⟩ := h7
  obtain ⟨f, hf⟩ : ∃ f : Nat → Int32, f = upd (upd (upd (upd (τ7.1 4 v) 0 (τ7.1 4 u 0)) 1 (τ7.1 4 u 1)) 2 (τ7.1 4 u 2)) 3 (τ7.1 4 u 3) := ⟨_, rfl⟩
  have ef : f4_takeFrom v u τ7 = sA τ7 4 v f := by
    unfold f4_takeFrom f4_set
    simp only [lt_e]
    rw [show sI τ7 4 v 0 (τ7.1 4 u 0) = sA τ7 4 v (upd (τ7.1 4 v) 0 (τ7.1 4 u 0)) from rfl, sI_sA, sI_sA, sI_sA, hf]
  have hfj : ∀ j, j < 4 → f j = σ.1 4 u j := by
    intro j hj
    have : τ7.1 4 u j = σ.1 4 u j := g2 _ _ _ (by omega)
    rw [← this, hf]
    rcases (show j = 0 ∨ j = 1 ∨ j = 2 ∨ j = 3 by omega) with rfl | rfl | rfl | rfl
    · rw [up_n (by decide), up_n (by decide), up_n (by decide), up_s]
    · rw [up_n (by decide), up_n (by decide), up_s]
    · rw [up_n (by decide), up_s]
    · rw [up_s]
  have g2' : ∀ c k j, ¬ ((c = 7 ∧ 7 * v ≤ k ∧ k < 7 * v + 7 ∧ j = 3) ∨ (c = 20 ∧ 7 * v ≤ k ∧ k < 7 * v + 7) ∨ (c = 4 ∧ k = v)) → (sA τ7 4 v f).1 c k j = σ.1 c k j := fun c k j hn => by
    rw [rdA, if_neg (by omega)]
    exact g2 c k j (by omega)
  refine ⟨sA τ7 4 v f, ?_, ⟨fun j hj => ?_, ⟨?_, ?_, ?_, ?_, ?_, ?_, ?_⟩, fun j hj => ?_, fun y hy => ?_, fun k hk => ?_, fun k hk => ?_, fun i hi => ?_, fun i hi => ?_, fun i hi => ?_, fun i hi => ?_⟩, g1, g2'⟩
  · unfold f9_takeFrom
    rw [show f7_takeFrom (7 * v) (7 * u) σ = _ from e1, bnd_s, e2, bnd_s, e3, bnd_s, e4, bnd_s, e5, bnd_s, e6, bnd_s, e7, bnd_s, ef, lt_e]
  · rw [g2' _ _ _ (by omega), g2' _ _ _ (by omega)]; exact hv j hj
  · rw [rdA, if_neg (by omega)]; exact ((g3 0 (by decide)).1).trans (by rw [hSd]; rfl)
  · rw [rdA, if_neg (by omega)]; exact ((g3 1 (by decide)).1).trans (by rw [hSd]; rfl)
  · rw [rdA, if_neg (by omega)]; exact ((g3 2 (by decide)).1).trans (by rw [hSd]; rfl)
  · rw [rdA, if_neg (by omega)]; exact ((g3 3 (by decide)).1).trans (by rw [hSd]; rfl)
  · rw [rdA, if_neg (by omega)]; exact ((g3 4 (by decide)).1).trans (by rw [hSd]; rfl)
  · rw [rdA, if_neg (by omega)]; exact ((g3 5 (by decide)).1).trans (by rw [hSd]; rfl)
  · rw [rdA, if_neg (by omega)]; exact ((g3 6 (by decide)).1).trans (by rw [hSd]; rfl)
  · rw [sA_at, hfj j hj]; exact u3 j hj
  · have q0 := (g3 0 (by decide)).2 (2 * y) (by rw [hSd]; show 2 * y < 6 * 2; omega)
    have q1 := (g3 0 (by decide)).2 (2 * y + 1) (by rw [hSd]; show 2 * y + 1 < 6 * 2; omega)
    rw [rdA, if_neg (by omega), rdA, if_neg (by omega)]
    exact ⟨q0.trans (u4 y hy).1, q1.trans (u4 y hy).2⟩
  · have q0 := (g3 1 (by decide)).2 (3 * k) (by rw [hSd]; show 3 * k < t * 3; omega)
    have q1 := (g3 1 (by decide)).2 (3 * k + 1) (by rw [hSd]; show 3 * k + 1 < t * 3; omega)
    have q2 := (g3 1 (by decide)).2 (3 * k + 2) (by rw [hSd]; show 3 * k + 2 < t * 3; omega)
    rw [rdA, if_neg (by omega), rdA, if_neg (by omega), rdA, if_neg (by omega)]
    exact ⟨q0.trans (u5 k hk).1, q1.trans (u5 k hk).2.1, q2.trans (u5 k hk).2.2⟩
  · have q0 := (g3 2 (by decide)).2 k (by rw [hSd]; show k < p * 1; omega)
    rw [rdA, if_neg (by omega)]
    exact q0.trans (u6 k hk)
  · have q0 := (g3 3 (by decide)).2 i (by rw [hSd]; show i < s * 2; omega)
    rw [rdA, if_neg (by omega)]
    exact q0.trans (u7 i hi)
  · have q0 := (g3 4 (by decide)).2 i (by rw [hSd]; show i < n * 5; omega)
    rw [rdA, if_neg (by omega)]
    exact q0.trans (u8 i hi)
  · have q0 := (g3 5 (by decide)).2 i (by rw [hSd]; show i < m * 4; omega)
    rw [rdA, if_neg (by omega)]
    exact q0.trans (u9 i hi)
  · have q0 := (g3 6 (by decide)).2 i (by rw [hSd]; show i < e * 4; omega)
    rw [rdA, if_neg (by omega)]
    exact q0.trans (u10 i hi)
theorem image_lp {σ : Mem} {i : Nat} (hi : i < 2) : ∀ (r n j : Nat) (f : Nat → Int32), j + r = 142 → r < n → (∀ l, f l = if 142 * i ≤ l ∧ l < 142 * i + j then σ.1 22 0 (l - 142 * i) else σ.1 22 1 l) →
    ∃ z f', l11_image_19 0 (nI i) n (nI j) (sA σ 22 1 f) = some (z, sA σ 22 1 f') ∧ ∀ l, f' l = if 142 * i ≤ l ∧ l < 142 * i + 142 then σ.1 22 0 (l - 142 * i) else σ.1 22 1 l := by
  intro r
  induction r with
  | zero =>
    intro n j f h1 h2 h3
    obtain ⟨n, rfl⟩ : ∃ q, n = q + 1 := ⟨n - 1, by omega⟩
    obtain rfl : j = 142 := by omega
    refine ⟨nI 142, f, ?_, h3⟩
    rw [l11_image_19, if_pos (by decide)]
  | succ r ih =>
    intro n j f h1 h2 h3
    obtain ⟨n, rfl⟩ : ∃ q, n = q + 1 := ⟨n - 1, by omega⟩
    rw [l11_image_19, if_neg (nleL 142 j), show (142 : Int32) = nI 142 from rfl, pk_mul, nI_add, inb_nI (by omega) (by decide), inb_nI (by omega) (by decide), ck_t, ck_t, nI_clamp (by omega), nI_clamp (by omega), lt_e, sI_sA, nI_1, show (sA σ 22 1 f).1 22 0 = σ.1 22 0 from rfl]
    refine ih n (j + 1) _ (by omega) (by omega) (fun l => ?_)
    by_cases z : l = 142 * i + j
    · subst z
      rw [up_s, if_pos (by omega)]
      exact congrArg (σ.1 22 0) (by omega)
    · rw [up_n z, h3]
      by_cases z2 : 142 * i ≤ l ∧ l < 142 * i + j
      · rw [if_pos z2, if_pos (by omega)]
      · rw [if_neg z2, if_neg (by omega)]
theorem from_lp {σ : Mem} {i : Nat} (hi : i < 2) : ∀ (r n j : Nat) (f : Nat → Int32), j + r = 142 → r < n → (∀ l, l < j → f l = σ.1 22 1 (142 * i + l)) →
    ∃ z f', l11_from_33 0 (nI i) n (nI j) (sA σ 22 0 f) = some (z, sA σ 22 0 f') ∧ ∀ l, l < 142 → f' l = σ.1 22 1 (142 * i + l) := by
  intro r
  induction r with
  | zero =>
    intro n j f h1 h2 h3
    obtain ⟨n, rfl⟩ : ∃ q, n = q + 1 := ⟨n - 1, by omega⟩
    obtain rfl : j = 142 := by omega
    refine ⟨nI 142, f, ?_, h3⟩
    rw [l11_from_33, if_pos (by decide)]
  | succ r ih =>
    intro n j f h1 h2 h3
    obtain ⟨n, rfl⟩ : ∃ q, n = q + 1 := ⟨n - 1, by omega⟩
    rw [l11_from_33, if_neg (nleL 142 j), show (142 : Int32) = nI 142 from rfl, pk_mul, nI_add, inb_nI (by omega) (by decide), inb_nI (by omega) (by decide), ck_t, ck_t, nI_clamp (by omega), nI_clamp (by omega), lt_e, sI_sA, nI_1, show (sA σ 22 0 f).1 22 1 = σ.1 22 1 from rfl]
    refine ih n (j + 1) _ (by omega) (by omega) (fun l hl => ?_)
    by_cases z : l = j
    · subst z; rw [up_s]
    · rw [up_n z]; exact h3 l (by omega)
theorem ok_image {σ : Mem} (x1 : Int32) (h : Inv σ) : OKc (f10_image 0 x1) (f11_image 0 x1) σ := by
  obtain ⟨t, p, s, n, m, e, hv, hr⟩ := h.vr
  by_cases c1 : f10_within x1 0 (nI 1) = 0
  · refine ok_bad h ?_ ?_
    · unfold f10_image
      rw [n1, if_pos c1]; rfl
    · unfold f11_image
      rw [in01, if_pos c1]; rfl
  obtain ⟨i, hi, rfl⟩ := wi_yes (by decide) c1
  have hT : TC (2 + i) σ := by
    rcases (show i = 0 ∨ i = 1 by omega) with rfl | rfl
    · exact h.2.1.2.1
    · exact h.2.1.2.2
  obtain ⟨τ, e1, hv', z1, fr⟩ := takeFrom_ok (v := 2 + i) (u := 0) (by omega) hT hv hr.2.1
  have hat : f10_imageAt 0 (nI i) σ = 2 + i := by
    rcases (show i = 0 ∨ i = 1 by omega) with rfl | rfl <;> rfl
  obtain ⟨k1, k2⟩ := h.2.2.1 0 (by decide)
  obtain ⟨k3, k4⟩ := h.2.2.1 1 (by decide)
  obtain ⟨τ1, hτ⟩ : ∃ τ1 : Mem, τ1 = sI (sI τ 10 0 11 (if i = 0 then 1 else σ.1 10 0 11)) 10 0 12 (if i = 1 then 1 else σ.1 10 0 12) := ⟨_, rfl⟩
  have f01 : ∀ (x : Int32) (b : Int32), (x = 0 ∨ x = 1) → (b = 0 ∨ b = 1) → (if x = 0 then b else 1) = if b = 1 then 1 else x := by
    intro x b hx hb
    rcases hx with rfl | rfl <;> rcases hb with rfl | rfl <;> rfl
  have w11 : σ.1 10 0 11 = 0 ∨ σ.1 10 0 11 = 1 := by
    rcases k2 with q | q
    · exact Or.inl (k1.trans q)
    · exact Or.inr (k1.trans q.1)
  have w12 : σ.1 10 0 12 = 0 ∨ σ.1 10 0 12 = 1 := by
    rcases k4 with q | q
    · exact Or.inl (k3.trans q)
    · exact Or.inr (k3.trans q.1)
  have t11 : τ.1 10 0 11 = σ.1 10 0 11 := fr _ _ _ (by omega)
  have t12 : τ.1 10 0 12 = σ.1 10 0 12 := fr _ _ _ (by omega)
  obtain ⟨z, f, e2, hf⟩ := image_lp (σ := τ1) (i := i) (by omega) 142 2000 0 (τ1.1 22 1) (by omega) (by omega) (fun l => by rw [if_neg (by omega)])
  rw [sA_self] at e2
  have r1 : ∀ c k j, ¬ c = 10 → τ1.1 c k j = τ.1 c k j := fun c k j hc => by rw [hτ, rdI, if_neg (by omega), rdI, if_neg (by omega)]
  have t0 : τ1.1 22 0 = σ.1 22 0 := funext fun j => (r1 _ _ _ (by decide)).trans (fr _ _ _ (by omega))
  have t1 : τ1.1 22 1 = σ.1 22 1 := funext fun j => (r1 _ _ _ (by decide)).trans (fr _ _ _ (by omega))
  rw [t0, t1] at hf
  obtain ⟨τ2, hτ2⟩ : ∃ τ2 : Mem, τ2 = sI (sA τ1 22 1 f) 22 2 i 1 := ⟨_, rfl⟩
  have r2 : ∀ c k j, ¬ (c = 22 ∧ (k = 1 ∨ k = 2)) → ¬ c = 10 → ¬ ((c = 7 ∧ 7 * (2 + i) ≤ k ∧ k < 7 * (2 + i) + 7 ∧ j = 3) ∨ (c = 20 ∧ 7 * (2 + i) ≤ k ∧ k < 7 * (2 + i) + 7) ∨ (c = 4 ∧ k = 2 + i)) → τ2.1 c k j = σ.1 c k j := fun c k j q1 q2 q3 => by
    rw [hτ2, rdI, if_neg (by omega), rdA, if_neg (by omega), r1 _ _ _ q2, fr _ _ _ q3]
  have r2t : ∀ c k j, ¬ c = 22 → ¬ c = 10 → τ2.1 c k j = τ.1 c k j := fun c k j q1 q2 => by
    rw [hτ2, rdI, if_neg (by omega), rdA, if_neg (by omega), r1 _ _ _ q2]
  have r21 : ∀ j, τ2.1 22 1 j = f j := fun j => by rw [hτ2, rdI, if_neg (by omega), sA_at]
  have r22 : ∀ j, τ2.1 22 2 j = if j = i then 1 else σ.1 22 2 j := fun j => by
    rw [hτ2, rdI]
    by_cases q : j = i
    · rw [if_pos ⟨rfl, rfl, q⟩, if_pos q]
    · rw [if_neg (fun z => q z.2.2), if_neg q, rdA, if_neg (by omega), r1 _ _ _ (by decide), fr _ _ _ (by omega)]
  have r10 : ∀ j, τ2.1 10 0 j = if j = 12 then (if i = 1 then 1 else σ.1 10 0 12) else if j = 11 then (if i = 0 then 1 else σ.1 10 0 11) else σ.1 10 0 j := fun j => by
    rw [hτ2, rdI, if_neg (by omega), rdA, if_neg (by omega), hτ, rdI]
    by_cases q : j = 12
    · rw [if_pos ⟨rfl, rfl, q⟩, if_pos q]
    · rw [if_neg (fun z => q z.2.2), if_neg q, rdI]
      by_cases q2 : j = 11
      · rw [if_pos ⟨rfl, rfl, q2⟩, if_pos q2]
      · rw [if_neg (fun z => q2 z.2.2), if_neg q2]; exact fr _ _ _ (by omega)
  obtain ⟨i1, ⟨g1, g2, g3⟩, i3, i4, i5, i6⟩ := h
  have tc : ∀ v, TC v σ → TC v τ2 := fun v hv => TC.congr hv (fun k _ _ => ⟨r2 _ _ _ (by omega) (by omega) (by omega), r2 _ _ _ (by omega) (by omega) (by omega)⟩)
  refine ⟨1, τ1, τ2, ?_, ?_, ⟨?_, ⟨tc 1 g1, tc 2 g2, tc 3 g3⟩, fun j hj => ?_, i4.congr (r2 _ _ _ (by omega) (by omega) (by omega)) (r2 _ _ _ (by omega) (by omega) (by omega)) (fun j => r2 _ _ _ (by omega) (by omega) (by omega)) (fun j => r2 _ _ _ (by omega) (by omega) (by omega)), ?_, fun j hj => ?_⟩, ?_, ?_⟩
  · unfold f10_image
    rw [n1, if_neg c1, hat, e1, bnd_s, lt_e, lt_e, lt_e, lt_e, t11, show (sI τ 10 0 11 (if σ.1 10 0 11 = 0 then if nI i = 0 then nI 1 else 0 else nI 1)).1 10 0 12 = σ.1 10 0 12 from t12, hτ]
    rcases (show i = 0 ∨ i = 1 by omega) with rfl | rfl
    · rcases w11 with q | q <;> rcases w12 with q' | q' <;> rw [q, q'] <;> rfl
    · rcases w11 with q | q <;> rcases w12 with q' | q' <;> rw [q, q'] <;> rfl
  · unfold f11_image
    rw [in01, if_neg c1, show l11_image_19 0 (nI i) 2000 0 τ1 = _ from e2, bnd_s, inb_nI (by omega) (by decide), ck_t, lt_e, nI_clamp (by omega), hτ2]
  · have : τ2.1 22 0 = σ.1 22 0 := funext fun j => r2 _ _ _ (by omega) (by omega) (by omega)
    rw [this]
    exact i1.congr (fun k j _ _ => r2 _ _ _ (by omega) (by omega) (by omega)) (fun k j _ _ => r2 _ _ _ (by omega) (by omega) (by omega)) (fun j => r2 _ _ _ (by omega) (by omega) (by omega)) (fun _ _ => rfl)
  · rw [r10, r22]
    by_cases q : j = i
    · subst q
      rw [if_pos rfl]
      refine ⟨?_, Or.inr ⟨rfl, t, p, s, n, m, e, VR.congr hv' (fun k l _ _ => r2t _ _ _ (by decide) (by decide)) (fun k l _ _ => r2t _ _ _ (by decide) (by decide)) (fun l => r2t _ _ _ (by decide) (by decide)) (fun l hl => ?_) hr.2.1, hr.congr (fun l hl => ?_)⟩⟩
      · rcases (show j = 0 ∨ j = 1 by omega) with rfl | rfl <;> rfl
      · rw [r21, hf, if_pos (by omega)]
        exact congrArg (σ.1 22 0) (by omega)
      · rw [r21, hf, if_pos (by omega)]
        exact congrArg (σ.1 22 0) (by omega)
    · rw [if_neg q]
      obtain ⟨m1, m2⟩ := i3 j hj
      refine ⟨?_, ?_⟩
      · rw [← m1]
        rcases (show j = 0 ∧ i = 1 ∨ j = 1 ∧ i = 0 by omega) with ⟨rfl, rfl⟩ | ⟨rfl, rfl⟩ <;> rfl
      · rcases m2 with m2 | ⟨m2, m3⟩
        · exact Or.inl m2
        · refine Or.inr ⟨m2, m3.congr (fun k l _ _ => r2 _ _ _ (by omega) (by omega) (by omega)) (fun k l _ _ => r2 _ _ _ (by omega) (by omega) (by omega)) (fun l => r2 _ _ _ (by omega) (by omega) (by omega)) (fun l hl => ?_)⟩
          rw [r21, hf, if_neg (by omega)]
  · have z2 : τ2.2 = σ.2 := by rw [hτ2, hτ]; exact z1
    exact ⟨by rw [z2]; exact i5.1, by rw [z2]; exact i5.2⟩
  · rw [r10, if_neg (by omega), if_neg (by omega), r2 _ _ _ (by omega) (by omega) (by omega)]
    exact i6 j hj
  · exact funext fun k => funext fun j => (r1 _ _ _ (by decide)).trans (fr _ _ _ (by omega))
  · exact funext fun k => funext fun j => r2 _ _ _ (by omega) (by omega) (by omega)
theorem ok_from {σ : Mem} (x1 : Int32) (h : Inv σ) : OKc (f10_from 0 x1) (f11_from 0 x1) σ := by
  by_cases c1 : f10_within x1 0 (nI 1) = 0
  · refine ok_bad h ?_ ?_
    · unfold f10_from
      rw [n1, if_pos c1]; rfl
    · unfold f11_from
      rw [in01, if_pos c1]; rfl
  obtain ⟨i, hi, rfl⟩ := wi_yes (by decide) c1
  obtain ⟨k1, k2⟩ := h.2.2.1 i (by omega)
  have e10 : f10_from 0 (nI i) σ = if σ.1 10 0 (11 + i) = 0 then (lt (f10_refuseNo 0 σ) fun w4 => some (w4.1, w4.2)) else (bnd (f9_takeFrom 0 (2 + i) σ) fun w7 => some (1, w7)) := by
    unfold f10_from
    rw [n1, if_neg c1]
    rcases (show i = 0 ∨ i = 1 by omega) with rfl | rfl
    · rw [if_pos (by rfl)]; rfl
    · rw [if_neg (by decide)]; rfl
  have e11 : ∀ τ : Mem, f11_from 0 (nI i) τ = if τ.1 22 2 i = 0 then (lt (f11_no 0 τ) fun w5 => some (w5.1, w5.2)) else (bnd (l11_from_33 0 (nI i) 2000 0 τ) fun w11 => some (1, w11.2)) := fun τ => by
    unfold f11_from
    rw [in01, if_neg c1, inb_nI (by omega) (by decide), ck_t, nI_clamp (by omega)]
  rcases k2 with k2 | ⟨k2, k3⟩
  · refine ok_no h ?_ ?_
    · rw [e10, k1, if_pos k2]; rfl
    · rw [e11, show (f10_refuseNo 0 σ).2.1 22 2 i = 0 from k2, if_pos rfl]; rfl
  obtain ⟨t, p, s, n, m, e, hv, hr⟩ := k3
  have tc0 : TC 0 σ := by
    obtain ⟨_, _, _, _, _, _, hv0, _⟩ := h.1
    exact hv0.1
  obtain ⟨τ, e1, hv', z1, fr⟩ := takeFrom_ok (v := 0) (u := 2 + i) (by omega) tc0 hv hr.2.1
  obtain ⟨z, b, e2, hb⟩ := from_lp (σ := τ) (i := i) (by omega) 142 2000 0 (τ.1 22 0) (by omega) (by omega) (fun l hl => absurd hl (Nat.not_lt_zero l))
  rw [sA_self] at e2
  have hb' : ∀ l, l < 142 → b l = σ.1 22 1 (142 * i + l) := fun l hl => (hb l hl).trans (fr _ _ _ (by omega))
  refine ok_now (r := 1) (τ1 := τ) (τ2 := sA τ 22 0 b) h ?_ ⟨z1, fun c k j ho => fr _ _ _ (by unfold outB at ho; omega)⟩ ?_ (Nw.row (Or.inr (Or.inr ⟨rfl, rfl⟩))) ?_
  · rw [e10, k1, k2, if_neg (by decide), e1, bnd_s]
  · rw [e11, show τ.1 22 2 i = 1 from (fr _ _ _ (by omega)).trans k2, if_neg (by decide), show l11_from_33 0 (nI i) 2000 0 τ = _ from e2, bnd_s]
  · rw [sA_at]
    exact ⟨t, p, s, n, m, e, VR.congr hv' (fun k j _ _ => rfl) (fun k j _ _ => rfl) (fun j => rfl) hb' hr.2.1, hr.congr hb'⟩
