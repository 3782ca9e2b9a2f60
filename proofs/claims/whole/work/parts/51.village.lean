/-! the village's tables -/
/-- the tables' own numbers, which nobody changes -/
def TC (v : Nat) (σ : Mem) : Prop := ∀ j, j < 7 → σ.1 7 (7 * v + j) 0 = nI ([6, 6, 6, 5, 6, 6, 8].getD j 0) ∧ σ.1 7 (7 * v + j) 1 = nI ([2, 3, 1, 2, 5, 4, 4].getD j 0)
def putL (q b : Nat) : List Int32 → Nat → Mem → Mem
  | [], _, σ => σ
  | x :: l, j, σ => putL q b l (j + 1) (sI σ 20 q (b + j) x)
theorem rdP (q b : Nat) : ∀ (l : List Int32) (j : Nat) (σ : Mem) (c k i : Nat), (putL q b l j σ).1 c k i = if c = 20 ∧ k = q ∧ b + j ≤ i ∧ i < b + j + l.length then l.getD (i - (b + j)) 0 else σ.1 c k i
  | [], j, σ, c, k, i => by
    rw [if_neg (fun h => by have := h.2.2; simp at this; omega)]
    rfl
  | x :: l, j, σ, c, k, i => by
    show (putL q b l (j + 1) (sI σ 20 q (b + j) x)).1 c k i = _
    rw [rdP q b l (j + 1) _ c k i, rdI]
    by_cases h1 : c = 20 ∧ k = q
    · obtain ⟨rfl, rfl⟩ := h1
      by_cases h2 : b + (j + 1) ≤ i ∧ i < b + (j + 1) + l.length
      · rw [if_pos ⟨rfl, rfl, h2⟩, if_pos ⟨rfl, rfl, by omega, by simp; omega⟩]
        rw [show i - (b + j) = (i - (b + (j + 1))) + 1 by omega]
        rfl
      · rw [if_neg (fun h => h2 h.2.2)]
        by_cases h3 : i = b + j
        · subst h3
          rw [if_pos ⟨rfl, rfl, rfl⟩, if_pos ⟨rfl, rfl, Nat.le_refl _, by simp⟩, Nat.sub_self]
          rfl
        · rw [if_neg (fun h => h3 h.2.2), if_neg (fun h => h2 (by have := h.2.2; simp at this; omega))]
    · rw [if_neg (fun h => h1 ⟨h.1, h.2.1⟩), if_neg (fun h => h1 ⟨h.1, h.2.1⟩), if_neg (fun h => h1 ⟨h.1, h.2.1⟩)]
theorem putL_2 (q b : Nat) : ∀ (l : List Int32) (j : Nat) (σ : Mem), (putL q b l j σ).2 = σ.2
  | [], _, _ => rfl
  | x :: l, j, σ => putL_2 q b l (j + 1) (sI σ 20 q (b + j) x)
theorem putL_7 (q b : Nat) (l : List Int32) (j : Nat) (σ : Mem) (k i : Nat) : (putL q b l j σ).1 7 k i = σ.1 7 k i := by
  rw [rdP, if_neg (fun h => absurd h.1 (by decide))]
/-- one line more -/
theorem add_ok {q n w m : Nat} {x1 x2 x3 x4 x5 : Int32} {σ : Mem} (hn : σ.1 7 q 3 = nI n) (hw : σ.1 7 q 1 = nI w) (hm : σ.1 7 q 0 = nI m) (hN : alen 20 q = m * w) (hlt : n < m) (h1 : 1 ≤ w) (h5 : w ≤ 5) (hm2 : m < 100) :
    f7_add q x1 x2 x3 x4 x5 σ = some (putL q (n * w) ([x1, x2, x3, x4, x5].take w) 0 (sI σ 7 q 3 (nI (n + 1)))) := by
  have hfit : ∀ j, j < w → n * w + j < m * w := fun j hj => by
    have : (n + 1) * w ≤ m * w := Nat.mul_le_mul_right w hlt
    rw [Nat.succ_mul] at this
    omega
  have hmw : m * w < 1000 := by
    have : m * w ≤ 99 * 5 := Nat.mul_le_mul (by omega) h5
    omega
  have hf : f7_isFull q σ = 0 := by
    unfold f7_isFull
    rw [hn, hm, if_pos (nI_lt hlt (by omega))]
  unfold f7_add
  rw [if_pos hf, lt_e, hn, nI_1]
  generalize hσ : sI σ 7 q 3 (nI (n + 1)) = τ
  have tn : τ.1 7 q 3 = nI (n + 1) := by rw [← hσ, rdI, if_pos ⟨rfl, rfl, rfl⟩]
  have tw : τ.1 7 q 1 = nI w := by rw [← hσ, rdI, if_neg (fun h => absurd h.2.2 (by decide)), hw]
  have P : ∀ (l : List Int32) (j : Nat) (x : Int32), j < w → f7_put q (nI n) (nI j) x (putL q (n * w) l 0 τ) = some (sI (putL q (n * w) l 0 τ) 20 q (n * w + j) x) := fun l j x hj =>
    put_ok (n := n + 1) (w := w) (N := m * w) (by rw [putL_7, tn]) (by rw [putL_7, tw]) hN (by omega) hj (hfit j hj) ⟨by omega, by omega, hmw⟩
  have O : ∀ (l : List Int32) (j : Nat) (x : Int32), w ≤ j → j < 9 → f7_put q (nI n) (nI j) x (putL q (n * w) l 0 τ) = some (putL q (n * w) l 0 τ) := fun l j x hj hj2 =>
    put_no (n := n + 1) (w := w) (by rw [putL_7, tn]) (by rw [putL_7, tw]) (by omega) hj ⟨by omega, by omega, by omega⟩
  rw [n0, n1, n2, n3, n4]
  rcases (show w = 1 ∨ w = 2 ∨ w = 3 ∨ w = 4 ∨ w = 5 by omega) with rfl | rfl | rfl | rfl | rfl
  · have a1 := P [] 0 x1 (by omega)
    have a2 := O [x1] 1 x2 (by omega) (by omega)
    have a3 := O [x1] 2 x3 (by omega) (by omega)
    have a4 := O [x1] 3 x4 (by omega) (by omega)
    have a5 := O [x1] 4 x5 (by omega) (by omega)
    simp only [putL] at a1 a2 a3 a4 a5
    simp only [a1, bnd_s, a2, a3, a4, a5, List.take, putL]
  · have a1 := P [] 0 x1 (by omega)
    have a2 := P [x1] 1 x2 (by omega)
    have a3 := O [x1, x2] 2 x3 (by omega) (by omega)
    have a4 := O [x1, x2] 3 x4 (by omega) (by omega)
    have a5 := O [x1, x2] 4 x5 (by omega) (by omega)
    simp only [putL] at a1 a2 a3 a4 a5
    simp only [a1, bnd_s, a2, a3, a4, a5, List.take, putL]
  · have a1 := P [] 0 x1 (by omega)
    have a2 := P [x1] 1 x2 (by omega)
    have a3 := P [x1, x2] 2 x3 (by omega)
    have a4 := O [x1, x2, x3] 3 x4 (by omega) (by omega)
    have a5 := O [x1, x2, x3] 4 x5 (by omega) (by omega)
    simp only [putL] at a1 a2 a3 a4 a5
    simp only [a1, bnd_s, a2, a3, a4, a5, List.take, putL]
  · have a1 := P [] 0 x1 (by omega)
    have a2 := P [x1] 1 x2 (by omega)
    have a3 := P [x1, x2] 2 x3 (by omega)
    have a4 := P [x1, x2, x3] 3 x4 (by omega)
    have a5 := O [x1, x2, x3, x4] 4 x5 (by omega) (by omega)
    simp only [putL] at a1 a2 a3 a4 a5
    simp only [a1, bnd_s, a2, a3, a4, a5, List.take, putL]
  · have a1 := P [] 0 x1 (by omega)
    have a2 := P [x1] 1 x2 (by omega)
    have a3 := P [x1, x2] 2 x3 (by omega)
    have a4 := P [x1, x2, x3] 3 x4 (by omega)
    have a5 := P [x1, x2, x3, x4] 4 x5 (by omega)
    simp only [putL] at a1 a2 a3 a4 a5
    simp only [a1, bnd_s, a2, a3, a4, a5, List.take, putL]
theorem alen20 {v j : Nat} (hj : j < 7) : alen 20 (7 * v + j) = [12, 18, 6, 10, 30, 24, 32].getD j 0 := by
  show [12, 18, 6, 10, 30, 24, 32].getD ((7 * v + j) % 7) 0 = _
  rw [show (7 * v + j) % 7 = j by omega]
/-- the storms as at first: so many lines of nothing -/
theorem begin_lp {v : Nat} : ∀ (m n i : Nat) (σ : Mem), i + m = 6 → m < n → (σ.1 7 (7 * v) 3 = nI i ∧ σ.1 7 (7 * v) 1 = nI 2 ∧ σ.1 7 (7 * v) 0 = nI 6) →
    ∃ τ : Mem, l9_begin_9 v n (nI i) σ = some (nI 6, τ) ∧ τ.2 = σ.2 ∧ ∀ c k j, τ.1 c k j = if c = 7 ∧ k = 7 * v ∧ j = 3 then nI 6 else if c = 20 ∧ k = 7 * v ∧ 2 * i ≤ j ∧ j < 12 then 0 else σ.1 c k j := by
  intro m
  induction m with
  | zero =>
    intro n i σ h1 h2 ⟨h3, h4, h5⟩
    obtain ⟨n, rfl⟩ : ∃ q, n = q + 1 := ⟨n - 1, by omega⟩
    have : i = 6 := by omega
    subst this
    refine ⟨σ, ?_, rfl, fun c k j => ?_⟩
    · rw [l9_begin_9, if_pos (by decide)]
    · by_cases h : c = 7 ∧ k = 7 * v ∧ j = 3
      · rw [if_pos h, h.1, h.2.1, h.2.2, h3]
      · rw [if_neg h, if_neg (fun q => by omega)]
  | succ m ih =>
    intro n i σ h1 h2 ⟨h3, h4, h5⟩
    obtain ⟨n, rfl⟩ : ∃ q, n = q + 1 := ⟨n - 1, by omega⟩
    have e := add_ok (x1 := 0) (x2 := 0) (x3 := 0) (x4 := 0) (x5 := 0) h3 h4 h5 (alen20 (v := v) (j := 0) (by decide)) (by omega) (by omega) (by omega) (by omega)
    rw [l9_begin_9, if_neg (by rw [n6]; exact nI_ge (by omega) (by omega)), e, bnd_s, nI_1]
    obtain ⟨τ, g1, g2, g3⟩ := ih n (i + 1) (putL (7 * v) (i * 2) ([0, 0, 0, 0, 0].take 2) 0 (sI σ 7 (7 * v) 3 (nI (i + 1)))) (by omega) (by omega) ⟨by rw [putL_7, rdI, if_pos ⟨rfl, rfl, rfl⟩], by rw [putL_7, rdI, if_neg (fun h => absurd h.2.2 (by decide)), h4], by rw [putL_7, rdI, if_neg (fun h => absurd h.2.2 (by decide)), h5]⟩
    refine ⟨τ, g1, by rw [g2, putL_2]; rfl, fun c k j => ?_⟩
    rw [g3, rdP, rdI]
    by_cases hA : c = 7 ∧ k = 7 * v ∧ j = 3
    · rw [if_pos hA, if_pos hA]
    · simp only [hA, if_false]
      by_cases hB : c = 20 ∧ k = 7 * v ∧ 2 * (i + 1) ≤ j ∧ j < 12
      · rw [if_pos hB, if_pos ⟨hB.1, hB.2.1, by omega, hB.2.2.2⟩]
      · rw [if_neg hB]
        by_cases hC : c = 20 ∧ k = 7 * v ∧ 2 * i ≤ j ∧ j < 12
        · rw [if_pos hC, if_pos ⟨hC.1, hC.2.1, by omega, by simp; omega⟩]
          have : j - (i * 2 + 0) = 0 ∨ j - (i * 2 + 0) = 1 := by omega
          rcases this with z | z <;> rw [z] <;> rfl
        · rw [if_neg hC, if_neg (fun h => by have := h.2.2; simp at this; omega)]
/-- all as at first -/
def bgnM (v : Nat) (σ : Mem) (c k j : Nat) : Int32 := if c = 7 ∧ k = 7 * v ∧ j = 3 then nI 6 else if c = 20 ∧ k = 7 * v ∧ j < 12 then 0 else if c = 7 ∧ (7 * v < k ∧ k < 7 * v + 7) ∧ j = 3 then 0 else if c = 4 ∧ k = v ∧ j < 4 then 0 else σ.1 c k j
theorem begin_ok {v : Nat} {σ : Mem} (h4 : σ.1 7 (7 * v) 1 = nI 2) (h5 : σ.1 7 (7 * v) 0 = nI 6) : f9_begin v σ = some (fun c k j => bgnM v σ c k j, σ.2) := by
  obtain ⟨τ, g1, g2, g3⟩ := begin_lp (v := v) 6 2000 0 (f7_empty (7 * v) σ) rfl (by decide) ⟨by unfold f7_empty; rw [lt_e, rdI, if_pos ⟨rfl, rfl, rfl⟩]; rfl, by unfold f7_empty; rw [lt_e, rdI, if_neg (fun h => absurd h.2.2 (by decide)), h4], by unfold f7_empty; rw [lt_e, rdI, if_neg (fun h => absurd h.2.2 (by decide)), h5]⟩
  unfold f9_begin
  rw [lt_e]
  rw [← n0] at g1
  rw [g1, bnd_s]
  simp only [lt_e, f7_empty, f4_set]
  congr 1
  refine mem_ext (fun c k j => ?_) g2
  simp only [rdI]
  rw [g3]
  unfold bgnM
  unfold f7_empty
  rw [lt_e, rdI]
  by_cases h1 : c = 4
  · subst h1
    by_cases h2 : k = v
    · subst h2
      by_cases h3 : j < 4
      · rcases (show j = 0 ∨ j = 1 ∨ j = 2 ∨ j = 3 by omega) with rfl | rfl | rfl | rfl <;> simp
      · have : j ≠ 0 ∧ j ≠ 1 ∧ j ≠ 2 ∧ j ≠ 3 := by omega
        simp [this, h3]
    · simp [h2]
  · by_cases h2 : c = 7
    · subst h2
      by_cases h3 : j = 3
      · subst h3
        by_cases h6 : k = 7 * v
        · subst h6
          simp
        · by_cases h7 : 7 * v < k ∧ k < 7 * v + 7
          · rcases (show k = 7 * v + 1 ∨ k = 7 * v + 2 ∨ k = 7 * v + 3 ∨ k = 7 * v + 4 ∨ k = 7 * v + 5 ∨ k = 7 * v + 6 by omega) with rfl | rfl | rfl | rfl | rfl | rfl <;> simp
          · have : k ≠ 7 * v + 1 ∧ k ≠ 7 * v + 2 ∧ k ≠ 7 * v + 3 ∧ k ≠ 7 * v + 4 ∧ k ≠ 7 * v + 5 ∧ k ≠ 7 * v + 6 := by omega
            simp [this, h6, h7]
      · simp [h3]
    · simp [h1, h2]
