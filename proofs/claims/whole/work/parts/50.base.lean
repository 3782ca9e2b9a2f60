/-! numbers, memory, tables: what the decompiled runs compute -/
theorem rdI (σ : Mem) (c k j : Nat) (x : Int32) (c' k' j' : Nat) : (sI σ c k j x).1 c' k' j' = if c' = c ∧ k' = k ∧ j' = j then x else σ.1 c' k' j' := by
  unfold sI sA
  by_cases h : c' = c ∧ k' = k
  · obtain ⟨rfl, rfl⟩ := h
    by_cases hj : j' = j
    · subst hj; simp [upd]
    · simp [upd, hj]
  · have h2 : ¬ (c' = c ∧ k' = k ∧ j' = j) := fun q => h ⟨q.1, q.2.1⟩
    simp only [if_neg h, if_neg h2]
theorem rdI2 (σ : Mem) (c k j : Nat) (x : Int32) : (sI σ c k j x).2 = σ.2 := rfl
theorem rdL (σ : Mem) (c k j : Nat) (x : Int64) (c' k' j' : Nat) : (sL σ c k j x).2 c' k' j' = if c' = c ∧ k' = k ∧ j' = j then x else σ.2 c' k' j' := by
  unfold sL
  by_cases h : c' = c ∧ k' = k
  · obtain ⟨rfl, rfl⟩ := h
    by_cases hj : j' = j
    · subst hj; simp [vp_updL]
    · simp [vp_updL, hj]
  · have h2 : ¬ (c' = c ∧ k' = k ∧ j' = j) := fun q => h ⟨q.1, q.2.1⟩
    simp only [if_neg h, if_neg h2]
theorem rdL1 (σ : Mem) (c k j : Nat) (x : Int64) : (sL σ c k j x).1 = σ.1 := rfl
theorem rdA (σ : Mem) (c k : Nat) (f : Nat → Int32) (c' k' j' : Nat) : (sA σ c k f).1 c' k' j' = if c' = c ∧ k' = k then f j' else σ.1 c' k' j' := by
  unfold sA
  by_cases h : c' = c ∧ k' = k
  · simp only [if_pos h]
  · simp only [if_neg h]
/-- two memories with the same numbers are one -/
theorem mem_ext {σ τ : Mem} (h1 : ∀ c k j, σ.1 c k j = τ.1 c k j) (h2 : σ.2 = τ.2) : σ = τ := by
  obtain ⟨a, b⟩ := σ
  obtain ⟨a', b'⟩ := τ
  dsimp only at h2
  subst h2
  congr
  funext c k j
  exact h1 c k j
theorem inb_nI {n N : Nat} (h : n < N) (hN : N < 2 ^ 31) : inb (nI n) N = true := by
  have := vp_in_nI h hN
  simp only [inb, decide_eq_true_eq]
  exact this
theorem ck_t {α : Type} (k : Option α) : ck true k = k := rfl
theorem bnd_s {α β : Type} (a : α) (k : α → Option β) : bnd (some a) k = k a := rfl
theorem lt_e {α β : Type} (a : α) (k : α → β) : lt a k = k a := rfl
theorem sm_il {α β γ : Type} (u : α) (f : α → γ) (g : β → γ) : sm (.inl u) f g = f u := rfl
theorem sm_ir {α β γ : Type} (u : β) (f : α → γ) (g : β → γ) : sm (.inr u) f g = g u := rfl
theorem nI_s (n : Nat) : nI n + 1 = nI (n + 1) := nI_1 n
theorem nIc (n : Nat) : Int32.ofNat n = nI n := rfl
/-- small numbers as they are written -/
theorem n0 : (0 : Int32) = nI 0 := by decide
theorem n1 : (1 : Int32) = nI 1 := by decide
theorem n2 : (2 : Int32) = nI 2 := by decide
theorem n3 : (3 : Int32) = nI 3 := by decide
theorem n4 : (4 : Int32) = nI 4 := by decide
theorem n5 : (5 : Int32) = nI 5 := by decide
theorem n6 : (6 : Int32) = nI 6 := by decide
/-! a loop that counts: so many rounds of one and the same step -/
def itr {α : Type} (F : Nat → α → α) : Nat → Nat → α → α
  | 0, _, a => a
  | m + 1, i, a => itr F m (i + 1) (F i a)
theorem itr_succ {α : Type} (F : Nat → α → α) : ∀ (m i : Nat) (a : α), itr F (m + 1) i a = F (i + m) (itr F m i a)
  | 0, i, a => rfl
  | m + 1, i, a => by
    show itr F (m + 1) (i + 1) (F i a) = _
    rw [itr_succ F m (i + 1) (F i a)]
    show F (i + 1 + m) _ = F (i + (m + 1)) (itr F m (i + 1) (F i a))
    rw [show i + 1 + m = i + (m + 1) by omega]
theorem cnt_loop {α β : Type} (l : Nat → Nat → α → Option β) (N : Nat) (F : Nat → α → α) (I : Nat → α → Prop) (out : α → β)
    (hx : ∀ n a, I N a → l (n + 1) N a = some (out a))
    (hs : ∀ n i a, i < N → I i a → l (n + 1) i a = l n (i + 1) (F i a) ∧ I (i + 1) (F i a)) :
    ∀ (m n i : Nat) (a : α), i + m = N → m < n → I i a → l n i a = some (out (itr F m i a)) ∧ I N (itr F m i a) := by
  intro m
  induction m with
  | zero =>
    intro n i a h1 h2 h3
    obtain ⟨n, rfl⟩ : ∃ q, n = q + 1 := ⟨n - 1, by omega⟩
    have : i = N := by omega
    subst this
    exact ⟨hx n a h3, h3⟩
  | succ m ih =>
    intro n i a h1 h2 h3
    obtain ⟨n, rfl⟩ : ∃ q, n = q + 1 := ⟨n - 1, by omega⟩
    obtain ⟨e, h4⟩ := hs n i a (by omega) h3
    rw [e]
    exact ih n (i + 1) (F i a) (by omega) (by omega) h4
/-- the same, with an invariant alone -/
theorem inv_loop {α β : Type} (l : Nat → Nat → α → Option β) (N : Nat) (I : Nat → α → Prop) (out : α → β)
    (hx : ∀ n a, I N a → l (n + 1) N a = some (out a))
    (hs : ∀ n i a, i < N → I i a → ∃ b, l (n + 1) i a = l n (i + 1) b ∧ I (i + 1) b) :
    ∀ (m n i : Nat) (a : α), i + m = N → m < n → I i a → ∃ b, l n i a = some (out b) ∧ I N b := by
  intro m
  induction m with
  | zero =>
    intro n i a h1 h2 h3
    obtain ⟨n, rfl⟩ : ∃ q, n = q + 1 := ⟨n - 1, by omega⟩
    have : i = N := by omega
    subst this
    exact ⟨a, hx n a h3, h3⟩
  | succ m ih =>
    intro n i a h1 h2 h3
    obtain ⟨n, rfl⟩ : ∃ q, n = q + 1 := ⟨n - 1, by omega⟩
    obtain ⟨b, e, h4⟩ := hs n i a (by omega) h3
    rw [e]
    exact ih n (i + 1) b (by omega) (by omega) h4
/-- a loop that ends at the first place of a kind, or at its end -/
theorem end_loop {α β : Type} (l : Nat → Nat → α → Option β) (N : Nat) (I : Nat → α → Prop) (O : β → Prop)
    (hx : ∀ n a, I N a → ∃ r, l (n + 1) N a = some r ∧ O r)
    (hs : ∀ n i a, i < N → I i a → (∃ b, l (n + 1) i a = l n (i + 1) b ∧ I (i + 1) b) ∨ (∃ r, l (n + 1) i a = some r ∧ O r)) :
    ∀ (m n i : Nat) (a : α), i + m = N → m < n → I i a → ∃ r, l n i a = some r ∧ O r := by
  intro m
  induction m with
  | zero =>
    intro n i a h1 h2 h3
    obtain ⟨n, rfl⟩ : ∃ q, n = q + 1 := ⟨n - 1, by omega⟩
    have : i = N := by omega
    subst this
    exact hx n a h3
  | succ m ih =>
    intro n i a h1 h2 h3
    obtain ⟨n, rfl⟩ : ∃ q, n = q + 1 := ⟨n - 1, by omega⟩
    rcases hs n i a (by omega) h3 with ⟨b, e, h4⟩ | h4
    · rw [e]
      exact ih n (i + 1) b (by omega) (by omega) h4
    · exact h4
/-! tables -/
theorem at_ok {q i j n w N : Nat} {σ : Mem} (hn : σ.1 7 q 3 = nI n) (hw : σ.1 7 q 1 = nI w) (hN : alen 20 q = N) (hi : i < n) (hj : j < w) (hp : i * w + j < N) (hs : n < 1000 ∧ w < 1000 ∧ N < 1000) : f7_at q (nI i) (nI j) σ = some (σ.1 20 q (i * w + j)) := by
  have e : nI i * nI w + nI j = nI (i * w + j) := by rw [pk_mul, nI_add]
  unfold f7_at
  rw [hn, hw, hN, e, if_neg (nI_pos (by omega)), if_neg (nI_ge hi (by omega)), if_neg (nI_pos (by omega)), if_neg (nI_ge hj (by omega))]
  rw [lt_e, if_neg (by decide), if_neg (nI_pos (by omega)), nIc, if_neg (nI_ge hp (by omega)), inb_nI hp (by omega), ck_t, nI_clamp (by omega)]
theorem put_ok {q i j n w N : Nat} {x : Int32} {σ : Mem} (hn : σ.1 7 q 3 = nI n) (hw : σ.1 7 q 1 = nI w) (hN : alen 20 q = N) (hi : i < n) (hj : j < w) (hp : i * w + j < N) (hs : n < 1000 ∧ w < 1000 ∧ N < 1000) : f7_put q (nI i) (nI j) x σ = some (sI σ 20 q (i * w + j) x) := by
  have e : nI i * nI w + nI j = nI (i * w + j) := by rw [pk_mul, nI_add]
  unfold f7_put
  rw [hn, hw, hN, e, if_neg (nI_pos (by omega)), if_neg (nI_ge hi (by omega)), if_neg (nI_pos (by omega)), if_neg (nI_ge hj (by omega))]
  rw [lt_e, if_neg (by decide), if_neg (nI_pos (by omega)), nIc, if_neg (nI_ge hp (by omega)), inb_nI hp (by omega), ck_t, nI_clamp (by omega)]
  rfl
/-- beside the columns nothing is put -/
theorem put_no {q i j n w : Nat} {x : Int32} {σ : Mem} (hn : σ.1 7 q 3 = nI n) (hw : σ.1 7 q 1 = nI w) (hi : i < n) (hj : w ≤ j) (hs : n < 1000 ∧ w < 1000 ∧ j < 1000) : f7_put q (nI i) (nI j) x σ = some σ := by
  unfold f7_put
  rw [hn, hw, if_neg (nI_pos (by omega)), if_neg (nI_ge hi (by omega)), if_neg (nI_pos (by omega)), if_pos (nI_le hj (by omega))]
  rw [lt_e, if_pos rfl]
