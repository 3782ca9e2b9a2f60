/-! the next look: so many alike -/
def alk (S : Nat) (V : Nat → Int32) : Nat := mxF (fun k => pc (S &&& eqs V (V k))) 6
theorem pc_le6 {u : Nat} (h : u < 64) : pc u ≤ 6 := pc_le u h
theorem alk_le (S : Nat) (V : Nat → Int32) : alk S V ≤ 6 := mxF_le 6 (fun k _ => pc_le6 (Nat.and_lt_two_pow (n := 6) _ (bset6 _)))
theorem alkC {σ : Mem} {V : Nat → Int32} {S : Nat} (hS : S < 64) (hV : ∀ k, k < 6 → σ.1 21 6 k = V k) : f2_mostAlike 0 (nI S) σ = some (nI (alk S V)) := by
  have lp : ∀ (r n i : Nat), i + r = 6 → r < n → l2_mostAlike_4 0 (nI S) σ n (nI (mxF (fun k => pc (S &&& eqs V (V k))) i)) (nI i) = some (nI (alk S V), nI 6) := by
    intro r
    induction r with
    | zero =>
      intro n i h1 h2
      obtain ⟨n, rfl⟩ : ∃ q, n = q + 1 := ⟨n - 1, by omega⟩
      obtain rfl : i = 6 := by omega
      rw [l2_mostAlike_4, if_pos (by decide)]; rfl
    | succ r ih =>
      intro n i h1 h2
      obtain ⟨n, rfl⟩ : ∃ q, n = q + 1 := ⟨n - 1, by omega⟩
      have hand : S &&& eqs V (V i) < 64 := Nat.and_lt_two_pow (n := 6) _ (bset6 _)
      have hm : mxF (fun k => pc (S &&& eqs V (V k))) i ≤ 6 := mxF_le i (fun k _ => pc_le6 (Nat.and_lt_two_pow (n := 6) _ (bset6 _)))
      have hp := pc_le6 hand
      rw [l2_mostAlike_4, if_neg (nleL 6 i), at_row (N := 6) rfl (by decide) (by omega), bnd_s, hV i (by omega), answering_ok hV, bnd_s, and_nI S hS (eqs V (V i)) (bset6 _), pcC _ hand, mxI_nI (by omega) (by omega), nI_1]
      exact ih n (i + 1) (by omega) (by omega)
  unfold f2_mostAlike
  rw [show l2_mostAlike_4 0 (nI S) σ 2000 0 0 = _ from lp 6 2000 0 (by omega) (by omega), bnd_s]
def alr (S : Nat) (V : Nat → Int32) (k : Nat) : Nat := if S.testBit k = true then cB (fun b => S.testBit b && decide (V k = V b)) 6 else 0
theorem pc_and (S : Nat) (V : Nat → Int32) (x : Int32) : pc (S &&& eqs V x) = cB (fun b => S.testBit b && decide (V b = x)) 6 := by
  rw [pc_cB (S &&& eqs V x) (Nat.and_lt_two_pow (n := 6) _ (bset6 _))]
  refine cB_congr 6 (fun k hk => ?_)
  rw [Nat.testBit_and]
  unfold eqs
  rw [bset_t6 hk]
theorem alk_alr (S : Nat) (V : Nat → Int32) : mxF (alr S V) 6 = alk S V := by
  have e1 : ∀ k, S.testBit k = true → alr S V k = pc (S &&& eqs V (V k)) := fun k hk => by
    unfold alr
    rw [if_pos hk, pc_and]
    refine cB_congr 6 (fun b _ => ?_)
    by_cases z : V k = V b
    · rw [decide_eq_true z, decide_eq_true z.symm]
    · rw [decide_eq_false z, decide_eq_false (fun q => z q.symm)]
  refine Nat.le_antisymm (mxF_le 6 (fun k hk => ?_)) (mxF_le 6 (fun k hk => ?_))
  · by_cases z : S.testBit k = true
    · rw [e1 k z]
      exact le_mxF (g := fun k => pc (S &&& eqs V (V k))) 6 k hk
    · unfold alr
      rw [if_neg z]
      exact Nat.zero_le _
  · show pc (S &&& eqs V (V k)) ≤ _
    by_cases z : ∃ b, b < 6 ∧ S.testBit b = true ∧ V b = V k
    · obtain ⟨b, hb, hs, hv⟩ := z
      rw [← hv, ← e1 b hs]
      exact le_mxF 6 b hb
    · rw [show S &&& eqs V (V k) = 0 from bits_ext (Nat.and_lt_two_pow (n := 6) _ (bset6 _)) (by decide) (fun b hb => by
        rw [Nat.testBit_and, Nat.zero_testBit]
        unfold eqs
        rw [bset_t6 hb]
        by_cases q : S.testBit b = true
        · rw [q, decide_eq_false (fun w => z ⟨b, hb, q, w⟩)]; rfl
        · rw [Bool.eq_false_iff.mpr q]; rfl)]
      exact Nat.zero_le _
theorem alkR {σ : Mem} {V : Nat → Int32} {S : Nat} (hS : S < 64) (hV : ∀ k, k < 6 → σ.1 22 8 k = V k) : f11_mostAlike 0 (nI S) σ = some (nI (alk S V)) := by
  have inn : ∀ (x2 : Int32) (k : Nat), k < 6 → ∃ z, l11_mostAlike_16 0 (nI S) x2 (nI k) σ 2000 0 0 = some (nI (alr S V k), z) := by
    intro x2 k hk
    unfold alr
    by_cases hb : S.testBit k = true
    · rw [if_pos hb]
      have lp : ∀ (r n i : Nat), i + r = 6 → r < n → ∃ z, l11_mostAlike_16 0 (nI S) x2 (nI k) σ n (nI (cB (fun b => S.testBit b && decide (V k = V b)) i)) (nI i) = some (nI (cB (fun b => S.testBit b && decide (V k = V b)) 6), z) := by
        intro r
        induction r with
        | zero =>
          intro n i h1 h2
          obtain ⟨n, rfl⟩ : ∃ q, n = q + 1 := ⟨n - 1, by omega⟩
          obtain rfl : i = 6 := by omega
          exact ⟨nI 6, by rw [l11_mostAlike_16, if_pos (by decide)]⟩
        | succ r ih =>
          intro n i h1 h2
          obtain ⟨n, rfl⟩ : ∃ q, n = q + 1 := ⟨n - 1, by omega⟩
          have hs : (if f11_has (nI S) (nI i) = 0 then some 0 else (ck (inb (nI k) 6) <| ck (inb (nI i) 6) <| if (σ.1 22 8 (nI k : Int32).toNatClampNeg) = (σ.1 22 8 (nI i : Int32).toNatClampNeg) then some 1 else some 0) : Option Int32) = some (nI (b01 (S.testBit i && decide (V k = V i)))) := by
            rw [hasN hS (by omega), inb_nI (by omega) (by decide), inb_nI (by omega) (by decide), ck_t, ck_t, nI_clamp (by omega), nI_clamp (by omega), hV k hk, hV i (by omega)]
            cases S.testBit i with
            | false => rfl
            | true =>
              rw [if_neg (by decide), Bool.true_and]
              by_cases z : V k = V i
              · rw [if_pos z, decide_eq_true z]; rfl
              · rw [if_neg z, decide_eq_false z]; rfl
          rw [l11_mostAlike_16, if_neg (nleL 6 i), if_neg (by rw [hasN hS (by omega), if_pos hb]; decide), hs, bnd_s, nI_add, nI_1]
          exact ih n (i + 1) (by omega) (by omega)
      exact lp 6 2000 0 (by omega) (by omega)
    · rw [if_neg hb]
      refine ⟨0, ?_⟩
      rw [show (2000 : Nat) = 1999 + 1 from rfl, l11_mostAlike_16, if_neg (by decide), if_pos (by rw [hasN hS (by omega), if_neg hb])]
      rfl
  have hle : ∀ k, alr S V k ≤ 6 := fun k => by
    unfold alr
    split
    · exact cB_le _ 6
    · omega
  have lp : ∀ (r n i : Nat), i + r = 6 → r < n → l11_mostAlike_4 0 (nI S) σ n (nI (mxF (alr S V) i)) (nI i) = some (nI (alk S V), nI 6) := by
    intro r
    induction r with
    | zero =>
      intro n i h1 h2
      obtain ⟨n, rfl⟩ : ∃ q, n = q + 1 := ⟨n - 1, by omega⟩
      obtain rfl : i = 6 := by omega
      rw [l11_mostAlike_4, if_pos (by decide), alk_alr]
    | succ r ih =>
      intro n i h1 h2
      obtain ⟨n, rfl⟩ : ∃ q, n = q + 1 := ⟨n - 1, by omega⟩
      obtain ⟨z, e⟩ := inn (nI (mxF (alr S V) i)) i (by omega)
      have hm : mxF (alr S V) i ≤ 6 := mxF_le i (fun k _ => hle k)
      have hk := hle i
      have ihh := ih n (i + 1) (by omega) (by omega)
      rw [show mxF (alr S V) (i + 1) = max (mxF (alr S V) i) (alr S V i) from rfl] at ihh
      rw [l11_mostAlike_4, if_neg (nleL 6 i), e, bnd_s, lt_e, nI_1]
      by_cases q : alr S V i ≤ mxF (alr S V) i
      · rw [if_pos (show nI (alr S V i) ≤ nI (mxF (alr S V) i) from nI_le q (by omega))]
        rw [Nat.max_eq_left q] at ihh
        exact ihh
      · rw [if_neg (show ¬ nI (alr S V i) ≤ nI (mxF (alr S V) i) from nI_ge (by omega) (by omega))]
        rw [Nat.max_eq_right (by omega)] at ihh
        exact ihh
  unfold f11_mostAlike
  rw [show l11_mostAlike_4 0 (nI S) σ 2000 0 0 = _ from lp 6 2000 0 (by omega) (by omega), bnd_s]
/-! the best: rows of so many looks, rows by rows -/
def lkI (T : Nat → Nat) (base : Nat) : Nat → Nat → Int32 → Nat → Int32 × Nat
  | 0, _, b, F => (b, F)
  | r + 1, y, b, F => if F ≤ T y then lkI T base r (y + 1) b F else lkI T base r (y + 1) (nI (base + y)) (T y)
def lkO (T : Nat → Nat → Nat) (m w : Nat) : Nat → Nat → Int32 → Nat → Int32 × Nat
  | 0, _, b, F => (b, F)
  | r + 1, f, b, F => lkO T m w r (f + 1) (lkI (T f) (m * f) w 0 b F).1 (lkI (T f) (m * f) w 0 b F).2
theorem lkI_le {T : Nat → Nat} {base M : Nat} (hT : ∀ y, T y ≤ M) : ∀ (r y : Nat) (b : Int32) (F : Nat), F ≤ M → (lkI T base r y b F).2 ≤ M
  | 0, _, _, _, h => h
  | r + 1, y, b, F, h => by
    unfold lkI
    split
    · exact lkI_le hT r (y + 1) b F h
    · exact lkI_le hT r (y + 1) _ _ (hT y)
theorem lk_any {T : Nat → Nat → Nat} {m w r F G : Nat} {b : Int32} (hF : T 0 0 < F) (hG : T 0 0 < G) : lkO T m (w + 1) (r + 1) 0 b F = lkO T m (w + 1) (r + 1) 0 b G := by
  have e : ∀ H, T 0 0 < H → lkI (T 0) (m * 0) (w + 1) 0 b H = lkI (T 0) (m * 0) w 1 (nI (m * 0 + 0)) (T 0 0) := fun H hH => by
    show (if H ≤ T 0 0 then _ else _) = _
    rw [if_neg (by omega)]
  show lkO T m (w + 1) r 1 (lkI (T 0) (m * 0) (w + 1) 0 b F).1 (lkI (T 0) (m * 0) (w + 1) 0 b F).2 = lkO T m (w + 1) r 1 (lkI (T 0) (m * 0) (w + 1) 0 b G).1 (lkI (T 0) (m * 0) (w + 1) 0 b G).2
  rw [e F hF, e G hG]
def lookT (S : Nat) (H : Int32) (f y : Nat) : Nat := alk S (fun k => f3_draw (nI k) H (nI f) (nI y))
def askT (S : Nat) (n y : Nat) : Nat := alk S (fun k => f3_need (nI k) (nI n) (nI y))
theorem lookC_in {σ : Mem} {S : Nat} {H : Int32} (hS : S < 64) {f : Nat} (hf : f < 12) : ∀ (r n y : Nat) (b : Int32) (F : Nat) (g : Nat → Int32), y + r = 10 → r < n → F ≤ 2000000 →
    ∃ z g', l2_bestLook_23 0 (nI S) H (nI f) n b (nI F) (nI y) (sA σ 21 6 g) = some ((lkI (lookT S H f) (100 * f) r y b F).1, nI (lkI (lookT S H f) (100 * f) r y b F).2, z, sA σ 21 6 g') := by
  intro r
  induction r with
  | zero =>
    intro n y b F g h1 h2 h3
    obtain ⟨n, rfl⟩ : ∃ q, n = q + 1 := ⟨n - 1, by omega⟩
    obtain rfl : y = 10 := by omega
    exact ⟨nI 10, g, by rw [l2_bestLook_23, if_pos (by decide)]; rfl⟩
  | succ r ih =>
    intro n y b F g h1 h2 h3
    obtain ⟨n, rfl⟩ : ∃ q, n = q + 1 := ⟨n - 1, by omega⟩
    obtain ⟨g1, e1, hg⟩ := drawAll_ok (σ := σ) (g := g) H (nI f) (nI y)
    have e2 := alkC (σ := sA σ 21 6 g1) (V := fun k => f3_draw (nI k) H (nI f) (nI y)) hS (fun k hk => by rw [sA_at]; exact hg k hk)
    have hle : lookT S H f y ≤ 6 := alk_le _ _
    rw [l2_bestLook_23, if_neg (nleL 10 y), e1, bnd_s, e2, bnd_s, show (100 : Int32) * nI f + nI y = nI (100 * f + y) from by rw [show (100 : Int32) * nI f = nI (100 * f) from pk_mul 100 f, nI_add], nI_1]
    unfold lkI
    by_cases q : F ≤ lookT S H f y
    · rw [if_pos (show nI F ≤ nI (alk S fun k => f3_draw (nI k) H (nI f) (nI y)) from nI_le q (by
        show lookT S H f y < _
        omega)), if_pos q, lt_e]
      exact ih n (y + 1) b F g1 (by omega) (by omega) h3
    · rw [if_neg (show ¬ nI F ≤ nI (alk S fun k => f3_draw (nI k) H (nI f) (nI y)) from nI_ge (by
        show lookT S H f y < _
        omega) (by omega)), if_neg q, lt_e]
      exact ih n (y + 1) _ _ g1 (by omega) (by omega) (Nat.le_trans hle (by decide))
theorem lookC_out {σ : Mem} {S : Nat} {H : Int32} (hS : S < 64) (h0 : 0 < S) : ∀ (r n f : Nat) (b : Int32) (F : Nat) (g : Nat → Int32), f + r = 12 → r < n → F ≤ 2000000 →
    ∃ z1 z2 g', l2_bestLook_9 0 (nI S) H n b (nI F) (nI f) (sA σ 21 6 g) = some ((lkO (lookT S H) 100 10 r f b F).1, z1, z2, sA σ 21 6 g') := by
  intro r
  induction r with
  | zero =>
    intro n f b F g h1 h2 h3
    obtain ⟨n, rfl⟩ : ∃ q, n = q + 1 := ⟨n - 1, by omega⟩
    obtain rfl : f = 12 := by omega
    exact ⟨nI F, nI 12, g, by rw [l2_bestLook_9, if_pos (by decide)]; rfl⟩
  | succ r ih =>
    intro n f b F g h1 h2 h3
    obtain ⟨n, rfl⟩ : ∃ q, n = q + 1 := ⟨n - 1, by omega⟩
    obtain ⟨z, g1, e1⟩ := lookC_in (σ := σ) (S := S) (H := H) hS (f := f) (by omega) 10 2000 0 b F g (by omega) (by omega) h3
    rw [l2_bestLook_9, if_neg (nleL 12 f), if_neg (nI_ne0 h0 (by omega)), show l2_bestLook_23 0 (nI S) H (nI f) 2000 b (nI F) 0 (sA σ 21 6 g) = _ from e1, bnd_s, nI_1]
    exact ih n (f + 1) _ _ g1 (by omega) (by omega) (lkI_le (fun y => Nat.le_trans (alk_le _ _) (by decide)) 10 0 b F h3)
theorem lookR_fill {σ : Mem} {h f y k : Nat} {x2 x3 x4 : Int32} {g : Nat → Int32} (hk : k < 6) (hh : h ≤ 30) (hf : f ≤ 11) (hy : y < 2000) (ha : σ.1 22 0 (28 + k) = nI h) :
    ∃ z g', l11_look_54 0 (nI k) x2 x3 x4 (nI f) (nI y) 2000 0 (sA σ 22 8 g) = some (z, sA σ 22 8 g') ∧ ∀ j, j < 6 → g' j = f3_draw (nI j) (nI h) (nI f) (nI y) := by
  have lp : ∀ (r n i : Nat) (g : Nat → Int32), i + r = 6 → r < n → (∀ j, j < i → g j = f3_draw (nI j) (nI h) (nI f) (nI y)) → ∃ z g', l11_look_54 0 (nI k) x2 x3 x4 (nI f) (nI y) n (nI i) (sA σ 22 8 g) = some (z, sA σ 22 8 g') ∧ ∀ j, j < 6 → g' j = f3_draw (nI j) (nI h) (nI f) (nI y) := by
    intro r
    induction r with
    | zero =>
      intro n i g h1 h2 h3
      obtain ⟨n, rfl⟩ : ∃ q, n = q + 1 := ⟨n - 1, by omega⟩
      obtain rfl : i = 6 := by omega
      exact ⟨nI 6, g, by rw [l11_look_54, if_pos (by decide)], h3⟩
    | succ r ih =>
      intro n i g h1 h2 h3
      obtain ⟨n, rfl⟩ : ∃ q, n = q + 1 := ⟨n - 1, by omega⟩
      rw [l11_look_54, if_neg (nleL 6 i), show (28 : Int32) = nI 28 from rfl, nI_add, inb_nI (by omega) (by decide), inb_nI (by omega) (by decide), ck_t, ck_t, nI_clamp (by omega), nI_clamp (by omega), show (sA σ 22 8 g).1 22 0 = σ.1 22 0 from rfl, ha, drE (by omega) hh hf hy, lt_e, sI_sA, nI_1]
      refine ih n (i + 1) _ (by omega) (by omega) (fun j hj => ?_)
      by_cases q : j = i
      · subst q; rw [up_s]
      · rw [up_n q]; exact h3 j (by omega)
  exact lp 6 2000 0 g (by omega) (by omega) (fun j hj => absurd hj (Nat.not_lt_zero j))
theorem lookR_in {σ : Mem} {S h k : Nat} (hS : S < 64) (hk : k < 6) (hh : h ≤ 30) (ha : σ.1 22 0 (28 + k) = nI h) {f : Nat} (hf : f < 12) : ∀ (r n y : Nat) (b : Int32) (F : Nat) (g : Nat → Int32), y + r = 10 → r < n → F ≤ 2000000 →
    ∃ z g', l11_look_44 0 (nI k) (nI S) (nI f) n b (nI F) (nI y) (sA σ 22 8 g) = some ((lkI (lookT S (nI h) f) (100 * f) r y b F).1, nI (lkI (lookT S (nI h) f) (100 * f) r y b F).2, z, sA σ 22 8 g') := by
  intro r
  induction r with
  | zero =>
    intro n y b F g h1 h2 h3
    obtain ⟨n, rfl⟩ : ∃ q, n = q + 1 := ⟨n - 1, by omega⟩
    obtain rfl : y = 10 := by omega
    exact ⟨nI 10, g, by rw [l11_look_44, if_pos (by decide)]; rfl⟩
  | succ r ih =>
    intro n y b F g h1 h2 h3
    obtain ⟨n, rfl⟩ : ∃ q, n = q + 1 := ⟨n - 1, by omega⟩
    obtain ⟨z1, g1, e1, hg⟩ := lookR_fill (σ := σ) (g := g) (x2 := nI S) (x3 := b) (x4 := nI F) hk hh (show f ≤ 11 by omega) (show y < 2000 by omega) ha
    have e2 := alkR (σ := sA σ 22 8 g1) (V := fun k => f3_draw (nI k) (nI h) (nI f) (nI y)) hS (fun k hk => by rw [sA_at]; exact hg k hk)
    have hle : lookT S (nI h) f y ≤ 6 := alk_le _ _
    rw [l11_look_44, if_neg (nleL 10 y), e1, bnd_s, e2, bnd_s, show (100 : Int32) * nI f + nI y = nI (100 * f + y) from by rw [show (100 : Int32) * nI f = nI (100 * f) from pk_mul 100 f, nI_add], lt_e, lt_e, nI_1]
    unfold lkI
    by_cases q : F ≤ lookT S (nI h) f y
    · rw [if_pos (show nI F ≤ nI (alk S fun k => f3_draw (nI k) (nI h) (nI f) (nI y)) from nI_le q (by
        show lookT S (nI h) f y < _
        omega)), if_pos (show nI F ≤ nI (alk S fun k => f3_draw (nI k) (nI h) (nI f) (nI y)) from nI_le q (by
        show lookT S (nI h) f y < _
        omega)), if_pos q]
      exact ih n (y + 1) b F g1 (by omega) (by omega) h3
    · rw [if_neg (show ¬ nI F ≤ nI (alk S fun k => f3_draw (nI k) (nI h) (nI f) (nI y)) from nI_ge (by
        show lookT S (nI h) f y < _
        omega) (by omega)), if_neg (show ¬ nI F ≤ nI (alk S fun k => f3_draw (nI k) (nI h) (nI f) (nI y)) from nI_ge (by
        show lookT S (nI h) f y < _
        omega) (by omega)), if_neg q]
      exact ih n (y + 1) _ _ g1 (by omega) (by omega) (Nat.le_trans hle (by decide))
theorem lookR_out {σ : Mem} {S h k : Nat} (hS : S < 64) (h0 : 0 < S) (hk : k < 6) (hh : h ≤ 30) (ha : σ.1 22 0 (28 + k) = nI h) : ∀ (r n f : Nat) (b : Int32) (F : Nat) (g : Nat → Int32), f + r = 12 → r < n → F ≤ 2000000 →
    ∃ z1 z2 g', l11_look_30 0 (nI k) (nI S) n b (nI F) (nI f) (sA σ 22 8 g) = some ((lkO (lookT S (nI h)) 100 10 r f b F).1, z1, z2, sA σ 22 8 g') := by
  intro r
  induction r with
  | zero =>
    intro n f b F g h1 h2 h3
    obtain ⟨n, rfl⟩ : ∃ q, n = q + 1 := ⟨n - 1, by omega⟩
    obtain rfl : f = 12 := by omega
    exact ⟨nI F, nI 12, g, by rw [l11_look_30, if_pos (by decide)]; rfl⟩
  | succ r ih =>
    intro n f b F g h1 h2 h3
    obtain ⟨n, rfl⟩ : ∃ q, n = q + 1 := ⟨n - 1, by omega⟩
    obtain ⟨z, g1, e1⟩ := lookR_in (σ := σ) (S := S) hS hk hh ha (f := f) (by omega) 10 2000 0 b F g (by omega) (by omega) h3
    rw [l11_look_30, if_neg (nleL 12 f), if_neg (nleR S 0), show l11_look_44 0 (nI k) (nI S) (nI f) 2000 b (nI F) 0 (sA σ 22 8 g) = _ from e1, bnd_s, nI_1]
    exact ih n (f + 1) _ _ g1 (by omega) (by omega) (lkI_le (fun y => Nat.le_trans (alk_le _ _) (by decide)) 10 0 b F h3)
theorem askC_in {σ : Mem} {S : Nat} (hS : S < 64) {f : Nat} (hf : f < 6) : ∀ (r n y : Nat) (b : Int32) (F : Nat) (g : Nat → Int32), y + r = 2 → r < n → F ≤ 2000000 →
    ∃ z g', l2_bestAsk_22 0 (nI S) (nI f) n b (nI F) (nI y) (sA σ 21 6 g) = some ((lkI (askT S f) (10 * f) r y b F).1, nI (lkI (askT S f) (10 * f) r y b F).2, z, sA σ 21 6 g') := by
  intro r
  induction r with
  | zero =>
    intro n y b F g h1 h2 h3
    obtain ⟨n, rfl⟩ : ∃ q, n = q + 1 := ⟨n - 1, by omega⟩
    obtain rfl : y = 2 := by omega
    exact ⟨nI 2, g, by rw [l2_bestAsk_22, if_pos (by decide)]; rfl⟩
  | succ r ih =>
    intro n y b F g h1 h2 h3
    obtain ⟨n, rfl⟩ : ∃ q, n = q + 1 := ⟨n - 1, by omega⟩
    obtain ⟨g1, e1, hg⟩ := needAll_ok (σ := σ) (g := g) (nI f) (nI y)
    have e2 := alkC (σ := sA σ 21 6 g1) (V := fun k => f3_need (nI k) (nI f) (nI y)) hS (fun k hk => by rw [sA_at]; exact hg k hk)
    have hle : askT S f y ≤ 6 := alk_le _ _
    rw [l2_bestAsk_22, if_neg (nleL 2 y), e1, bnd_s, e2, bnd_s, show (10 : Int32) * nI f + nI y = nI (10 * f + y) from by rw [show (10 : Int32) * nI f = nI (10 * f) from pk_mul 10 f, nI_add], nI_1]
    unfold lkI
    by_cases q : F ≤ askT S f y
    · rw [if_pos (show nI F ≤ nI (alk S fun k => f3_need (nI k) (nI f) (nI y)) from nI_le q (by
        show askT S f y < _
        omega)), if_pos q, lt_e]
      exact ih n (y + 1) b F g1 (by omega) (by omega) h3
    · rw [if_neg (show ¬ nI F ≤ nI (alk S fun k => f3_need (nI k) (nI f) (nI y)) from nI_ge (by
        show askT S f y < _
        omega) (by omega)), if_neg q, lt_e]
      exact ih n (y + 1) _ _ g1 (by omega) (by omega) (Nat.le_trans hle (by decide))
theorem askC_out {σ : Mem} {S : Nat} (hS : S < 64) (h0 : 0 < S) : ∀ (r n f : Nat) (b : Int32) (F : Nat) (g : Nat → Int32), f + r = 6 → r < n → F ≤ 2000000 →
    ∃ z1 z2 g', l2_bestAsk_8 0 (nI S) n b (nI F) (nI f) (sA σ 21 6 g) = some ((lkO (askT S) 10 2 r f b F).1, z1, z2, sA σ 21 6 g') := by
  intro r
  induction r with
  | zero =>
    intro n f b F g h1 h2 h3
    obtain ⟨n, rfl⟩ : ∃ q, n = q + 1 := ⟨n - 1, by omega⟩
    obtain rfl : f = 6 := by omega
    exact ⟨nI F, nI 6, g, by rw [l2_bestAsk_8, if_pos (by decide)]; rfl⟩
  | succ r ih =>
    intro n f b F g h1 h2 h3
    obtain ⟨n, rfl⟩ : ∃ q, n = q + 1 := ⟨n - 1, by omega⟩
    obtain ⟨z, g1, e1⟩ := askC_in (σ := σ) (S := S) hS (f := f) (by omega) 2 2000 0 b F g (by omega) (by omega) h3
    rw [l2_bestAsk_8, if_neg (nleL 6 f), if_neg (nI_ne0 h0 (by omega)), show l2_bestAsk_22 0 (nI S) (nI f) 2000 b (nI F) 0 (sA σ 21 6 g) = _ from e1, bnd_s, nI_1]
    exact ih n (f + 1) _ _ g1 (by omega) (by omega) (lkI_le (fun y => Nat.le_trans (alk_le _ _) (by decide)) 2 0 b F h3)
theorem askR_fill {σ : Mem} {f y : Nat} {x2 x3 x4 : Int32} {g : Nat → Int32} (hf : f ≤ 6) (hy : y < 2000) :
    ∃ z g', l11_ask_53 0 x2 x3 x4 (nI f) (nI y) 2000 0 (sA σ 22 8 g) = some (z, sA σ 22 8 g') ∧ ∀ j, j < 6 → g' j = f3_need (nI j) (nI f) (nI y) := by
  have lp : ∀ (r n i : Nat) (g : Nat → Int32), i + r = 6 → r < n → (∀ j, j < i → g j = f3_need (nI j) (nI f) (nI y)) → ∃ z g', l11_ask_53 0 x2 x3 x4 (nI f) (nI y) n (nI i) (sA σ 22 8 g) = some (z, sA σ 22 8 g') ∧ ∀ j, j < 6 → g' j = f3_need (nI j) (nI f) (nI y) := by
    intro r
    induction r with
    | zero =>
      intro n i g h1 h2 h3
      obtain ⟨n, rfl⟩ : ∃ q, n = q + 1 := ⟨n - 1, by omega⟩
      obtain rfl : i = 6 := by omega
      exact ⟨nI 6, g, by rw [l11_ask_53, if_pos (by decide)], h3⟩
    | succ r ih =>
      intro n i g h1 h2 h3
      obtain ⟨n, rfl⟩ : ∃ q, n = q + 1 := ⟨n - 1, by omega⟩
      rw [l11_ask_53, if_neg (nleL 6 i), inb_nI (by omega) (by decide), ck_t, nI_clamp (by omega), ndE (by omega) hf hy, lt_e, sI_sA, nI_1]
      refine ih n (i + 1) _ (by omega) (by omega) (fun j hj => ?_)
      by_cases q : j = i
      · subst q; rw [up_s]
      · rw [up_n q]; exact h3 j (by omega)
  exact lp 6 2000 0 g (by omega) (by omega) (fun j hj => absurd hj (Nat.not_lt_zero j))
theorem askR_in {σ : Mem} {S : Nat} (hS : S < 64) {f : Nat} (hf : f < 6) : ∀ (r n y : Nat) (b : Int32) (F : Nat) (g : Nat → Int32), y + r = 2 → r < n → F ≤ 2000000 →
    ∃ z g', l11_ask_44 0 (nI S) (nI f) n b (nI F) (nI y) (sA σ 22 8 g) = some ((lkI (askT S f) (10 * f) r y b F).1, nI (lkI (askT S f) (10 * f) r y b F).2, z, sA σ 22 8 g') := by
  intro r
  induction r with
  | zero =>
    intro n y b F g h1 h2 h3
    obtain ⟨n, rfl⟩ : ∃ q, n = q + 1 := ⟨n - 1, by omega⟩
    obtain rfl : y = 2 := by omega
    exact ⟨nI 2, g, by rw [l11_ask_44, if_pos (by decide)]; rfl⟩
  | succ r ih =>
    intro n y b F g h1 h2 h3
    obtain ⟨n, rfl⟩ : ∃ q, n = q + 1 := ⟨n - 1, by omega⟩
    obtain ⟨z1, g1, e1, hg⟩ := askR_fill (σ := σ) (g := g) (x2 := nI S) (x3 := b) (x4 := nI F) (show f ≤ 6 by omega) (show y < 2000 by omega)
    have e2 := alkR (σ := sA σ 22 8 g1) (V := fun k => f3_need (nI k) (nI f) (nI y)) hS (fun k hk => by rw [sA_at]; exact hg k hk)
    have hle : askT S f y ≤ 6 := alk_le _ _
    rw [l11_ask_44, if_neg (nleL 2 y), e1, bnd_s, e2, bnd_s, show (10 : Int32) * nI f + nI y = nI (10 * f + y) from by rw [show (10 : Int32) * nI f = nI (10 * f) from pk_mul 10 f, nI_add], lt_e, lt_e, nI_1]
    unfold lkI
    by_cases q : F ≤ askT S f y
    · rw [if_pos (show nI F ≤ nI (alk S fun k => f3_need (nI k) (nI f) (nI y)) from nI_le q (by
        show askT S f y < _
        omega)), if_pos (show nI F ≤ nI (alk S fun k => f3_need (nI k) (nI f) (nI y)) from nI_le q (by
        show askT S f y < _
        omega)), if_pos q]
      exact ih n (y + 1) b F g1 (by omega) (by omega) h3
    · rw [if_neg (show ¬ nI F ≤ nI (alk S fun k => f3_need (nI k) (nI f) (nI y)) from nI_ge (by
        show askT S f y < _
        omega) (by omega)), if_neg (show ¬ nI F ≤ nI (alk S fun k => f3_need (nI k) (nI f) (nI y)) from nI_ge (by
        show askT S f y < _
        omega) (by omega)), if_neg q]
      exact ih n (y + 1) _ _ g1 (by omega) (by omega) (Nat.le_trans hle (by decide))
theorem askR_out {σ : Mem} {S : Nat} (hS : S < 64) (h0 : 0 < S) : ∀ (r n f : Nat) (b : Int32) (F : Nat) (g : Nat → Int32), f + r = 6 → r < n → F ≤ 2000000 →
    ∃ z1 z2 g', l11_ask_30 0 (nI S) n b (nI F) (nI f) (sA σ 22 8 g) = some ((lkO (askT S) 10 2 r f b F).1, z1, z2, sA σ 22 8 g') := by
  intro r
  induction r with
  | zero =>
    intro n f b F g h1 h2 h3
    obtain ⟨n, rfl⟩ : ∃ q, n = q + 1 := ⟨n - 1, by omega⟩
    obtain rfl : f = 6 := by omega
    exact ⟨nI F, nI 6, g, by rw [l11_ask_30, if_pos (by decide)]; rfl⟩
  | succ r ih =>
    intro n f b F g h1 h2 h3
    obtain ⟨n, rfl⟩ : ∃ q, n = q + 1 := ⟨n - 1, by omega⟩
    obtain ⟨z, g1, e1⟩ := askR_in (σ := σ) (S := S) hS (f := f) (by omega) 2 2000 0 b F g (by omega) (by omega) h3
    rw [l11_ask_30, if_neg (nleL 6 f), if_neg (nleR S 0), show l11_ask_44 0 (nI S) (nI f) 2000 b (nI F) 0 (sA σ 22 8 g) = _ from e1, bnd_s, nI_1]
    exact ih n (f + 1) _ _ g1 (by omega) (by omega) (lkI_le (fun y => Nat.le_trans (alk_le _ _) (by decide)) 2 0 b F h3)
theorem ok_look {σ : Mem} (x1 : Int32) (h : Inv σ) : OKc (f10_look 0 x1) (f11_look 0 x1) σ := by
  obtain ⟨t, p, s, n, m, e, hv, hr⟩ := h.vr
  have hC := (hv.HV hr).1
  have hR := hr.AR.2
  have e0 := hr.aof0.1
  obtain ⟨b1, b2, b3, b4, b5, b6⟩ := hr.2.1
  by_cases c1 : f10_within x1 0 (nI t - 1) = 0
  · refine ok_bad h ?_ ?_
    · unfold f10_look
      rw [hC.isT, e0, if_pos c1]; rfl
    · unfold f11_look
      rw [RV.isT (A := Aof (σ.1 22 0)) (by rw [bad0]; exact hR), e0, if_pos c1]; rfl
  obtain ⟨k, hk, rfl⟩ := wi_thing (by omega) c1
  obtain ⟨hh, q1, q2, q3⟩ := (hr.2.2.2.1 k hk).2.1
  obtain ⟨g, e1⟩ := thingKinds_ok (g := σ.1 21 6) (a := σ.1 22 0) (nI k) hv.2.1.2.2.2.2.1 (hv.1 4 (by decide)).2 b4 hv.2.2.2.2.2.2.2.1
  rw [sA_self] at e1
  obtain ⟨S, hSd⟩ : ∃ S, S = fits (nfit (σ.1 22 0) (nI k)) n := ⟨_, rfl⟩
  have hS : S < 64 := by rw [hSd]; exact bset6 _
  rw [← hSd] at e1
  have e3 : f7_at 1 (nI k) 1 (sA σ 21 6 g) = some (nI hh) := by
    rw [show f7_at 1 (nI k) 1 (sA σ 21 6 g) = _ from at_ok (q := 1) (i := k) (j := 1) (n := t) (w := 3) (N := 18) hv.2.1.2.1 (hv.1 1 (by decide)).2 rfl hk (by decide) (by omega) (by omega), show k * 3 + 1 = 3 * k + 1 by omega]
    exact congrArg some ((hv.2.2.2.2.1 k hk).2.1.trans q3)
  by_cases z : S = 0
  · refine ok_scr (r := -1) (τ1 := sA σ 21 6 g) (τ2 := sA σ 21 6 g) h ?_ Sc.r6 ?_ (Sc.rf _)
    · unfold f10_look f2_bestLook
      rw [hC.isT, e0, if_neg c1, e1, bnd_s, e3, bnd_s, z]
      show (bnd (bnd (l2_bestLook_9 0 (nI 0) (nI hh) (1999 + 1) (-1) 7 0 (sA σ 21 6 g)) fun w12 => some (w12.1, w12.2.2.2)) fun w8 => some (w8.1, w8.2)) = _
      rw [l2_bestLook_9, if_neg (by decide), if_pos (by rfl), bnd_s, bnd_s]
    · unfold f11_look
      rw [RV.isT (A := Aof (σ.1 22 0)) (σ := sA σ 21 6 g) hR, e0, if_neg c1, kindsOfThing_ok (σ := sA σ 21 6 g) (n := n) (nI k) hr.1.2.2.2.1 b4 hr.2.2.2.2.2.2.2.2.1, bnd_s]
      show (bnd (l11_look_30 0 (nI k) (nI (fits (nfit (σ.1 22 0) (nI k)) n)) (1999 + 1) (-1) 1000000 0 (sA σ 21 6 g)) fun w24 => some (w24.1, w24.2.2.2)) = _
      rw [← hSd, z, l11_look_30, if_neg (by decide), if_pos (by decide), bnd_s]
  · obtain ⟨z1, z2, g1, e4⟩ := lookC_out (σ := σ) (S := S) (H := nI hh) hS (by omega) 12 2000 0 (-1) 7 g (by omega) (by omega) (by omega)
    obtain ⟨z3, z4, g2, e5⟩ := lookR_out (σ := sA σ 21 6 g1) (S := S) (h := hh) (k := k) hS (by omega) (by omega) q2 q3 12 2000 0 (-1) 1000000 ((sA σ 21 6 g1).1 22 8) (by omega) (by omega) (by omega)
    rw [sA_self] at e5
    have he : lkO (lookT S (nI hh)) 100 10 12 0 (-1) 1000000 = lkO (lookT S (nI hh)) 100 10 12 0 (-1) 7 := lk_any (w := 9) (r := 11) (by have : lookT S (nI hh) 0 0 ≤ 6 := alk_le _ _; omega) (by have : lookT S (nI hh) 0 0 ≤ 6 := alk_le _ _; omega)
    rw [he] at e5
    refine ok_scr (r := (lkO (lookT S (nI hh)) 100 10 12 0 (-1) 7).1) (τ1 := sA σ 21 6 g1) (τ2 := sA (sA σ 21 6 g1) 22 8 g2) h ?_ Sc.r6 ?_ Sc.r8
    · unfold f10_look f2_bestLook
      rw [hC.isT, e0, if_neg c1, e1, bnd_s, e3, bnd_s, show l2_bestLook_9 0 (nI S) (nI hh) 2000 (-1) 7 0 (sA σ 21 6 g) = _ from e4, bnd_s, bnd_s]
    · unfold f11_look
      rw [RV.isT (A := Aof (σ.1 22 0)) (σ := sA σ 21 6 g1) hR, e0, if_neg c1, kindsOfThing_ok (σ := sA σ 21 6 g1) (n := n) (nI k) hr.1.2.2.2.1 b4 hr.2.2.2.2.2.2.2.2.1, bnd_s]
      rw [show fits (nfit ((sA σ 21 6 g1).1 22 0) (nI k)) n = S from hSd.symm, show l11_look_30 0 (nI k) (nI S) 2000 (-1) 1000000 0 (sA σ 21 6 g1) = _ from e5, bnd_s]
theorem ok_ask' {σ : Mem} (x1 : Int32) (h : Inv σ) : OKc (f10_ask 0 x1) (f11_ask 0 x1) σ := by
  obtain ⟨t, p, s, n, m, e, hv, hr⟩ := h.vr
  have hC := (hv.HV hr).1
  have hR := hr.AR.2
  have e0 := hr.aof0.2.1
  obtain ⟨b1, b2, b3, b4, b5, b6⟩ := hr.2.1
  by_cases c1 : f10_within x1 0 (nI p - 1) = 0
  · refine ok_bad h ?_ ?_
    · unfold f10_ask
      rw [hC.isP, e0, if_pos c1]; rfl
    · unfold f11_ask
      rw [RV.isP (A := Aof (σ.1 22 0)) (by rw [bad0]; exact hR), e0, if_pos c1]; rfl
  obtain ⟨k, hk, rfl⟩ := wi_thing (by omega) c1
  obtain ⟨g, e1⟩ := partKinds_ok (g := σ.1 21 6) (a := σ.1 22 0) (nI k) hv.2.1.2.2.2.2.2.1 (hv.1 5 (by decide)).2 b5 hv.2.2.2.2.2.2.2.2.1
  rw [sA_self] at e1
  obtain ⟨S, hSd⟩ : ∃ S, S = fits (mfit (σ.1 22 0) (nI k)) m := ⟨_, rfl⟩
  have hS : S < 64 := by rw [hSd]; exact bset6 _
  rw [← hSd] at e1
  by_cases z : S = 0
  · refine ok_scr (r := -1) (τ1 := sA σ 21 6 g) (τ2 := sA σ 21 6 g) h ?_ Sc.r6 ?_ (Sc.rf _)
    · unfold f10_ask f2_bestAsk
      rw [hC.isP, e0, if_neg c1, e1, bnd_s, z]
      show (bnd (bnd (l2_bestAsk_8 0 (nI 0) (1999 + 1) (-1) 7 0 (sA σ 21 6 g)) fun w12 => some (w12.1, w12.2.2.2)) fun w8 => some (w8.1, w8.2)) = _
      rw [l2_bestAsk_8, if_neg (by decide), if_pos (by rfl), bnd_s, bnd_s]
    · unfold f11_ask
      rw [RV.isP (A := Aof (σ.1 22 0)) (σ := sA σ 21 6 g) hR, e0, if_neg c1, kindsOfPart_ok (σ := sA σ 21 6 g) (n := m) (nI k) hr.1.2.2.2.2.1 b5 hr.2.2.2.2.2.2.2.2.2, bnd_s]
      show (bnd (l11_ask_30 0 (nI (fits (mfit (σ.1 22 0) (nI k)) m)) (1999 + 1) (-1) 1000000 0 (sA σ 21 6 g)) fun w24 => some (w24.1, w24.2.2.2)) = _
      rw [← hSd, z, l11_ask_30, if_neg (by decide), if_pos (by decide), bnd_s]
  · obtain ⟨z1, z2, g1, e4⟩ := askC_out (σ := σ) (S := S) hS (by omega) 6 2000 0 (-1) 7 g (by omega) (by omega) (by omega)
    obtain ⟨z3, z4, g2, e5⟩ := askR_out (σ := sA σ 21 6 g1) (S := S) hS (by omega) 6 2000 0 (-1) 1000000 ((sA σ 21 6 g1).1 22 8) (by omega) (by omega) (by omega)
    rw [sA_self] at e5
    have he : lkO (askT S) 10 2 6 0 (-1) 1000000 = lkO (askT S) 10 2 6 0 (-1) 7 := lk_any (w := 1) (r := 5) (by have : askT S 0 0 ≤ 6 := alk_le _ _; omega) (by have : askT S 0 0 ≤ 6 := alk_le _ _; omega)
    rw [he] at e5
    refine ok_scr (r := (lkO (askT S) 10 2 6 0 (-1) 7).1) (τ1 := sA σ 21 6 g1) (τ2 := sA (sA σ 21 6 g1) 22 8 g2) h ?_ Sc.r6 ?_ Sc.r8
    · unfold f10_ask f2_bestAsk
      rw [hC.isP, e0, if_neg c1, e1, bnd_s, show l2_bestAsk_8 0 (nI S) 2000 (-1) 7 0 (sA σ 21 6 g) = _ from e4, bnd_s, bnd_s]
    · unfold f11_ask
      rw [RV.isP (A := Aof (σ.1 22 0)) (σ := sA σ 21 6 g1) hR, e0, if_neg c1, kindsOfPart_ok (σ := sA σ 21 6 g1) (n := m) (nI k) hr.1.2.2.2.2.1 b5 hr.2.2.2.2.2.2.2.2.2, bnd_s]
      rw [show fits (mfit ((sA σ 21 6 g1).1 22 0) (nI k)) m = S from hSd.symm, show l11_ask_30 0 (nI S) 2000 (-1) 1000000 0 (sA σ 21 6 g1) = _ from e5, bnd_s]
