/-! THE LAW: the whole script answers alike -/
theorem lt6 {L j : Nat} (h : L < j + 6) (hL : L ≤ 384) (hj : j < 10000) : nI L - 6 < nI j := by
  by_cases z : L < 6
  · have : ∀ L, L < 6 → (nI L - 6).toInt < 0 := by decide +kernel
    have t := this L z
    rw [Int32.lt_iff_toInt_lt, nI_toInt (by omega)]
    omega
  · rw [show nI L - 6 = nI (L - 6) from pk_sub (b := 6) (by omega)]
    exact nI_lt (by omega) (by omega)
theorem nlt6 {L j : Nat} (h : j + 6 ≤ L) (hL : L ≤ 384) : ¬ nI L - 6 < nI j := by
  rw [show nI L - 6 = nI (L - 6) from pk_sub (b := 6) (by omega)]
  exact nI_nlt (by omega) (by omega)
theorem inS_j {L i : Nat} (h : i < L) (hL : L ≤ 384) : inS (nI i) (nI L) = true := by
  unfold inS
  exact decide_eq_true ⟨nI_le (a := 0) (by omega) (by omega), nI_lt h (by omega)⟩
theorem inS_k (k : Nat) {L j : Nat} (h : j + k < L) (hL : L ≤ 384) : inS (nI j + nI k) (nI L) = true := by
  rw [nI_add]
  exact inS_j h hL
theorem ex_ck {b : Bool} {a : Option ((Int32 × Mem) ⊕ (Int32 × Mem))} (hb : b = true) (h : ∃ u, a = some (.inl u)) : ∃ u, ck b a = some (.inl u) := by
  rw [hb, ck_t]
  exact h
theorem ex_ite {P : Prop} [Decidable P] {a b : Option ((Int32 × Mem) ⊕ (Int32 × Mem))} (h1 : P → ∃ u, a = some (.inl u)) (h2 : ¬ P → ∃ u, b = some (.inl u)) : ∃ u, (if P then a else b) = some (.inl u) := by
  by_cases c : P
  · rw [if_pos c]; exact h1 c
  · rw [if_neg c]; exact h2 c
section LAW
variable {L j n : Nat} {σ : Mem}
abbrev IH (n j : Nat) (σ : Mem) : Prop := ∀ τ, Inv τ → τ.1 24 = σ.1 24 → ∃ u, lL_law_18 n (nI j + 6) τ = some (.inl u)
theorem st0 {f g : Mem → Option (Int32 × Mem)} (ok : OKc f g σ) (ih : IH n j σ) : ∃ u, (bnd (f σ) fun w2 => bnd (g w2.2) fun w4 => if w2.1 = w4.1 then (lL_law_18 n (nI j + 6) w4.2) else (some (.inr (0, w4.2)))) = some (.inl u) := by
  obtain ⟨r, τ1, τ2, e1, e2, hI, k1, k2⟩ := ok
  obtain ⟨u, hu⟩ := ih τ2 hI k2
  refine ⟨u, ?_⟩
  rw [e1, bnd_s, show g (r, τ1).2 = _ from e2, bnd_s, if_pos (show (r, τ1).1 = (r, τ2).1 from rfl)]
  exact hu
theorem st1 {f g : Int32 → Mem → Option (Int32 × Mem)} (ok : ∀ a1, OKc (f a1) (g a1) σ) (h24 : σ.1 24 1 0 = nI L) (hj : j + 6 ≤ L) (hL : L ≤ 384) (ih : IH n j σ) : ∃ u, (ck (inS (nI j + 1) (σ.1 24 1 0)) <| bnd (f (σ.1 24 0 ((nI j + 1) : Int32).toNatClampNeg) σ) fun w2 => ck (inS (nI j + 1) (w2.2.1 24 1 0)) <| bnd (g (w2.2.1 24 0 ((nI j + 1) : Int32).toNatClampNeg) w2.2) fun w4 => if w2.1 = w4.1 then (lL_law_18 n (nI j + 6) w4.2) else (some (.inr (0, w4.2)))) = some (.inl u) := by
  obtain ⟨r, τ1, τ2, e1, e2, hI, k1, k2⟩ := ok (σ.1 24 0 ((nI j + 1) : Int32).toNatClampNeg)
  obtain ⟨u, hu⟩ := ih τ2 hI k2
  refine ⟨u, ?_⟩
  have h24' : τ1.1 24 1 0 = nI L := by rw [k1]; exact h24
  rw [h24, show inS (nI j + 1) (nI L) = true from inS_k 1 (by omega) hL, ck_t, e1, bnd_s]
  dsimp only
  rw [h24', show inS (nI j + 1) (nI L) = true from inS_k 1 (by omega) hL, ck_t, k1, e2, bnd_s, if_pos (show r = (r, τ2).1 from rfl)]
  exact hu
theorem st2 {f g : Int32 → Int32 → Mem → Option (Int32 × Mem)} (ok : ∀ a1 a2, OKc (f a1 a2) (g a1 a2) σ) (h24 : σ.1 24 1 0 = nI L) (hj : j + 6 ≤ L) (hL : L ≤ 384) (ih : IH n j σ) : ∃ u, (ck (inS (nI j + 1) (σ.1 24 1 0)) <| ck (inS (nI j + 2) (σ.1 24 1 0)) <| bnd (f (σ.1 24 0 ((nI j + 1) : Int32).toNatClampNeg) (σ.1 24 0 ((nI j + 2) : Int32).toNatClampNeg) σ) fun w2 => ck (inS (nI j + 1) (w2.2.1 24 1 0)) <| ck (inS (nI j + 2) (w2.2.1 24 1 0)) <| bnd (g (w2.2.1 24 0 ((nI j + 1) : Int32).toNatClampNeg) (w2.2.1 24 0 ((nI j + 2) : Int32).toNatClampNeg) w2.2) fun w4 => if w2.1 = w4.1 then (lL_law_18 n (nI j + 6) w4.2) else (some (.inr (0, w4.2)))) = some (.inl u) := by
  obtain ⟨r, τ1, τ2, e1, e2, hI, k1, k2⟩ := ok (σ.1 24 0 ((nI j + 1) : Int32).toNatClampNeg) (σ.1 24 0 ((nI j + 2) : Int32).toNatClampNeg)
  obtain ⟨u, hu⟩ := ih τ2 hI k2
  refine ⟨u, ?_⟩
  have h24' : τ1.1 24 1 0 = nI L := by rw [k1]; exact h24
  rw [h24, show inS (nI j + 1) (nI L) = true from inS_k 1 (by omega) hL, show inS (nI j + 2) (nI L) = true from inS_k 2 (by omega) hL, ck_t, ck_t, e1, bnd_s]
  dsimp only
  rw [h24', show inS (nI j + 1) (nI L) = true from inS_k 1 (by omega) hL, show inS (nI j + 2) (nI L) = true from inS_k 2 (by omega) hL, ck_t, ck_t, k1, e2, bnd_s, if_pos (show r = (r, τ2).1 from rfl)]
  exact hu
theorem st3 {f g : Int32 → Int32 → Int32 → Mem → Option (Int32 × Mem)} (ok : ∀ a1 a2 a3, OKc (f a1 a2 a3) (g a1 a2 a3) σ) (h24 : σ.1 24 1 0 = nI L) (hj : j + 6 ≤ L) (hL : L ≤ 384) (ih : IH n j σ) : ∃ u, (ck (inS (nI j + 1) (σ.1 24 1 0)) <| ck (inS (nI j + 2) (σ.1 24 1 0)) <| ck (inS (nI j + 3) (σ.1 24 1 0)) <| bnd (f (σ.1 24 0 ((nI j + 1) : Int32).toNatClampNeg) (σ.1 24 0 ((nI j + 2) : Int32).toNatClampNeg) (σ.1 24 0 ((nI j + 3) : Int32).toNatClampNeg) σ) fun w2 => ck (inS (nI j + 1) (w2.2.1 24 1 0)) <| ck (inS (nI j + 2) (w2.2.1 24 1 0)) <| ck (inS (nI j + 3) (w2.2.1 24 1 0)) <| bnd (g (w2.2.1 24 0 ((nI j + 1) : Int32).toNatClampNeg) (w2.2.1 24 0 ((nI j + 2) : Int32).toNatClampNeg) (w2.2.1 24 0 ((nI j + 3) : Int32).toNatClampNeg) w2.2) fun w4 => if w2.1 = w4.1 then (lL_law_18 n (nI j + 6) w4.2) else (some (.inr (0, w4.2)))) = some (.inl u) := by
  obtain ⟨r, τ1, τ2, e1, e2, hI, k1, k2⟩ := ok (σ.1 24 0 ((nI j + 1) : Int32).toNatClampNeg) (σ.1 24 0 ((nI j + 2) : Int32).toNatClampNeg) (σ.1 24 0 ((nI j + 3) : Int32).toNatClampNeg)
  obtain ⟨u, hu⟩ := ih τ2 hI k2
  refine ⟨u, ?_⟩
  have h24' : τ1.1 24 1 0 = nI L := by rw [k1]; exact h24
  rw [h24, show inS (nI j + 1) (nI L) = true from inS_k 1 (by omega) hL, show inS (nI j + 2) (nI L) = true from inS_k 2 (by omega) hL, show inS (nI j + 3) (nI L) = true from inS_k 3 (by omega) hL, ck_t, ck_t, ck_t, e1, bnd_s]
  dsimp only
  rw [h24', show inS (nI j + 1) (nI L) = true from inS_k 1 (by omega) hL, show inS (nI j + 2) (nI L) = true from inS_k 2 (by omega) hL, show inS (nI j + 3) (nI L) = true from inS_k 3 (by omega) hL, ck_t, ck_t, ck_t, k1, e2, bnd_s, if_pos (show r = (r, τ2).1 from rfl)]
  exact hu
theorem st4 {f g : Int32 → Int32 → Int32 → Int32 → Mem → Option (Int32 × Mem)} (ok : ∀ a1 a2 a3 a4, OKc (f a1 a2 a3 a4) (g a1 a2 a3 a4) σ) (h24 : σ.1 24 1 0 = nI L) (hj : j + 6 ≤ L) (hL : L ≤ 384) (ih : IH n j σ) : ∃ u, (ck (inS (nI j + 1) (σ.1 24 1 0)) <| ck (inS (nI j + 2) (σ.1 24 1 0)) <| ck (inS (nI j + 3) (σ.1 24 1 0)) <| ck (inS (nI j + 4) (σ.1 24 1 0)) <| bnd (f (σ.1 24 0 ((nI j + 1) : Int32).toNatClampNeg) (σ.1 24 0 ((nI j + 2) : Int32).toNatClampNeg) (σ.1 24 0 ((nI j + 3) : Int32).toNatClampNeg) (σ.1 24 0 ((nI j + 4) : Int32).toNatClampNeg) σ) fun w2 => ck (inS (nI j + 1) (w2.2.1 24 1 0)) <| ck (inS (nI j + 2) (w2.2.1 24 1 0)) <| ck (inS (nI j + 3) (w2.2.1 24 1 0)) <| ck (inS (nI j + 4) (w2.2.1 24 1 0)) <| bnd (g (w2.2.1 24 0 ((nI j + 1) : Int32).toNatClampNeg) (w2.2.1 24 0 ((nI j + 2) : Int32).toNatClampNeg) (w2.2.1 24 0 ((nI j + 3) : Int32).toNatClampNeg) (w2.2.1 24 0 ((nI j + 4) : Int32).toNatClampNeg) w2.2) fun w4 => if w2.1 = w4.1 then (lL_law_18 n (nI j + 6) w4.2) else (some (.inr (0, w4.2)))) = some (.inl u) := by
  obtain ⟨r, τ1, τ2, e1, e2, hI, k1, k2⟩ := ok (σ.1 24 0 ((nI j + 1) : Int32).toNatClampNeg) (σ.1 24 0 ((nI j + 2) : Int32).toNatClampNeg) (σ.1 24 0 ((nI j + 3) : Int32).toNatClampNeg) (σ.1 24 0 ((nI j + 4) : Int32).toNatClampNeg)
  obtain ⟨u, hu⟩ := ih τ2 hI k2
  refine ⟨u, ?_⟩
  have h24' : τ1.1 24 1 0 = nI L := by rw [k1]; exact h24
  rw [h24, show inS (nI j + 1) (nI L) = true from inS_k 1 (by omega) hL, show inS (nI j + 2) (nI L) = true from inS_k 2 (by omega) hL, show inS (nI j + 3) (nI L) = true from inS_k 3 (by omega) hL, show inS (nI j + 4) (nI L) = true from inS_k 4 (by omega) hL, ck_t, ck_t, ck_t, ck_t, e1, bnd_s]
  dsimp only
  rw [h24', show inS (nI j + 1) (nI L) = true from inS_k 1 (by omega) hL, show inS (nI j + 2) (nI L) = true from inS_k 2 (by omega) hL, show inS (nI j + 3) (nI L) = true from inS_k 3 (by omega) hL, show inS (nI j + 4) (nI L) = true from inS_k 4 (by omega) hL, ck_t, ck_t, ck_t, ck_t, k1, e2, bnd_s, if_pos (show r = (r, τ2).1 from rfl)]
  exact hu
theorem st5 {f g : Int32 → Int32 → Int32 → Int32 → Int32 → Mem → Option (Int32 × Mem)} (ok : ∀ a1 a2 a3 a4 a5, OKc (f a1 a2 a3 a4 a5) (g a1 a2 a3 a4 a5) σ) (h24 : σ.1 24 1 0 = nI L) (hj : j + 6 ≤ L) (hL : L ≤ 384) (ih : IH n j σ) : ∃ u, (ck (inS (nI j + 1) (σ.1 24 1 0)) <| ck (inS (nI j + 2) (σ.1 24 1 0)) <| ck (inS (nI j + 3) (σ.1 24 1 0)) <| ck (inS (nI j + 4) (σ.1 24 1 0)) <| ck (inS (nI j + 5) (σ.1 24 1 0)) <| bnd (f (σ.1 24 0 ((nI j + 1) : Int32).toNatClampNeg) (σ.1 24 0 ((nI j + 2) : Int32).toNatClampNeg) (σ.1 24 0 ((nI j + 3) : Int32).toNatClampNeg) (σ.1 24 0 ((nI j + 4) : Int32).toNatClampNeg) (σ.1 24 0 ((nI j + 5) : Int32).toNatClampNeg) σ) fun w2 => ck (inS (nI j + 1) (w2.2.1 24 1 0)) <| ck (inS (nI j + 2) (w2.2.1 24 1 0)) <| ck (inS (nI j + 3) (w2.2.1 24 1 0)) <| ck (inS (nI j + 4) (w2.2.1 24 1 0)) <| ck (inS (nI j + 5) (w2.2.1 24 1 0)) <| bnd (g (w2.2.1 24 0 ((nI j + 1) : Int32).toNatClampNeg) (w2.2.1 24 0 ((nI j + 2) : Int32).toNatClampNeg) (w2.2.1 24 0 ((nI j + 3) : Int32).toNatClampNeg) (w2.2.1 24 0 ((nI j + 4) : Int32).toNatClampNeg) (w2.2.1 24 0 ((nI j + 5) : Int32).toNatClampNeg) w2.2) fun w4 => if w2.1 = w4.1 then (lL_law_18 n (nI j + 6) w4.2) else (some (.inr (0, w4.2)))) = some (.inl u) := by
  obtain ⟨r, τ1, τ2, e1, e2, hI, k1, k2⟩ := ok (σ.1 24 0 ((nI j + 1) : Int32).toNatClampNeg) (σ.1 24 0 ((nI j + 2) : Int32).toNatClampNeg) (σ.1 24 0 ((nI j + 3) : Int32).toNatClampNeg) (σ.1 24 0 ((nI j + 4) : Int32).toNatClampNeg) (σ.1 24 0 ((nI j + 5) : Int32).toNatClampNeg)
  obtain ⟨u, hu⟩ := ih τ2 hI k2
  refine ⟨u, ?_⟩
  have h24' : τ1.1 24 1 0 = nI L := by rw [k1]; exact h24
  rw [h24, show inS (nI j + 1) (nI L) = true from inS_k 1 (by omega) hL, show inS (nI j + 2) (nI L) = true from inS_k 2 (by omega) hL, show inS (nI j + 3) (nI L) = true from inS_k 3 (by omega) hL, show inS (nI j + 4) (nI L) = true from inS_k 4 (by omega) hL, show inS (nI j + 5) (nI L) = true from inS_k 5 (by omega) hL, ck_t, ck_t, ck_t, ck_t, ck_t, e1, bnd_s]
  dsimp only
  rw [h24', show inS (nI j + 1) (nI L) = true from inS_k 1 (by omega) hL, show inS (nI j + 2) (nI L) = true from inS_k 2 (by omega) hL, show inS (nI j + 3) (nI L) = true from inS_k 3 (by omega) hL, show inS (nI j + 4) (nI L) = true from inS_k 4 (by omega) hL, show inS (nI j + 5) (nI L) = true from inS_k 5 (by omega) hL, ck_t, ck_t, ck_t, ck_t, ck_t, k1, e2, bnd_s, if_pos (show r = (r, τ2).1 from rfl)]
  exact hu
theorem law_step (h : Inv σ) (h24 : σ.1 24 1 0 = nI L) (hj : j + 6 ≤ L) (hL : L ≤ 384) (ih : IH n j σ) : ∃ u, lL_law_18 (n + 1) (nI j) σ = some (.inl u) := by
  rw [lL_law_18]
  refine ex_ite (fun c => absurd c (by rw [h24]; exact nlt6 hj hL)) (fun _ => ?_)
  refine ex_ck (by rw [h24]; exact inS_j (by omega) hL) ?_
  refine ex_ite (fun _ => ?_) (fun _ => ?_)
  · exact st0 (f := f10_village 0) (g := f11_village 0) (ok_village h) ih
  refine ex_ite (fun _ => ?_) (fun _ => ?_)
  · exact st3 (f := f10_storm 0) (g := f11_storm 0) (fun a1 a2 a3 => ok_storm a1 a2 a3 h) h24 hj hL ih
  refine ex_ite (fun _ => ?_) (fun _ => ?_)
  · exact st3 (f := f10_thing 0) (g := f11_thing 0) (fun a1 a2 a3 => ok_thing a1 a2 a3 h) h24 hj hL ih
  refine ex_ite (fun _ => ?_) (fun _ => ?_)
  · exact st1 (f := f10_body 0) (g := f11_body 0) (fun a1 => ok_body a1 h) h24 hj hL ih
  refine ex_ite (fun _ => ?_) (fun _ => ?_)
  · exact st1 (f := f10_type 0) (g := f11_type 0) (fun a1 => ok_type a1 h) h24 hj hL ih
  refine ex_ite (fun _ => ?_) (fun _ => ?_)
  · exact st0 (f := fun σ => some (f10_clear 0 σ)) (g := fun σ => some (f11_clear 0 σ)) (ok_clear h) ih
  refine ex_ite (fun _ => ?_) (fun _ => ?_)
  · exact st0 (f := f10_read 0) (g := f11_read 0) (ok_read h) ih
  refine ex_ite (fun _ => ?_) (fun _ => ?_)
  · exact st1 (f := f10_summers 0) (g := f11_summers 0) (fun a1 => ok_summers a1 h) h24 hj hL ih
  refine ex_ite (fun _ => ?_) (fun _ => ?_)
  · exact st1 (f := f10_takes 0) (g := f11_takes 0) (fun a1 => ok_takes a1 h) h24 hj hL ih
  refine ex_ite (fun _ => ?_) (fun _ => ?_)
  · exact st0 (f := f10_undo 0) (g := f11_undo 0) (ok_undo h) ih
  refine ex_ite (fun _ => ?_) (fun _ => ?_)
  · exact st2 (f := f10_of 0) (g := f11_of 0) (fun a1 a2 => ok_of a1 a2 h) h24 hj hL ih
  refine ex_ite (fun _ => ?_) (fun _ => ?_)
  · exact st2 (f := f10_about 0) (g := f11_about 0) (fun a1 a2 => ok_about a1 a2 h) h24 hj hL ih
  refine ex_ite (fun _ => ?_) (fun _ => ?_)
  · exact st2 (f := f10_weather 0) (g := f11_weather 0) (fun a1 a2 => ok_weather a1 a2 h) h24 hj hL ih
  refine ex_ite (fun _ => ?_) (fun _ => ?_)
  · exact st2 (f := f10_draws 0) (g := f11_draws 0) (fun a1 a2 => ok_draws a1 a2 h) h24 hj hL ih
  refine ex_ite (fun _ => ?_) (fun _ => ?_)
  · exact st1 (f := f10_struck 0) (g := f11_struck 0) (fun a1 => ok_struck a1 h) h24 hj hL ih
  refine ex_ite (fun _ => ?_) (fun _ => ?_)
  · exact st1 (f := f10_then 0) (g := f11_then 0) (fun a1 => ok_then a1 h) h24 hj hL ih
  refine ex_ite (fun _ => ?_) (fun _ => ?_)
  · exact st1 (f := f10_when 0) (g := f11_when 0) (fun a1 => ok_when a1 h) h24 hj hL ih
  refine ex_ite (fun _ => ?_) (fun _ => ?_)
  · obtain ⟨r, e1, e2⟩ := ok_whence h
    obtain ⟨u, hu⟩ := ih σ h rfl
    rw [e1, bnd_s, e2, bnd_s, if_pos rfl]
    exact ⟨u, hu⟩
  refine ex_ite (fun _ => ?_) (fun _ => ?_)
  · exact st1 (f := f10_lead 0) (g := f11_lead 0) (fun a1 => ok_lead a1 h) h24 hj hL ih
  refine ex_ite (fun _ => ?_) (fun _ => ?_)
  · obtain ⟨r, τ, e1, e2, hI, k⟩ := ok_spare h
    obtain ⟨u, hu⟩ := ih τ hI k
    rw [e1, bnd_s, show f11_spare 0 (r, τ).2 = _ from e2, bnd_s, if_pos (show (r, τ).1 = r from rfl)]
    exact ⟨u, hu⟩
  refine ex_ite (fun _ => ?_) (fun _ => ?_)
  · exact st2 (f := f10_order 0) (g := f11_order 0) (fun a1 a2 => ok_order a1 a2 h) h24 hj hL ih
  refine ex_ite (fun _ => ?_) (fun _ => ?_)
  · exact st2 (f := f10_seen 0) (g := f11_seen 0) (fun a1 a2 => ok_seen a1 a2 h) h24 hj hL ih
  refine ex_ite (fun _ => ?_) (fun _ => ?_)
  · exact st2 (f := f10_tall 0) (g := f11_tall 0) (fun a1 a2 => ok_tall a1 a2 h) h24 hj hL ih
  refine ex_ite (fun _ => ?_) (fun _ => ?_)
  · exact st5 (f := f10_note 0) (g := f11_note 0) (fun a1 a2 a3 a4 a5 => ok_note a1 a2 a3 a4 a5 h) h24 hj hL ih
  refine ex_ite (fun _ => ?_) (fun _ => ?_)
  · exact st4 (f := f10_mark 0) (g := f11_mark 0) (fun a1 a2 a3 a4 => ok_mark a1 a2 a3 a4 h) h24 hj hL ih
  refine ex_ite (fun _ => ?_) (fun _ => ?_)
  · exact st1 (f := fun a σ => some (f10_forget 0 a σ)) (g := f11_forget 0) (fun a1 => ok_forget a1 h) h24 hj hL ih
  refine ex_ite (fun _ => ?_) (fun _ => ?_)
  · exact st1 (f := f10_is 0) (g := f11_is 0) (fun a1 => ok_is a1 h) h24 hj hL ih
  refine ex_ite (fun _ => ?_) (fun _ => ?_)
  · exact st1 (f := f10_look 0) (g := f11_look 0) (fun a1 => ok_look a1 h) h24 hj hL ih
  refine ex_ite (fun _ => ?_) (fun _ => ?_)
  · exact st1 (f := f10_kinds 0) (g := f11_kinds 0) (fun a1 => ok_kinds a1 h) h24 hj hL ih
  refine ex_ite (fun _ => ?_) (fun _ => ?_)
  · exact st1 (f := f10_ask 0) (g := f11_ask 0) (fun a1 => ok_ask' a1 h) h24 hj hL ih
  refine ex_ite (fun _ => ?_) (fun _ => ?_)
  · exact st2 (f := f10_sweep 0) (g := f11_sweep 0) (fun a1 a2 => ok_sweep a1 a2 h) h24 hj hL ih
  refine ex_ite (fun _ => ?_) (fun _ => ?_)
  · exact st2 (f := f10_falls 0) (g := f11_falls 0) (fun a1 a2 => ok_falls a1 a2 h) h24 hj hL ih
  refine ex_ite (fun _ => ?_) (fun _ => ?_)
  · exact st2 (f := f10_septembers 0) (g := f11_septembers 0) (fun a1 a2 => ok_septembers a1 a2 h) h24 hj hL ih
  refine ex_ite (fun _ => ?_) (fun _ => ?_)
  · obtain ⟨r, τ1, τ2, e1, e2, hI, k1, k2⟩ := ok_part (σ.1 24 0 ((nI j + 1) : Int32).toNatClampNeg) h
    obtain ⟨u, hu⟩ := ih τ2 hI k2
    have h24' : τ1.1 24 1 0 = nI L := by rw [k1]; exact h24
    rw [h24, show inS (nI j + 1) (nI L) = true from inS_k 1 (by omega) hL, ck_t, e1, lt_e]
    dsimp only
    rw [h24', show inS (nI j + 1) (nI L) = true from inS_k 1 (by omega) hL, ck_t, k1, e2, lt_e, if_pos (cmp_0.mpr rfl)]
    exact ⟨u, hu⟩
  refine ex_ite (fun _ => ?_) (fun _ => ?_)
  · exact st1 (f := f10_image 0) (g := f11_image 0) (fun a1 => ok_image a1 h) h24 hj hL ih
  refine ex_ite (fun _ => ?_) (fun _ => ?_)
  · exact st1 (f := f10_from 0) (g := f11_from 0) (fun a1 => ok_from a1 h) h24 hj hL ih
  refine ex_ite (fun _ => ?_) (fun _ => ?_)
  · exact st1 (f := fun a σ => some (f10_status 0 a σ)) (g := f11_status 0) (fun a1 => ok_status a1 h) h24 hj hL ih
  refine ex_ite (fun _ => ?_) (fun _ => ?_)
  · exact st1 (f := fun a σ => some (f10_count 0 a σ)) (g := f11_count 0) (fun a1 => ok_count a1 h) h24 hj hL ih
  refine ex_ite (fun _ => ?_) (fun _ => ?_)
  · obtain ⟨r, e1, e2⟩ := ok_digest h
    obtain ⟨u, hu⟩ := ih σ h rfl
    rw [e1, bnd_s, e2, bnd_s, if_pos (cmp_0.mpr rfl)]
    exact ⟨u, hu⟩
  exact ih σ h rfl
theorem law_lp (hL : L ≤ 384) : ∀ (r n j : Nat) (σ : Mem), j < 10000 - 6 * r → Inv σ → σ.1 24 1 0 = nI L → L < j + r → r < n → ∃ u, lL_law_18 n (nI j) σ = some (.inl u) := by
  intro r
  induction r with
  | zero =>
    intro n j σ h0 h1 h2 h3 h4
    obtain ⟨n, rfl⟩ : ∃ q, n = q + 1 := ⟨n - 1, by omega⟩
    exact ⟨(nI j, σ), by rw [lL_law_18, h2, if_pos (lt6 (by omega) hL (by omega))]⟩
  | succ r ih =>
    intro n j σ h0 h1 h2 h3 h4
    obtain ⟨n, rfl⟩ : ∃ q, n = q + 1 := ⟨n - 1, by omega⟩
    by_cases z : L < j + 6
    · exact ⟨(nI j, σ), by rw [lL_law_18, h2, if_pos (lt6 z hL (by omega))]⟩
    · refine law_step h1 h2 (by omega) hL (fun τ hI k => ?_)
      rw [show nI j + 6 = nI (j + 6) from nI_add j 6]
      exact ih n (j + 6) τ (by omega) hI (by rw [k]; exact h2) (by omega) (by omega)
end LAW
theorem tc_m0 : ∀ v, v < 4 → ∀ j, j < 7 → (m0V true).1 7 (7 * v + j) 0 = nI ([6, 6, 6, 5, 6, 6, 8].getD j 0) ∧ (m0V true).1 7 (7 * v + j) 1 = nI ([2, 3, 1, 2, 5, 4, 4].getD j 0) := by decide +kernel
theorem inv_s0 (L : Nat) (xs : Nat → Int32) : Inv (s0 L xs) := by
  refine ⟨⟨0, 0, 0, 0, 0, 0, ⟨fun j hj => tc_m0 0 (by decide) j hj, ⟨rfl, rfl, rfl, rfl, rfl, rfl, rfl⟩, fun j hj => rfl, fun y hy => ⟨rfl, rfl⟩, fun k hk => absurd hk (Nat.not_lt_zero k), fun k hk => absurd hk (Nat.not_lt_zero k), fun k hk => absurd hk (by omega), fun k hk => absurd hk (by omega), fun k hk => absurd hk (by omega), fun k hk => absurd hk (by omega)⟩, ⟨⟨rfl, rfl, rfl, rfl, rfl, rfl⟩, ⟨by omega, by omega, by omega, by omega, by omega, by omega⟩, fun y hy => ⟨⟨0, by omega, rfl⟩, ⟨0, by omega, rfl⟩⟩, fun k hk => absurd hk (Nat.not_lt_zero k), fun k hk => absurd hk (Nat.not_lt_zero k), ⟨⟨0, by decide, rfl⟩, ⟨0, by decide, rfl⟩, ⟨0, by decide, rfl⟩, ⟨0, by decide, rfl⟩⟩, fun k hk => absurd hk (Nat.not_lt_zero k), RX.none _⟩⟩, ⟨fun j hj => tc_m0 1 (by decide) j hj, fun j hj => tc_m0 2 (by decide) j hj, fun j hj => tc_m0 3 (by decide) j hj⟩, fun i hi => ⟨rfl, Or.inl rfl⟩, ⟨0, by omega, rfl, rfl, fun i hi => absurd hi (Nat.not_lt_zero i)⟩, ⟨rfl, rfl⟩, fun i hi => rfl⟩
theorem pure_all (L : Nat) (xs : Nat → Int32) (hL : L ≤ 384) : ∃ S, fL_law (s0 L xs) = some (1, S) := by
  obtain ⟨u, hu⟩ := law_lp hL 385 2000 0 (s0 L xs) (by decide) (inv_s0 L xs) rfl (by omega) (by decide)
  refine ⟨u.2, ?_⟩
  unfold fL_law
  rw [show lL_law_18 2000 0 (s0 L xs) = _ from hu, bnd_s]
  rfl
