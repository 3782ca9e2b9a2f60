/-! from the relation to numbers; scratch room -/
def Aof (a : Nat → Int32) : Nat → Nat := fun j => (a j).toNatClampNeg
theorem aof {a : Nat → Int32} {j x : Nat} (h : a j = nI x) (hx : x < 1000000) : Aof a j = x := by
  show (a j).toNatClampNeg = x
  rw [h, nI_clamp (by omega)]
theorem aofI {a : Nat → Int32} {j x : Nat} (h : a j = nI x) (hx : x < 1000000) : a j = nI (Aof a j) := by
  rw [aof h hx, h]
def qof (a : Nat → Int32) : QT := (Aof a 6, Aof a 7, Aof a 8, Aof a 9)
theorem pow_le6 {t u : Nat} (ht : t ≤ 6) (hu : u < 2 ^ t) : u < 1000000 := Nat.lt_trans (pow6 ht hu) (by decide)
theorem Ro.aof0 {a : Nat → Int32} {t p s n m e : Nat} (hr : Ro a t p s n m e) : Aof a 0 = t ∧ Aof a 1 = p ∧ Aof a 2 = s ∧ Aof a 3 = n ∧ Aof a 4 = m ∧ Aof a 5 = e := by
  obtain ⟨⟨a0, a1, a2, a3, a4, a5⟩, ⟨b1, b2, b3, b4, b5, b6⟩, _⟩ := hr
  exact ⟨aof a0 (by omega), aof a1 (by omega), aof a2 (by omega), aof a3 (by omega), aof a4 (by omega), aof a5 (by omega)⟩
theorem Ro.AR {a : Nat → Int32} {t p s n m e : Nat} (hr : Ro a t p s n m e) : AR (Aof a) ∧ RV a (Aof a) := by
  obtain ⟨e0, e1, _⟩ := hr.aof0
  obtain ⟨⟨a0, a1, a2, a3, a4, a5⟩, ⟨b1, b2, b3, b4, b5, b6⟩, q3, q4, q5, ⟨d1, d2, d3, d4⟩, q7⟩ := hr
  refine ⟨⟨⟨by omega, by omega⟩, fun y hy => ?_, fun k hk => ?_, fun k hk => ?_⟩, ⟨by rw [e0]; exact a0, by rw [e1]; exact a1⟩, fun y hy => ?_, fun k hk => ?_, fun k hk => ?_⟩
  · obtain ⟨⟨c, hc, e⟩, ⟨g, hg, e'⟩⟩ := q3 y hy
    rw [aof e (by omega), aof e' (by omega)]
    exact ⟨hc, hg⟩
  · obtain ⟨⟨d, hd, e⟩, ⟨h, _, hh, e'⟩, ⟨c, hc, e''⟩⟩ := q4 k (by omega)
    rw [aof e (by omega), aof e' (by omega), aof e'' (by omega)]
    exact ⟨hd, hh, hc⟩
  · obtain ⟨d, hd, e⟩ := q5 k (by omega)
    rw [aof e (by omega)]
    exact hd
  · obtain ⟨⟨c, hc, e⟩, ⟨g, hg, e'⟩⟩ := q3 y hy
    exact ⟨aofI e (by omega), aofI e' (by omega)⟩
  · obtain ⟨⟨d, hd, e⟩, ⟨h, _, hh, e'⟩, ⟨c, hc, e''⟩⟩ := q4 k (by omega)
    exact ⟨aofI e (by omega), aofI e' (by omega), aofI e'' (by omega)⟩
  · obtain ⟨d, hd, e⟩ := q5 k (by omega)
    exact aofI e (by omega)
theorem Ro.Mr {a : Nat → Int32} {t p s n m e : Nat} (hr : Ro a t p s n m e) : Mr a (qof a) ∧ QR (Aof a) (qof a) ∧ (qof a).2.2.2 ≤ 999 := by
  obtain ⟨e0, e1, _⟩ := hr.aof0
  obtain ⟨⟨a0, a1, a2, a3, a4, a5⟩, ⟨b1, b2, b3, b4, b5, b6⟩, q3, q4, q5, ⟨⟨u, hu, d1⟩, ⟨w, hw, d2⟩, ⟨c, hc, d3⟩, ⟨r, hr, d4⟩⟩, q7⟩ := hr
  have u6 := pow_le6 b1 hu
  have w6 := pow_le6 b2 hw
  unfold QR
  rw [e0, e1]
  refine ⟨⟨aofI d1 u6, aofI d2 w6, aofI d3 (by omega), aofI d4 (by omega)⟩, ⟨?_, ?_, ?_⟩, ?_⟩
  · show Aof a 6 < _
    rw [aof d1 u6]; exact hu
  · show Aof a 7 < _
    rw [aof d2 w6]; exact hw
  · show Aof a 8 ≤ _
    rw [aof d3 (by omega)]; exact hc
  · show Aof a 9 ≤ _
    rw [aof d4 (by omega)]; exact hr
theorem VR.HV {v : Nat} {σ : Mem} {a : Nat → Int32} {t p s n m e : Nat} (hv : VR v σ a t p s n m e) (hr : Ro a t p s n m e) : HV v σ (Aof a) ∧ Mo (σ.1 4 v) (qof a) := by
  obtain ⟨e0, e1, _⟩ := hr.aof0
  obtain ⟨-, R⟩ := hr.AR
  obtain ⟨M, -⟩ := hr.Mr
  obtain ⟨w1, ⟨s0, s1, s2, s3, s4, s5, s6⟩, w3, w4, w5, w6, _⟩ := hv
  refine ⟨⟨⟨s0, (w1 0 (by decide)).2⟩, ⟨by rw [e0]; exact s1, (w1 1 (by decide)).2⟩, ⟨by rw [e1]; exact s2, (w1 2 (by decide)).2⟩, fun y hy => ⟨(w4 y hy).1.trans (R.2.1 y hy).1, (w4 y hy).2.trans (R.2.1 y hy).2⟩, fun k hk => ?_, fun k hk => ?_⟩, (w3 0 (by decide)).trans M.1, (w3 1 (by decide)).trans M.2.1, (w3 2 (by decide)).trans M.2.2.1, (w3 3 (by decide)).trans M.2.2.2⟩
  · obtain ⟨g1, g2, g3⟩ := w5 k (by omega)
    obtain ⟨h1, h2, h3⟩ := R.2.2.1 k hk
    exact ⟨g1.trans h1, g2.trans h2, g3.trans h3⟩
  · exact (w6 k (by omega)).trans (R.2.2.2 k hk)
/-- all at once of the village that is now -/
theorem Inv.now {σ : Mem} (h : Inv σ) : ∃ A q, (HV 0 σ A ∧ RV (σ.1 22 0) A) ∧ AR A ∧ (Mo (σ.1 4 0) q ∧ Mr (σ.1 22 0) q) ∧ QR A q ∧ q.2.2.2 ≤ 999 := by
  obtain ⟨t, p, s, n, m, e, hv, hr⟩ := h.vr
  exact ⟨Aof (σ.1 22 0), qof (σ.1 22 0), ⟨(hv.HV hr).1, hr.AR.2⟩, hr.AR.1, ⟨(hv.HV hr).2, hr.Mr.1⟩, hr.Mr.2.1, hr.Mr.2.2⟩
/-- nothing but room of the moment's own has changed -/
def prt (c k j : Nat) : Prop := c = 7 ∨ c = 20 ∨ (c = 4 ∧ k < 4) ∨ c = 10 ∨ (c = 22 ∧ (k ≤ 3 ∨ k = 9)) ∨ (c = 8 ∧ j = 2) ∨ (c = 11 ∧ j = 12) ∨ (c = 21 ∧ k = 1) ∨ c = 24
def Sc (σ τ : Mem) : Prop := τ.2 = σ.2 ∧ ∀ c k j, prt c k j → τ.1 c k j = σ.1 c k j
theorem Sc.rf (σ : Mem) : Sc σ σ := ⟨rfl, fun _ _ _ _ => rfl⟩
theorem Sc.tr {σ τ ρ : Mem} (a : Sc σ τ) (b : Sc τ ρ) : Sc σ ρ := ⟨b.1.trans a.1, fun c k j h => (b.2 c k j h).trans (a.2 c k j h)⟩
def scr (c k : Nat) : Prop := (c = 4 ∧ 4 ≤ k) ∨ (c = 22 ∧ 4 ≤ k ∧ k ≠ 9) ∨ (c = 21 ∧ k ≠ 1) ∨ c = 0 ∨ c = 2 ∨ c = 5
theorem Sc.row {σ : Mem} {c k : Nat} {f : Nat → Int32} (h : scr c k) : Sc σ (sA σ c k f) := ⟨rfl, fun c' k' j hp => by
  rw [rdA, if_neg]
  intro q
  unfold scr at h
  unfold prt at hp
  omega⟩
theorem Sc.inv {σ τ : Mem} (s : Sc σ τ) (h : Inv σ) : Inv τ := by
  have z : τ.1 22 0 = σ.1 22 0 := funext fun j => s.2 _ _ _ (by unfold prt; omega)
  refine Inv.step0 h ?_ (fun c k j ho => s.2 _ _ _ (by unfold outB at ho; unfold prt; omega)) s.1
  rw [z]
  exact h.1.congr (fun k j _ _ => s.2 _ _ _ (by unfold prt; omega)) (fun k j _ _ => s.2 _ _ _ (by unfold prt; omega)) (fun j => s.2 _ _ _ (by unfold prt; omega)) (fun j _ => rfl)
theorem Sc.z24 {σ τ : Mem} (s : Sc σ τ) : τ.1 24 = σ.1 24 := funext fun k => funext fun j => s.2 _ _ _ (by unfold prt; omega)
theorem Sc.row0 {σ τ : Mem} (s : Sc σ τ) : τ.1 22 0 = σ.1 22 0 := funext fun j => s.2 _ _ _ (by unfold prt; omega)
theorem ok_scr {f g : Mem → Option (Int32 × Mem)} {σ τ1 τ2 : Mem} {r : Int32} (h : Inv σ) (hf : f σ = some (r, τ1)) (s1 : Sc σ τ1) (hg : g τ1 = some (r, τ2)) (s2 : Sc τ1 τ2) : OKc f g σ :=
  ⟨r, τ1, τ2, hf, hg, (s1.tr s2).inv h, s1.z24, (s1.tr s2).z24⟩
/-! things and parts there are -/
theorem HV.isT {σ : Mem} {A : Nat → Nat} (h : HV 0 σ A) (x : Int32) : f10_isThing 0 x σ = f10_within x 0 (nI (A 0) - 1) := by
  unfold f10_isThing f7_size
  rw [show σ.1 7 1 3 = nI (A 0) from h.2.1.1]
theorem HV.isP {σ : Mem} {A : Nat → Nat} (h : HV 0 σ A) (x : Int32) : f10_isPart 0 x σ = f10_within x 0 (nI (A 1) - 1) := by
  unfold f10_isPart f7_size
  rw [show σ.1 7 2 3 = nI (A 1) from h.2.2.1.1]
theorem RV.isT {σ : Mem} {A : Nat → Nat} (h : RV (σ.1 22 0) A) (x : Int32) : f11_isThing 0 x σ = f10_within x 0 (nI (A 0) - 1) := isT11 h.1.1 x
theorem RV.isP {σ : Mem} {A : Nat → Nat} (h : RV (σ.1 22 0) A) (x : Int32) : f11_isPart 0 x σ = f10_within x 0 (nI (A 1) - 1) := by
  unfold f11_isPart
  rw [in0t, h.1.2]
theorem bad0 (σ : Mem) : (f10_refuseBad 0 σ).2.1 22 0 = σ.1 22 0 := rfl
theorem in060 (x : Int32) : f11_in x.toInt64 0 60 = f10_within x 0 (nI 60) := in_within x 0 60
theorem in02 (x : Int32) : f11_in x.toInt64 0 2 = f10_within x 0 (nI 2) := in_within x 0 2
theorem isC10 (x : Int32) : f10_isCell x = f10_within x 0 (nI 11) := rfl
theorem isC11 (x : Int32) : f11_isCell x = f10_within x 0 (nI 11) := in011 x
theorem Kr0 : Kr 0 := Or.inl rfl
theorem Kr4 : Kr 4 := Or.inr (Or.inl rfl)
theorem drawOf_ok {σ : Mem} {A : Nat → Nat} {q : QT} {k c : Nat} (h : HV 0 σ A) (hA : AR A) (hM : Mo (σ.1 4 0) q) (hy : q.2.2.2 < 2000) (hk : k < A 0) (hc : c ≤ 11) : f9_drawOf 0 (nI k) (nI c) σ = some (nI (dw A q.2.2.2 c k)) := by
  obtain ⟨r1, r2, r3⟩ := hA.2.2.1 k hk
  unfold f9_drawOf
  rw [h.at2 hA hk, bnd_s, h.at0 hA hk, bnd_s, h.at1 hA hk, bnd_s, hM.2.2.2, abN _ (by omega) _ (by omega), drC r1 r2 (df_le r3 hc) hy]
  rfl
theorem struckNow_ok {σ : Mem} {A : Nat → Nat} {q : QT} {c : Nat} (h : HV 0 σ A) (hA : AR A) (hM : Mo (σ.1 4 0) q) (hq : QR A q) (hy : q.2.2.2 < 2000) (hc : c ≤ 11) : f9_struckNow 0 (nI c) σ = some (st A q.1 q.2.2.2 c) := by
  unfold f9_struckNow
  rw [struckIf_ok h hA (pow64 hA.1.1 hq.1) hy hc hM.1 hM.2.2.2, bnd_s]
/-! draws, struck, about, whence -/
theorem ok_draws {σ : Mem} (x1 x2 : Int32) (h : Inv σ) : OKc (f10_draws 0 x1 x2) (f11_draws 0 x1 x2) σ := by
  obtain ⟨A, q, ⟨hC, hR⟩, hA, ⟨hM, hm⟩, hq, hy⟩ := h.now
  by_cases c1 : f10_within x1 0 (nI (A 0) - 1) = 0
  · refine ok_bad h ?_ ?_
    · unfold f10_draws
      rw [hC.isT, if_pos c1]; rfl
    · unfold f11_draws
      rw [RV.isT (A := A) (by rw [bad0]; exact hR), if_pos c1]; rfl
  obtain ⟨k, hk, rfl⟩ := wi_thing (by have := hA.1.1; omega) c1
  by_cases c2 : f10_within x2 0 (nI 11) = 0
  · refine ok_bad h ?_ ?_
    · unfold f10_draws
      rw [hC.isT, if_neg c1, isC10, if_pos c2]; rfl
    · unfold f11_draws
      rw [RV.isT (A := A) (by rw [bad0]; exact hR), if_neg c1, isC11, if_pos c2]; rfl
  obtain ⟨c, hc, rfl⟩ := wi_yes (by decide) c2
  refine ok_ask (nI (dw A q.2.2.2 c k)) h ?_ ?_
  · unfold f10_draws
    rw [hC.isT, if_neg c1, isC10, if_neg c2, drawOf_ok hC hA hM (by omega) hk hc, bnd_s]
  · unfold f11_draws
    rw [hR.isT, if_neg c1, isC11, if_neg c2, drawsFrom_ok Kr0 hR hA (by omega) hc hk hm.2.2.2, bnd_s]
theorem ok_struck {σ : Mem} (x1 : Int32) (h : Inv σ) : OKc (f10_struck 0 x1) (f11_struck 0 x1) σ := by
  obtain ⟨A, q, ⟨hC, hR⟩, hA, ⟨hM, hm⟩, hq, hy⟩ := h.now
  by_cases c2 : f10_within x1 0 (nI 11) = 0
  · refine ok_bad h ?_ ?_
    · unfold f10_struck
      rw [isC10, if_pos c2]; rfl
    · unfold f11_struck
      rw [isC11, if_pos c2]; rfl
  obtain ⟨c, hc, rfl⟩ := wi_yes (by decide) c2
  refine ok_ask (st A q.1 q.2.2.2 c) h ?_ ?_
  · unfold f10_struck
    rw [isC10, if_neg c2, struckNow_ok hC hA hM hq (by omega) hc, bnd_s]
  · unfold f11_struck
    rw [isC11, if_neg c2, hm.1, struckOf_ok Kr0 hR hA (pow64 hA.1.1 hq.1) (by omega) hc hm.2.2.2, bnd_s]
theorem ok_about {σ : Mem} (x1 x2 : Int32) (h : Inv σ) : OKc (f10_about 0 x1 x2) (f11_about 0 x1 x2) σ := by
  obtain ⟨A, q, ⟨hC, hR⟩, hA, ⟨hM, hm⟩, hq, hy⟩ := h.now
  have hp := hA.1.2
  by_cases c1 : f10_within x1 0 (nI (A 1) - 1) = 0
  · refine ok_bad h ?_ ?_
    · unfold f10_about
      rw [hC.isP, if_pos c1]; rfl
    · unfold f11_about
      rw [RV.isP (A := A) (by rw [bad0]; exact hR), if_pos c1]; rfl
  obtain ⟨k, hk, rfl⟩ := wi_thing (by have := hA.1.2; omega) c1
  by_cases c2 : f10_within x2 0 (nI 2) = 0
  · refine ok_bad h ?_ ?_
    · unfold f10_about
      rw [hC.isP, if_neg c1, n2, if_pos c2]; rfl
    · unfold f11_about
      rw [RV.isP (A := A) (by rw [bad0]; exact hR), if_neg c1, in02, if_pos c2]; rfl
  obtain ⟨z, hz, rfl⟩ := wi_yes (by decide) c2
  have w6 : q.2.1 < 64 := pow64 hp hq.2.1
  have k40 : inb (nI (40 + k)) 142 = true := inb_nI (by omega) (by decide)
  unfold OKc
  rcases (show z = 0 ∨ z = 1 ∨ z = 2 by omega) with rfl | rfl | rfl
  · refine ok_ask (nI (A (40 + k))) h ?_ ?_
    · unfold f10_about
      rw [hC.isP, if_neg c1, n2, if_neg c2, if_pos (by rfl), show f7_at 2 (nI k) 0 σ = _ from hC.atp hA hk, bnd_s]
    · unfold f11_about
      rw [hR.isP, if_neg c1, in02, if_neg c2, if_pos (by rfl), show (40 : Int32) = nI 40 from rfl, nI_add, k40, ck_t, nI_clamp (by omega), hR.2.2.2 k hk]
  · refine ok_ask (nI (b01 (q.2.1.testBit k))) h ?_ ?_
    · unfold f10_about
      rw [hC.isP, if_neg c1, n2, if_neg c2, if_neg (by decide), if_pos (by rfl), thereN hM.2.1 w6 (by omega)]
      cases q.2.1.testBit k <;> rfl
    · unfold f11_about
      rw [hR.isP, if_neg c1, in02, if_neg c2, if_neg (by decide), if_pos (by rfl), hm.2.1, bitN _ w6 k (by omega)]
  · refine ok_ask (nI (nd (A (40 + k)) (pc q.2.1) q.2.2.2)) h ?_ ?_
    · unfold f10_about f9_needOf f4_partsThere
      rw [hC.isP, if_neg c1, n2, if_neg c2, if_neg (by decide), if_neg (by decide), show f7_at (7 * 0 + 2) (nI k) 0 σ = _ from hC.atp hA hk, bnd_s, hM.2.1, pcC _ w6, hM.2.2.2, ndC (hA.2.2.2 k hk) (pc_le _ w6) (by omega), bnd_s]
    · unfold f11_about
      rw [hR.isP, if_neg c1, in02, if_neg c2, if_neg (by decide), if_neg (by decide), show (40 : Int32) = nI 40 from rfl, nI_add, k40, ck_t, hm.2.1, pcR _ w6, bnd_s, nI_clamp (by omega), hR.2.2.2 k hk, hm.2.2.2, ndR (hA.2.2.2 k hk) (pc_le _ w6) (by omega)]
/-- cells from where he would be struck -/
def cby (A : Nat → Nat) (u y : Nat) : Nat → Nat → Int32 → Int32
  | 0, _, b => b
  | r + 1, i, b => cby A u y r (i + 1) (if st A u y i = 0 then b ||| ((1 : Int32) <<< (nI i &&& 31)) else b)
theorem cellsBy_lp {σ : Mem} {A : Nat → Nat} {u y : Nat} (hR : RV (σ.1 22 0) A) (hA : AR A) (hu : u < 64) (hy : y < 2000) (m3 : σ.1 22 0 9 = nI y) :
    ∀ (r n i : Nat) (b : Int32), i + r = 12 → r < n → l11_cellsBy_4 0 (nI u) σ n b (nI i) = some (cby A u y r i b, nI 12) := by
  intro r
  induction r with
  | zero =>
    intro n i b h1 h2
    obtain ⟨n, rfl⟩ : ∃ q, n = q + 1 := ⟨n - 1, by omega⟩
    obtain rfl : i = 12 := by omega
    rw [l11_cellsBy_4, if_pos (by decide)]
    rfl
  | succ r ih =>
    intro n i b h1 h2
    obtain ⟨n, rfl⟩ : ∃ q, n = q + 1 := ⟨n - 1, by omega⟩
    rw [l11_cellsBy_4, if_neg (nleL 12 i), struckOf_ok Kr0 hR hA hu hy (by omega) m3, bnd_s, lt_e, nI_1, ih n (i + 1) _ (by omega) (by omega)]
    rw [show cby A u y (r + 1) i b = cby A u y r (i + 1) (if st A u y i = 0 then b ||| ((1 : Int32) <<< (nI i &&& 31)) else b) from rfl]
    by_cases z : st A u y i = 0
    · rw [if_pos z, if_pos z]
    · rw [if_neg z, if_neg z, show b ||| (0 : Int32) = b from Int32.or_zero]
theorem cellsBy_ok {σ : Mem} {A : Nat → Nat} {u y : Nat} (hR : RV (σ.1 22 0) A) (hA : AR A) (hu : u < 64) (hy : y < 2000) (m3 : σ.1 22 0 9 = nI y) : f11_cellsBy 0 (nI u) σ = some (cby A u y 12 0 0) := by
  unfold f11_cellsBy
  rw [show l11_cellsBy_4 0 (nI u) σ 2000 0 0 = _ from cellsBy_lp hR hA hu hy m3 12 2000 0 0 (by omega) (by omega), bnd_s]
theorem whence_lp {σ : Mem} {A : Nat → Nat} {q : QT} (hC : HV 0 σ A) (hA : AR A) (hM : Mo (σ.1 4 0) q) (hq : QR A q) (hy : q.2.2.2 < 2000) :
    ∀ (r n i : Nat) (b : Int32), i + r = 12 → r < n → l10_whence_4 0 σ n b (nI i) = some (cby A q.1 q.2.2.2 r i b, nI 12) := by
  intro r
  induction r with
  | zero =>
    intro n i b h1 h2
    obtain ⟨n, rfl⟩ : ∃ q, n = q + 1 := ⟨n - 1, by omega⟩
    obtain rfl : i = 12 := by omega
    rw [l10_whence_4, if_pos (by decide)]
    rfl
  | succ r ih =>
    intro n i b h1 h2
    obtain ⟨n, rfl⟩ : ∃ q, n = q + 1 := ⟨n - 1, by omega⟩
    rw [l10_whence_4, if_neg (nleL 12 i), struckNow_ok hC hA hM hq hy (by omega), bnd_s, lt_e, nI_1, ih n (i + 1) _ (by omega) (by omega)]
    rfl
theorem ok_whence {σ : Mem} (h : Inv σ) : ∃ r, f10_whence 0 σ = some r ∧ f11_whence 0 σ = some r := by
  obtain ⟨A, q, ⟨hC, hR⟩, hA, ⟨hM, hm⟩, hq, hy⟩ := h.now
  refine ⟨cby A q.1 q.2.2.2 12 0 0, ?_, ?_⟩
  · unfold f10_whence
    rw [show l10_whence_4 0 σ 2000 0 0 = _ from whence_lp hC hA hM hq (by omega) 12 2000 0 0 (by omega) (by omega), bnd_s]
  · unfold f11_whence
    rw [hm.1, cellsBy_ok hR hA (pow64 hA.1.1 hq.1) (by omega) hm.2.2.2, bnd_s]
