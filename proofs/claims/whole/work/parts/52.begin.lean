/-! the reference's begin -/
def bgnR (k0 : Nat) (σ : Mem) (c k j : Nat) : Int32 := if c = 22 ∧ k = k0 ∧ j < 110 then 0 else σ.1 c k j
theorem begin11_lp {k0 : Nat} (hk : ¬ k0 = 2) (hl : 110 ≤ alen 22 k0 ∧ alen 22 k0 < 1000) : ∀ (m n i : Nat) (σ : Mem), i + m = 110 → m < n →
    ∃ τ : Mem, l11_begin_2 k0 n (nI i) σ = some (nI 110, τ) ∧ τ.2 = σ.2 ∧ ∀ c k j, τ.1 c k j = if c = 22 ∧ k = k0 ∧ i ≤ j ∧ j < 110 then 0 else σ.1 c k j := by
  intro m
  induction m with
  | zero =>
    intro n i σ h1 h2
    obtain ⟨n, rfl⟩ : ∃ q, n = q + 1 := ⟨n - 1, by omega⟩
    have : i = 110 := by omega
    subst this
    refine ⟨σ, ?_, rfl, fun c k j => ?_⟩
    · rw [l11_begin_2, if_pos (by decide)]
    · rw [if_neg (fun q => by omega)]
  | succ m ih =>
    intro n i σ h1 h2
    obtain ⟨n, rfl⟩ : ∃ q, n = q + 1 := ⟨n - 1, by omega⟩
    rw [l11_begin_2, if_neg (by rw [show (110 : Int32) = nI 110 by decide]; exact nI_ge (by omega) (by omega)), decide_eq_true hk, ck_t, inb_nI (by omega) (by omega), ck_t, lt_e, nI_clamp (by omega), nI_1]
    obtain ⟨τ, g1, g2, g3⟩ := ih n (i + 1) (sI σ 22 k0 i 0) (by omega) (by omega)
    refine ⟨τ, g1, g2, fun c k j => ?_⟩
    rw [g3, rdI]
    by_cases hB : c = 22 ∧ k = k0 ∧ i + 1 ≤ j ∧ j < 110
    · rw [if_pos hB, if_pos ⟨hB.1, hB.2.1, by omega, hB.2.2.2⟩]
    · rw [if_neg hB]
      by_cases hC : c = 22 ∧ k = k0 ∧ j = i
      · rw [if_pos hC, if_pos ⟨hC.1, hC.2.1, by omega, by omega⟩]
      · rw [if_neg hC, if_neg (fun h => by omega)]
theorem begin11_ok {k0 : Nat} {σ : Mem} (hk : ¬ k0 = 2) (hl : 110 ≤ alen 22 k0 ∧ alen 22 k0 < 1000) : f11_begin k0 σ = some (fun c k j => bgnR k0 σ c k j, σ.2) := by
  obtain ⟨τ, g1, g2, g3⟩ := begin11_lp hk hl 110 2000 0 σ rfl (by decide)
  unfold f11_begin
  rw [← n0] at g1
  rw [g1, bnd_s]
  congr 1
  refine mem_ext (fun c k j => ?_) g2
  rw [g3]
  unfold bgnR
  simp
/-! objects made: the frame of a constructor -/
abbrev K0 : Type := va_G × (ClassId × ClassId)
abbrev aty0 (Y : K0) : List (ClassId × FieldType) := [(Y.2.1, .int), (Y.2.2, .boolean)]
def CtP (Y : K0) (ex : State → Prop) (h0 ci : Nat) (fs As : List Value) (sz : Nat) : Array Value → State → Prop := va_Pc (.ref h0 :: As) (fun U => U.heap.size = sz ∧ va_P Y.1 classes [(h0, .inr (ci, fs))] U.heap ∧ va_K Y.1 classes (aty0 Y) U ∧ ex U)
def CtA (h0 sz : Nat) : Nat → Prop := fun q => q = h0 ∨ sz ≤ q
def CtQ {S : Type} (Y : K0) (h0 sz : Nat) (bld : S → va_W) : Array Value → State → Outcome → State → Prop := fun _ st o t =>
  o = .returned none ∧ (∃ u : S, va_P Y.1 classes (bld u) t.heap ∧ va_D (CtA h0 sz) (bld u)) ∧ va_F (CtA h0 sz) st t
theorem CtP_blind {Y : K0} {ex : State → Prop} {h0 ci : Nat} {fs As : List Value} {sz : Nat} (hex : ∀ (a : Array Value) (U : State) (g : JFrame) (mk : MethodId), ex U → ex (U.calling g mk a)) : FrameBlind (CtP Y ex h0 ci fs As sz) := by
  intro a U g mk h
  obtain ⟨h1, h2, h3, h4, h5⟩ := h
  exact ⟨h1, h2, h3, va_K.moved (u := U) (U := U.calling g mk a) (Vm.Alike.refl U.vm) h4, hex a U g mk h5⟩
section MADE
variable {p : Program} {l : Launch} {e : Env} {R : Room} {s : State} {m : MethodId} {args : Array Value} {below : List Frame} {meth : Method} {c : Code} {H : Heap} {locs : List Loc} {cells slots mc ms : Nat} {Q : State → Prop}
variable {cc : ByteArray} {pc : Nat} {ls : Array Slot} {rest st0 : List Value} {A : Nat → Prop} {H0 : Heap} {Y : K0} {ws : va_W}
theorem newI (hexec : p.tables.exec = Jvm.exec) (hb : c.code = cc) (harr : (Cond.arrayClass .int).before args s = true) (hK : va_K Y.1 classes (aty0 Y) s) (hP : va_P Y.1 classes ws H) (hD : va_D A ws) (hS : va_S A H0 H locs) (hA : ∀ q, H0.size ≤ q → A q) {n : Int32} {N : Nat} (hn : n = nI N) (hN : N ≤ 1000) (hcells : cells + 1 ≤ R.cells) (hslots : slots + N ≤ R.slots) (hdg : decode cc pc = .ok (.newarray .int, 2))
    (kk : ∀ (q : Nat) (H1 : Heap), va_P Y.1 classes (ws ++ [(q, .inl (Y.2.1, N, .inl fun _ => 0))]) H1 → va_D A (ws ++ [(q, .inl (Y.2.1, N, .inl fun _ => 0))]) → va_S A H0 H1 locs → W p l e R s m args below meth c H1 locs (cells + 1) (slots + N) Q (F0 m (pc + 2) ls (.ref q :: rest))) : W p l e R s m args below meth c H locs cells slots Q (F0 m pc ls (.int n :: rest)) := by
  subst hn
  refine va_newa (atype := .int) (ty := .int) (a0 := (N, .inl fun _ => 0)) (N' := N) hexec hb harr rfl hK hP hD hS hA (fun cA => ?_) (nI_pos (by omega)) (nI_clamp (by omega)) (by show N * 4 ≤ _; omega) hcells hslots hdg (fun q cA H1 hK1 hP1 hD1 hS1 => ?_)
  · rw [vp_cell_i]; rfl
  · have e1 := (hK1.2 0 _ rfl).2
    have e2 := (hK1.2 2 _ rfl).2
    have e3 : cA = Y.2.1 := Option.some.inj (e2.symm.trans e1)
    subst e3
    exact kk q H1 hP1 hD1 hS1
theorem newZ (hexec : p.tables.exec = Jvm.exec) (hb : c.code = cc) (harr : (Cond.arrayClass .boolean).before args s = true) (hK : va_K Y.1 classes (aty0 Y) s) (hP : va_P Y.1 classes ws H) (hD : va_D A ws) (hS : va_S A H0 H locs) (hA : ∀ q, H0.size ≤ q → A q) {n : Int32} {N : Nat} (hn : n = nI N) (hN : N ≤ 1000) (hcells : cells + 1 ≤ R.cells) (hslots : slots + N ≤ R.slots) (hdg : decode cc pc = .ok (.newarray .boolean, 2))
    (kk : ∀ (q : Nat) (H1 : Heap), va_P Y.1 classes (ws ++ [(q, .inl (Y.2.2, N, .inl fun _ => 0))]) H1 → va_D A (ws ++ [(q, .inl (Y.2.2, N, .inl fun _ => 0))]) → va_S A H0 H1 locs → W p l e R s m args below meth c H1 locs (cells + 1) (slots + N) Q (F0 m (pc + 2) ls (.ref q :: rest))) : W p l e R s m args below meth c H locs cells slots Q (F0 m pc ls (.int n :: rest)) := by
  subst hn
  refine va_newa (atype := .boolean) (ty := .boolean) (a0 := (N, .inl fun _ => 0)) (N' := N) hexec hb harr rfl hK hP hD hS hA (fun cA => ?_) (nI_pos (by omega)) (nI_clamp (by omega)) (by show N * 1 ≤ _; omega) hcells hslots hdg (fun q cA H1 hK1 hP1 hD1 hS1 => ?_)
  · rw [vp_cell_i]; rfl
  · have e1 := (hK1.2 1 _ rfl).2
    have e2 := (hK1.2 2 _ rfl).2
    have e3 : cA = Y.2.2 := Option.some.inj (e2.symm.trans e1)
    subst e3
    exact kk q H1 hP1 hD1 hS1
theorem cons_go {S : Type} {bld : S → va_W} {h0 : Nat} {ob : va_E} {w0 : va_W} {a : Array Value} (hr : va_Run p l e R s m args below meth c H locs cells slots mc ms (F0 m pc ls st0) rest (CtQ Y h0 H.size bld a) (CtA h0 H.size)) (hP : va_P Y.1 classes (w0 ++ [(h0, ob)]) H) (hD : va_D A (w0 ++ [(h0, ob)])) (hS : va_S A H0 H locs) (hA : ∀ q, H0.size ≤ q → A q)
    (kk : ∀ (u : S) (H1 : Heap) (locs1 : List Loc), va_P Y.1 classes (w0 ++ bld u) H1 → va_D A (w0 ++ bld u) → va_S A H0 H1 locs1 → W p l e R s m args below meth c H1 locs1 (cells + mc) (slots + ms) Q (F0 m (pc + 3) ls rest)) : W p l e R s m args below meth c H locs cells slots Q (F0 m pc ls st0) := by
  have hlast : (w0 ++ [(h0, ob)])[w0.length]? = some (h0, ob) := by simp
  have hin : ∀ (k : Nat) (q : Nat × va_E), w0[k]? = some q → (w0 ++ [(h0, ob)])[k]? = some q := fun k q hk => by
    rw [List.getElem?_append_left (List.getElem?_eq_some_iff.mp hk).1]; exact hk
  have hne : ∀ (k : Nat) (q : Nat × va_E), w0[k]? = some q → q.1 < H.size ∧ q.1 ≠ h0 := fun k q hk => by
    refine ⟨(hP k q (hin k q hk)).lt, fun z => ?_⟩
    have := hD.1 k w0.length q (h0, ob) (hin k q hk) hlast z
    have := (List.getElem?_eq_some_iff.mp hk).1
    omega
  have hAC : ∀ q, CtA h0 H.size q → A q := fun q hq => by
    rcases hq with rfl | hq
    · exact hD.2 _ _ hlast
    · exact hA q (Nat.le_trans hS.1 hq)
  intro T hT X
  obtain ⟨v, st₀, t, T', L, g0, X', hL, e1, e2, ⟨hv, ⟨u, hPu, hDu⟩, hz, hk⟩, st⟩ := hr T hT X
  cases hv
  rw [g0] at hz hk
  have hkeep : ∀ (k : Nat) (q : Nat × va_E), w0[k]? = some q → t.heap[q.1]? = H[q.1]? := fun k q hq => hk q.1 (hne k q hq).1 (fun z => by
    rcases z with z | z
    · exact (hne k q hq).2 z
    · have := (hne k q hq).1; omega)
  obtain ⟨t2, a1, b1⟩ := kk u T'.heap (locs ++ L) (by
      rw [e1]
      exact va_P.app (fun k q hq => (hP k q (hin k q hq)).kept (hkeep k q hq)) hPu)
    (va_D.app ⟨fun i j x y hi hj => hD.1 i j x y (hin i x hi) (hin j y hj), fun k q hq => hD.2 k q (hin k q hq)⟩ (hDu.weaken fun _ q _ h => hAC q.1 h) (fun i j x y hx hy hxy => by
      have h1 := hne i x hx
      have h2 := hDu.2 j y hy
      rw [← hxy] at h2
      rcases h2 with z | z
      · exact h1.2 z
      · omega))
    ⟨Nat.le_trans hS.1 (by rw [e1]; exact hz), fun q h1 h2 => by rw [e1, hk q (Nat.lt_of_lt_of_le h1 hS.1) (fun z => h2 (hAC q z))]; exact hS.2.1 q h1 h2, fun q hq => by
      rcases List.mem_append.mp hq with h | h
      · exact hS.2.2 q h
      · exact hAC _ (hL q h)⟩ T' rfl X'
  exact ⟨t2, st t2 a1, b1⟩
end MADE
def rmC (z : MI) (mc ms : Nat) : Room := { frames := z.2.2.2.2.1, cells := mc, slots := ms, locals := z.2.2.2.2.2 }
def CI (own : String) (idx : Nat) (z : MI) (na : Nat) : Prop := MOK z ∧ Cond.methodLink own idx z.1 ∈ gt ∧ Cond.instanceMethod z.1 ∈ gt ∧ (parseMethodDescriptor z.1.desc).map (fun d => d.parameters.length) = some na ∧ z.1.name = "<init>" ∧ z.2.2.2.1 = none
def CIN (z : MI) (na : Nat) : Prop := MOK z ∧ Cond.instanceMethod z.1 ∈ gt ∧ (parseMethodDescriptor z.1.desc).map (fun d => d.parameters.length) = some na ∧ z.1.name = "<init>" ∧ z.2.2.2.1 = none
section MADE2
variable {p : Program} {l : Launch} {e : Env} {R : Room} {s : State} {m : MethodId} {args : Array Value} {below : List Frame} {meth : Method} {c : Code} {H : Heap} {locs : List Loc} {cells slots mc ms : Nat} {Q : State → Prop}
variable {cc : ByteArray} {pc idx nL na : Nat} {ls : Array Slot} {rest As : List Value} {Y : K0} {own host : String} {z : MI}
theorem runI {S : Type} {bld : S → va_W} {ex : State → Prop} {h0 ci : Nat} {fs : List Value} (S0 : CallFix p m c cc nL s args gt own) (hc : CI own idx z na) (hM : Met l z.1 (wsM z) (rmC z mc ms) (CtP Y ex h0 ci fs As H.size) (CtQ Y h0 H.size bld) mc ms (CtA h0 H.size)) (hlen : As.length = na) (hR : z.2.2.2.2.1 + 1 ≤ R.frames ∧ 8 + (z.2.2.1 + 11) + z.2.2.2.2.2 ≤ R.locals)
    (hexb : ∀ (a : Array Value) (U : State) (g : JFrame) (mk : MethodId), ex U → ex (U.calling g mk a)) (hex : ∀ U : State, U.heap = H → s.WarmedH U.vm → ex U) (hP : va_P Y.1 classes [(h0, .inr (ci, fs))] H) (hK : va_K Y.1 classes (aty0 Y) s) (hls : ls.size = nL) (hcat : (rest.map fun v => v.category).sum ≤ 8) (hdg : decode cc pc = .ok (.invokespecial idx, 3)) (hf : cells + mc ≤ R.cells ∧ slots + ms ≤ R.slots) :
    va_Run p l e R s m args below meth c H locs cells slots mc ms (F0 m pc ls (As.reverse ++ .ref h0 :: rest)) rest (CtQ Y h0 H.size bld (Value.ref h0 :: As).toArray) (CtA h0 H.size) := by
  obtain ⟨hMo, hlk, hin, hna, hnm, hret⟩ := hc
  have hts := S0.2.2.2.2
  have cw := callB_of (R := R) (s := s) (args := args) (y := z.1) (bytes := z.2.1) (maxL := z.2.2.1) (ret := none) (rm := rmC z mc ms) (ws := wsM z) (ws' := gt) (mc := mc) (ms := ms) (own := own) (index := idx) na hts (gt_GoodIn hMo) (by unfold wsM; rw [hret]) rfl rfl (hts _ hMo.2.2.1) (hts _ hlk) ⟨hMo.2.2.2.1.1, hMo.2.2.2.1.2, hna⟩ hR
  exact va_runI (As := As) (rest := rest) S0 hM ⟨cw, hnm, hts _ hin⟩ ⟨CtP_blind hexb, fun U hU hW => ⟨rfl, by rw [hU], by rw [hU]; exact hP, va_K.moved hW.alike hK, hex U hU hW⟩⟩ rfl hlen hls rfl (lv_room hcat) hdg hf
theorem runIN {S : Type} {bld : S → va_W} {ex : State → Prop} {h0 ci : Nat} {fs : List Value} (S0 : CallFix p m c cc nL s args gt own) (hc : CIN z na) (hl : va_Nw (.methodLinkNest own idx z.1 host) s) (hM : Met l z.1 (wsM z) (rmC z mc ms) (CtP Y ex h0 ci fs As H.size) (CtQ Y h0 H.size bld) mc ms (CtA h0 H.size)) (hlen : As.length = na) (hR : z.2.2.2.2.1 + 1 ≤ R.frames ∧ 8 + (z.2.2.1 + 11) + z.2.2.2.2.2 ≤ R.locals)
    (hexb : ∀ (a : Array Value) (U : State) (g : JFrame) (mk : MethodId), ex U → ex (U.calling g mk a)) (hex : ∀ U : State, U.heap = H → s.WarmedH U.vm → ex U) (hP : va_P Y.1 classes [(h0, .inr (ci, fs))] H) (hK : va_K Y.1 classes (aty0 Y) s) (hls : ls.size = nL) (hcat : (rest.map fun v => v.category).sum ≤ 8) (hdg : decode cc pc = .ok (.invokespecial idx, 3)) (hf : cells + mc ≤ R.cells ∧ slots + ms ≤ R.slots) :
    va_Run p l e R s m args below meth c H locs cells slots mc ms (F0 m pc ls (As.reverse ++ .ref h0 :: rest)) rest (CtQ Y h0 H.size bld (Value.ref h0 :: As).toArray) (CtA h0 H.size) := by
  obtain ⟨hMo, hin, hna, hnm, hret⟩ := hc
  have hts := S0.2.2.2.2
  have cw := va_cnB (R := R) (s := s) (args := args) (y := z.1) (bytes := z.2.1) (maxL := z.2.2.1) (ret := none) (rm := rmC z mc ms) (ws := wsM z) (ws' := gt) (mc := mc) (ms := ms) (own := own) (host := host) (index := idx) na hts (gt_GoodIn hMo) (by unfold wsM; rw [hret]) rfl rfl hl (hts _ hMo.2.2.1) ⟨hMo.2.2.2.1.1, hMo.2.2.2.1.2, hna⟩ hR
  exact va_runIN (As := As) (rest := rest) S0 hM ⟨cw, hnm, hts _ hin⟩ ⟨CtP_blind hexb, fun U hU hW => ⟨rfl, by rw [hU], by rw [hU]; exact hP, va_K.moved hW.alike hK, hex U hU hW⟩⟩ rfl hlen hls rfl (lv_room hcat) hdg hf
end MADE2
