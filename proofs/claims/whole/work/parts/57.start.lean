def R_law : String := "SteepleStruckLaw"
def lw_P (b : Addr) (xs : List Int32) (args : Array Value) (s : State) : Prop := args = #[.ref b] ∧ s.IntsAt b xs ∧ xs.length ≤ 384 ∧ (Jvm.Cond.and given_1 narrow_1).before args s = true
def lw_Q (_ : Array Value) (s : State) (o : Outcome) (t : State) : Prop := o = .returned (some (.int 1)) ∧ Framed s o t [] 600000 7302250
def lw_Z (below : List Frame) (a : Array Value) (s : State) : State → Prop := fun t => ∃ o, t.status = .running ∧ Ended t below o ∧ lw_Q a s o t
/-- the law's own end, with 1 on the stack, nothing written that was there before, its room as the claim has it -/
theorem lw_ret {p : Program} {l : Launch} {e : Env} {s : State} {m : MethodId} {below : List Frame} {meth : Method} {c : Code} {b : Nat} (hx : p.tables.exec = Jvm.exec) (hb : c.code = code) (hr : meth.sig.returnType = ret) (hlocks : meth.locks = false) {pc : Nat} {H : Heap} {ls : Array Slot} (hdg : decode code pc = .ok (.ireturn, 1)) : W p l e room_1 s m #[Value.ref b] below meth c H [] 600000 7302250 (lw_Z below #[Value.ref b] s) (F0 m pc ls [.int 1]) := by
  intro T hT X
  obtain ⟨fs, hret, hrun, hended, hW, hframe⟩ := X.leave (v := some (.int 1)) (hlocks := hlocks) (fun h => by rw [hr] at h; cases h)
  have hmeth' : T.vm.method? m = some meth := X.method'
  refine ⟨T.setFrames fs, ?_, .returned (some (.int 1)), hrun, hended, rfl, ⟨_, rfl⟩, hW, hframe⟩
  jvm_step X.here [X.here.top, hx, hb, hdg, hmeth', hr, ret, narrow_b1]
  (try refine ⟨rfl, ?_⟩); (try refine ⟨rfl, ?_⟩)
  first | (intro acts; rw [hret _ acts rfl rfl rfl]) | rw [hret _ _ rfl rfl rfl]
  exact Steps.refl _
/-- what holds at the law's entry: the machine, the code, the tables' words (any of lw_tbl by 'hts w (by decide +kernel)'), the script of L ints xs at the cell b, what the Statement gives of the start (any of its parts by flat_of_before) -/
def lw_At (p : Program) (s : State) (m : MethodId) (meth : Method) (c : Code) (b L : Nat) (xs : Nat → Int32) : Prop :=
  p.tables.exec = Jvm.exec ∧ c.code = code ∧ meth.sig.returnType = ret ∧ c.maxLocals = 4 ∧ s.vm.findClass R_law = some m.cls ∧ (∀ w ∈ lw_tbl, w.before #[Value.ref b] s = true) ∧ va_X b L xs s s.heap ∧ b < s.heap.size ∧ meth.locks = false ∧ (Jvm.Cond.and given_1 narrow_1).before #[Value.ref b] s = true
theorem wkL7 : Cond.classLink RL 7 RX10 ∈ gt := mt1 (j := 19) rfl rfl
theorem wkL10 : Cond.classLink RL 10 RX11 ∈ gt := mt4 (j := 230) rfl rfl
theorem ciL9 : CI RL 9 m10_init 0 := ⟨mok10_init, mt1 (j := 21) rfl rfl, mt1 (j := 22) rfl rfl, by decide +kernel, rfl, rfl⟩
theorem ciL12 : CI RL 12 m11_init 0 := ⟨mok11_init, mt4 (j := 232) rfl rfl, mt4 (j := 233) rfl rfl, by decide +kernel, rfl, rfl⟩
theorem DL_0 : decode code 0 = .ok (.new 7, 3) := by decide +kernel
theorem DL_3 : decode code 3 = .ok (.dup, 1) := by decide +kernel
theorem DL_4 : decode code 4 = .ok (.invokespecial 9, 3) := by decide +kernel
theorem DL_7 : decode code 7 = .ok (.astore_n 1, 1) := by decide +kernel
theorem DL_8 : decode code 8 = .ok (.new 10, 3) := by decide +kernel
theorem DL_11 : decode code 11 = .ok (.dup, 1) := by decide +kernel
theorem DL_12 : decode code 12 = .ok (.invokespecial 12, 3) := by decide +kernel
theorem DL_15 : decode code 15 = .ok (.astore_n 2, 1) := by decide +kernel
def WT : List Cond := flatC (.and given_1 narrow_1)
theorem wt_in {args : Array Value} {s : State} (h : (Cond.and given_1 narrow_1).before args s = true) {ws : List Cond} (hw : (ws.all fun w => decide (w ∈ WT)) = true) : ∀ w ∈ ws, w.before args s = true :=
  fun w hm => flat_of_before _ h w (of_decide_eq_true (List.all_eq_true.mp hw w hm))
def tmS (i : Nat) : Term := .string RX8 (138 + 2 * i)
def vaS (i : Nat) : Term := .field (tmS i) "java/lang/String" "value" "[B"
def strW (f : Nat → Cond) : List Cond := (List.range 6).map f
theorem strW_in {f : Nat → Cond} {i : Nat} (hi : i < 6) : f i ∈ strW f := List.mem_map.mpr ⟨i, List.mem_range.mpr hi, rfl⟩
def strE : List Cond := (List.range 6).flatMap fun i => (List.range (lenJS.getD i 0)).map fun j => .eq (.elem (vaS i) (.int (Int32.ofNat j))) (.int ((bytJS.getD i []).getD j 0))
def strN (i j : Nat) : Cond := .not (.eq (tmS i) (tmS j))
theorem q_neS : ((List.range 6).all fun i => (List.range 6).all fun j => decide (i = j) || (decide (strN i j ∈ WT) || decide (strN j i ∈ WT))) = true := by decide +kernel
theorem exS_ok : ((strW fun i => .exactly (tmS i) "java/lang/String").all fun w => decide (w ∈ WT)) = true := by decide +kernel
theorem coS_ok : ((strW fun i => .eq (.field (tmS i) "java/lang/String" "coder" "B") (.int 0)).all fun w => decide (w ∈ WT)) = true := by decide +kernel
theorem arS_ok : ((strW fun i => .arrayOf (vaS i) .byte).all fun w => decide (w ∈ WT)) = true := by decide +kernel
theorem leS_ok : ((strW fun i => .eq (.length (vaS i)) (.int (Int32.ofNat (lenJS.getD i 0)))).all fun w => decide (w ∈ WT)) = true := by decide +kernel
theorem q_elS : (strE.all fun w => decide (w ∈ WT)) = true := by decide +kernel
theorem zS_ok : ([Cond.eq (.static "java/lang/String" "COMPACT_STRINGS" "Z") (.int 1), .isRef (.static "jdk/internal/util/Preconditions" "SIOOBE_FORMATTER" "Ljava/util/function/BiFunction;")].all fun w => decide (w ∈ WT)) = true := by decide +kernel
theorem wzS : Cond.laysStatic "java/lang/String" "COMPACT_STRINGS" "Z" ∈ lw_tbl := List.mem_of_getElem? (i := 503) (by decide +kernel)
theorem wzSi : Cond.initialized "java/lang/String" ∈ gt := mt1 (j := 13) rfl rfl
theorem wzQ : Cond.laysStatic "jdk/internal/util/Preconditions" "SIOOBE_FORMATTER" "Ljava/util/function/BiFunction;" ∈ lw_tbl := List.mem_of_getElem? (i := 519) (by decide +kernel)
theorem wzQi : Cond.initialized "jdk/internal/util/Preconditions" ∈ gt := mt1 (j := 15) rfl rfl
theorem wsr0 : Cond.stringRef RX8 138 "village" ∈ lw_tbl := List.mem_of_getElem? (i := 484) (by decide +kernel)
theorem wsr1 : Cond.stringRef RX8 140 "storm" ∈ lw_tbl := List.mem_of_getElem? (i := 485) (by decide +kernel)
theorem wsr2 : Cond.stringRef RX8 142 "thing" ∈ lw_tbl := List.mem_of_getElem? (i := 486) (by decide +kernel)
theorem wsr3 : Cond.stringRef RX8 144 "part" ∈ lw_tbl := List.mem_of_getElem? (i := 487) (by decide +kernel)
theorem wsr4 : Cond.stringRef RX8 146 "take" ∈ lw_tbl := List.mem_of_getElem? (i := 488) (by decide +kernel)
theorem wsr5 : Cond.stringRef RX8 148 "summers" ∈ lw_tbl := List.mem_of_getElem? (i := 489) (by decide +kernel)
theorem wn9_40 : Cond.methodLinkNest RX9 40 yX4_init "SteepleStruck" ∈ lw_tbl := List.mem_of_getElem? (i := 120) (by decide +kernel)
theorem wn10_27 : Cond.methodLinkNest RX10 27 yX4_init "SteepleStruck" ∈ lw_tbl := List.mem_of_getElem? (i := 210) (by decide +kernel)
theorem wn10_43 : Cond.methodLinkNest RX10 43 yX8_init "SteepleStruck" ∈ lw_tbl := List.mem_of_getElem? (i := 224) (by decide +kernel)
theorem wn10_50 : Cond.methodLinkNest RX10 50 yX1_init "SteepleStruck" ∈ lw_tbl := List.mem_of_getElem? (i := 254) (by decide +kernel)
theorem wn10_57 : Cond.methodLinkNest RX10 57 yX5_init "SteepleStruck" ∈ lw_tbl := List.mem_of_getElem? (i := 267) (by decide +kernel)
theorem wn10_64 : Cond.methodLinkNest RX10 64 yX2_init "SteepleStruck" ∈ lw_tbl := List.mem_of_getElem? (i := 291) (by decide +kernel)
theorem wn10_71 : Cond.methodLinkNest RX10 71 yX0_init "SteepleStruck" ∈ lw_tbl := List.mem_of_getElem? (i := 303) (by decide +kernel)
theorem wn8_88 : Cond.methodLinkNest RX8 88 yX10_within "SteepleStruck" ∈ lw_tbl := List.mem_of_getElem? (i := 476) (by decide +kernel)
theorem strings_at {b : Nat} {s : State} (hts : ∀ w ∈ lw_tbl, w.before #[Value.ref b] s = true) (hgv : (Cond.and given_1 narrow_1).before #[Value.ref b] s = true) : ∃ a12 a23 : Nat → Nat, SY a12 a23 (fun q => s.heap.size ≤ q) s s.heap := by
  have hg : ∀ w ∈ gt, w.before #[Value.ref b] s = true := fun w hw => hts w (List.mem_filter.mp hw).1
  have hA : ∀ a : Nat, a < s.heap.size → ¬ s.heap.size ≤ a := fun a h => Nat.not_le.mpr h
  have hz := wt_in hgv zS_ok
  obtain ⟨a12, a23, h1, h2⟩ := vk_Sof (N := 6) (tm := tmS) (len := lenJS) (byt := bytJS) (A := fun q => s.heap.size ≤ q) (fun i hi => by rcases (show i = 0 ∨ i = 1 ∨ i = 2 ∨ i = 3 ∨ i = 4 ∨ i = 5 by omega) with rfl | rfl | rfl | rfl | rfl | rfl <;> decide)
    (fun i hi => wt_in hgv exS_ok _ (strW_in (f := fun i => .exactly (tmS i) "java/lang/String") hi)) (fun i hi => wt_in hgv coS_ok _ (strW_in (f := fun i => .eq (.field (tmS i) "java/lang/String" "coder" "B") (.int 0)) hi))
    (fun i hi => wt_in hgv arS_ok _ (strW_in (f := fun i => .arrayOf (vaS i) .byte) hi)) (fun i hi => wt_in hgv leS_ok _ (strW_in (f := fun i => .eq (.length (vaS i)) (.int (Int32.ofNat (lenJS.getD i 0)))) hi))
    (fun i hi j hj => wt_in hgv q_elS _ (List.mem_flatMap.mpr ⟨i, List.mem_range.mpr hi, List.mem_map.mpr ⟨j, List.mem_range.mpr hj, rfl⟩⟩))
    (fun i j hi hj hij => by
      have h := List.all_eq_true.mp (List.all_eq_true.mp q_neS i (List.mem_range.mpr hi)) j (List.mem_range.mpr hj)
      rw [Bool.or_eq_true, Bool.or_eq_true] at h
      rcases h with h | h | h
      · exact absurd (of_decide_eq_true h) hij
      · exact Or.inl (flat_of_before _ hgv _ (of_decide_eq_true h))
      · exact Or.inr (flat_of_before _ hgv _ (of_decide_eq_true h))) hA
  have hv : (Term.static "java/lang/String" "COMPACT_STRINGS" "Z").eval #[Value.ref b] s none [] s = some (.int 1) := by
    have := hz _ List.mem_cons_self
    simp only [Cond.before, Cond.holds, Cond.value] at this
    revert this
    cases (Term.static "java/lang/String" "COMPACT_STRINGS" "Z").eval #[Value.ref b] s none [] s with
    | none => simp [Term.eval]
    | some v => cases v <;> simp [Term.eval]
  refine ⟨a12, a23, h1, ⟨va_Zof (hts _ wzS) (hg _ wzSi) hv hA, va_Zqof (hts _ wzQ) (hg _ wzQi) (hz _ (List.mem_cons_of_mem _ List.mem_cons_self)) hA⟩, fun i hi => ?_, va_Nw.of rfl (hts _ wn8_88)⟩
  rcases (show i = 0 ∨ i = 1 ∨ i = 2 ∨ i = 3 ∨ i = 4 ∨ i = 5 by omega) with rfl | rfl | rfl | rfl | rfl | rfl
  · exact vk_R.of (hts _ wsr0) (h2 0 (by decide))
  · exact vk_R.of (hts _ wsr1) (h2 1 (by decide))
  · exact vk_R.of (hts _ wsr2) (h2 2 (by decide))
  · exact vk_R.of (hts _ wsr3) (h2 3 (by decide))
  · exact vk_R.of (hts _ wsr4) (h2 4 (by decide))
  · exact vk_R.of (hts _ wsr5) (h2 5 (by decide))
theorem nests_at {b : Nat} {s : State} (hts : ∀ w ∈ lw_tbl, w.before #[Value.ref b] s = true) : NX s := ⟨va_Nw.of rfl (hts _ wn9_40), va_Nw.of rfl (hts _ wn10_27), va_Nw.of rfl (hts _ wn10_43), va_Nw.of rfl (hts _ wn10_50), va_Nw.of rfl (hts _ wn10_57), va_Nw.of rfl (hts _ wn10_64), va_Nw.of rfl (hts _ wn10_71)⟩
theorem kn_at {b : Nat} {s : State} (hts : ∀ w ∈ lw_tbl, w.before #[Value.ref b] s = true) : ∃ D : va_G, ∃ K : ClassId × ClassId, va_K D classes [(K.1, .int), (K.2, .boolean)] s := by
  have hg : ∀ w ∈ gt, w.before #[Value.ref b] s = true := fun w hw => hts w (List.mem_filter.mp hw).1
  obtain ⟨c0, i0, k0⟩ := u_known (C := RX0) (T := TX0) (N := 2) (n := 2) hg in0 (hg _ fo0.choose_spec.choose_spec.2.2.2.2.1)
  obtain ⟨c1, i1, k1⟩ := u_known (C := RX1) (T := TX1) (N := 2) (n := 2) hg in1 (hg _ fo1.choose_spec.choose_spec.2.2.2.2.1)
  obtain ⟨c2, i2, k2⟩ := u_known (C := RX2) (T := TX2) (N := 1) (n := 1) hg in2 (hg _ fo2.choose_spec.choose_spec.2.2.2.2.1)
  obtain ⟨c4, i4, k4⟩ := u_known (C := RX4) (T := TX4) (N := 4) (n := 4) hg in4 (hg _ fo4.choose_spec.choose_spec.2.2.2.2.1)
  obtain ⟨c5, i5, k5⟩ := u_known (C := RX5) (T := TX5) (N := 5) (n := 5) hg in5 (hg _ fo5.choose_spec.choose_spec.2.2.2.2.1)
  obtain ⟨c6, i6, k6⟩ := u_known (C := RX6) (T := TX6) (N := 1) (n := 1) hg in6 (hg _ fo6.choose_spec.choose_spec.2.2.2.2.1)
  obtain ⟨c7, i7, k7⟩ := u_known (C := RX7) (T := TX7) (N := 4) (n := 4) hg in7 (hg _ fo7.choose_spec.choose_spec.2.2.2.2.1)
  obtain ⟨c8, i8, k8⟩ := u_known (C := RX8) (T := TX8) (N := 7) (n := 7) hg in8 (hg _ fo8.choose_spec.choose_spec.2.2.2.2.1)
  obtain ⟨c9, i9, k9⟩ := u_known (C := RX9) (T := TX9) (N := 8) (n := 8) hg in9 (hg _ fo9.choose_spec.choose_spec.2.2.2.2.1)
  obtain ⟨c10, i10, k10⟩ := u_known (C := RX10) (T := TX10) (N := 16) (n := 16) hg in10 (hg _ fo10.choose_spec.choose_spec.2.2.2.2.1)
  obtain ⟨c11, i11, k11⟩ := u_known (C := RX11) (T := TX11) (N := 19) (n := 19) hg in11 (hg _ fo11.choose_spec.choose_spec.2.2.2.2.1)
  obtain ⟨cI, kI, mI, hI1, hI2, hI3⟩ := Cond.arrayClass_spec (hg _ wAI)
  obtain ⟨cZ, kZ, mZ, hZ1, hZ2, hZ3⟩ := Cond.arrayClass_spec (hg _ wAZ)
  refine ⟨(fun k => [c0, c1, c2, c4, c4, c5, c6, c7, c8, c9, c10, c11].getD k c0, fun k => [i0, i1, i2, i4, i4, i5, i6, i7, i8, i9, i10, i11].getD k i0), (cI, cZ), fun k q hq => ?_, fun k q hq => ?_⟩
  · rcases k with _ | _ | _ | _ | _ | _ | _ | _ | _ | _ | _ | _ | k
    · cases hq; exact k0
    · cases hq; exact k1
    · cases hq; exact k2
    · cases hq; exact ⟨fun k hk => absurd hk (Nat.not_lt_zero k), k4.2⟩
    · cases hq; exact k4
    · cases hq; exact k5
    · cases hq; exact k6
    · cases hq; exact k7
    · cases hq; exact k8
    · cases hq; exact k9
    · cases hq; exact k10
    · cases hq; exact k11
    · exact nomatch hq
  · rcases k with _ | _ | k
    · cases hq; exact ⟨fun n z => ⟨fun k h => (by cases h), kI, hI2, mI, hI3⟩, hI1⟩
    · cases hq; exact ⟨fun n z => ⟨fun k h => (by cases h), kZ, hZ2, mZ, hZ3⟩, hZ1⟩
    · exact nomatch hq
/-- the first memory of the law: the script of L ints xs, class and reference new -/
def s0 (L : Nat) (xs : Nat → Int32) : Mem := (fun c k j => match c with
  | 24 => match k with
    | 0 => xs j
    | _ => nI L
  | _ => (m0V true).1 c k j, (m0V true).2)
def klL : List (Nat × Nat) := [(10, 0), (9, 0), (7, 0), (20, 0), (7, 1), (20, 1), (7, 2), (20, 2), (7, 3), (20, 3), (7, 4), (20, 4), (7, 5), (20, 5), (7, 6), (20, 6), (4, 0), (9, 1), (7, 7), (20, 7), (7, 8), (20, 8), (7, 9), (20, 9), (7, 10), (20, 10), (7, 11), (20, 11), (7, 12), (20, 12), (7, 13), (20, 13), (4, 1), (9, 2), (7, 14), (20, 14), (7, 15), (20, 15), (7, 16), (20, 16), (7, 17), (20, 17), (7, 18), (20, 18), (7, 19), (20, 19), (7, 20), (20, 20), (4, 2), (9, 3), (7, 21), (20, 21), (7, 22), (20, 22), (7, 23), (20, 23), (7, 24), (20, 24), (7, 25), (20, 25), (7, 26), (20, 26), (7, 27), (20, 27), (4, 3), (4, 4), (6, 0), (21, 0), (8, 0), (6, 1), (21, 1), (6, 2), (21, 2), (1, 0), (5, 0), (6, 3), (21, 3), (6, 4), (21, 4), (6, 5), (21, 5), (2, 0), (6, 6), (21, 6), (0, 0), (6, 7), (21, 7), (11, 0), (22, 0), (22, 1), (22, 2), (22, 3), (22, 4), (22, 5), (22, 6), (22, 7), (22, 8), (22, 9), (22, 10), (22, 11)]
theorem clL : clB klL = true := by decide +kernel
def adL (b q0 q1 : Nat) (u : Nat → Nat → Nat) (u1 a12 a23 : Nat → Nat) : AdT := fun c k => match c with
  | 0 => u 4 10
  | 1 => u 4 7
  | 2 => u 4 9
  | 4 => match k with
    | 4 => u 4 4
    | _ => u k 14
  | 5 => u 4 8
  | 6 => match k with
    | 0 => u 4 5
    | 1 => u 6 0
    | 2 => u 6 2
    | 3 => u 7 0
    | 4 => u 7 2
    | 5 => u 7 4
    | 6 => u 8 0
    | _ => u 9 0
  | 7 => u (k / 7) (2 * (k % 7))
  | 8 => u 4 6
  | 9 => u 4 k
  | 10 => q0
  | 11 => q1
  | 12 => a12 k
  | 20 => u (k / 7) (2 * (k % 7) + 1)
  | 21 => match k with
    | 0 => u 5 0
    | 1 => u 6 1
    | 2 => u 6 3
    | 3 => u 7 1
    | 4 => u 7 3
    | 5 => u 7 5
    | 6 => u 8 1
    | _ => u 9 1
  | 22 => u1 k
  | 23 => a23 k
  | _ => b
abbrev XL (Y : K0) (b q0 q1 : Nat) (u : Nat → Nat → Nat) (u1 a12 a23 : Nat → Nat) (L : Nat) (xs : Nat → Int32) : Kx := (Y.1, Y.2, adL b q0 q1 u u1 a12 a23, xs, L, klL)
set_option maxRecDepth 100000 in
set_option maxHeartbeats 8000000 in
theorem wl_XL (Y : K0) (b q0 q1 : Nat) (u : Nat → Nat → Nat) (u1 a12 a23 : Nat → Nat) (L : Nat) (xs : Nat → Int32) : (([] ++ bld10 Y q0 a12 a23 u) ++ bld11 Y q1 a12 a23 u1) = wl (XL Y b q0 q1 u u1 a12 a23 L xs) (s0 L xs) := rfl

set_option maxRecDepth 20000 in
set_option maxHeartbeats 4000000 in
/-- the law from its entry, over the pure equality -/
theorem whole_open {p : Program} {e : Env} {s : State} {m : MethodId} {below : List Frame} {meth : Method} {c : Code} (l : Launch) {b L : Nat} {xs : Nat → Int32} (hL : L ≤ 384) (C0 : lw_At p s m meth c b L xs) (hpure : ∃ S, fL_law (s0 L xs) = some (1, S)) : W p l e room_1 s m #[Value.ref b] below meth c s.heap [] 0 0 (lw_Z below #[Value.ref b] s) (entryFrame m ([Value.ref b] : List Value).toArray 4) := by
  obtain ⟨hx, hb, hr, hml, hown, hts, hX, hbl, hlocks, hgv⟩ := id C0
  obtain ⟨S, hSp⟩ := hpure
  have hg : ∀ w ∈ gt, w.before #[Value.ref b] s = true := fun w hw => hts w (List.mem_filter.mp hw).1
  obtain ⟨a12, a23, hSY⟩ := strings_at hts hgv
  have hNX := nests_at hts
  obtain ⟨D, K, hK⟩ := kn_at hts
  have F : CF (D, K) mL_law p s m #[Value.ref b] c := ⟨hx, hb, hml, hown, hg, hK⟩
  have hA : ∀ q : Nat, s.heap.size ≤ q → (fun q : Nat => s.heap.size ≤ q) q := fun _ h => h
  have hS : va_S (fun q : Nat => s.heap.size ≤ q) s.heap s.heap [] := va_S.rf
  have hP : va_P (D, K).1 classes [] s.heap := fun k q h => nomatch h
  have hD : va_D (fun q : Nat => s.heap.size ≤ q) [] := ⟨fun i j p q h => (nomatch h), fun k q h => (nomatch h)⟩
  have hl := lv_entry ([.ref b]) (n := 4) (Nat.le_of_ble_eq_true rfl)
  rw [lg_entry_eq]
  generalize (lg_sl ([.ref b]) ++ List.replicate (4 - (lg_sl ([.ref b])).length) Slot.unset).toArray = ls at hl ⊢
  have hl : lv_has ls 4 [(0, .ref b)] := hl
  have hsub : ∀ (w0 : va_W) (q : Nat) (ob : va_E) (H : Heap) (locs : List Loc), va_D (fun q : Nat => s.heap.size ≤ q) (w0 ++ [(q, ob)]) → va_S (fun q : Nat => s.heap.size ≤ q) s.heap H locs → ∀ x, CtA q H.size x → s.heap.size ≤ x := by
    intro w0 q ob H locs hD hS x hx
    rcases hx with rfl | h
    · exact hD.2 w0.length (x, ob) (by simp)
    · exact Nat.le_trans hS.1 h
  refine nO (l := l) F fo10 wkL7 hP hD hS hA (Nat.le_of_ble_eq_true rfl) (Nat.le_of_ble_eq_true rfl) DL_0 (fun q0 H hP hD hS => ?_)
  refine lv_dup F.1 F.2.1 DL_3 rfl ?_
  refine cons_go (runI (As := []) (rest := [.ref q0]) ⟨F.1, F.2.1, F.2.2.1, F.2.2.2.1, F.2.2.2.2.1⟩ ciL9 (c10_init l (D, K) q0 H.size a12 a23) rfl ⟨(Nat.le_of_ble_eq_true rfl), (Nat.le_of_ble_eq_true rfl)⟩ (fun _ _ _ _ h => ⟨SY.same rfl h.1, NX.same rfl h.2⟩) (fun U hU hW => ⟨by rw [hU]; exact SY.warm hW (hSY.down hS (hsub _ _ _ _ _ hD hS)), NX.warm hW hNX⟩) (P_last hP) F.2.2.2.2.2 hl.1 (Nat.le_of_ble_eq_true rfl) DL_4 ⟨(Nat.le_of_ble_eq_true rfl), (Nat.le_of_ble_eq_true rfl)⟩) hP hD hS hA (fun u0 H locs hP hD hS => ?_)
  refine lv_astore_n (lv' := [(1, .ref q0), (0, .ref b)]) F.1 F.2.1 DL_7 rfl hl (by decide) rfl (fun ls hl => ?_)
  refine nO (l := l) F fo11 wkL10 hP hD hS hA (Nat.le_of_ble_eq_true rfl) (Nat.le_of_ble_eq_true rfl) DL_8 (fun q1 H hP hD hS => ?_)
  refine lv_dup F.1 F.2.1 DL_11 rfl ?_
  refine cons_go (runI (As := []) (rest := [.ref q1]) ⟨F.1, F.2.1, F.2.2.1, F.2.2.2.1, F.2.2.2.2.1⟩ ciL12 (c11_init l (D, K) q1 H.size a12 a23) rfl ⟨(Nat.le_of_ble_eq_true rfl), (Nat.le_of_ble_eq_true rfl)⟩ (fun _ _ _ _ h => SY.same rfl h) (fun U hU hW => by show SY a12 a23 (CtA q1 H.size) U U.heap; rw [hU]; exact SY.warm hW (hSY.down hS (hsub _ _ _ _ _ hD hS))) (P_last hP) F.2.2.2.2.2 hl.1 (Nat.le_of_ble_eq_true rfl) DL_12 ⟨(Nat.le_of_ble_eq_true rfl), (Nat.le_of_ble_eq_true rfl)⟩) hP hD hS hA (fun u1 H locs hP hD hS => ?_)
  refine lv_astore_n (lv' := [(2, .ref q1), (1, .ref q0), (0, .ref b)]) F.1 F.2.1 DL_15 rfl hl (by decide) rfl (fun ls hl => ?_)
  rw [wl_XL (D, K) b q0 q1 u0 u1 a12 a23 L xs] at hP hD
  refine EL_law hSp (XL (D, K) b q0 q1 u0 u1 a12 a23 L xs) p l e room_1 s m #[Value.ref b] below meth c (fun q : Nat => s.heap.size ≤ q) _ _ _ ⟨hx, hb, hml, hown, hg, hK, ⟨cl_of clL, ap_of hD⟩, in_ofD hD, hSY, fun _ => ⟨hX, hbl, Nat.not_le.mpr hbl, hL⟩, (Nat.le_of_ble_eq_true rfl), (Nat.le_of_ble_eq_true rfl), (Nat.le_of_ble_eq_true rfl), (Nat.le_of_ble_eq_true rfl)⟩ (fun pc H locs ls hd _ _ hW hS => ?_) (fun a ha => ?_) (fun a ha => nomatch ha) H locs ls ⟨hl.1, hl.2.1, fun i a hi => ?_⟩ ⟨hP, rfl, rfl⟩ hS
  · exact va_forget (fun q hq => hS.2.2 q hq) (W.widen (Nat.le_of_ble_eq_true rfl) (Nat.le_of_ble_eq_true rfl) (lw_ret hx hb hr hlocks hd))
  · rcases List.mem_cons.mp ha with h | ha
    · cases h
      show (if (24 : Nat) ∈ kds then ((24 : Nat), (0 : Nat)) ∈ klL else (0 : Nat) < cnt 24)
      rw [if_neg (by decide)]
      decide
    rcases List.mem_cons.mp ha with h | ha
    · cases h
      show (if (10 : Nat) ∈ kds then ((10 : Nat), (0 : Nat)) ∈ klL else (0 : Nat) < cnt 10)
      rw [if_pos (by decide)]
      decide
    rcases List.mem_cons.mp ha with h | ha
    · cases h
      show (if (11 : Nat) ∈ kds then ((11 : Nat), (0 : Nat)) ∈ klL else (0 : Nat) < cnt 11)
      rw [if_pos (by decide)]
      decide
    rcases List.mem_cons.mp ha with h | ha
    · cases h
    · exact nomatch ha
  · rcases i with _ | _ | _ | _ | i
    · cases hi
      exact lv_at hl 2 rfl
    · cases hi
      exact lv_at hl 1 rfl
    · cases hi
      exact lv_at hl 0 rfl
    · cases hi
    · exact nomatch hi
