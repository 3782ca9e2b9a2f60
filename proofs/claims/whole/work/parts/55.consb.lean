abbrev m9_init : MI := (yX9_init, cX9_init, 1, none, 3, 72)
theorem mok9_init : MOK m9_init := ⟨mt1 (j := 31) rfl rfl, by decide +kernel, mt1 (j := 2) rfl rfl, ⟨by decide +kernel, by decide +kernel⟩, by decide +kernel⟩
theorem D9_0 : decode cX9_init 0 = .ok (.aload_n 0, 1) := by decide +kernel
theorem D9_1 : decode cX9_init 1 = .ok (.invokespecial 3, 3) := by decide +kernel
theorem D9_4 : decode cX9_init 4 = .ok (.aload_n 0, 1) := by decide +kernel
theorem D9_5 : decode cX9_init 5 = .ok (.new 9, 3) := by decide +kernel
theorem D9_8 : decode cX9_init 8 = .ok (.dup, 1) := by decide +kernel
theorem D9_9 : decode cX9_init 9 = .ok (.bipush 6, 2) := by decide +kernel
theorem D9_11 : decode cX9_init 11 = .ok (.iconst 2, 1) := by decide +kernel
theorem D9_12 : decode cX9_init 12 = .ok (.invokespecial 11, 3) := by decide +kernel
theorem D9_15 : decode cX9_init 15 = .ok (.putfield 14, 3) := by decide +kernel
theorem D9_18 : decode cX9_init 18 = .ok (.aload_n 0, 1) := by decide +kernel
theorem D9_19 : decode cX9_init 19 = .ok (.new 9, 3) := by decide +kernel
theorem D9_22 : decode cX9_init 22 = .ok (.dup, 1) := by decide +kernel
theorem D9_23 : decode cX9_init 23 = .ok (.bipush 6, 2) := by decide +kernel
theorem D9_25 : decode cX9_init 25 = .ok (.iconst 3, 1) := by decide +kernel
theorem D9_26 : decode cX9_init 26 = .ok (.invokespecial 11, 3) := by decide +kernel
theorem D9_29 : decode cX9_init 29 = .ok (.putfield 20, 3) := by decide +kernel
theorem D9_32 : decode cX9_init 32 = .ok (.aload_n 0, 1) := by decide +kernel
theorem D9_33 : decode cX9_init 33 = .ok (.new 9, 3) := by decide +kernel
theorem D9_36 : decode cX9_init 36 = .ok (.dup, 1) := by decide +kernel
theorem D9_37 : decode cX9_init 37 = .ok (.bipush 6, 2) := by decide +kernel
theorem D9_39 : decode cX9_init 39 = .ok (.iconst 1, 1) := by decide +kernel
theorem D9_40 : decode cX9_init 40 = .ok (.invokespecial 11, 3) := by decide +kernel
theorem D9_43 : decode cX9_init 43 = .ok (.putfield 23, 3) := by decide +kernel
theorem D9_46 : decode cX9_init 46 = .ok (.aload_n 0, 1) := by decide +kernel
theorem D9_47 : decode cX9_init 47 = .ok (.new 9, 3) := by decide +kernel
theorem D9_50 : decode cX9_init 50 = .ok (.dup, 1) := by decide +kernel
theorem D9_51 : decode cX9_init 51 = .ok (.iconst 5, 1) := by decide +kernel
theorem D9_52 : decode cX9_init 52 = .ok (.iconst 2, 1) := by decide +kernel
theorem D9_53 : decode cX9_init 53 = .ok (.invokespecial 11, 3) := by decide +kernel
theorem D9_56 : decode cX9_init 56 = .ok (.putfield 26, 3) := by decide +kernel
theorem D9_59 : decode cX9_init 59 = .ok (.aload_n 0, 1) := by decide +kernel
theorem D9_60 : decode cX9_init 60 = .ok (.new 9, 3) := by decide +kernel
theorem D9_63 : decode cX9_init 63 = .ok (.dup, 1) := by decide +kernel
theorem D9_64 : decode cX9_init 64 = .ok (.bipush 6, 2) := by decide +kernel
theorem D9_66 : decode cX9_init 66 = .ok (.iconst 5, 1) := by decide +kernel
theorem D9_67 : decode cX9_init 67 = .ok (.invokespecial 11, 3) := by decide +kernel
theorem D9_70 : decode cX9_init 70 = .ok (.putfield 29, 3) := by decide +kernel
theorem D9_73 : decode cX9_init 73 = .ok (.aload_n 0, 1) := by decide +kernel
theorem D9_74 : decode cX9_init 74 = .ok (.new 9, 3) := by decide +kernel
theorem D9_77 : decode cX9_init 77 = .ok (.dup, 1) := by decide +kernel
theorem D9_78 : decode cX9_init 78 = .ok (.bipush 6, 2) := by decide +kernel
theorem D9_80 : decode cX9_init 80 = .ok (.iconst 4, 1) := by decide +kernel
theorem D9_81 : decode cX9_init 81 = .ok (.invokespecial 11, 3) := by decide +kernel
theorem D9_84 : decode cX9_init 84 = .ok (.putfield 32, 3) := by decide +kernel
theorem D9_87 : decode cX9_init 87 = .ok (.aload_n 0, 1) := by decide +kernel
theorem D9_88 : decode cX9_init 88 = .ok (.new 9, 3) := by decide +kernel
theorem D9_91 : decode cX9_init 91 = .ok (.dup, 1) := by decide +kernel
theorem D9_92 : decode cX9_init 92 = .ok (.bipush 8, 2) := by decide +kernel
theorem D9_94 : decode cX9_init 94 = .ok (.iconst 4, 1) := by decide +kernel
theorem D9_95 : decode cX9_init 95 = .ok (.invokespecial 11, 3) := by decide +kernel
theorem D9_98 : decode cX9_init 98 = .ok (.putfield 35, 3) := by decide +kernel
theorem D9_101 : decode cX9_init 101 = .ok (.aload_n 0, 1) := by decide +kernel
theorem D9_102 : decode cX9_init 102 = .ok (.new 38, 3) := by decide +kernel
theorem D9_105 : decode cX9_init 105 = .ok (.dup, 1) := by decide +kernel
theorem D9_106 : decode cX9_init 106 = .ok (.invokespecial 40, 3) := by decide +kernel
theorem D9_109 : decode cX9_init 109 = .ok (.putfield 41, 3) := by decide +kernel
theorem D9_112 : decode cX9_init 112 = .ok (.aload_n 0, 1) := by decide +kernel
theorem D9_113 : decode cX9_init 113 = .ok (.invokevirtual 45, 3) := by decide +kernel
theorem D9_116 : decode cX9_init 116 = .ok (.return_, 1) := by decide +kernel
theorem fo9 : FO 9 RX9 8 [.null, .null, .null, .null, .null, .null, .null, .null] := ⟨TX9, tyX9, rfl, in9, tyX9_ok, fun j hj => by rcases (show j = 0 ∨ j = 1 ∨ j = 2 ∨ j = 3 ∨ j = 4 ∨ j = 5 ∨ j = 6 ∨ j = 7 by omega) with rfl | rfl | rfl | rfl | rfl | rfl | rfl | rfl <;> rfl, mt1 (j := 28) rfl rfl, mt1 (j := 2) rfl rfl⟩
theorem wo9 : Cond.methodLink RX9 3 objectInit ∈ gt := mt1 (j := 32) rfl rfl
theorem wk9_9 : Cond.classLink RX9 9 RX7 ∈ gt := mt1 (j := 33) rfl rfl
theorem wf9_14 : Cond.fieldLink RX9 14 RX9 "storms" "LSteepleStruck$Table;" ∈ gt := mt1 (j := 109) rfl rfl
theorem wf9_20 : Cond.fieldLink RX9 20 RX9 "things" "LSteepleStruck$Table;" ∈ gt := mt1 (j := 111) rfl rfl
theorem wf9_23 : Cond.fieldLink RX9 23 RX9 "parts" "LSteepleStruck$Table;" ∈ gt := mt1 (j := 114) rfl rfl
theorem wf9_26 : Cond.fieldLink RX9 26 RX9 "seen" "LSteepleStruck$Table;" ∈ gt := mt1 (j := 118) rfl rfl
theorem wf9_29 : Cond.fieldLink RX9 29 RX9 "notes" "LSteepleStruck$Table;" ∈ gt := mt1 (j := 120) rfl rfl
theorem wf9_32 : Cond.fieldLink RX9 32 RX9 "marks" "LSteepleStruck$Table;" ∈ gt := mt1 (j := 122) rfl rfl
theorem wf9_35 : Cond.fieldLink RX9 35 RX9 "earlier" "LSteepleStruck$Table;" ∈ gt := mt1 (j := 124) rfl rfl
theorem wk9_38 : Cond.classLink RX9 38 RX4 ∈ gt := mt1 (j := 56) rfl rfl
theorem wf9_41 : Cond.fieldLink RX9 41 RX9 "now" "LSteepleStruck$Moment;" ∈ gt := mt1 (j := 126) rfl rfl
theorem cv9_45 : CV RX9 45 m9_begin 0 9 := ⟨mok9_begin, mt1 (j := 85) rfl rfl, mt1 (j := 86) rfl rfl, cv10_86.2.2.2.1, by decide +kernel, by decide, by decide +kernel⟩
/-! cells that refer: by one count -/
theorem fav_ref {x : Int32} {lo : Int64} {c k j : Nat} {q : Nat × Nat} (h : favW x lo c k j = .inr (.inr q)) : ∃ j', j' < 20 ∧ favW 0 0 c k j' = .inr (.inr q) := by
  obtain ⟨j0, hj0⟩ : ∃ j0, j0 = j := ⟨j, rfl⟩
  rcases c with _ | _ | _ | _ | _ | _ | _ | _ | _ | _ | _ | _ | c <;> rcases j with _ | _ | _ | _ | _ | _ | _ | _ | _ | _ | _ | _ | _ | _ | _ | _ | _ | _ | _ | j <;> first
    | exact ⟨j0, by omega, by rw [hj0]; exact h⟩
    | exact ⟨19, by decide, h⟩
    | exact (nomatch (show (Sum.inl x : AV) = _ from h))
    | exact (nomatch (show (Sum.inr (Sum.inl lo) : AV) = _ from h))
def clB (kl : List (Nat × Nat)) : Bool := kl.all (fun q => decide (q.1 ∈ kds)) && (decide kl.Nodup && kl.all fun q => (List.range 20).all fun j => match favW 0 0 q.1 q.2 j with | .inr (.inr r) => decide (r.1 ∈ kds) && decide (r ∈ kl) | _ => true)
theorem cl_of {X : Kx} (h : clB (Klx X) = true) : Cl X := by
  unfold clB at h
  simp only [Bool.and_eq_true] at h
  obtain ⟨h1, h2, h3⟩ := h
  refine ⟨fun q hq => of_decide_eq_true (List.all_eq_true.mp h1 q hq), of_decide_eq_true h2, fun q hq x lo j => ?_⟩
  cases hf : favW x lo q.1 q.2 j with
  | inl x => trivial
  | inr r =>
    cases r with
    | inl y => trivial
    | inr r =>
      obtain ⟨j', hj, hr⟩ := fav_ref hf
      have := List.all_eq_true.mp (List.all_eq_true.mp h3 q hq) j' (List.mem_range.mpr hj)
      rw [hr] at this
      simp only [Bool.and_eq_true, decide_eq_true_eq] at this
      show (if r.1 ∈ kds then r ∈ Klx X else r.2 < cnt r.1)
      rw [if_pos this.1]
      exact this.2
theorem ap_of {X : Kx} {σ : Mem} {A : Nat → Prop} (hD : va_D A (wl X σ)) : Ap X := by
  intro q hq r hr h
  obtain ⟨i, hi⟩ := List.getElem?_of_mem hq
  obtain ⟨j, hj⟩ := List.getElem?_of_mem hr
  have e := hD.1 i j _ _ (show (wl X σ)[i]? = some _ by unfold wl; rw [List.getElem?_map, hi]; rfl) (show (wl X σ)[j]? = some _ by unfold wl; rw [List.getElem?_map, hj]; rfl) h
  subst e
  exact Option.some.inj (hi.symm.trans hj)
theorem in_ofD {X : Kx} {σ : Mem} {A : Nat → Prop} (hD : va_D A (wl X σ)) : ∀ q ∈ Klx X, A (Kad X q.1 q.2) := by
  intro q hq
  obtain ⟨i, hi⟩ := List.getElem?_of_mem hq
  exact hD.2 i _ (show (wl X σ)[i]? = some (Kad X q.1 q.2, acell X σ q.1 q.2) by unfold wl; rw [List.getElem?_map, hi]; rfl)
/-! the strings, apart from the cells -/
def SY (a12 a23 : Nat → Nat) (A : Nat → Prop) (s : State) (H : Heap) : Prop := vk_S 6 lenJS bytJS a12 a23 A s H ∧ (va_Z "java/lang/String" "COMPACT_STRINGS" "Z" (.int 1) A s H ∧ va_Zq "jdk/internal/util/Preconditions" "SIOOBE_FORMATTER" "Ljava/util/function/BiFunction;" A s H) ∧ (∀ i, i < 6 → vk_R RX8 (138 + 2 * i) (txtJS.getD i "") (a12 i) s) ∧ va_Nw (.methodLinkNest RX8 88 yX10_within "SteepleStruck") s
theorem SY.same {a12 a23 : Nat → Nat} {A : Nat → Prop} {u U : State} {H : Heap} (hv : u.vm = U.vm) (h : SY a12 a23 A u H) : SY a12 a23 A U H :=
  have al : u.vm.Alike U.vm := by rw [← hv]; exact Vm.Alike.refl _
  ⟨h.1.moved al, ⟨h.2.1.1.moved al, h.2.1.2.moved al⟩, fun i hi => vk_R.same hv.symm (h.2.2.1 i hi), va_Nw.same rfl hv h.2.2.2⟩
theorem SY.warm {a12 a23 : Nat → Nat} {A : Nat → Prop} {s U : State} {H : Heap} (hW : s.WarmedH U.vm) (h : SY a12 a23 A s H) : SY a12 a23 A U H :=
  ⟨h.1.moved hW.alike, ⟨h.2.1.1.moved hW.alike, h.2.1.2.moved hW.alike⟩, fun i hi => vk_R.warm hW (h.2.2.1 i hi), va_Nw.warmM hW h.2.2.2⟩
theorem SY.down {a12 a23 : Nat → Nat} {A B : Nat → Prop} {s : State} {H : Heap} {locs : List Loc} (h : SY a12 a23 A s s.heap) (hS : va_S A s.heap H locs) (hAB : ∀ q, B q → A q) : SY a12 a23 B s H :=
  ⟨(h.1.kept hS.2.1).narrow hAB, ⟨(h.2.1.1.kept hS.2.1).narrow hAB, (h.2.1.2.kept hS.2.1).narrow hAB⟩, h.2.2⟩
/-- the first state of class and reference, and the village before its first begin -/
def m0V (b : Bool) : Mem := (fun c k j => match c with
  | 7 => match j with
    | 0 => [6, 6, 6, 5, 6, 6, 8].getD (k % 7) 0
    | 1 => [2, 3, 1, 2, 5, 4, 4].getD (k % 7) 0
    | 3 => match b, k % 7 with
      | true, 0 => 6
      | _, _ => 0
    | _ => 0
  | _ => 0, fun c k j => match c, k, j with
  | 1, 0, 1 => 1
  | 11, 0, 5 => 1
  | _, _, _ => 0)
abbrev klV : List (Nat × Nat) := [(9, 0), (7, 0), (20, 0), (7, 1), (20, 1), (7, 2), (20, 2), (7, 3), (20, 3), (7, 4), (20, 4), (7, 5), (20, 5), (7, 6), (20, 6), (4, 0)]
def adV (h0 : Nat) (u a12 a23 : Nat → Nat) : AdT := fun c k => match c with
  | 9 => h0
  | 7 => u (2 * k)
  | 20 => u (2 * k + 1)
  | 4 => u 14
  | 12 => a12 k
  | 23 => a23 k
  | _ => 0
abbrev XV (Y : K0) (h0 : Nat) (a12 a23 : Nat → Nat) (u : Nat → Nat) : Kx := (Y.1, Y.2, adV h0 u a12 a23, fun _ => 0, 0, klV)
def bld9 (Y : K0) (h0 : Nat) (a12 a23 : Nat → Nat) (u : Nat → Nat) : va_W := wl (XV Y h0 a12 a23 u) (m0V true)
theorem m0V_bgn : ((fun c k j => bgnM 0 (m0V false) c k j, (m0V false).2) : Mem) = (fun c k j => if k < 7 then (m0V true).1 c k j else (m0V false).1 c k j, (m0V true).2) := by
  refine mem_ext (fun c k j => ?_) rfl
  show bgnM 0 (m0V false) c k j = _
  unfold bgnM
  by_cases h1 : c = 7
  · subst h1
    by_cases h3 : j = 3
    · subst h3
      rcases k with _ | _ | _ | _ | _ | _ | _ | k
      · rfl
      · rfl
      · rfl
      · rfl
      · rfl
      · rfl
      · rfl
      · rw [if_neg (by omega), if_neg (by omega), if_neg (by omega), if_neg (by omega)]
        exact (if_neg (t := (m0V true).1 7 (k + 7) 3) (show ¬ k + 7 < 7 by omega)).symm
    · rw [if_neg (by omega), if_neg (by omega), if_neg (by omega), if_neg (by omega)]
      have : (m0V true).1 7 k j = (m0V false).1 7 k j := by
        rcases j with _ | _ | _ | _ | j
        · rfl
        · rfl
        · rfl
        · exact absurd rfl h3
        · rfl
      show _ = if k < 7 then (m0V true).1 7 k j else (m0V false).1 7 k j
      rw [this, ite_self]
  · have e : ∀ b, (m0V b).1 c k j = 0 := fun b => by
      show (match c with | 7 => _ | _ => (0 : Int32)) = 0
      split
      · exact absurd rfl h1
      · rfl
    simp only [e]
    simp [h1]
theorem goV : Go m9_init 112 [some (ar 9 0)] [] (m0V false) none (fun c k j => if k < 7 then (m0V true).1 c k j else (m0V false).1 c k j, (m0V true).2) := by
  refine g_aload_n ⟨D9_112, rfl⟩ rfl ?_
  refine g_V0n (σ1 := _) ⟨D9_113, rfl⟩ cv9_45 (E9_begin (by rw [begin_ok rfl rfl, m0V_bgn])) rfl (fun o2 => ?_)
  exact g_retE ⟨D9_116, rfl⟩ trivial rfl rfl
theorem clV : clB klV = true := by decide +kernel
theorem ci9_11 : CI RX9 11 m7_init 2 := ⟨mok7_init, mt1 (j := 35) rfl rfl, mt1 (j := 36) rfl rfl, by decide +kernel, rfl, rfl⟩
theorem cin4 : CIN m4_init 0 := ⟨mok4_init, mt1 (j := 59) rfl rfl, by decide +kernel, rfl, rfl⟩
theorem cin8 : CIN m8_init 0 := ⟨mok8_init, mt1 (j := 163) rfl rfl, by decide +kernel, rfl, rfl⟩
theorem cin1 : CIN m1_init 0 := ⟨mok1_init, mt1 (j := 193) rfl rfl, by decide +kernel, rfl, rfl⟩
theorem cin5 : CIN m5_init 0 := ⟨mok5_init, mt1 (j := 206) rfl rfl, by decide +kernel, rfl, rfl⟩
theorem cin2 : CIN m2_init 0 := ⟨mok2_init, mt1 (j := 230) rfl rfl, by decide +kernel, rfl, rfl⟩
theorem cin0 : CIN m0_init 0 := ⟨mok0_init, mt2 (j := 2) rfl rfl, by decide +kernel, rfl, rfl⟩
theorem CtA_sub {h0 sz q : Nat} {s : State} {H : Heap} {locs : List Loc} {w0 : va_W} {ob : va_E} (hD : va_D (CtA h0 sz) (w0 ++ [(q, ob)])) (hS : va_S (CtA h0 sz) s.heap H locs) (hsz : s.heap.size = sz) : ∀ x, CtA q H.size x → CtA h0 sz x := by
  rintro x (rfl | h)
  · exact hD.2 w0.length (x, ob) (by simp)
  · exact Or.inr (by have := hS.1; omega)
abbrev ex9 (a12 a23 : Nat → Nat) (h0 sz : Nat) : State → Prop := fun U => SY a12 a23 (CtA h0 sz) U U.heap ∧ va_Nw (.methodLinkNest RX9 40 yX4_init "SteepleStruck") U
set_option maxRecDepth 20000 in
set_option maxHeartbeats 4000000 in
theorem c9_init (l : Launch) (Y : K0) (h0 sz : Nat) (a12 a23 : Nat → Nat) : Met l m9_init.1 (wsM m9_init) (rmC m9_init 15 164) (CtP Y (ex9 a12 a23 h0 sz) h0 9 [.null, .null, .null, .null, .null, .null, .null, .null] [] sz) (CtQ Y h0 sz (bld9 Y h0 a12 a23)) 15 164 (CtA h0 sz) := by
  refine cons_of l mok9_init rfl rfl (Nat.le_of_ble_eq_true rfl) ?_
  intro p e s m args below meth c F hnm hex hsz ret ls hl hP hD hS hA
  refine lv_aload_n F.1 F.2.1 D9_0 rfl (lv_at hl 0 rfl) ?_
  refine oI F wo9 wIO wCO hl.1 rfl D9_1 ⟨(Nat.le_of_ble_eq_true rfl), (Nat.le_of_ble_eq_true rfl)⟩ ?_
  refine lv_aload_n F.1 F.2.1 D9_4 rfl (lv_at hl 0 rfl) ?_
  refine nO F fo7 wk9_9 hP hD hS hA (Nat.le_of_ble_eq_true rfl) (Nat.le_of_ble_eq_true rfl) D9_5 (fun q0 H hP hD hS => ?_)
  refine lv_dup F.1 F.2.1 D9_8 rfl ?_
  refine lv_bipush (v := 6) F.1 F.2.1 D9_9 (by decide) ?_
  refine lv_iconst (v := 2) F.1 F.2.1 D9_11 (by decide) ?_
  refine cons_go (runI (As := [.int 6, .int 2]) (rest := [.ref q0, .ref h0]) ⟨F.1, F.2.1, F.2.2.1, F.2.2.2.1, F.2.2.2.2.1⟩ ci9_11 (c7_init l Y q0 H.size (fun _ => True) 6 2 12 (by decide) (by decide)) rfl ⟨(Nat.le_of_ble_eq_true rfl), (Nat.le_of_ble_eq_true rfl)⟩ (fun _ _ _ _ h => h) (fun _ _ _ => trivial) (P_last hP) F.2.2.2.2.2 hl.1 (Nat.le_of_ble_eq_true rfl) D9_12 ⟨(Nat.le_of_ble_eq_true rfl), (Nat.le_of_ble_eq_true rfl)⟩) hP hD hS hA (fun u0 H locs hP hD hS => ?_)
  refine pF (k := 0) (ty := .object "SteepleStruck$Table") F hnm rfl in9 tyX9_ok nmX9 (Nat.le_of_ble_eq_true rfl) wf9_14 rfl rfl (by decide +kernel) rfl rfl (Nat.le_of_ble_eq_true rfl) hP hD hS D9_15 (fun H locs hP hD hS => ?_)
  have hP : va_P Y.1 classes ((h0, .inr (9, [.ref q0, .null, .null, .null, .null, .null, .null, .null])) :: ([] ++ bld7 Y 6 2 12 q0 u0)) H := hP
  have hD : va_D (CtA h0 sz) ((h0, .inr (9, [.ref q0, .null, .null, .null, .null, .null, .null, .null])) :: ([] ++ bld7 Y 6 2 12 q0 u0)) := hD
  refine lv_aload_n F.1 F.2.1 D9_18 rfl (lv_at hl 0 rfl) ?_
  refine nO F fo7 wk9_9 hP hD hS hA (Nat.le_of_ble_eq_true rfl) (Nat.le_of_ble_eq_true rfl) D9_19 (fun q1 H hP hD hS => ?_)
  refine lv_dup F.1 F.2.1 D9_22 rfl ?_
  refine lv_bipush (v := 6) F.1 F.2.1 D9_23 (by decide) ?_
  refine lv_iconst (v := 3) F.1 F.2.1 D9_25 (by decide) ?_
  refine cons_go (runI (As := [.int 6, .int 3]) (rest := [.ref q1, .ref h0]) ⟨F.1, F.2.1, F.2.2.1, F.2.2.2.1, F.2.2.2.2.1⟩ ci9_11 (c7_init l Y q1 H.size (fun _ => True) 6 3 18 (by decide) (by decide)) rfl ⟨(Nat.le_of_ble_eq_true rfl), (Nat.le_of_ble_eq_true rfl)⟩ (fun _ _ _ _ h => h) (fun _ _ _ => trivial) (P_last hP) F.2.2.2.2.2 hl.1 (Nat.le_of_ble_eq_true rfl) D9_26 ⟨(Nat.le_of_ble_eq_true rfl), (Nat.le_of_ble_eq_true rfl)⟩) hP hD hS hA (fun u1 H locs hP hD hS => ?_)
  refine pF (k := 1) (ty := .object "SteepleStruck$Table") F hnm rfl in9 tyX9_ok nmX9 (Nat.le_of_ble_eq_true rfl) wf9_20 rfl rfl (by decide +kernel) rfl rfl (Nat.le_of_ble_eq_true rfl) hP hD hS D9_29 (fun H locs hP hD hS => ?_)
  have hP : va_P Y.1 classes ((h0, .inr (9, [.ref q0, .ref q1, .null, .null, .null, .null, .null, .null])) :: (([] ++ bld7 Y 6 2 12 q0 u0) ++ bld7 Y 6 3 18 q1 u1)) H := hP
  have hD : va_D (CtA h0 sz) ((h0, .inr (9, [.ref q0, .ref q1, .null, .null, .null, .null, .null, .null])) :: (([] ++ bld7 Y 6 2 12 q0 u0) ++ bld7 Y 6 3 18 q1 u1)) := hD
  refine lv_aload_n F.1 F.2.1 D9_32 rfl (lv_at hl 0 rfl) ?_
  refine nO F fo7 wk9_9 hP hD hS hA (Nat.le_of_ble_eq_true rfl) (Nat.le_of_ble_eq_true rfl) D9_33 (fun q2 H hP hD hS => ?_)
  refine lv_dup F.1 F.2.1 D9_36 rfl ?_
  refine lv_bipush (v := 6) F.1 F.2.1 D9_37 (by decide) ?_
  refine lv_iconst (v := 1) F.1 F.2.1 D9_39 (by decide) ?_
  refine cons_go (runI (As := [.int 6, .int 1]) (rest := [.ref q2, .ref h0]) ⟨F.1, F.2.1, F.2.2.1, F.2.2.2.1, F.2.2.2.2.1⟩ ci9_11 (c7_init l Y q2 H.size (fun _ => True) 6 1 6 (by decide) (by decide)) rfl ⟨(Nat.le_of_ble_eq_true rfl), (Nat.le_of_ble_eq_true rfl)⟩ (fun _ _ _ _ h => h) (fun _ _ _ => trivial) (P_last hP) F.2.2.2.2.2 hl.1 (Nat.le_of_ble_eq_true rfl) D9_40 ⟨(Nat.le_of_ble_eq_true rfl), (Nat.le_of_ble_eq_true rfl)⟩) hP hD hS hA (fun u2 H locs hP hD hS => ?_)
  refine pF (k := 2) (ty := .object "SteepleStruck$Table") F hnm rfl in9 tyX9_ok nmX9 (Nat.le_of_ble_eq_true rfl) wf9_23 rfl rfl (by decide +kernel) rfl rfl (Nat.le_of_ble_eq_true rfl) hP hD hS D9_43 (fun H locs hP hD hS => ?_)
  have hP : va_P Y.1 classes ((h0, .inr (9, [.ref q0, .ref q1, .ref q2, .null, .null, .null, .null, .null])) :: ((([] ++ bld7 Y 6 2 12 q0 u0) ++ bld7 Y 6 3 18 q1 u1) ++ bld7 Y 6 1 6 q2 u2)) H := hP
  have hD : va_D (CtA h0 sz) ((h0, .inr (9, [.ref q0, .ref q1, .ref q2, .null, .null, .null, .null, .null])) :: ((([] ++ bld7 Y 6 2 12 q0 u0) ++ bld7 Y 6 3 18 q1 u1) ++ bld7 Y 6 1 6 q2 u2)) := hD
  refine lv_aload_n F.1 F.2.1 D9_46 rfl (lv_at hl 0 rfl) ?_
  refine nO F fo7 wk9_9 hP hD hS hA (Nat.le_of_ble_eq_true rfl) (Nat.le_of_ble_eq_true rfl) D9_47 (fun q3 H hP hD hS => ?_)
  refine lv_dup F.1 F.2.1 D9_50 rfl ?_
  refine lv_iconst (v := 5) F.1 F.2.1 D9_51 (by decide) ?_
  refine lv_iconst (v := 2) F.1 F.2.1 D9_52 (by decide) ?_
  refine cons_go (runI (As := [.int 5, .int 2]) (rest := [.ref q3, .ref h0]) ⟨F.1, F.2.1, F.2.2.1, F.2.2.2.1, F.2.2.2.2.1⟩ ci9_11 (c7_init l Y q3 H.size (fun _ => True) 5 2 10 (by decide) (by decide)) rfl ⟨(Nat.le_of_ble_eq_true rfl), (Nat.le_of_ble_eq_true rfl)⟩ (fun _ _ _ _ h => h) (fun _ _ _ => trivial) (P_last hP) F.2.2.2.2.2 hl.1 (Nat.le_of_ble_eq_true rfl) D9_53 ⟨(Nat.le_of_ble_eq_true rfl), (Nat.le_of_ble_eq_true rfl)⟩) hP hD hS hA (fun u3 H locs hP hD hS => ?_)
  refine pF (k := 3) (ty := .object "SteepleStruck$Table") F hnm rfl in9 tyX9_ok nmX9 (Nat.le_of_ble_eq_true rfl) wf9_26 rfl rfl (by decide +kernel) rfl rfl (Nat.le_of_ble_eq_true rfl) hP hD hS D9_56 (fun H locs hP hD hS => ?_)
  have hP : va_P Y.1 classes ((h0, .inr (9, [.ref q0, .ref q1, .ref q2, .ref q3, .null, .null, .null, .null])) :: (((([] ++ bld7 Y 6 2 12 q0 u0) ++ bld7 Y 6 3 18 q1 u1) ++ bld7 Y 6 1 6 q2 u2) ++ bld7 Y 5 2 10 q3 u3)) H := hP
  have hD : va_D (CtA h0 sz) ((h0, .inr (9, [.ref q0, .ref q1, .ref q2, .ref q3, .null, .null, .null, .null])) :: (((([] ++ bld7 Y 6 2 12 q0 u0) ++ bld7 Y 6 3 18 q1 u1) ++ bld7 Y 6 1 6 q2 u2) ++ bld7 Y 5 2 10 q3 u3)) := hD
  refine lv_aload_n F.1 F.2.1 D9_59 rfl (lv_at hl 0 rfl) ?_
  refine nO F fo7 wk9_9 hP hD hS hA (Nat.le_of_ble_eq_true rfl) (Nat.le_of_ble_eq_true rfl) D9_60 (fun q4 H hP hD hS => ?_)
  refine lv_dup F.1 F.2.1 D9_63 rfl ?_
  refine lv_bipush (v := 6) F.1 F.2.1 D9_64 (by decide) ?_
  refine lv_iconst (v := 5) F.1 F.2.1 D9_66 (by decide) ?_
  refine cons_go (runI (As := [.int 6, .int 5]) (rest := [.ref q4, .ref h0]) ⟨F.1, F.2.1, F.2.2.1, F.2.2.2.1, F.2.2.2.2.1⟩ ci9_11 (c7_init l Y q4 H.size (fun _ => True) 6 5 30 (by decide) (by decide)) rfl ⟨(Nat.le_of_ble_eq_true rfl), (Nat.le_of_ble_eq_true rfl)⟩ (fun _ _ _ _ h => h) (fun _ _ _ => trivial) (P_last hP) F.2.2.2.2.2 hl.1 (Nat.le_of_ble_eq_true rfl) D9_67 ⟨(Nat.le_of_ble_eq_true rfl), (Nat.le_of_ble_eq_true rfl)⟩) hP hD hS hA (fun u4 H locs hP hD hS => ?_)
  refine pF (k := 4) (ty := .object "SteepleStruck$Table") F hnm rfl in9 tyX9_ok nmX9 (Nat.le_of_ble_eq_true rfl) wf9_29 rfl rfl (by decide +kernel) rfl rfl (Nat.le_of_ble_eq_true rfl) hP hD hS D9_70 (fun H locs hP hD hS => ?_)
  have hP : va_P Y.1 classes ((h0, .inr (9, [.ref q0, .ref q1, .ref q2, .ref q3, .ref q4, .null, .null, .null])) :: ((((([] ++ bld7 Y 6 2 12 q0 u0) ++ bld7 Y 6 3 18 q1 u1) ++ bld7 Y 6 1 6 q2 u2) ++ bld7 Y 5 2 10 q3 u3) ++ bld7 Y 6 5 30 q4 u4)) H := hP
  have hD : va_D (CtA h0 sz) ((h0, .inr (9, [.ref q0, .ref q1, .ref q2, .ref q3, .ref q4, .null, .null, .null])) :: ((((([] ++ bld7 Y 6 2 12 q0 u0) ++ bld7 Y 6 3 18 q1 u1) ++ bld7 Y 6 1 6 q2 u2) ++ bld7 Y 5 2 10 q3 u3) ++ bld7 Y 6 5 30 q4 u4)) := hD
  refine lv_aload_n F.1 F.2.1 D9_73 rfl (lv_at hl 0 rfl) ?_
  refine nO F fo7 wk9_9 hP hD hS hA (Nat.le_of_ble_eq_true rfl) (Nat.le_of_ble_eq_true rfl) D9_74 (fun q5 H hP hD hS => ?_)
  refine lv_dup F.1 F.2.1 D9_77 rfl ?_
  refine lv_bipush (v := 6) F.1 F.2.1 D9_78 (by decide) ?_
  refine lv_iconst (v := 4) F.1 F.2.1 D9_80 (by decide) ?_
  refine cons_go (runI (As := [.int 6, .int 4]) (rest := [.ref q5, .ref h0]) ⟨F.1, F.2.1, F.2.2.1, F.2.2.2.1, F.2.2.2.2.1⟩ ci9_11 (c7_init l Y q5 H.size (fun _ => True) 6 4 24 (by decide) (by decide)) rfl ⟨(Nat.le_of_ble_eq_true rfl), (Nat.le_of_ble_eq_true rfl)⟩ (fun _ _ _ _ h => h) (fun _ _ _ => trivial) (P_last hP) F.2.2.2.2.2 hl.1 (Nat.le_of_ble_eq_true rfl) D9_81 ⟨(Nat.le_of_ble_eq_true rfl), (Nat.le_of_ble_eq_true rfl)⟩) hP hD hS hA (fun u5 H locs hP hD hS => ?_)
  refine pF (k := 5) (ty := .object "SteepleStruck$Table") F hnm rfl in9 tyX9_ok nmX9 (Nat.le_of_ble_eq_true rfl) wf9_32 rfl rfl (by decide +kernel) rfl rfl (Nat.le_of_ble_eq_true rfl) hP hD hS D9_84 (fun H locs hP hD hS => ?_)
  have hP : va_P Y.1 classes ((h0, .inr (9, [.ref q0, .ref q1, .ref q2, .ref q3, .ref q4, .ref q5, .null, .null])) :: (((((([] ++ bld7 Y 6 2 12 q0 u0) ++ bld7 Y 6 3 18 q1 u1) ++ bld7 Y 6 1 6 q2 u2) ++ bld7 Y 5 2 10 q3 u3) ++ bld7 Y 6 5 30 q4 u4) ++ bld7 Y 6 4 24 q5 u5)) H := hP
  have hD : va_D (CtA h0 sz) ((h0, .inr (9, [.ref q0, .ref q1, .ref q2, .ref q3, .ref q4, .ref q5, .null, .null])) :: (((((([] ++ bld7 Y 6 2 12 q0 u0) ++ bld7 Y 6 3 18 q1 u1) ++ bld7 Y 6 1 6 q2 u2) ++ bld7 Y 5 2 10 q3 u3) ++ bld7 Y 6 5 30 q4 u4) ++ bld7 Y 6 4 24 q5 u5)) := hD
  refine lv_aload_n F.1 F.2.1 D9_87 rfl (lv_at hl 0 rfl) ?_
  refine nO F fo7 wk9_9 hP hD hS hA (Nat.le_of_ble_eq_true rfl) (Nat.le_of_ble_eq_true rfl) D9_88 (fun q6 H hP hD hS => ?_)
  refine lv_dup F.1 F.2.1 D9_91 rfl ?_
  refine lv_bipush (v := 8) F.1 F.2.1 D9_92 (by decide) ?_
  refine lv_iconst (v := 4) F.1 F.2.1 D9_94 (by decide) ?_
  refine cons_go (runI (As := [.int 8, .int 4]) (rest := [.ref q6, .ref h0]) ⟨F.1, F.2.1, F.2.2.1, F.2.2.2.1, F.2.2.2.2.1⟩ ci9_11 (c7_init l Y q6 H.size (fun _ => True) 8 4 32 (by decide) (by decide)) rfl ⟨(Nat.le_of_ble_eq_true rfl), (Nat.le_of_ble_eq_true rfl)⟩ (fun _ _ _ _ h => h) (fun _ _ _ => trivial) (P_last hP) F.2.2.2.2.2 hl.1 (Nat.le_of_ble_eq_true rfl) D9_95 ⟨(Nat.le_of_ble_eq_true rfl), (Nat.le_of_ble_eq_true rfl)⟩) hP hD hS hA (fun u6 H locs hP hD hS => ?_)
  refine pF (k := 6) (ty := .object "SteepleStruck$Table") F hnm rfl in9 tyX9_ok nmX9 (Nat.le_of_ble_eq_true rfl) wf9_35 rfl rfl (by decide +kernel) rfl rfl (Nat.le_of_ble_eq_true rfl) hP hD hS D9_98 (fun H locs hP hD hS => ?_)
  have hP : va_P Y.1 classes ((h0, .inr (9, [.ref q0, .ref q1, .ref q2, .ref q3, .ref q4, .ref q5, .ref q6, .null])) :: ((((((([] ++ bld7 Y 6 2 12 q0 u0) ++ bld7 Y 6 3 18 q1 u1) ++ bld7 Y 6 1 6 q2 u2) ++ bld7 Y 5 2 10 q3 u3) ++ bld7 Y 6 5 30 q4 u4) ++ bld7 Y 6 4 24 q5 u5) ++ bld7 Y 8 4 32 q6 u6)) H := hP
  have hD : va_D (CtA h0 sz) ((h0, .inr (9, [.ref q0, .ref q1, .ref q2, .ref q3, .ref q4, .ref q5, .ref q6, .null])) :: ((((((([] ++ bld7 Y 6 2 12 q0 u0) ++ bld7 Y 6 3 18 q1 u1) ++ bld7 Y 6 1 6 q2 u2) ++ bld7 Y 5 2 10 q3 u3) ++ bld7 Y 6 5 30 q4 u4) ++ bld7 Y 6 4 24 q5 u5) ++ bld7 Y 8 4 32 q6 u6)) := hD
  refine lv_aload_n F.1 F.2.1 D9_101 rfl (lv_at hl 0 rfl) ?_
  refine nO F fo4 wk9_38 hP hD hS hA (Nat.le_of_ble_eq_true rfl) (Nat.le_of_ble_eq_true rfl) D9_102 (fun q7 H hP hD hS => ?_)
  refine lv_dup F.1 F.2.1 D9_105 rfl ?_
  refine cons_go (runIN (As := []) (rest := [.ref q7, .ref h0]) ⟨F.1, F.2.1, F.2.2.1, F.2.2.2.1, F.2.2.2.2.1⟩ cin4 hex.2 (c4_init l Y q7 H.size (fun _ => True)) rfl ⟨(Nat.le_of_ble_eq_true rfl), (Nat.le_of_ble_eq_true rfl)⟩ (fun _ _ _ _ h => h) (fun _ _ _ => trivial) (P_last hP) F.2.2.2.2.2 hl.1 (Nat.le_of_ble_eq_true rfl) D9_106 ⟨(Nat.le_of_ble_eq_true rfl), (Nat.le_of_ble_eq_true rfl)⟩) hP hD hS hA (fun u7 H locs hP hD hS => ?_)
  refine pF (k := 7) (ty := .object "SteepleStruck$Moment") F hnm rfl in9 tyX9_ok nmX9 (Nat.le_of_ble_eq_true rfl) wf9_41 rfl rfl (by decide +kernel) rfl rfl (Nat.le_of_ble_eq_true rfl) hP hD hS D9_109 (fun H locs hP hD hS => ?_)
  have hP : va_P Y.1 classes ((h0, .inr (9, [.ref q0, .ref q1, .ref q2, .ref q3, .ref q4, .ref q5, .ref q6, .ref q7])) :: (((((((([] ++ bld7 Y 6 2 12 q0 u0) ++ bld7 Y 6 3 18 q1 u1) ++ bld7 Y 6 1 6 q2 u2) ++ bld7 Y 5 2 10 q3 u3) ++ bld7 Y 6 5 30 q4 u4) ++ bld7 Y 6 4 24 q5 u5) ++ bld7 Y 8 4 32 q6 u6) ++ bld4 q7 u7)) H := hP
  have hD : va_D (CtA h0 sz) ((h0, .inr (9, [.ref q0, .ref q1, .ref q2, .ref q3, .ref q4, .ref q5, .ref q6, .ref q7])) :: (((((((([] ++ bld7 Y 6 2 12 q0 u0) ++ bld7 Y 6 3 18 q1 u1) ++ bld7 Y 6 1 6 q2 u2) ++ bld7 Y 5 2 10 q3 u3) ++ bld7 Y 6 5 30 q4 u4) ++ bld7 Y 6 4 24 q5 u5) ++ bld7 Y 8 4 32 q6 u6) ++ bld4 q7 u7)) := hD
  obtain ⟨U, hU⟩ : ∃ U : Nat → Nat, U = fun i => [q0, u0, q1, u1, q2, u2, q3, u3, q4, u4, q5, u5, q6, u6, q7].getD i 0 := ⟨_, rfl⟩
  have hP : va_P Y.1 classes (wl (XV Y h0 a12 a23 U) (m0V false)) H := by rw [hU]; exact hP
  have hD : va_D (CtA h0 sz) (wl (XV Y h0 a12 a23 U) (m0V false)) := by rw [hU]; exact hD
  refine goV (XV Y h0 a12 a23 U) p l e _ s m args below meth c (CtA h0 sz) _ _ _ ⟨F.1, F.2.1, F.2.2.1, F.2.2.2.1, F.2.2.2.2.1, F.2.2.2.2.2, ⟨cl_of clV, ap_of hD⟩, in_ofD hD, hex.1, fun h => absurd h (by decide), (Nat.le_of_ble_eq_true rfl), (Nat.le_of_ble_eq_true rfl), (Nat.le_of_ble_eq_true rfl), (Nat.le_of_ble_eq_true rfl)⟩ (fun pc H locs ls hd _ _ hW hS => ret H locs _ _ pc ls U hd (Nat.le_of_ble_eq_true rfl) (Nat.le_of_ble_eq_true rfl) hW.1 (wl_D (cl_of clV) (ap_of hD) (in_ofD hD)) hS) (fun a ha => ?_) (fun a ha => nomatch ha) H locs ls ⟨hl.1, hl.2.1, fun i a hi => ?_⟩ ⟨hP, rfl, rfl⟩ hS
  · rcases List.mem_singleton.mp ha with ha
    cases ha
    show (if (9 : Nat) ∈ kds then ((9 : Nat), (0 : Nat)) ∈ klV else (0 : Nat) < cnt 9)
    rw [if_pos (by decide)]
    exact List.mem_cons_self
  · rcases i with _ | i
    · cases hi
      exact lv_at hl 0 rfl
    · exact nomatch hi
