abbrev m11_init : MI := (yX11_init, cX11_init, 1, none, 2, 42)
theorem mok11_init : MOK m11_init := ⟨mt4 (j := 234) rfl rfl, by decide +kernel, mt1 (j := 12) rfl rfl, ⟨by decide +kernel, by decide +kernel⟩, by decide +kernel⟩
theorem D11_0 : decode cX11_init 0 = .ok (.aload_n 0, 1) := by decide +kernel
theorem D11_1 : decode cX11_init 1 = .ok (.invokespecial 1, 3) := by decide +kernel
theorem D11_4 : decode cX11_init 4 = .ok (.aload_n 0, 1) := by decide +kernel
theorem D11_5 : decode cX11_init 5 = .ok (.sipush 142, 3) := by decide +kernel
theorem D11_8 : decode cX11_init 8 = .ok (.newarray .int, 2) := by decide +kernel
theorem D11_10 : decode cX11_init 10 = .ok (.putfield 7, 3) := by decide +kernel
theorem D11_13 : decode cX11_init 13 = .ok (.aload_n 0, 1) := by decide +kernel
theorem D11_14 : decode cX11_init 14 = .ok (.sipush 284, 3) := by decide +kernel
theorem D11_17 : decode cX11_init 17 = .ok (.newarray .int, 2) := by decide +kernel
theorem D11_19 : decode cX11_init 19 = .ok (.putfield 13, 3) := by decide +kernel
theorem D11_22 : decode cX11_init 22 = .ok (.aload_n 0, 1) := by decide +kernel
theorem D11_23 : decode cX11_init 23 = .ok (.iconst 2, 1) := by decide +kernel
theorem D11_24 : decode cX11_init 24 = .ok (.newarray .boolean, 2) := by decide +kernel
theorem D11_26 : decode cX11_init 26 = .ok (.putfield 16, 3) := by decide +kernel
theorem D11_29 : decode cX11_init 29 = .ok (.aload_n 0, 1) := by decide +kernel
theorem D11_30 : decode cX11_init 30 = .ok (.iconst 3, 1) := by decide +kernel
theorem D11_31 : decode cX11_init 31 = .ok (.newarray .int, 2) := by decide +kernel
theorem D11_33 : decode cX11_init 33 = .ok (.putfield 20, 3) := by decide +kernel
theorem D11_36 : decode cX11_init 36 = .ok (.aload_n 0, 1) := by decide +kernel
theorem D11_37 : decode cX11_init 37 = .ok (.lconst 1, 1) := by decide +kernel
theorem D11_38 : decode cX11_init 38 = .ok (.putfield 23, 3) := by decide +kernel
theorem D11_41 : decode cX11_init 41 = .ok (.aload_n 0, 1) := by decide +kernel
theorem D11_42 : decode cX11_init 42 = .ok (.bipush 46, 2) := by decide +kernel
theorem D11_44 : decode cX11_init 44 = .ok (.newarray .int, 2) := by decide +kernel
theorem D11_46 : decode cX11_init 46 = .ok (.putfield 27, 3) := by decide +kernel
theorem D11_49 : decode cX11_init 49 = .ok (.aload_n 0, 1) := by decide +kernel
theorem D11_50 : decode cX11_init 50 = .ok (.bipush 6, 2) := by decide +kernel
theorem D11_52 : decode cX11_init 52 = .ok (.newarray .int, 2) := by decide +kernel
theorem D11_54 : decode cX11_init 54 = .ok (.putfield 30, 3) := by decide +kernel
theorem D11_57 : decode cX11_init 57 = .ok (.aload_n 0, 1) := by decide +kernel
theorem D11_58 : decode cX11_init 58 = .ok (.bipush 6, 2) := by decide +kernel
theorem D11_60 : decode cX11_init 60 = .ok (.newarray .int, 2) := by decide +kernel
theorem D11_62 : decode cX11_init 62 = .ok (.putfield 33, 3) := by decide +kernel
theorem D11_65 : decode cX11_init 65 = .ok (.aload_n 0, 1) := by decide +kernel
theorem D11_66 : decode cX11_init 66 = .ok (.bipush 6, 2) := by decide +kernel
theorem D11_68 : decode cX11_init 68 = .ok (.newarray .int, 2) := by decide +kernel
theorem D11_70 : decode cX11_init 70 = .ok (.putfield 36, 3) := by decide +kernel
theorem D11_73 : decode cX11_init 73 = .ok (.aload_n 0, 1) := by decide +kernel
theorem D11_74 : decode cX11_init 74 = .ok (.bipush 6, 2) := by decide +kernel
theorem D11_76 : decode cX11_init 76 = .ok (.newarray .int, 2) := by decide +kernel
theorem D11_78 : decode cX11_init 78 = .ok (.putfield 39, 3) := by decide +kernel
theorem D11_81 : decode cX11_init 81 = .ok (.aload_n 0, 1) := by decide +kernel
theorem D11_82 : decode cX11_init 82 = .ok (.sipush 150, 3) := by decide +kernel
theorem D11_85 : decode cX11_init 85 = .ok (.newarray .int, 2) := by decide +kernel
theorem D11_87 : decode cX11_init 87 = .ok (.putfield 42, 3) := by decide +kernel
theorem D11_90 : decode cX11_init 90 = .ok (.aload_n 0, 1) := by decide +kernel
theorem D11_91 : decode cX11_init 91 = .ok (.bipush 110, 2) := by decide +kernel
theorem D11_93 : decode cX11_init 93 = .ok (.newarray .int, 2) := by decide +kernel
theorem D11_95 : decode cX11_init 95 = .ok (.putfield 45, 3) := by decide +kernel
theorem D11_98 : decode cX11_init 98 = .ok (.aload_n 0, 1) := by decide +kernel
theorem D11_99 : decode cX11_init 99 = .ok (.iconst 3, 1) := by decide +kernel
theorem D11_100 : decode cX11_init 100 = .ok (.newarray .int, 2) := by decide +kernel
theorem D11_102 : decode cX11_init 102 = .ok (.putfield 48, 3) := by decide +kernel
theorem D11_105 : decode cX11_init 105 = .ok (.aload_n 0, 1) := by decide +kernel
theorem D11_106 : decode cX11_init 106 = .ok (.getfield 7, 3) := by decide +kernel
theorem D11_109 : decode cX11_init 109 = .ok (.invokestatic 51, 3) := by decide +kernel
theorem D11_112 : decode cX11_init 112 = .ok (.return_, 1) := by decide +kernel
theorem fo11 : FO 11 RX11 19 [.null, .null, .null, .null, .long 0, .long 0, .null, .null, .null, .null, .null, .null, .int 0, .int 0, .int 0, .int 0, .int 0, .null, .null] := ⟨TX11, tyX11, rfl, in11, tyX11_ok, fun j hj => by rcases (show j = 0 ∨ j = 1 ∨ j = 2 ∨ j = 3 ∨ j = 4 ∨ j = 5 ∨ j = 6 ∨ j = 7 ∨ j = 8 ∨ j = 9 ∨ j = 10 ∨ j = 11 ∨ j = 12 ∨ j = 13 ∨ j = 14 ∨ j = 15 ∨ j = 16 ∨ j = 17 ∨ j = 18 by omega) with rfl | rfl | rfl | rfl | rfl | rfl | rfl | rfl | rfl | rfl | rfl | rfl | rfl | rfl | rfl | rfl | rfl | rfl | rfl <;> rfl, mt4 (j := 231) rfl rfl, mt1 (j := 12) rfl rfl⟩
theorem wo11 : Cond.methodLink RX11 1 objectInit ∈ gt := mt4 (j := 235) rfl rfl
theorem wf11_7 : Cond.fieldLink RX11 7 RX11 "all" "[I" ∈ gt := mt4 (j := 239) rfl rfl
theorem wf11_13 : Cond.fieldLink RX11 13 RX11 "kept" "[I" ∈ gt := mt5 (j := 0) rfl rfl
theorem wf11_16 : Cond.fieldLink RX11 16 RX11 "isKept" "[Z" ∈ gt := mt5 (j := 1) rfl rfl
theorem wf11_20 : Cond.fieldLink RX11 20 RX11 "refused" "[I" ∈ gt := mt5 (j := 2) rfl rfl
theorem wf11_23 : Cond.fieldLink RX11 23 RX11 "below" "J" ∈ gt := mt5 (j := 4) rfl rfl
theorem wf11_27 : Cond.fieldLink RX11 27 RX11 "hand" "[I" ∈ gt := mt5 (j := 5) rfl rfl
theorem wf11_30 : Cond.fieldLink RX11 30 RX11 "missing" "[I" ∈ gt := mt5 (j := 6) rfl rfl
theorem wf11_33 : Cond.fieldLink RX11 33 RX11 "order0" "[I" ∈ gt := mt5 (j := 7) rfl rfl
theorem wf11_36 : Cond.fieldLink RX11 36 RX11 "bestOrder" "[I" ∈ gt := mt5 (j := 8) rfl rfl
theorem wf11_39 : Cond.fieldLink RX11 39 RX11 "tells" "[I" ∈ gt := mt5 (j := 9) rfl rfl
theorem wf11_42 : Cond.fieldLink RX11 42 RX11 "bytes" "[I" ∈ gt := mt5 (j := 10) rfl rfl
theorem wf11_45 : Cond.fieldLink RX11 45 RX11 "anew" "[I" ∈ gt := mt5 (j := 16) rfl rfl
theorem wf11_48 : Cond.fieldLink RX11 48 RX11 "values" "[I" ∈ gt := mt5 (j := 17) rfl rfl
abbrev klM : List (Nat × Nat) := [(11, 0), (22, 0), (22, 1), (22, 2), (22, 3), (22, 4), (22, 5), (22, 6), (22, 7), (22, 8), (22, 9), (22, 10), (22, 11)]
def adM (h0 : Nat) (u a12 a23 : Nat → Nat) : AdT := fun c k => match c with
  | 11 => h0
  | 22 => u k
  | 12 => a12 k
  | 23 => a23 k
  | _ => 0
abbrev XM (Y : K0) (h0 : Nat) (a12 a23 : Nat → Nat) (u : Nat → Nat) : Kx := (Y.1, Y.2, adM h0 u a12 a23, fun _ => 0, 0, klM)
def bld11 (Y : K0) (h0 : Nat) (a12 a23 : Nat → Nat) (u : Nat → Nat) : va_W := wl (XM Y h0 a12 a23 u) (m0V true)
theorem clM : clB klM = true := by decide +kernel
theorem m0V_bgnR : ((fun c k j => bgnR 0 (m0V true) c k j, (m0V true).2) : Mem) = m0V true := by
  refine mem_ext (fun c k j => ?_) rfl
  show bgnR 0 (m0V true) c k j = _
  unfold bgnR
  split
  · rename_i h
    rw [h.1]
    rfl
  · rfl
theorem goM : Go m11_init 105 [some (ar 11 0)] [] (m0V true) none (m0V true) := by
  refine g_aload_n ⟨D11_105, rfl⟩ rfl ?_
  refine g_getf (v := .inr (.inr (22, 0))) ⟨D11_106, rfl⟩ fs11_7 rfl ?_
  refine g_S1n (σ1 := m0V true) ⟨D11_109, rfl⟩ cs11_51 (E11_begin (by rw [begin11_ok (by decide) (by decide), m0V_bgnR])) rfl (fun o2 => ?_)
  exact g_retE ⟨D11_112, rfl⟩ trivial rfl rfl
abbrev ex11 (a12 a23 : Nat → Nat) (h0 sz : Nat) : State → Prop := fun U => SY a12 a23 (CtA h0 sz) U U.heap
set_option maxRecDepth 20000 in
set_option maxHeartbeats 4000000 in
theorem c11_init (l : Launch) (Y : K0) (h0 sz : Nat) (a12 a23 : Nat → Nat) : Met l m11_init.1 (wsM m11_init) (rmC m11_init 12 764) (CtP Y (ex11 a12 a23 h0 sz) h0 11 [.null, .null, .null, .null, .long 0, .long 0, .null, .null, .null, .null, .null, .null, .int 0, .int 0, .int 0, .int 0, .int 0, .null, .null] [] sz) (CtQ Y h0 sz (bld11 Y h0 a12 a23)) 12 764 (CtA h0 sz) := by
  refine cons_of l mok11_init rfl rfl (Nat.le_of_ble_eq_true rfl) ?_
  intro p e s m args below meth c F hnm hex hsz ret ls hl hP hD hS hA
  refine lv_aload_n F.1 F.2.1 D11_0 rfl (lv_at hl 0 rfl) ?_
  refine oI F wo11 wIO wCO hl.1 rfl D11_1 ⟨(Nat.le_of_ble_eq_true rfl), (Nat.le_of_ble_eq_true rfl)⟩ ?_
  refine lv_aload_n F.1 F.2.1 D11_4 rfl (lv_at hl 0 rfl) ?_
  refine lv_sipush (v := 142) F.1 F.2.1 D11_5 (by decide) ?_
  refine newI (N := 142) F.1 F.2.1 (F.2.2.2.2.1 _ wAI) F.2.2.2.2.2 hP hD hS hA (by decide) (by decide) (Nat.le_of_ble_eq_true rfl) (Nat.le_of_ble_eq_true rfl) D11_8 (fun q0 H hP hD hS => ?_)
  refine pF (k := 0) (ty := (.array .int)) F hnm rfl in11 tyX11_ok nmX11 (Nat.le_of_ble_eq_true rfl) wf11_7 rfl rfl (by decide +kernel) rfl rfl (Nat.le_of_ble_eq_true rfl) hP hD hS D11_10 (fun H locs hP hD hS => ?_)
  have hP : va_P Y.1 classes ((h0, .inr (11, [.ref q0, .null, .null, .null, .long 0, .long 0, .null, .null, .null, .null, .null, .null, .int 0, .int 0, .int 0, .int 0, .int 0, .null, .null])) :: ([] ++ [(q0, .inl (Y.2.1, 142, .inl fun _ => 0))])) H := hP
  have hD : va_D (CtA h0 sz) ((h0, .inr (11, [.ref q0, .null, .null, .null, .long 0, .long 0, .null, .null, .null, .null, .null, .null, .int 0, .int 0, .int 0, .int 0, .int 0, .null, .null])) :: ([] ++ [(q0, .inl (Y.2.1, 142, .inl fun _ => 0))])) := hD
  refine lv_aload_n F.1 F.2.1 D11_13 rfl (lv_at hl 0 rfl) ?_
  refine lv_sipush (v := 284) F.1 F.2.1 D11_14 (by decide) ?_
  refine newI (N := 284) F.1 F.2.1 (F.2.2.2.2.1 _ wAI) F.2.2.2.2.2 hP hD hS hA (by decide) (by decide) (Nat.le_of_ble_eq_true rfl) (Nat.le_of_ble_eq_true rfl) D11_17 (fun q1 H hP hD hS => ?_)
  refine pF (k := 1) (ty := (.array .int)) F hnm rfl in11 tyX11_ok nmX11 (Nat.le_of_ble_eq_true rfl) wf11_13 rfl rfl (by decide +kernel) rfl rfl (Nat.le_of_ble_eq_true rfl) hP hD hS D11_19 (fun H locs hP hD hS => ?_)
  have hP : va_P Y.1 classes ((h0, .inr (11, [.ref q0, .ref q1, .null, .null, .long 0, .long 0, .null, .null, .null, .null, .null, .null, .int 0, .int 0, .int 0, .int 0, .int 0, .null, .null])) :: (([] ++ [(q0, .inl (Y.2.1, 142, .inl fun _ => 0))]) ++ [(q1, .inl (Y.2.1, 284, .inl fun _ => 0))])) H := hP
  have hD : va_D (CtA h0 sz) ((h0, .inr (11, [.ref q0, .ref q1, .null, .null, .long 0, .long 0, .null, .null, .null, .null, .null, .null, .int 0, .int 0, .int 0, .int 0, .int 0, .null, .null])) :: (([] ++ [(q0, .inl (Y.2.1, 142, .inl fun _ => 0))]) ++ [(q1, .inl (Y.2.1, 284, .inl fun _ => 0))])) := hD
  refine lv_aload_n F.1 F.2.1 D11_22 rfl (lv_at hl 0 rfl) ?_
  refine lv_iconst (v := 2) F.1 F.2.1 D11_23 (by decide) ?_
  refine newZ (N := 2) F.1 F.2.1 (F.2.2.2.2.1 _ wAZ) F.2.2.2.2.2 hP hD hS hA (by decide) (by decide) (Nat.le_of_ble_eq_true rfl) (Nat.le_of_ble_eq_true rfl) D11_24 (fun q2 H hP hD hS => ?_)
  refine pF (k := 2) (ty := (.array .boolean)) F hnm rfl in11 tyX11_ok nmX11 (Nat.le_of_ble_eq_true rfl) wf11_16 rfl rfl (by decide +kernel) rfl rfl (Nat.le_of_ble_eq_true rfl) hP hD hS D11_26 (fun H locs hP hD hS => ?_)
  have hP : va_P Y.1 classes ((h0, .inr (11, [.ref q0, .ref q1, .ref q2, .null, .long 0, .long 0, .null, .null, .null, .null, .null, .null, .int 0, .int 0, .int 0, .int 0, .int 0, .null, .null])) :: ((([] ++ [(q0, .inl (Y.2.1, 142, .inl fun _ => 0))]) ++ [(q1, .inl (Y.2.1, 284, .inl fun _ => 0))]) ++ [(q2, .inl (Y.2.2, 2, .inl fun _ => 0))])) H := hP
  have hD : va_D (CtA h0 sz) ((h0, .inr (11, [.ref q0, .ref q1, .ref q2, .null, .long 0, .long 0, .null, .null, .null, .null, .null, .null, .int 0, .int 0, .int 0, .int 0, .int 0, .null, .null])) :: ((([] ++ [(q0, .inl (Y.2.1, 142, .inl fun _ => 0))]) ++ [(q1, .inl (Y.2.1, 284, .inl fun _ => 0))]) ++ [(q2, .inl (Y.2.2, 2, .inl fun _ => 0))])) := hD
  refine lv_aload_n F.1 F.2.1 D11_29 rfl (lv_at hl 0 rfl) ?_
  refine lv_iconst (v := 3) F.1 F.2.1 D11_30 (by decide) ?_
  refine newI (N := 3) F.1 F.2.1 (F.2.2.2.2.1 _ wAI) F.2.2.2.2.2 hP hD hS hA (by decide) (by decide) (Nat.le_of_ble_eq_true rfl) (Nat.le_of_ble_eq_true rfl) D11_31 (fun q3 H hP hD hS => ?_)
  refine pF (k := 3) (ty := (.array .int)) F hnm rfl in11 tyX11_ok nmX11 (Nat.le_of_ble_eq_true rfl) wf11_20 rfl rfl (by decide +kernel) rfl rfl (Nat.le_of_ble_eq_true rfl) hP hD hS D11_33 (fun H locs hP hD hS => ?_)
  have hP : va_P Y.1 classes ((h0, .inr (11, [.ref q0, .ref q1, .ref q2, .ref q3, .long 0, .long 0, .null, .null, .null, .null, .null, .null, .int 0, .int 0, .int 0, .int 0, .int 0, .null, .null])) :: (((([] ++ [(q0, .inl (Y.2.1, 142, .inl fun _ => 0))]) ++ [(q1, .inl (Y.2.1, 284, .inl fun _ => 0))]) ++ [(q2, .inl (Y.2.2, 2, .inl fun _ => 0))]) ++ [(q3, .inl (Y.2.1, 3, .inl fun _ => 0))])) H := hP
  have hD : va_D (CtA h0 sz) ((h0, .inr (11, [.ref q0, .ref q1, .ref q2, .ref q3, .long 0, .long 0, .null, .null, .null, .null, .null, .null, .int 0, .int 0, .int 0, .int 0, .int 0, .null, .null])) :: (((([] ++ [(q0, .inl (Y.2.1, 142, .inl fun _ => 0))]) ++ [(q1, .inl (Y.2.1, 284, .inl fun _ => 0))]) ++ [(q2, .inl (Y.2.2, 2, .inl fun _ => 0))]) ++ [(q3, .inl (Y.2.1, 3, .inl fun _ => 0))])) := hD
  refine lv_aload_n F.1 F.2.1 D11_36 rfl (lv_at hl 0 rfl) ?_
  refine lv_lconst (v := 1) F.1 F.2.1 D11_37 rfl ?_
  refine pL (k := 5) (ty := .long) F rfl in11 tyX11_ok nmX11 (Nat.le_of_ble_eq_true rfl) wf11_23 rfl rfl (by decide +kernel) rfl rfl (Nat.le_of_ble_eq_true rfl) hP hD hS D11_38 (fun H locs hP hD hS => ?_)
  have hP : va_P Y.1 classes ((h0, .inr (11, [.ref q0, .ref q1, .ref q2, .ref q3, .long 0, .long 1, .null, .null, .null, .null, .null, .null, .int 0, .int 0, .int 0, .int 0, .int 0, .null, .null])) :: (((([] ++ [(q0, .inl (Y.2.1, 142, .inl fun _ => 0))]) ++ [(q1, .inl (Y.2.1, 284, .inl fun _ => 0))]) ++ [(q2, .inl (Y.2.2, 2, .inl fun _ => 0))]) ++ [(q3, .inl (Y.2.1, 3, .inl fun _ => 0))])) H := hP
  have hD : va_D (CtA h0 sz) ((h0, .inr (11, [.ref q0, .ref q1, .ref q2, .ref q3, .long 0, .long 1, .null, .null, .null, .null, .null, .null, .int 0, .int 0, .int 0, .int 0, .int 0, .null, .null])) :: (((([] ++ [(q0, .inl (Y.2.1, 142, .inl fun _ => 0))]) ++ [(q1, .inl (Y.2.1, 284, .inl fun _ => 0))]) ++ [(q2, .inl (Y.2.2, 2, .inl fun _ => 0))]) ++ [(q3, .inl (Y.2.1, 3, .inl fun _ => 0))])) := hD
  refine lv_aload_n F.1 F.2.1 D11_41 rfl (lv_at hl 0 rfl) ?_
  refine lv_bipush (v := 46) F.1 F.2.1 D11_42 (by decide) ?_
  refine newI (N := 46) F.1 F.2.1 (F.2.2.2.2.1 _ wAI) F.2.2.2.2.2 hP hD hS hA (by decide) (by decide) (Nat.le_of_ble_eq_true rfl) (Nat.le_of_ble_eq_true rfl) D11_44 (fun q4 H hP hD hS => ?_)
  refine pF (k := 6) (ty := (.array .int)) F hnm rfl in11 tyX11_ok nmX11 (Nat.le_of_ble_eq_true rfl) wf11_27 rfl rfl (by decide +kernel) rfl rfl (Nat.le_of_ble_eq_true rfl) hP hD hS D11_46 (fun H locs hP hD hS => ?_)
  have hP : va_P Y.1 classes ((h0, .inr (11, [.ref q0, .ref q1, .ref q2, .ref q3, .long 0, .long 1, .ref q4, .null, .null, .null, .null, .null, .int 0, .int 0, .int 0, .int 0, .int 0, .null, .null])) :: ((((([] ++ [(q0, .inl (Y.2.1, 142, .inl fun _ => 0))]) ++ [(q1, .inl (Y.2.1, 284, .inl fun _ => 0))]) ++ [(q2, .inl (Y.2.2, 2, .inl fun _ => 0))]) ++ [(q3, .inl (Y.2.1, 3, .inl fun _ => 0))]) ++ [(q4, .inl (Y.2.1, 46, .inl fun _ => 0))])) H := hP
  have hD : va_D (CtA h0 sz) ((h0, .inr (11, [.ref q0, .ref q1, .ref q2, .ref q3, .long 0, .long 1, .ref q4, .null, .null, .null, .null, .null, .int 0, .int 0, .int 0, .int 0, .int 0, .null, .null])) :: ((((([] ++ [(q0, .inl (Y.2.1, 142, .inl fun _ => 0))]) ++ [(q1, .inl (Y.2.1, 284, .inl fun _ => 0))]) ++ [(q2, .inl (Y.2.2, 2, .inl fun _ => 0))]) ++ [(q3, .inl (Y.2.1, 3, .inl fun _ => 0))]) ++ [(q4, .inl (Y.2.1, 46, .inl fun _ => 0))])) := hD
  refine lv_aload_n F.1 F.2.1 D11_49 rfl (lv_at hl 0 rfl) ?_
  refine lv_bipush (v := 6) F.1 F.2.1 D11_50 (by decide) ?_
  refine newI (N := 6) F.1 F.2.1 (F.2.2.2.2.1 _ wAI) F.2.2.2.2.2 hP hD hS hA (by decide) (by decide) (Nat.le_of_ble_eq_true rfl) (Nat.le_of_ble_eq_true rfl) D11_52 (fun q5 H hP hD hS => ?_)
  refine pF (k := 7) (ty := (.array .int)) F hnm rfl in11 tyX11_ok nmX11 (Nat.le_of_ble_eq_true rfl) wf11_30 rfl rfl (by decide +kernel) rfl rfl (Nat.le_of_ble_eq_true rfl) hP hD hS D11_54 (fun H locs hP hD hS => ?_)
  have hP : va_P Y.1 classes ((h0, .inr (11, [.ref q0, .ref q1, .ref q2, .ref q3, .long 0, .long 1, .ref q4, .ref q5, .null, .null, .null, .null, .int 0, .int 0, .int 0, .int 0, .int 0, .null, .null])) :: (((((([] ++ [(q0, .inl (Y.2.1, 142, .inl fun _ => 0))]) ++ [(q1, .inl (Y.2.1, 284, .inl fun _ => 0))]) ++ [(q2, .inl (Y.2.2, 2, .inl fun _ => 0))]) ++ [(q3, .inl (Y.2.1, 3, .inl fun _ => 0))]) ++ [(q4, .inl (Y.2.1, 46, .inl fun _ => 0))]) ++ [(q5, .inl (Y.2.1, 6, .inl fun _ => 0))])) H := hP
  have hD : va_D (CtA h0 sz) ((h0, .inr (11, [.ref q0, .ref q1, .ref q2, .ref q3, .long 0, .long 1, .ref q4, .ref q5, .null, .null, .null, .null, .int 0, .int 0, .int 0, .int 0, .int 0, .null, .null])) :: (((((([] ++ [(q0, .inl (Y.2.1, 142, .inl fun _ => 0))]) ++ [(q1, .inl (Y.2.1, 284, .inl fun _ => 0))]) ++ [(q2, .inl (Y.2.2, 2, .inl fun _ => 0))]) ++ [(q3, .inl (Y.2.1, 3, .inl fun _ => 0))]) ++ [(q4, .inl (Y.2.1, 46, .inl fun _ => 0))]) ++ [(q5, .inl (Y.2.1, 6, .inl fun _ => 0))])) := hD
  refine lv_aload_n F.1 F.2.1 D11_57 rfl (lv_at hl 0 rfl) ?_
  refine lv_bipush (v := 6) F.1 F.2.1 D11_58 (by decide) ?_
  refine newI (N := 6) F.1 F.2.1 (F.2.2.2.2.1 _ wAI) F.2.2.2.2.2 hP hD hS hA (by decide) (by decide) (Nat.le_of_ble_eq_true rfl) (Nat.le_of_ble_eq_true rfl) D11_60 (fun q6 H hP hD hS => ?_)
  refine pF (k := 8) (ty := (.array .int)) F hnm rfl in11 tyX11_ok nmX11 (Nat.le_of_ble_eq_true rfl) wf11_33 rfl rfl (by decide +kernel) rfl rfl (Nat.le_of_ble_eq_true rfl) hP hD hS D11_62 (fun H locs hP hD hS => ?_)
  have hP : va_P Y.1 classes ((h0, .inr (11, [.ref q0, .ref q1, .ref q2, .ref q3, .long 0, .long 1, .ref q4, .ref q5, .ref q6, .null, .null, .null, .int 0, .int 0, .int 0, .int 0, .int 0, .null, .null])) :: ((((((([] ++ [(q0, .inl (Y.2.1, 142, .inl fun _ => 0))]) ++ [(q1, .inl (Y.2.1, 284, .inl fun _ => 0))]) ++ [(q2, .inl (Y.2.2, 2, .inl fun _ => 0))]) ++ [(q3, .inl (Y.2.1, 3, .inl fun _ => 0))]) ++ [(q4, .inl (Y.2.1, 46, .inl fun _ => 0))]) ++ [(q5, .inl (Y.2.1, 6, .inl fun _ => 0))]) ++ [(q6, .inl (Y.2.1, 6, .inl fun _ => 0))])) H := hP
  have hD : va_D (CtA h0 sz) ((h0, .inr (11, [.ref q0, .ref q1, .ref q2, .ref q3, .long 0, .long 1, .ref q4, .ref q5, .ref q6, .null, .null, .null, .int 0, .int 0, .int 0, .int 0, .int 0, .null, .null])) :: ((((((([] ++ [(q0, .inl (Y.2.1, 142, .inl fun _ => 0))]) ++ [(q1, .inl (Y.2.1, 284, .inl fun _ => 0))]) ++ [(q2, .inl (Y.2.2, 2, .inl fun _ => 0))]) ++ [(q3, .inl (Y.2.1, 3, .inl fun _ => 0))]) ++ [(q4, .inl (Y.2.1, 46, .inl fun _ => 0))]) ++ [(q5, .inl (Y.2.1, 6, .inl fun _ => 0))]) ++ [(q6, .inl (Y.2.1, 6, .inl fun _ => 0))])) := hD
  refine lv_aload_n F.1 F.2.1 D11_65 rfl (lv_at hl 0 rfl) ?_
  refine lv_bipush (v := 6) F.1 F.2.1 D11_66 (by decide) ?_
  refine newI (N := 6) F.1 F.2.1 (F.2.2.2.2.1 _ wAI) F.2.2.2.2.2 hP hD hS hA (by decide) (by decide) (Nat.le_of_ble_eq_true rfl) (Nat.le_of_ble_eq_true rfl) D11_68 (fun q7 H hP hD hS => ?_)
  refine pF (k := 9) (ty := (.array .int)) F hnm rfl in11 tyX11_ok nmX11 (Nat.le_of_ble_eq_true rfl) wf11_36 rfl rfl (by decide +kernel) rfl rfl (Nat.le_of_ble_eq_true rfl) hP hD hS D11_70 (fun H locs hP hD hS => ?_)
  have hP : va_P Y.1 classes ((h0, .inr (11, [.ref q0, .ref q1, .ref q2, .ref q3, .long 0, .long 1, .ref q4, .ref q5, .ref q6, .ref q7, .null, .null, .int 0, .int 0, .int 0, .int 0, .int 0, .null, .null])) :: (((((((([] ++ [(q0, .inl (Y.2.1, 142, .inl fun _ => 0))]) ++ [(q1, .inl (Y.2.1, 284, .inl fun _ => 0))]) ++ [(q2, .inl (Y.2.2, 2, .inl fun _ => 0))]) ++ [(q3, .inl (Y.2.1, 3, .inl fun _ => 0))]) ++ [(q4, .inl (Y.2.1, 46, .inl fun _ => 0))]) ++ [(q5, .inl (Y.2.1, 6, .inl fun _ => 0))]) ++ [(q6, .inl (Y.2.1, 6, .inl fun _ => 0))]) ++ [(q7, .inl (Y.2.1, 6, .inl fun _ => 0))])) H := hP
  have hD : va_D (CtA h0 sz) ((h0, .inr (11, [.ref q0, .ref q1, .ref q2, .ref q3, .long 0, .long 1, .ref q4, .ref q5, .ref q6, .ref q7, .null, .null, .int 0, .int 0, .int 0, .int 0, .int 0, .null, .null])) :: (((((((([] ++ [(q0, .inl (Y.2.1, 142, .inl fun _ => 0))]) ++ [(q1, .inl (Y.2.1, 284, .inl fun _ => 0))]) ++ [(q2, .inl (Y.2.2, 2, .inl fun _ => 0))]) ++ [(q3, .inl (Y.2.1, 3, .inl fun _ => 0))]) ++ [(q4, .inl (Y.2.1, 46, .inl fun _ => 0))]) ++ [(q5, .inl (Y.2.1, 6, .inl fun _ => 0))]) ++ [(q6, .inl (Y.2.1, 6, .inl fun _ => 0))]) ++ [(q7, .inl (Y.2.1, 6, .inl fun _ => 0))])) := hD
  refine lv_aload_n F.1 F.2.1 D11_73 rfl (lv_at hl 0 rfl) ?_
  refine lv_bipush (v := 6) F.1 F.2.1 D11_74 (by decide) ?_
  refine newI (N := 6) F.1 F.2.1 (F.2.2.2.2.1 _ wAI) F.2.2.2.2.2 hP hD hS hA (by decide) (by decide) (Nat.le_of_ble_eq_true rfl) (Nat.le_of_ble_eq_true rfl) D11_76 (fun q8 H hP hD hS => ?_)
  refine pF (k := 10) (ty := (.array .int)) F hnm rfl in11 tyX11_ok nmX11 (Nat.le_of_ble_eq_true rfl) wf11_39 rfl rfl (by decide +kernel) rfl rfl (Nat.le_of_ble_eq_true rfl) hP hD hS D11_78 (fun H locs hP hD hS => ?_)
  have hP : va_P Y.1 classes ((h0, .inr (11, [.ref q0, .ref q1, .ref q2, .ref q3, .long 0, .long 1, .ref q4, .ref q5, .ref q6, .ref q7, .ref q8, .null, .int 0, .int 0, .int 0, .int 0, .int 0, .null, .null])) :: ((((((((([] ++ [(q0, .inl (Y.2.1, 142, .inl fun _ => 0))]) ++ [(q1, .inl (Y.2.1, 284, .inl fun _ => 0))]) ++ [(q2, .inl (Y.2.2, 2, .inl fun _ => 0))]) ++ [(q3, .inl (Y.2.1, 3, .inl fun _ => 0))]) ++ [(q4, .inl (Y.2.1, 46, .inl fun _ => 0))]) ++ [(q5, .inl (Y.2.1, 6, .inl fun _ => 0))]) ++ [(q6, .inl (Y.2.1, 6, .inl fun _ => 0))]) ++ [(q7, .inl (Y.2.1, 6, .inl fun _ => 0))]) ++ [(q8, .inl (Y.2.1, 6, .inl fun _ => 0))])) H := hP
  have hD : va_D (CtA h0 sz) ((h0, .inr (11, [.ref q0, .ref q1, .ref q2, .ref q3, .long 0, .long 1, .ref q4, .ref q5, .ref q6, .ref q7, .ref q8, .null, .int 0, .int 0, .int 0, .int 0, .int 0, .null, .null])) :: ((((((((([] ++ [(q0, .inl (Y.2.1, 142, .inl fun _ => 0))]) ++ [(q1, .inl (Y.2.1, 284, .inl fun _ => 0))]) ++ [(q2, .inl (Y.2.2, 2, .inl fun _ => 0))]) ++ [(q3, .inl (Y.2.1, 3, .inl fun _ => 0))]) ++ [(q4, .inl (Y.2.1, 46, .inl fun _ => 0))]) ++ [(q5, .inl (Y.2.1, 6, .inl fun _ => 0))]) ++ [(q6, .inl (Y.2.1, 6, .inl fun _ => 0))]) ++ [(q7, .inl (Y.2.1, 6, .inl fun _ => 0))]) ++ [(q8, .inl (Y.2.1, 6, .inl fun _ => 0))])) := hD
  refine lv_aload_n F.1 F.2.1 D11_81 rfl (lv_at hl 0 rfl) ?_
  refine lv_sipush (v := 150) F.1 F.2.1 D11_82 (by decide) ?_
  refine newI (N := 150) F.1 F.2.1 (F.2.2.2.2.1 _ wAI) F.2.2.2.2.2 hP hD hS hA (by decide) (by decide) (Nat.le_of_ble_eq_true rfl) (Nat.le_of_ble_eq_true rfl) D11_85 (fun q9 H hP hD hS => ?_)
  refine pF (k := 11) (ty := (.array .int)) F hnm rfl in11 tyX11_ok nmX11 (Nat.le_of_ble_eq_true rfl) wf11_42 rfl rfl (by decide +kernel) rfl rfl (Nat.le_of_ble_eq_true rfl) hP hD hS D11_87 (fun H locs hP hD hS => ?_)
  have hP : va_P Y.1 classes ((h0, .inr (11, [.ref q0, .ref q1, .ref q2, .ref q3, .long 0, .long 1, .ref q4, .ref q5, .ref q6, .ref q7, .ref q8, .ref q9, .int 0, .int 0, .int 0, .int 0, .int 0, .null, .null])) :: (((((((((([] ++ [(q0, .inl (Y.2.1, 142, .inl fun _ => 0))]) ++ [(q1, .inl (Y.2.1, 284, .inl fun _ => 0))]) ++ [(q2, .inl (Y.2.2, 2, .inl fun _ => 0))]) ++ [(q3, .inl (Y.2.1, 3, .inl fun _ => 0))]) ++ [(q4, .inl (Y.2.1, 46, .inl fun _ => 0))]) ++ [(q5, .inl (Y.2.1, 6, .inl fun _ => 0))]) ++ [(q6, .inl (Y.2.1, 6, .inl fun _ => 0))]) ++ [(q7, .inl (Y.2.1, 6, .inl fun _ => 0))]) ++ [(q8, .inl (Y.2.1, 6, .inl fun _ => 0))]) ++ [(q9, .inl (Y.2.1, 150, .inl fun _ => 0))])) H := hP
  have hD : va_D (CtA h0 sz) ((h0, .inr (11, [.ref q0, .ref q1, .ref q2, .ref q3, .long 0, .long 1, .ref q4, .ref q5, .ref q6, .ref q7, .ref q8, .ref q9, .int 0, .int 0, .int 0, .int 0, .int 0, .null, .null])) :: (((((((((([] ++ [(q0, .inl (Y.2.1, 142, .inl fun _ => 0))]) ++ [(q1, .inl (Y.2.1, 284, .inl fun _ => 0))]) ++ [(q2, .inl (Y.2.2, 2, .inl fun _ => 0))]) ++ [(q3, .inl (Y.2.1, 3, .inl fun _ => 0))]) ++ [(q4, .inl (Y.2.1, 46, .inl fun _ => 0))]) ++ [(q5, .inl (Y.2.1, 6, .inl fun _ => 0))]) ++ [(q6, .inl (Y.2.1, 6, .inl fun _ => 0))]) ++ [(q7, .inl (Y.2.1, 6, .inl fun _ => 0))]) ++ [(q8, .inl (Y.2.1, 6, .inl fun _ => 0))]) ++ [(q9, .inl (Y.2.1, 150, .inl fun _ => 0))])) := hD
  refine lv_aload_n F.1 F.2.1 D11_90 rfl (lv_at hl 0 rfl) ?_
  refine lv_bipush (v := 110) F.1 F.2.1 D11_91 (by decide) ?_
  refine newI (N := 110) F.1 F.2.1 (F.2.2.2.2.1 _ wAI) F.2.2.2.2.2 hP hD hS hA (by decide) (by decide) (Nat.le_of_ble_eq_true rfl) (Nat.le_of_ble_eq_true rfl) D11_93 (fun q10 H hP hD hS => ?_)
  refine pF (k := 17) (ty := (.array .int)) F hnm rfl in11 tyX11_ok nmX11 (Nat.le_of_ble_eq_true rfl) wf11_45 rfl rfl (by decide +kernel) rfl rfl (Nat.le_of_ble_eq_true rfl) hP hD hS D11_95 (fun H locs hP hD hS => ?_)
  have hP : va_P Y.1 classes ((h0, .inr (11, [.ref q0, .ref q1, .ref q2, .ref q3, .long 0, .long 1, .ref q4, .ref q5, .ref q6, .ref q7, .ref q8, .ref q9, .int 0, .int 0, .int 0, .int 0, .int 0, .ref q10, .null])) :: ((((((((((([] ++ [(q0, .inl (Y.2.1, 142, .inl fun _ => 0))]) ++ [(q1, .inl (Y.2.1, 284, .inl fun _ => 0))]) ++ [(q2, .inl (Y.2.2, 2, .inl fun _ => 0))]) ++ [(q3, .inl (Y.2.1, 3, .inl fun _ => 0))]) ++ [(q4, .inl (Y.2.1, 46, .inl fun _ => 0))]) ++ [(q5, .inl (Y.2.1, 6, .inl fun _ => 0))]) ++ [(q6, .inl (Y.2.1, 6, .inl fun _ => 0))]) ++ [(q7, .inl (Y.2.1, 6, .inl fun _ => 0))]) ++ [(q8, .inl (Y.2.1, 6, .inl fun _ => 0))]) ++ [(q9, .inl (Y.2.1, 150, .inl fun _ => 0))]) ++ [(q10, .inl (Y.2.1, 110, .inl fun _ => 0))])) H := hP
  have hD : va_D (CtA h0 sz) ((h0, .inr (11, [.ref q0, .ref q1, .ref q2, .ref q3, .long 0, .long 1, .ref q4, .ref q5, .ref q6, .ref q7, .ref q8, .ref q9, .int 0, .int 0, .int 0, .int 0, .int 0, .ref q10, .null])) :: ((((((((((([] ++ [(q0, .inl (Y.2.1, 142, .inl fun _ => 0))]) ++ [(q1, .inl (Y.2.1, 284, .inl fun _ => 0))]) ++ [(q2, .inl (Y.2.2, 2, .inl fun _ => 0))]) ++ [(q3, .inl (Y.2.1, 3, .inl fun _ => 0))]) ++ [(q4, .inl (Y.2.1, 46, .inl fun _ => 0))]) ++ [(q5, .inl (Y.2.1, 6, .inl fun _ => 0))]) ++ [(q6, .inl (Y.2.1, 6, .inl fun _ => 0))]) ++ [(q7, .inl (Y.2.1, 6, .inl fun _ => 0))]) ++ [(q8, .inl (Y.2.1, 6, .inl fun _ => 0))]) ++ [(q9, .inl (Y.2.1, 150, .inl fun _ => 0))]) ++ [(q10, .inl (Y.2.1, 110, .inl fun _ => 0))])) := hD
  refine lv_aload_n F.1 F.2.1 D11_98 rfl (lv_at hl 0 rfl) ?_
  refine lv_iconst (v := 3) F.1 F.2.1 D11_99 (by decide) ?_
  refine newI (N := 3) F.1 F.2.1 (F.2.2.2.2.1 _ wAI) F.2.2.2.2.2 hP hD hS hA (by decide) (by decide) (Nat.le_of_ble_eq_true rfl) (Nat.le_of_ble_eq_true rfl) D11_100 (fun q11 H hP hD hS => ?_)
  refine pF (k := 18) (ty := (.array .int)) F hnm rfl in11 tyX11_ok nmX11 (Nat.le_of_ble_eq_true rfl) wf11_48 rfl rfl (by decide +kernel) rfl rfl (Nat.le_of_ble_eq_true rfl) hP hD hS D11_102 (fun H locs hP hD hS => ?_)
  have hP : va_P Y.1 classes ((h0, .inr (11, [.ref q0, .ref q1, .ref q2, .ref q3, .long 0, .long 1, .ref q4, .ref q5, .ref q6, .ref q7, .ref q8, .ref q9, .int 0, .int 0, .int 0, .int 0, .int 0, .ref q10, .ref q11])) :: (((((((((((([] ++ [(q0, .inl (Y.2.1, 142, .inl fun _ => 0))]) ++ [(q1, .inl (Y.2.1, 284, .inl fun _ => 0))]) ++ [(q2, .inl (Y.2.2, 2, .inl fun _ => 0))]) ++ [(q3, .inl (Y.2.1, 3, .inl fun _ => 0))]) ++ [(q4, .inl (Y.2.1, 46, .inl fun _ => 0))]) ++ [(q5, .inl (Y.2.1, 6, .inl fun _ => 0))]) ++ [(q6, .inl (Y.2.1, 6, .inl fun _ => 0))]) ++ [(q7, .inl (Y.2.1, 6, .inl fun _ => 0))]) ++ [(q8, .inl (Y.2.1, 6, .inl fun _ => 0))]) ++ [(q9, .inl (Y.2.1, 150, .inl fun _ => 0))]) ++ [(q10, .inl (Y.2.1, 110, .inl fun _ => 0))]) ++ [(q11, .inl (Y.2.1, 3, .inl fun _ => 0))])) H := hP
  have hD : va_D (CtA h0 sz) ((h0, .inr (11, [.ref q0, .ref q1, .ref q2, .ref q3, .long 0, .long 1, .ref q4, .ref q5, .ref q6, .ref q7, .ref q8, .ref q9, .int 0, .int 0, .int 0, .int 0, .int 0, .ref q10, .ref q11])) :: (((((((((((([] ++ [(q0, .inl (Y.2.1, 142, .inl fun _ => 0))]) ++ [(q1, .inl (Y.2.1, 284, .inl fun _ => 0))]) ++ [(q2, .inl (Y.2.2, 2, .inl fun _ => 0))]) ++ [(q3, .inl (Y.2.1, 3, .inl fun _ => 0))]) ++ [(q4, .inl (Y.2.1, 46, .inl fun _ => 0))]) ++ [(q5, .inl (Y.2.1, 6, .inl fun _ => 0))]) ++ [(q6, .inl (Y.2.1, 6, .inl fun _ => 0))]) ++ [(q7, .inl (Y.2.1, 6, .inl fun _ => 0))]) ++ [(q8, .inl (Y.2.1, 6, .inl fun _ => 0))]) ++ [(q9, .inl (Y.2.1, 150, .inl fun _ => 0))]) ++ [(q10, .inl (Y.2.1, 110, .inl fun _ => 0))]) ++ [(q11, .inl (Y.2.1, 3, .inl fun _ => 0))])) := hD
  obtain ⟨U, hU⟩ : ∃ U : Nat → Nat, U = fun i => [q0, q1, q2, q3, q4, q5, q6, q7, q8, q9, q10, q11].getD i 0 := ⟨_, rfl⟩
  have hP : va_P Y.1 classes (wl (XM Y h0 a12 a23 U) (m0V true)) H := by rw [hU]; exact hP
  have hD : va_D (CtA h0 sz) (wl (XM Y h0 a12 a23 U) (m0V true)) := by rw [hU]; exact hD
  refine goM (XM Y h0 a12 a23 U) p l e _ s m args below meth c (CtA h0 sz) _ _ _ ⟨F.1, F.2.1, F.2.2.1, F.2.2.2.1, F.2.2.2.2.1, F.2.2.2.2.2, ⟨cl_of clM, ap_of hD⟩, in_ofD hD, hex, fun h => absurd h (by decide), (Nat.le_of_ble_eq_true rfl), (Nat.le_of_ble_eq_true rfl), (Nat.le_of_ble_eq_true rfl), (Nat.le_of_ble_eq_true rfl)⟩ (fun pc H locs ls hd _ _ hW hS => ret H locs _ _ pc ls U hd (Nat.le_of_ble_eq_true rfl) (Nat.le_of_ble_eq_true rfl) hW.1 (wl_D (cl_of clM) (ap_of hD) (in_ofD hD)) hS) (fun a ha => ?_) (fun a ha => nomatch ha) H locs ls ⟨hl.1, hl.2.1, fun i a hi => ?_⟩ ⟨hP, rfl, rfl⟩ hS
  · rcases List.mem_singleton.mp ha with ha
    cases ha
    show (if (11 : Nat) ∈ kds then ((11 : Nat), (0 : Nat)) ∈ klM else (0 : Nat) < cnt 11)
    rw [if_pos (by decide)]
    exact List.mem_cons_self
  · rcases i with _ | i
    · cases hi
      exact lv_at hl 0 rfl
    · exact nomatch hi
abbrev m10_init : MI := (yX10_init, cX10_init, 1, none, 4, 92)
theorem mok10_init : MOK m10_init := ⟨mt1 (j := 23) rfl rfl, by decide +kernel, mt1 (j := 1) rfl rfl, ⟨by decide +kernel, by decide +kernel⟩, by decide +kernel⟩
theorem D10_0 : decode cX10_init 0 = .ok (.aload_n 0, 1) := by decide +kernel
theorem D10_1 : decode cX10_init 1 = .ok (.invokespecial 1, 3) := by decide +kernel
theorem D10_4 : decode cX10_init 4 = .ok (.aload_n 0, 1) := by decide +kernel
theorem D10_5 : decode cX10_init 5 = .ok (.new 7, 3) := by decide +kernel
theorem D10_8 : decode cX10_init 8 = .ok (.dup, 1) := by decide +kernel
theorem D10_9 : decode cX10_init 9 = .ok (.invokespecial 9, 3) := by decide +kernel
theorem D10_12 : decode cX10_init 12 = .ok (.putfield 10, 3) := by decide +kernel
theorem D10_15 : decode cX10_init 15 = .ok (.aload_n 0, 1) := by decide +kernel
theorem D10_16 : decode cX10_init 16 = .ok (.new 7, 3) := by decide +kernel
theorem D10_19 : decode cX10_init 19 = .ok (.dup, 1) := by decide +kernel
theorem D10_20 : decode cX10_init 20 = .ok (.invokespecial 9, 3) := by decide +kernel
theorem D10_23 : decode cX10_init 23 = .ok (.putfield 16, 3) := by decide +kernel
theorem D10_26 : decode cX10_init 26 = .ok (.aload_n 0, 1) := by decide +kernel
theorem D10_27 : decode cX10_init 27 = .ok (.new 7, 3) := by decide +kernel
theorem D10_30 : decode cX10_init 30 = .ok (.dup, 1) := by decide +kernel
theorem D10_31 : decode cX10_init 31 = .ok (.invokespecial 9, 3) := by decide +kernel
theorem D10_34 : decode cX10_init 34 = .ok (.putfield 19, 3) := by decide +kernel
theorem D10_37 : decode cX10_init 37 = .ok (.aload_n 0, 1) := by decide +kernel
theorem D10_38 : decode cX10_init 38 = .ok (.new 7, 3) := by decide +kernel
theorem D10_41 : decode cX10_init 41 = .ok (.dup, 1) := by decide +kernel
theorem D10_42 : decode cX10_init 42 = .ok (.invokespecial 9, 3) := by decide +kernel
theorem D10_45 : decode cX10_init 45 = .ok (.putfield 22, 3) := by decide +kernel
theorem D10_48 : decode cX10_init 48 = .ok (.aload_n 0, 1) := by decide +kernel
theorem D10_49 : decode cX10_init 49 = .ok (.new 25, 3) := by decide +kernel
theorem D10_52 : decode cX10_init 52 = .ok (.dup, 1) := by decide +kernel
theorem D10_53 : decode cX10_init 53 = .ok (.invokespecial 27, 3) := by decide +kernel
theorem D10_56 : decode cX10_init 56 = .ok (.putfield 28, 3) := by decide +kernel
theorem D10_59 : decode cX10_init 59 = .ok (.aload_n 0, 1) := by decide +kernel
theorem D10_60 : decode cX10_init 60 = .ok (.new 32, 3) := by decide +kernel
theorem D10_63 : decode cX10_init 63 = .ok (.dup, 1) := by decide +kernel
theorem D10_64 : decode cX10_init 64 = .ok (.bipush 12, 2) := by decide +kernel
theorem D10_66 : decode cX10_init 66 = .ok (.invokespecial 34, 3) := by decide +kernel
theorem D10_69 : decode cX10_init 69 = .ok (.putfield 37, 3) := by decide +kernel
theorem D10_72 : decode cX10_init 72 = .ok (.aload_n 0, 1) := by decide +kernel
theorem D10_73 : decode cX10_init 73 = .ok (.new 41, 3) := by decide +kernel
theorem D10_76 : decode cX10_init 76 = .ok (.dup, 1) := by decide +kernel
theorem D10_77 : decode cX10_init 77 = .ok (.invokespecial 43, 3) := by decide +kernel
theorem D10_80 : decode cX10_init 80 = .ok (.putfield 44, 3) := by decide +kernel
theorem D10_83 : decode cX10_init 83 = .ok (.aload_n 0, 1) := by decide +kernel
theorem D10_84 : decode cX10_init 84 = .ok (.new 48, 3) := by decide +kernel
theorem D10_87 : decode cX10_init 87 = .ok (.dup, 1) := by decide +kernel
theorem D10_88 : decode cX10_init 88 = .ok (.invokespecial 50, 3) := by decide +kernel
theorem D10_91 : decode cX10_init 91 = .ok (.putfield 51, 3) := by decide +kernel
theorem D10_94 : decode cX10_init 94 = .ok (.aload_n 0, 1) := by decide +kernel
theorem D10_95 : decode cX10_init 95 = .ok (.new 55, 3) := by decide +kernel
theorem D10_98 : decode cX10_init 98 = .ok (.dup, 1) := by decide +kernel
theorem D10_99 : decode cX10_init 99 = .ok (.invokespecial 57, 3) := by decide +kernel
theorem D10_102 : decode cX10_init 102 = .ok (.putfield 58, 3) := by decide +kernel
theorem D10_105 : decode cX10_init 105 = .ok (.aload_n 0, 1) := by decide +kernel
theorem D10_106 : decode cX10_init 106 = .ok (.new 62, 3) := by decide +kernel
theorem D10_109 : decode cX10_init 109 = .ok (.dup, 1) := by decide +kernel
theorem D10_110 : decode cX10_init 110 = .ok (.invokespecial 64, 3) := by decide +kernel
theorem D10_113 : decode cX10_init 113 = .ok (.putfield 65, 3) := by decide +kernel
theorem D10_116 : decode cX10_init 116 = .ok (.aload_n 0, 1) := by decide +kernel
theorem D10_117 : decode cX10_init 117 = .ok (.new 69, 3) := by decide +kernel
theorem D10_120 : decode cX10_init 120 = .ok (.dup, 1) := by decide +kernel
theorem D10_121 : decode cX10_init 121 = .ok (.invokespecial 71, 3) := by decide +kernel
theorem D10_124 : decode cX10_init 124 = .ok (.putfield 72, 3) := by decide +kernel
theorem D10_127 : decode cX10_init 127 = .ok (.return_, 1) := by decide +kernel
theorem fo10 : FO 10 RX10 16 [.null, .null, .null, .null, .null, .null, .null, .null, .null, .null, .null, .int 0, .int 0, .int 0, .int 0, .int 0] := ⟨TX10, tyX10, rfl, in10, tyX10_ok, fun j hj => by rcases (show j = 0 ∨ j = 1 ∨ j = 2 ∨ j = 3 ∨ j = 4 ∨ j = 5 ∨ j = 6 ∨ j = 7 ∨ j = 8 ∨ j = 9 ∨ j = 10 ∨ j = 11 ∨ j = 12 ∨ j = 13 ∨ j = 14 ∨ j = 15 by omega) with rfl | rfl | rfl | rfl | rfl | rfl | rfl | rfl | rfl | rfl | rfl | rfl | rfl | rfl | rfl | rfl <;> rfl, mt1 (j := 20) rfl rfl, mt1 (j := 1) rfl rfl⟩
theorem wo10 : Cond.methodLink RX10 1 objectInit ∈ gt := mt1 (j := 24) rfl rfl
theorem wk10_7 : Cond.classLink RX10 7 RX9 ∈ gt := mt1 (j := 27) rfl rfl
theorem wf10_10 : Cond.fieldLink RX10 10 RX10 "here" "LSteepleStruck$Village;" ∈ gt := mt2 (j := 14) rfl rfl
theorem wf10_16 : Cond.fieldLink RX10 16 RX10 "draft" "LSteepleStruck$Village;" ∈ gt := mt2 (j := 15) rfl rfl
theorem wf10_19 : Cond.fieldLink RX10 19 RX10 "firstImage" "LSteepleStruck$Village;" ∈ gt := mt2 (j := 16) rfl rfl
theorem wf10_22 : Cond.fieldLink RX10 22 RX10 "secondImage" "LSteepleStruck$Village;" ∈ gt := mt2 (j := 17) rfl rfl
theorem wk10_25 : Cond.classLink RX10 25 RX4 ∈ gt := mt1 (j := 147) rfl rfl
theorem wf10_28 : Cond.fieldLink RX10 28 RX10 "trial" "LSteepleStruck$Moment;" ∈ gt := mt2 (j := 18) rfl rfl
theorem wk10_32 : Cond.classLink RX10 32 RX6 ∈ gt := mt1 (j := 149) rfl rfl
theorem wf10_37 : Cond.fieldLink RX10 37 RX10 "ahead" "LSteepleStruck$Row;" ∈ gt := mt2 (j := 19) rfl rfl
theorem wk10_41 : Cond.classLink RX10 41 RX8 ∈ gt := mt1 (j := 160) rfl rfl
theorem wf10_44 : Cond.fieldLink RX10 44 RX10 "text" "LSteepleStruck$Text;" ∈ gt := mt2 (j := 20) rfl rfl
theorem wk10_48 : Cond.classLink RX10 48 RX1 ∈ gt := mt1 (j := 190) rfl rfl
theorem wf10_51 : Cond.fieldLink RX10 51 RX10 "fraction" "LSteepleStruck$Fraction;" ∈ gt := mt2 (j := 21) rfl rfl
theorem wk10_55 : Cond.classLink RX10 55 RX5 ∈ gt := mt1 (j := 203) rfl rfl
theorem wf10_58 : Cond.fieldLink RX10 58 RX10 "orders" "LSteepleStruck$Orders;" ∈ gt := mt2 (j := 22) rfl rfl
theorem wk10_62 : Cond.classLink RX10 62 RX2 ∈ gt := mt1 (j := 227) rfl rfl
theorem wf10_65 : Cond.fieldLink RX10 65 RX10 "guesses" "LSteepleStruck$Guesses;" ∈ gt := mt2 (j := 23) rfl rfl
theorem wk10_69 : Cond.classLink RX10 69 RX0 ∈ gt := mt1 (j := 239) rfl rfl
theorem wf10_72 : Cond.fieldLink RX10 72 RX10 "bets" "LSteepleStruck$Bets;" ∈ gt := mt2 (j := 24) rfl rfl
theorem ci10_9 : CI RX10 9 m9_init 0 := ⟨mok9_init, mt1 (j := 29) rfl rfl, mt1 (j := 30) rfl rfl, by decide +kernel, rfl, rfl⟩
theorem ci10_34 : CI RX10 34 m6_init 1 := ⟨mok6_init, mt1 (j := 151) rfl rfl, mt1 (j := 152) rfl rfl, by decide +kernel, rfl, rfl⟩
def bld10 (Y : K0) (h0 : Nat) (a12 a23 : Nat → Nat) (u : Nat → Nat → Nat) : va_W := (h0, .inr (10, [.ref (u 4 0), .ref (u 4 1), .ref (u 4 2), .ref (u 4 3), .ref (u 4 4), .ref (u 4 5), .ref (u 4 6), .ref (u 4 7), .ref (u 4 8), .ref (u 4 9), .ref (u 4 10), .int 0, .int 0, .int 0, .int 0, .int 0])) :: ((((((((((([] ++ bld9 Y (u 4 0) a12 a23 (u 0)) ++ bld9 Y (u 4 1) a12 a23 (u 1)) ++ bld9 Y (u 4 2) a12 a23 (u 2)) ++ bld9 Y (u 4 3) a12 a23 (u 3)) ++ bld4 (u 4 4) ()) ++ bld6 Y 12 (u 4 5) (u 5 0)) ++ bld8 Y (u 4 6) (u 6)) ++ bld1 (u 4 7) ()) ++ bld5 Y (u 4 8) (u 7)) ++ bld2 Y (u 4 9) (u 8)) ++ bld0 Y (u 4 10) (u 9))
def NX (U : State) : Prop := va_Nw (.methodLinkNest RX9 40 yX4_init "SteepleStruck") U ∧ va_Nw (.methodLinkNest RX10 27 yX4_init "SteepleStruck") U ∧ va_Nw (.methodLinkNest RX10 43 yX8_init "SteepleStruck") U ∧ va_Nw (.methodLinkNest RX10 50 yX1_init "SteepleStruck") U ∧ va_Nw (.methodLinkNest RX10 57 yX5_init "SteepleStruck") U ∧ va_Nw (.methodLinkNest RX10 64 yX2_init "SteepleStruck") U ∧ va_Nw (.methodLinkNest RX10 71 yX0_init "SteepleStruck") U
theorem NX.same {u U : State} (hv : u.vm = U.vm) (h : NX u) : NX U := ⟨va_Nw.same rfl hv h.1, va_Nw.same rfl hv h.2.1, va_Nw.same rfl hv h.2.2.1, va_Nw.same rfl hv h.2.2.2.1, va_Nw.same rfl hv h.2.2.2.2.1, va_Nw.same rfl hv h.2.2.2.2.2.1, va_Nw.same rfl hv h.2.2.2.2.2.2⟩
theorem NX.warm {s U : State} (hW : s.WarmedH U.vm) (h : NX s) : NX U := ⟨va_Nw.warmM hW h.1, va_Nw.warmM hW h.2.1, va_Nw.warmM hW h.2.2.1, va_Nw.warmM hW h.2.2.2.1, va_Nw.warmM hW h.2.2.2.2.1, va_Nw.warmM hW h.2.2.2.2.2.1, va_Nw.warmM hW h.2.2.2.2.2.2⟩
abbrev ex10 (a12 a23 : Nat → Nat) (h0 sz : Nat) : State → Prop := fun U => SY a12 a23 (CtA h0 sz) U U.heap ∧ NX U
set_option maxRecDepth 20000 in
set_option maxHeartbeats 4000000 in
theorem c10_init (l : Launch) (Y : K0) (h0 sz : Nat) (a12 a23 : Nat → Nat) : Met l m10_init.1 (wsM m10_init) (rmC m10_init 86 1032) (CtP Y (ex10 a12 a23 h0 sz) h0 10 [.null, .null, .null, .null, .null, .null, .null, .null, .null, .null, .null, .int 0, .int 0, .int 0, .int 0, .int 0] [] sz) (CtQ Y h0 sz (bld10 Y h0 a12 a23)) 86 1032 (CtA h0 sz) := by
  refine cons_of l mok10_init rfl rfl (Nat.le_of_ble_eq_true rfl) ?_
  intro p e s m args below meth c F hnm hex hsz ret ls hl hP hD hS hA
  refine lv_aload_n F.1 F.2.1 D10_0 rfl (lv_at hl 0 rfl) ?_
  refine oI F wo10 wIO wCO hl.1 rfl D10_1 ⟨(Nat.le_of_ble_eq_true rfl), (Nat.le_of_ble_eq_true rfl)⟩ ?_
  refine lv_aload_n F.1 F.2.1 D10_4 rfl (lv_at hl 0 rfl) ?_
  refine nO F fo9 wk10_7 hP hD hS hA (Nat.le_of_ble_eq_true rfl) (Nat.le_of_ble_eq_true rfl) D10_5 (fun q0 H hP hD hS => ?_)
  refine lv_dup F.1 F.2.1 D10_8 rfl ?_
  have hsub := CtA_sub hD hS hsz
  refine cons_go (runI (As := []) (rest := [.ref q0, .ref h0]) ⟨F.1, F.2.1, F.2.2.1, F.2.2.2.1, F.2.2.2.2.1⟩ ci10_9 (c9_init l Y q0 H.size a12 a23) rfl ⟨(Nat.le_of_ble_eq_true rfl), (Nat.le_of_ble_eq_true rfl)⟩ (fun _ _ _ _ h => ⟨SY.same rfl h.1, va_Nw.same rfl rfl h.2⟩) (fun U hU hW => ⟨by rw [hU]; exact SY.warm hW (hex.1.down hS hsub), va_Nw.warmM hW hex.2.1⟩) (P_last hP) F.2.2.2.2.2 hl.1 (Nat.le_of_ble_eq_true rfl) D10_9 ⟨(Nat.le_of_ble_eq_true rfl), (Nat.le_of_ble_eq_true rfl)⟩) hP hD hS hA (fun u0 H locs hP hD hS => ?_)
  refine pF (k := 0) (ty := .object "SteepleStruck$Village") F hnm rfl in10 tyX10_ok nmX10 (Nat.le_of_ble_eq_true rfl) wf10_10 rfl rfl (by decide +kernel) rfl rfl (Nat.le_of_ble_eq_true rfl) hP hD hS D10_12 (fun H locs hP hD hS => ?_)
  have hP : va_P Y.1 classes ((h0, .inr (10, [.ref q0, .null, .null, .null, .null, .null, .null, .null, .null, .null, .null, .int 0, .int 0, .int 0, .int 0, .int 0])) :: ([] ++ bld9 Y q0 a12 a23 u0)) H := hP
  have hD : va_D (CtA h0 sz) ((h0, .inr (10, [.ref q0, .null, .null, .null, .null, .null, .null, .null, .null, .null, .null, .int 0, .int 0, .int 0, .int 0, .int 0])) :: ([] ++ bld9 Y q0 a12 a23 u0)) := hD
  refine lv_aload_n F.1 F.2.1 D10_15 rfl (lv_at hl 0 rfl) ?_
  refine nO F fo9 wk10_7 hP hD hS hA (Nat.le_of_ble_eq_true rfl) (Nat.le_of_ble_eq_true rfl) D10_16 (fun q1 H hP hD hS => ?_)
  refine lv_dup F.1 F.2.1 D10_19 rfl ?_
  have hsub := CtA_sub hD hS hsz
  refine cons_go (runI (As := []) (rest := [.ref q1, .ref h0]) ⟨F.1, F.2.1, F.2.2.1, F.2.2.2.1, F.2.2.2.2.1⟩ ci10_9 (c9_init l Y q1 H.size a12 a23) rfl ⟨(Nat.le_of_ble_eq_true rfl), (Nat.le_of_ble_eq_true rfl)⟩ (fun _ _ _ _ h => ⟨SY.same rfl h.1, va_Nw.same rfl rfl h.2⟩) (fun U hU hW => ⟨by rw [hU]; exact SY.warm hW (hex.1.down hS hsub), va_Nw.warmM hW hex.2.1⟩) (P_last hP) F.2.2.2.2.2 hl.1 (Nat.le_of_ble_eq_true rfl) D10_20 ⟨(Nat.le_of_ble_eq_true rfl), (Nat.le_of_ble_eq_true rfl)⟩) hP hD hS hA (fun u1 H locs hP hD hS => ?_)
  refine pF (k := 1) (ty := .object "SteepleStruck$Village") F hnm rfl in10 tyX10_ok nmX10 (Nat.le_of_ble_eq_true rfl) wf10_16 rfl rfl (by decide +kernel) rfl rfl (Nat.le_of_ble_eq_true rfl) hP hD hS D10_23 (fun H locs hP hD hS => ?_)
  have hP : va_P Y.1 classes ((h0, .inr (10, [.ref q0, .ref q1, .null, .null, .null, .null, .null, .null, .null, .null, .null, .int 0, .int 0, .int 0, .int 0, .int 0])) :: (([] ++ bld9 Y q0 a12 a23 u0) ++ bld9 Y q1 a12 a23 u1)) H := hP
  have hD : va_D (CtA h0 sz) ((h0, .inr (10, [.ref q0, .ref q1, .null, .null, .null, .null, .null, .null, .null, .null, .null, .int 0, .int 0, .int 0, .int 0, .int 0])) :: (([] ++ bld9 Y q0 a12 a23 u0) ++ bld9 Y q1 a12 a23 u1)) := hD
  refine lv_aload_n F.1 F.2.1 D10_26 rfl (lv_at hl 0 rfl) ?_
  refine nO F fo9 wk10_7 hP hD hS hA (Nat.le_of_ble_eq_true rfl) (Nat.le_of_ble_eq_true rfl) D10_27 (fun q2 H hP hD hS => ?_)
  refine lv_dup F.1 F.2.1 D10_30 rfl ?_
  have hsub := CtA_sub hD hS hsz
  refine cons_go (runI (As := []) (rest := [.ref q2, .ref h0]) ⟨F.1, F.2.1, F.2.2.1, F.2.2.2.1, F.2.2.2.2.1⟩ ci10_9 (c9_init l Y q2 H.size a12 a23) rfl ⟨(Nat.le_of_ble_eq_true rfl), (Nat.le_of_ble_eq_true rfl)⟩ (fun _ _ _ _ h => ⟨SY.same rfl h.1, va_Nw.same rfl rfl h.2⟩) (fun U hU hW => ⟨by rw [hU]; exact SY.warm hW (hex.1.down hS hsub), va_Nw.warmM hW hex.2.1⟩) (P_last hP) F.2.2.2.2.2 hl.1 (Nat.le_of_ble_eq_true rfl) D10_31 ⟨(Nat.le_of_ble_eq_true rfl), (Nat.le_of_ble_eq_true rfl)⟩) hP hD hS hA (fun u2 H locs hP hD hS => ?_)
  refine pF (k := 2) (ty := .object "SteepleStruck$Village") F hnm rfl in10 tyX10_ok nmX10 (Nat.le_of_ble_eq_true rfl) wf10_19 rfl rfl (by decide +kernel) rfl rfl (Nat.le_of_ble_eq_true rfl) hP hD hS D10_34 (fun H locs hP hD hS => ?_)
  have hP : va_P Y.1 classes ((h0, .inr (10, [.ref q0, .ref q1, .ref q2, .null, .null, .null, .null, .null, .null, .null, .null, .int 0, .int 0, .int 0, .int 0, .int 0])) :: ((([] ++ bld9 Y q0 a12 a23 u0) ++ bld9 Y q1 a12 a23 u1) ++ bld9 Y q2 a12 a23 u2)) H := hP
  have hD : va_D (CtA h0 sz) ((h0, .inr (10, [.ref q0, .ref q1, .ref q2, .null, .null, .null, .null, .null, .null, .null, .null, .int 0, .int 0, .int 0, .int 0, .int 0])) :: ((([] ++ bld9 Y q0 a12 a23 u0) ++ bld9 Y q1 a12 a23 u1) ++ bld9 Y q2 a12 a23 u2)) := hD
  refine lv_aload_n F.1 F.2.1 D10_37 rfl (lv_at hl 0 rfl) ?_
  refine nO F fo9 wk10_7 hP hD hS hA (Nat.le_of_ble_eq_true rfl) (Nat.le_of_ble_eq_true rfl) D10_38 (fun q3 H hP hD hS => ?_)
  refine lv_dup F.1 F.2.1 D10_41 rfl ?_
  have hsub := CtA_sub hD hS hsz
  refine cons_go (runI (As := []) (rest := [.ref q3, .ref h0]) ⟨F.1, F.2.1, F.2.2.1, F.2.2.2.1, F.2.2.2.2.1⟩ ci10_9 (c9_init l Y q3 H.size a12 a23) rfl ⟨(Nat.le_of_ble_eq_true rfl), (Nat.le_of_ble_eq_true rfl)⟩ (fun _ _ _ _ h => ⟨SY.same rfl h.1, va_Nw.same rfl rfl h.2⟩) (fun U hU hW => ⟨by rw [hU]; exact SY.warm hW (hex.1.down hS hsub), va_Nw.warmM hW hex.2.1⟩) (P_last hP) F.2.2.2.2.2 hl.1 (Nat.le_of_ble_eq_true rfl) D10_42 ⟨(Nat.le_of_ble_eq_true rfl), (Nat.le_of_ble_eq_true rfl)⟩) hP hD hS hA (fun u3 H locs hP hD hS => ?_)
  refine pF (k := 3) (ty := .object "SteepleStruck$Village") F hnm rfl in10 tyX10_ok nmX10 (Nat.le_of_ble_eq_true rfl) wf10_22 rfl rfl (by decide +kernel) rfl rfl (Nat.le_of_ble_eq_true rfl) hP hD hS D10_45 (fun H locs hP hD hS => ?_)
  have hP : va_P Y.1 classes ((h0, .inr (10, [.ref q0, .ref q1, .ref q2, .ref q3, .null, .null, .null, .null, .null, .null, .null, .int 0, .int 0, .int 0, .int 0, .int 0])) :: (((([] ++ bld9 Y q0 a12 a23 u0) ++ bld9 Y q1 a12 a23 u1) ++ bld9 Y q2 a12 a23 u2) ++ bld9 Y q3 a12 a23 u3)) H := hP
  have hD : va_D (CtA h0 sz) ((h0, .inr (10, [.ref q0, .ref q1, .ref q2, .ref q3, .null, .null, .null, .null, .null, .null, .null, .int 0, .int 0, .int 0, .int 0, .int 0])) :: (((([] ++ bld9 Y q0 a12 a23 u0) ++ bld9 Y q1 a12 a23 u1) ++ bld9 Y q2 a12 a23 u2) ++ bld9 Y q3 a12 a23 u3)) := hD
  refine lv_aload_n F.1 F.2.1 D10_48 rfl (lv_at hl 0 rfl) ?_
  refine nO F fo4 wk10_25 hP hD hS hA (Nat.le_of_ble_eq_true rfl) (Nat.le_of_ble_eq_true rfl) D10_49 (fun q4 H hP hD hS => ?_)
  refine lv_dup F.1 F.2.1 D10_52 rfl ?_
  refine cons_go (runIN (As := []) (rest := [.ref q4, .ref h0]) ⟨F.1, F.2.1, F.2.2.1, F.2.2.2.1, F.2.2.2.2.1⟩ cin4 hex.2.2.1 (c4_init l Y q4 H.size (fun _ => True)) rfl ⟨(Nat.le_of_ble_eq_true rfl), (Nat.le_of_ble_eq_true rfl)⟩ (fun _ _ _ _ h => h) (fun _ _ _ => trivial) (P_last hP) F.2.2.2.2.2 hl.1 (Nat.le_of_ble_eq_true rfl) D10_53 ⟨(Nat.le_of_ble_eq_true rfl), (Nat.le_of_ble_eq_true rfl)⟩) hP hD hS hA (fun u4 H locs hP hD hS => ?_)
  refine pF (k := 4) (ty := .object "SteepleStruck$Moment") F hnm rfl in10 tyX10_ok nmX10 (Nat.le_of_ble_eq_true rfl) wf10_28 rfl rfl (by decide +kernel) rfl rfl (Nat.le_of_ble_eq_true rfl) hP hD hS D10_56 (fun H locs hP hD hS => ?_)
  have hP : va_P Y.1 classes ((h0, .inr (10, [.ref q0, .ref q1, .ref q2, .ref q3, .ref q4, .null, .null, .null, .null, .null, .null, .int 0, .int 0, .int 0, .int 0, .int 0])) :: ((((([] ++ bld9 Y q0 a12 a23 u0) ++ bld9 Y q1 a12 a23 u1) ++ bld9 Y q2 a12 a23 u2) ++ bld9 Y q3 a12 a23 u3) ++ bld4 q4 u4)) H := hP
  have hD : va_D (CtA h0 sz) ((h0, .inr (10, [.ref q0, .ref q1, .ref q2, .ref q3, .ref q4, .null, .null, .null, .null, .null, .null, .int 0, .int 0, .int 0, .int 0, .int 0])) :: ((((([] ++ bld9 Y q0 a12 a23 u0) ++ bld9 Y q1 a12 a23 u1) ++ bld9 Y q2 a12 a23 u2) ++ bld9 Y q3 a12 a23 u3) ++ bld4 q4 u4)) := hD
  refine lv_aload_n F.1 F.2.1 D10_59 rfl (lv_at hl 0 rfl) ?_
  refine nO F fo6 wk10_32 hP hD hS hA (Nat.le_of_ble_eq_true rfl) (Nat.le_of_ble_eq_true rfl) D10_60 (fun q5 H hP hD hS => ?_)
  refine lv_dup F.1 F.2.1 D10_63 rfl ?_
  refine lv_bipush (v := 12) F.1 F.2.1 D10_64 (by decide) ?_
  refine cons_go (runI (As := [.int 12]) (rest := [.ref q5, .ref h0]) ⟨F.1, F.2.1, F.2.2.1, F.2.2.2.1, F.2.2.2.2.1⟩ ci10_34 (c6_init l Y q5 H.size (fun _ => True) 12 12 (by decide) (by decide)) rfl ⟨(Nat.le_of_ble_eq_true rfl), (Nat.le_of_ble_eq_true rfl)⟩ (fun _ _ _ _ h => h) (fun _ _ _ => trivial) (P_last hP) F.2.2.2.2.2 hl.1 (Nat.le_of_ble_eq_true rfl) D10_66 ⟨(Nat.le_of_ble_eq_true rfl), (Nat.le_of_ble_eq_true rfl)⟩) hP hD hS hA (fun u5 H locs hP hD hS => ?_)
  refine pF (k := 5) (ty := .object "SteepleStruck$Row") F hnm rfl in10 tyX10_ok nmX10 (Nat.le_of_ble_eq_true rfl) wf10_37 rfl rfl (by decide +kernel) rfl rfl (Nat.le_of_ble_eq_true rfl) hP hD hS D10_69 (fun H locs hP hD hS => ?_)
  have hP : va_P Y.1 classes ((h0, .inr (10, [.ref q0, .ref q1, .ref q2, .ref q3, .ref q4, .ref q5, .null, .null, .null, .null, .null, .int 0, .int 0, .int 0, .int 0, .int 0])) :: (((((([] ++ bld9 Y q0 a12 a23 u0) ++ bld9 Y q1 a12 a23 u1) ++ bld9 Y q2 a12 a23 u2) ++ bld9 Y q3 a12 a23 u3) ++ bld4 q4 u4) ++ bld6 Y 12 q5 u5)) H := hP
  have hD : va_D (CtA h0 sz) ((h0, .inr (10, [.ref q0, .ref q1, .ref q2, .ref q3, .ref q4, .ref q5, .null, .null, .null, .null, .null, .int 0, .int 0, .int 0, .int 0, .int 0])) :: (((((([] ++ bld9 Y q0 a12 a23 u0) ++ bld9 Y q1 a12 a23 u1) ++ bld9 Y q2 a12 a23 u2) ++ bld9 Y q3 a12 a23 u3) ++ bld4 q4 u4) ++ bld6 Y 12 q5 u5)) := hD
  refine lv_aload_n F.1 F.2.1 D10_72 rfl (lv_at hl 0 rfl) ?_
  refine nO F fo8 wk10_41 hP hD hS hA (Nat.le_of_ble_eq_true rfl) (Nat.le_of_ble_eq_true rfl) D10_73 (fun q6 H hP hD hS => ?_)
  refine lv_dup F.1 F.2.1 D10_76 rfl ?_
  refine cons_go (runIN (As := []) (rest := [.ref q6, .ref h0]) ⟨F.1, F.2.1, F.2.2.1, F.2.2.2.1, F.2.2.2.2.1⟩ cin8 hex.2.2.2.1 (c8_init l Y q6 H.size (fun _ => True)) rfl ⟨(Nat.le_of_ble_eq_true rfl), (Nat.le_of_ble_eq_true rfl)⟩ (fun _ _ _ _ h => h) (fun _ _ _ => trivial) (P_last hP) F.2.2.2.2.2 hl.1 (Nat.le_of_ble_eq_true rfl) D10_77 ⟨(Nat.le_of_ble_eq_true rfl), (Nat.le_of_ble_eq_true rfl)⟩) hP hD hS hA (fun u6 H locs hP hD hS => ?_)
  refine pF (k := 6) (ty := .object "SteepleStruck$Text") F hnm rfl in10 tyX10_ok nmX10 (Nat.le_of_ble_eq_true rfl) wf10_44 rfl rfl (by decide +kernel) rfl rfl (Nat.le_of_ble_eq_true rfl) hP hD hS D10_80 (fun H locs hP hD hS => ?_)
  have hP : va_P Y.1 classes ((h0, .inr (10, [.ref q0, .ref q1, .ref q2, .ref q3, .ref q4, .ref q5, .ref q6, .null, .null, .null, .null, .int 0, .int 0, .int 0, .int 0, .int 0])) :: ((((((([] ++ bld9 Y q0 a12 a23 u0) ++ bld9 Y q1 a12 a23 u1) ++ bld9 Y q2 a12 a23 u2) ++ bld9 Y q3 a12 a23 u3) ++ bld4 q4 u4) ++ bld6 Y 12 q5 u5) ++ bld8 Y q6 u6)) H := hP
  have hD : va_D (CtA h0 sz) ((h0, .inr (10, [.ref q0, .ref q1, .ref q2, .ref q3, .ref q4, .ref q5, .ref q6, .null, .null, .null, .null, .int 0, .int 0, .int 0, .int 0, .int 0])) :: ((((((([] ++ bld9 Y q0 a12 a23 u0) ++ bld9 Y q1 a12 a23 u1) ++ bld9 Y q2 a12 a23 u2) ++ bld9 Y q3 a12 a23 u3) ++ bld4 q4 u4) ++ bld6 Y 12 q5 u5) ++ bld8 Y q6 u6)) := hD
  refine lv_aload_n F.1 F.2.1 D10_83 rfl (lv_at hl 0 rfl) ?_
  refine nO F fo1 wk10_48 hP hD hS hA (Nat.le_of_ble_eq_true rfl) (Nat.le_of_ble_eq_true rfl) D10_84 (fun q7 H hP hD hS => ?_)
  refine lv_dup F.1 F.2.1 D10_87 rfl ?_
  refine cons_go (runIN (As := []) (rest := [.ref q7, .ref h0]) ⟨F.1, F.2.1, F.2.2.1, F.2.2.2.1, F.2.2.2.2.1⟩ cin1 hex.2.2.2.2.1 (c1_init l Y q7 H.size (fun _ => True)) rfl ⟨(Nat.le_of_ble_eq_true rfl), (Nat.le_of_ble_eq_true rfl)⟩ (fun _ _ _ _ h => h) (fun _ _ _ => trivial) (P_last hP) F.2.2.2.2.2 hl.1 (Nat.le_of_ble_eq_true rfl) D10_88 ⟨(Nat.le_of_ble_eq_true rfl), (Nat.le_of_ble_eq_true rfl)⟩) hP hD hS hA (fun u7 H locs hP hD hS => ?_)
  refine pF (k := 7) (ty := .object "SteepleStruck$Fraction") F hnm rfl in10 tyX10_ok nmX10 (Nat.le_of_ble_eq_true rfl) wf10_51 rfl rfl (by decide +kernel) rfl rfl (Nat.le_of_ble_eq_true rfl) hP hD hS D10_91 (fun H locs hP hD hS => ?_)
  have hP : va_P Y.1 classes ((h0, .inr (10, [.ref q0, .ref q1, .ref q2, .ref q3, .ref q4, .ref q5, .ref q6, .ref q7, .null, .null, .null, .int 0, .int 0, .int 0, .int 0, .int 0])) :: (((((((([] ++ bld9 Y q0 a12 a23 u0) ++ bld9 Y q1 a12 a23 u1) ++ bld9 Y q2 a12 a23 u2) ++ bld9 Y q3 a12 a23 u3) ++ bld4 q4 u4) ++ bld6 Y 12 q5 u5) ++ bld8 Y q6 u6) ++ bld1 q7 u7)) H := hP
  have hD : va_D (CtA h0 sz) ((h0, .inr (10, [.ref q0, .ref q1, .ref q2, .ref q3, .ref q4, .ref q5, .ref q6, .ref q7, .null, .null, .null, .int 0, .int 0, .int 0, .int 0, .int 0])) :: (((((((([] ++ bld9 Y q0 a12 a23 u0) ++ bld9 Y q1 a12 a23 u1) ++ bld9 Y q2 a12 a23 u2) ++ bld9 Y q3 a12 a23 u3) ++ bld4 q4 u4) ++ bld6 Y 12 q5 u5) ++ bld8 Y q6 u6) ++ bld1 q7 u7)) := hD
  refine lv_aload_n F.1 F.2.1 D10_94 rfl (lv_at hl 0 rfl) ?_
  refine nO F fo5 wk10_55 hP hD hS hA (Nat.le_of_ble_eq_true rfl) (Nat.le_of_ble_eq_true rfl) D10_95 (fun q8 H hP hD hS => ?_)
  refine lv_dup F.1 F.2.1 D10_98 rfl ?_
  refine cons_go (runIN (As := []) (rest := [.ref q8, .ref h0]) ⟨F.1, F.2.1, F.2.2.1, F.2.2.2.1, F.2.2.2.2.1⟩ cin5 hex.2.2.2.2.2.1 (c5_init l Y q8 H.size (fun _ => True)) rfl ⟨(Nat.le_of_ble_eq_true rfl), (Nat.le_of_ble_eq_true rfl)⟩ (fun _ _ _ _ h => h) (fun _ _ _ => trivial) (P_last hP) F.2.2.2.2.2 hl.1 (Nat.le_of_ble_eq_true rfl) D10_99 ⟨(Nat.le_of_ble_eq_true rfl), (Nat.le_of_ble_eq_true rfl)⟩) hP hD hS hA (fun u8 H locs hP hD hS => ?_)
  refine pF (k := 8) (ty := .object "SteepleStruck$Orders") F hnm rfl in10 tyX10_ok nmX10 (Nat.le_of_ble_eq_true rfl) wf10_58 rfl rfl (by decide +kernel) rfl rfl (Nat.le_of_ble_eq_true rfl) hP hD hS D10_102 (fun H locs hP hD hS => ?_)
  have hP : va_P Y.1 classes ((h0, .inr (10, [.ref q0, .ref q1, .ref q2, .ref q3, .ref q4, .ref q5, .ref q6, .ref q7, .ref q8, .null, .null, .int 0, .int 0, .int 0, .int 0, .int 0])) :: ((((((((([] ++ bld9 Y q0 a12 a23 u0) ++ bld9 Y q1 a12 a23 u1) ++ bld9 Y q2 a12 a23 u2) ++ bld9 Y q3 a12 a23 u3) ++ bld4 q4 u4) ++ bld6 Y 12 q5 u5) ++ bld8 Y q6 u6) ++ bld1 q7 u7) ++ bld5 Y q8 u8)) H := hP
  have hD : va_D (CtA h0 sz) ((h0, .inr (10, [.ref q0, .ref q1, .ref q2, .ref q3, .ref q4, .ref q5, .ref q6, .ref q7, .ref q8, .null, .null, .int 0, .int 0, .int 0, .int 0, .int 0])) :: ((((((((([] ++ bld9 Y q0 a12 a23 u0) ++ bld9 Y q1 a12 a23 u1) ++ bld9 Y q2 a12 a23 u2) ++ bld9 Y q3 a12 a23 u3) ++ bld4 q4 u4) ++ bld6 Y 12 q5 u5) ++ bld8 Y q6 u6) ++ bld1 q7 u7) ++ bld5 Y q8 u8)) := hD
  refine lv_aload_n F.1 F.2.1 D10_105 rfl (lv_at hl 0 rfl) ?_
  refine nO F fo2 wk10_62 hP hD hS hA (Nat.le_of_ble_eq_true rfl) (Nat.le_of_ble_eq_true rfl) D10_106 (fun q9 H hP hD hS => ?_)
  refine lv_dup F.1 F.2.1 D10_109 rfl ?_
  refine cons_go (runIN (As := []) (rest := [.ref q9, .ref h0]) ⟨F.1, F.2.1, F.2.2.1, F.2.2.2.1, F.2.2.2.2.1⟩ cin2 hex.2.2.2.2.2.2.1 (c2_init l Y q9 H.size (fun _ => True)) rfl ⟨(Nat.le_of_ble_eq_true rfl), (Nat.le_of_ble_eq_true rfl)⟩ (fun _ _ _ _ h => h) (fun _ _ _ => trivial) (P_last hP) F.2.2.2.2.2 hl.1 (Nat.le_of_ble_eq_true rfl) D10_110 ⟨(Nat.le_of_ble_eq_true rfl), (Nat.le_of_ble_eq_true rfl)⟩) hP hD hS hA (fun u9 H locs hP hD hS => ?_)
  refine pF (k := 9) (ty := .object "SteepleStruck$Guesses") F hnm rfl in10 tyX10_ok nmX10 (Nat.le_of_ble_eq_true rfl) wf10_65 rfl rfl (by decide +kernel) rfl rfl (Nat.le_of_ble_eq_true rfl) hP hD hS D10_113 (fun H locs hP hD hS => ?_)
  have hP : va_P Y.1 classes ((h0, .inr (10, [.ref q0, .ref q1, .ref q2, .ref q3, .ref q4, .ref q5, .ref q6, .ref q7, .ref q8, .ref q9, .null, .int 0, .int 0, .int 0, .int 0, .int 0])) :: (((((((((([] ++ bld9 Y q0 a12 a23 u0) ++ bld9 Y q1 a12 a23 u1) ++ bld9 Y q2 a12 a23 u2) ++ bld9 Y q3 a12 a23 u3) ++ bld4 q4 u4) ++ bld6 Y 12 q5 u5) ++ bld8 Y q6 u6) ++ bld1 q7 u7) ++ bld5 Y q8 u8) ++ bld2 Y q9 u9)) H := hP
  have hD : va_D (CtA h0 sz) ((h0, .inr (10, [.ref q0, .ref q1, .ref q2, .ref q3, .ref q4, .ref q5, .ref q6, .ref q7, .ref q8, .ref q9, .null, .int 0, .int 0, .int 0, .int 0, .int 0])) :: (((((((((([] ++ bld9 Y q0 a12 a23 u0) ++ bld9 Y q1 a12 a23 u1) ++ bld9 Y q2 a12 a23 u2) ++ bld9 Y q3 a12 a23 u3) ++ bld4 q4 u4) ++ bld6 Y 12 q5 u5) ++ bld8 Y q6 u6) ++ bld1 q7 u7) ++ bld5 Y q8 u8) ++ bld2 Y q9 u9)) := hD
  refine lv_aload_n F.1 F.2.1 D10_116 rfl (lv_at hl 0 rfl) ?_
  refine nO F fo0 wk10_69 hP hD hS hA (Nat.le_of_ble_eq_true rfl) (Nat.le_of_ble_eq_true rfl) D10_117 (fun q10 H hP hD hS => ?_)
  refine lv_dup F.1 F.2.1 D10_120 rfl ?_
  refine cons_go (runIN (As := []) (rest := [.ref q10, .ref h0]) ⟨F.1, F.2.1, F.2.2.1, F.2.2.2.1, F.2.2.2.2.1⟩ cin0 hex.2.2.2.2.2.2.2 (c0_init l Y q10 H.size (fun _ => True)) rfl ⟨(Nat.le_of_ble_eq_true rfl), (Nat.le_of_ble_eq_true rfl)⟩ (fun _ _ _ _ h => h) (fun _ _ _ => trivial) (P_last hP) F.2.2.2.2.2 hl.1 (Nat.le_of_ble_eq_true rfl) D10_121 ⟨(Nat.le_of_ble_eq_true rfl), (Nat.le_of_ble_eq_true rfl)⟩) hP hD hS hA (fun u10 H locs hP hD hS => ?_)
  refine pF (k := 10) (ty := .object "SteepleStruck$Bets") F hnm rfl in10 tyX10_ok nmX10 (Nat.le_of_ble_eq_true rfl) wf10_72 rfl rfl (by decide +kernel) rfl rfl (Nat.le_of_ble_eq_true rfl) hP hD hS D10_124 (fun H locs hP hD hS => ?_)
  have hP : va_P Y.1 classes ((h0, .inr (10, [.ref q0, .ref q1, .ref q2, .ref q3, .ref q4, .ref q5, .ref q6, .ref q7, .ref q8, .ref q9, .ref q10, .int 0, .int 0, .int 0, .int 0, .int 0])) :: ((((((((((([] ++ bld9 Y q0 a12 a23 u0) ++ bld9 Y q1 a12 a23 u1) ++ bld9 Y q2 a12 a23 u2) ++ bld9 Y q3 a12 a23 u3) ++ bld4 q4 u4) ++ bld6 Y 12 q5 u5) ++ bld8 Y q6 u6) ++ bld1 q7 u7) ++ bld5 Y q8 u8) ++ bld2 Y q9 u9) ++ bld0 Y q10 u10)) H := hP
  have hD : va_D (CtA h0 sz) ((h0, .inr (10, [.ref q0, .ref q1, .ref q2, .ref q3, .ref q4, .ref q5, .ref q6, .ref q7, .ref q8, .ref q9, .ref q10, .int 0, .int 0, .int 0, .int 0, .int 0])) :: ((((((((((([] ++ bld9 Y q0 a12 a23 u0) ++ bld9 Y q1 a12 a23 u1) ++ bld9 Y q2 a12 a23 u2) ++ bld9 Y q3 a12 a23 u3) ++ bld4 q4 u4) ++ bld6 Y 12 q5 u5) ++ bld8 Y q6 u6) ++ bld1 q7 u7) ++ bld5 Y q8 u8) ++ bld2 Y q9 u9) ++ bld0 Y q10 u10)) := hD
  exact ret _ _ _ _ _ _ (fun i => match i with
    | 0 => u0
    | 1 => u1
    | 2 => u2
    | 3 => u3
    | 4 => fun i => [q0, q1, q2, q3, q4, q5, q6, q7, q8, q9, q10].getD i 0
    | 5 => fun _ => u5
    | 6 => u6
    | 7 => u8
    | 8 => u9
    | _ => u10) D10_127 (Nat.le_of_ble_eq_true rfl) (Nat.le_of_ble_eq_true rfl) hP hD hS
