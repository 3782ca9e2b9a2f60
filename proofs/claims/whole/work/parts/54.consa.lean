/-! the constructors -/
theorem wIO : Cond.instanceMethod objectInit ∈ gt := mt1 (j := 25) rfl rfl
theorem wCO : Cond.code objectInit ⟨#[0xb1]⟩ 1 none ∈ gt := mt1 (j := 26) rfl rfl
theorem wAI : Cond.arrayClass .int ∈ gt := mt1 (j := 55) rfl rfl
theorem wAZ : Cond.arrayClass .boolean ∈ gt := mt5 (j := 57) rfl rfl
theorem P_last {D : va_G} {cl : List vw_C} {w0 : va_W} {x : Nat × va_E} {H : Heap} (h : va_P D cl (w0 ++ [x]) H) : va_P D cl [x] H := fun k q hk => by
  have h1 := (List.getElem?_eq_some_iff.mp hk).1
  simp only [List.length_cons, List.length_nil] at h1
  have : k = 0 := by omega
  subst this
  cases hk
  exact h w0.length x (by simp)
abbrev m6_init : MI := (yX6_init, cX6_init, 2, none, 1, 21)
theorem mok6_init : MOK m6_init := ⟨mt1 (j := 153) rfl rfl, by decide +kernel, mt1 (j := 6) rfl rfl, ⟨by decide +kernel, by decide +kernel⟩, by decide +kernel⟩
theorem D6_0 : decode cX6_init 0 = .ok (.aload_n 0, 1) := by decide +kernel
theorem D6_1 : decode cX6_init 1 = .ok (.invokespecial 1, 3) := by decide +kernel
theorem D6_4 : decode cX6_init 4 = .ok (.aload_n 0, 1) := by decide +kernel
theorem D6_5 : decode cX6_init 5 = .ok (.iload_n 1, 1) := by decide +kernel
theorem D6_6 : decode cX6_init 6 = .ok (.iconst 0, 1) := by decide +kernel
theorem D6_7 : decode cX6_init 7 = .ok (.invokestatic 7, 3) := by decide +kernel
theorem D6_10 : decode cX6_init 10 = .ok (.newarray .int, 2) := by decide +kernel
theorem D6_12 : decode cX6_init 12 = .ok (.putfield 13, 3) := by decide +kernel
theorem D6_15 : decode cX6_init 15 = .ok (.return_, 1) := by decide +kernel
theorem fo6 : FO 6 RX6 1 [.null] := ⟨TX6, tyX6, rfl, in6, tyX6_ok, fun j hj => by rcases (show j = 0 by omega) with rfl <;> rfl, mt1 (j := 150) rfl rfl, mt1 (j := 6) rfl rfl⟩
theorem wo6 : Cond.methodLink RX6 1 objectInit ∈ gt := mt1 (j := 154) rfl rfl
theorem wf6_13 : Cond.fieldLink RX6 13 RX6 "cells" "[I" ∈ gt := mt1 (j := 156) rfl rfl
theorem cm6_7i : CM RX6 7 Lib.Math.max.name Lib.Math.max.code 2 := ⟨mt1 (j := 155) rfl rfl, mt1 (j := 40) rfl rfl, mt1 (j := 4) rfl rfl, mt1 (j := 41) rfl rfl⟩
abbrev m7_init : MI := (yX7_init, cX7_init, 3, none, 1, 21)
theorem mok7_init : MOK m7_init := ⟨mt1 (j := 37) rfl rfl, by decide +kernel, mt1 (j := 3) rfl rfl, ⟨by decide +kernel, by decide +kernel⟩, by decide +kernel⟩
theorem D7_0 : decode cX7_init 0 = .ok (.aload_n 0, 1) := by decide +kernel
theorem D7_1 : decode cX7_init 1 = .ok (.invokespecial 1, 3) := by decide +kernel
theorem D7_4 : decode cX7_init 4 = .ok (.aload_n 0, 1) := by decide +kernel
theorem D7_5 : decode cX7_init 5 = .ok (.iload_n 1, 1) := by decide +kernel
theorem D7_6 : decode cX7_init 6 = .ok (.putfield 7, 3) := by decide +kernel
theorem D7_9 : decode cX7_init 9 = .ok (.aload_n 0, 1) := by decide +kernel
theorem D7_10 : decode cX7_init 10 = .ok (.iload_n 2, 1) := by decide +kernel
theorem D7_11 : decode cX7_init 11 = .ok (.putfield 13, 3) := by decide +kernel
theorem D7_14 : decode cX7_init 14 = .ok (.aload_n 0, 1) := by decide +kernel
theorem D7_15 : decode cX7_init 15 = .ok (.iload_n 1, 1) := by decide +kernel
theorem D7_16 : decode cX7_init 16 = .ok (.iload_n 2, 1) := by decide +kernel
theorem D7_17 : decode cX7_init 17 = .ok (.imul, 1) := by decide +kernel
theorem D7_18 : decode cX7_init 18 = .ok (.iconst 0, 1) := by decide +kernel
theorem D7_19 : decode cX7_init 19 = .ok (.invokestatic 16, 3) := by decide +kernel
theorem D7_22 : decode cX7_init 22 = .ok (.newarray .int, 2) := by decide +kernel
theorem D7_24 : decode cX7_init 24 = .ok (.putfield 22, 3) := by decide +kernel
theorem D7_27 : decode cX7_init 27 = .ok (.return_, 1) := by decide +kernel
theorem fo7 : FO 7 RX7 4 [.int 0, .int 0, .null, .int 0] := ⟨TX7, tyX7, rfl, in7, tyX7_ok, fun j hj => by rcases (show j = 0 ∨ j = 1 ∨ j = 2 ∨ j = 3 by omega) with rfl | rfl | rfl | rfl <;> rfl, mt1 (j := 34) rfl rfl, mt1 (j := 3) rfl rfl⟩
theorem wo7 : Cond.methodLink RX7 1 objectInit ∈ gt := mt1 (j := 38) rfl rfl
theorem wf7_7 : Cond.fieldLink RX7 7 RX7 "most" "I" ∈ gt := mt1 (j := 42) rfl rfl
theorem wf7_13 : Cond.fieldLink RX7 13 RX7 "width" "I" ∈ gt := mt1 (j := 43) rfl rfl
theorem wf7_22 : Cond.fieldLink RX7 22 RX7 "cells" "[I" ∈ gt := mt1 (j := 44) rfl rfl
theorem cm7_16i : CM RX7 16 Lib.Math.max.name Lib.Math.max.code 2 := ⟨mt1 (j := 39) rfl rfl, mt1 (j := 40) rfl rfl, mt1 (j := 4) rfl rfl, mt1 (j := 41) rfl rfl⟩
abbrev bld6 (Y : K0) (N h0 a : Nat) : va_W := (h0, .inr (6, [.ref a])) :: [(a, .inl (Y.2.1, N, .inl fun _ => 0))]
theorem c6_init (l : Launch) (Y : K0) (h0 sz : Nat) (ex : State → Prop) (v : Int32) (N : Nat) (hv : v = nI N) (hN : N ≤ 1000) : Met l m6_init.1 (wsM m6_init) (rmC m6_init 1 N) (CtP Y ex h0 6 [.null] [.int v] sz) (CtQ Y h0 sz (bld6 Y N h0)) 1 N (CtA h0 sz) := by
  refine cons_of l mok6_init rfl rfl (Nat.le_of_ble_eq_true rfl) ?_
  intro p e s m args below meth c F hnm hex hsz ret ls hl hP hD hS hA
  refine lv_aload_n F.1 F.2.1 D6_0 rfl (lv_at hl 0 rfl) ?_
  refine oI F wo6 wIO wCO hl.1 rfl D6_1 ⟨(Nat.le_of_ble_eq_true rfl), (Nat.le_of_ble_eq_true rfl)⟩ ?_
  refine lv_aload_n F.1 F.2.1 D6_4 rfl (lv_at hl 0 rfl) ?_
  refine lv_iload_n F.1 F.2.1 D6_5 rfl (lv_at hl 1 rfl) ?_
  refine lv_iconst (v := 0) F.1 F.2.1 D6_6 (by decide) ?_
  refine va_mmax F.1 F.2.1 (by rw [F.2.2.1]; exact hl.1.symm) F.2.2.2.1 (F.2.2.2.2.1 _ cm6_7i.1) (F.2.2.2.2.1 _ cm6_7i.2.1) (F.2.2.2.2.1 _ cm6_7i.2.2.1) (F.2.2.2.2.1 _ cm6_7i.2.2.2) (Nat.le_of_ble_eq_true rfl) (Nat.le_of_ble_eq_true rfl) (Nat.zero_le _) (Nat.zero_le _) D6_7 ?_
  rw [if_neg (by rw [hv]; exact nI_pos (by omega))]
  refine newI F.1 F.2.1 (F.2.2.2.2.1 _ wAI) F.2.2.2.2.2 hP hD hS hA hv hN (Nat.le_of_ble_eq_true rfl) (by show 0 + N ≤ N; omega) D6_10 (fun q H hP hD hS => ?_)
  refine pF (k := 0) (ty := (.array .int)) F hnm rfl in6 tyX6_ok nmX6 (Nat.le_of_ble_eq_true rfl) wf6_13 rfl rfl (by decide +kernel) rfl rfl (Nat.le_of_ble_eq_true rfl) hP hD hS D6_12 (fun H locs hP hD hS => ?_)
  have hP : va_P Y.1 classes ((h0, .inr (6, [.ref q])) :: ([] ++ [(q, .inl (Y.2.1, N, .inl fun _ => 0))])) H := hP
  have hD : va_D (CtA h0 sz) ((h0, .inr (6, [.ref q])) :: ([] ++ [(q, .inl (Y.2.1, N, .inl fun _ => 0))])) := hD
  exact ret _ _ _ _ _ _ q D6_15 (Nat.le_of_ble_eq_true rfl) (by show 0 + N ≤ N; omega) hP hD hS
abbrev bld7 (Y : K0) (n1 n2 : Int32) (N h0 a : Nat) : va_W := (h0, .inr (7, [.int n1, .int n2, .ref a, .int 0])) :: [(a, .inl (Y.2.1, N, .inl fun _ => 0))]
theorem c7_init (l : Launch) (Y : K0) (h0 sz : Nat) (ex : State → Prop) (n1 n2 : Int32) (N : Nat) (hv : n1 * n2 = nI N) (hN : N ≤ 1000) : Met l m7_init.1 (wsM m7_init) (rmC m7_init 1 N) (CtP Y ex h0 7 [.int 0, .int 0, .null, .int 0] [.int n1, .int n2] sz) (CtQ Y h0 sz (bld7 Y n1 n2 N h0)) 1 N (CtA h0 sz) := by
  refine cons_of l mok7_init rfl rfl (Nat.le_of_ble_eq_true rfl) ?_
  intro p e s m args below meth c F hnm hex hsz ret ls hl hP hD hS hA
  refine lv_aload_n F.1 F.2.1 D7_0 rfl (lv_at hl 0 rfl) ?_
  refine oI F wo7 wIO wCO hl.1 rfl D7_1 ⟨(Nat.le_of_ble_eq_true rfl), (Nat.le_of_ble_eq_true rfl)⟩ ?_
  refine lv_aload_n F.1 F.2.1 D7_4 rfl (lv_at hl 0 rfl) ?_
  refine lv_iload_n F.1 F.2.1 D7_5 rfl (lv_at hl 1 rfl) ?_
  refine pF (k := 0) (ty := .int) F hnm rfl in7 tyX7_ok nmX7 (Nat.le_of_ble_eq_true rfl) wf7_7 rfl rfl (by decide +kernel) rfl rfl (Nat.le_of_ble_eq_true rfl) hP hD hS D7_6 (fun H locs hP hD hS => ?_)
  have hP : va_P Y.1 classes ((h0, .inr (7, [.int n1, .int 0, .null, .int 0])) :: ([])) H := hP
  have hD : va_D (CtA h0 sz) ((h0, .inr (7, [.int n1, .int 0, .null, .int 0])) :: ([])) := hD
  refine lv_aload_n F.1 F.2.1 D7_9 rfl (lv_at hl 0 rfl) ?_
  refine lv_iload_n F.1 F.2.1 D7_10 rfl (lv_at hl 2 rfl) ?_
  refine pF (k := 1) (ty := .int) F hnm rfl in7 tyX7_ok nmX7 (Nat.le_of_ble_eq_true rfl) wf7_13 rfl rfl (by decide +kernel) rfl rfl (Nat.le_of_ble_eq_true rfl) hP hD hS D7_11 (fun H locs hP hD hS => ?_)
  have hP : va_P Y.1 classes ((h0, .inr (7, [.int n1, .int n2, .null, .int 0])) :: ([])) H := hP
  have hD : va_D (CtA h0 sz) ((h0, .inr (7, [.int n1, .int n2, .null, .int 0])) :: ([])) := hD
  refine lv_aload_n F.1 F.2.1 D7_14 rfl (lv_at hl 0 rfl) ?_
  refine lv_iload_n F.1 F.2.1 D7_15 rfl (lv_at hl 1 rfl) ?_
  refine lv_iload_n F.1 F.2.1 D7_16 rfl (lv_at hl 2 rfl) ?_
  refine lv_imul F.1 F.2.1 D7_17 ?_
  refine lv_iconst (v := 0) F.1 F.2.1 D7_18 (by decide) ?_
  refine va_mmax F.1 F.2.1 (by rw [F.2.2.1]; exact hl.1.symm) F.2.2.2.1 (F.2.2.2.2.1 _ cm7_16i.1) (F.2.2.2.2.1 _ cm7_16i.2.1) (F.2.2.2.2.1 _ cm7_16i.2.2.1) (F.2.2.2.2.1 _ cm7_16i.2.2.2) (Nat.le_of_ble_eq_true rfl) (Nat.le_of_ble_eq_true rfl) (Nat.zero_le _) (Nat.zero_le _) D7_19 ?_
  rw [if_neg (by rw [hv]; exact nI_pos (by omega))]
  refine newI F.1 F.2.1 (F.2.2.2.2.1 _ wAI) F.2.2.2.2.2 hP hD hS hA hv hN (Nat.le_of_ble_eq_true rfl) (by show 0 + N ≤ N; omega) D7_22 (fun q H hP hD hS => ?_)
  refine pF (k := 2) (ty := (.array .int)) F hnm rfl in7 tyX7_ok nmX7 (Nat.le_of_ble_eq_true rfl) wf7_22 rfl rfl (by decide +kernel) rfl rfl (Nat.le_of_ble_eq_true rfl) hP hD hS D7_24 (fun H locs hP hD hS => ?_)
  have hP : va_P Y.1 classes ((h0, .inr (7, [.int n1, .int n2, .ref q, .int 0])) :: ([] ++ [(q, .inl (Y.2.1, N, .inl fun _ => 0))])) H := hP
  have hD : va_D (CtA h0 sz) ((h0, .inr (7, [.int n1, .int n2, .ref q, .int 0])) :: ([] ++ [(q, .inl (Y.2.1, N, .inl fun _ => 0))])) := hD
  exact ret _ _ _ _ _ _ q D7_27 (Nat.le_of_ble_eq_true rfl) (by show 0 + N ≤ N; omega) hP hD hS
abbrev m4_init : MI := (yX4_init, cX4_init, 1, none, 1, 21)
theorem mok4_init : MOK m4_init := ⟨mt1 (j := 60) rfl rfl, by decide +kernel, mt1 (j := 5) rfl rfl, ⟨by decide +kernel, by decide +kernel⟩, by decide +kernel⟩
theorem D4_0 : decode cX4_init 0 = .ok (.aload_n 0, 1) := by decide +kernel
theorem D4_1 : decode cX4_init 1 = .ok (.invokespecial 1, 3) := by decide +kernel
theorem D4_4 : decode cX4_init 4 = .ok (.return_, 1) := by decide +kernel
theorem fo4 : FO 4 RX4 4 [.int 0, .int 0, .int 0, .int 0] := ⟨TX4, tyX4, rfl, in4, tyX4_ok, fun j hj => by rcases (show j = 0 ∨ j = 1 ∨ j = 2 ∨ j = 3 by omega) with rfl | rfl | rfl | rfl <;> rfl, mt1 (j := 57) rfl rfl, mt1 (j := 5) rfl rfl⟩
theorem wo4 : Cond.methodLink RX4 1 objectInit ∈ gt := mt1 (j := 61) rfl rfl
abbrev bld4 (h0 : Nat) (_ : Unit) : va_W := [(h0, .inr (4, [.int 0, .int 0, .int 0, .int 0]))]
theorem c4_init (l : Launch) (Y : K0) (h0 sz : Nat) (ex : State → Prop) : Met l m4_init.1 (wsM m4_init) (rmC m4_init 0 0) (CtP Y ex h0 4 [.int 0, .int 0, .int 0, .int 0] [] sz) (CtQ Y h0 sz (bld4 h0)) 0 0 (CtA h0 sz) := by
  refine cons_of l mok4_init rfl rfl (Nat.le_of_ble_eq_true rfl) ?_
  intro p e s m args below meth c F hnm hex hsz ret ls hl hP hD hS hA
  refine lv_aload_n F.1 F.2.1 D4_0 rfl (lv_at hl 0 rfl) ?_
  refine oI F wo4 wIO wCO hl.1 rfl D4_1 ⟨(Nat.le_of_ble_eq_true rfl), (Nat.le_of_ble_eq_true rfl)⟩ ?_
  exact ret _ _ _ _ _ _ () D4_4 (Nat.le_of_ble_eq_true rfl) (Nat.le_of_ble_eq_true rfl) hP hD hS
abbrev m1_init : MI := (yX1_init, cX1_init, 1, none, 1, 21)
theorem mok1_init : MOK m1_init := ⟨mt1 (j := 194) rfl rfl, by decide +kernel, mt1 (j := 8) rfl rfl, ⟨by decide +kernel, by decide +kernel⟩, by decide +kernel⟩
theorem D1_0 : decode cX1_init 0 = .ok (.aload_n 0, 1) := by decide +kernel
theorem D1_1 : decode cX1_init 1 = .ok (.invokespecial 1, 3) := by decide +kernel
theorem D1_4 : decode cX1_init 4 = .ok (.aload_n 0, 1) := by decide +kernel
theorem D1_5 : decode cX1_init 5 = .ok (.lconst 0, 1) := by decide +kernel
theorem D1_6 : decode cX1_init 6 = .ok (.putfield 7, 3) := by decide +kernel
theorem D1_9 : decode cX1_init 9 = .ok (.aload_n 0, 1) := by decide +kernel
theorem D1_10 : decode cX1_init 10 = .ok (.lconst 1, 1) := by decide +kernel
theorem D1_11 : decode cX1_init 11 = .ok (.putfield 13, 3) := by decide +kernel
theorem D1_14 : decode cX1_init 14 = .ok (.return_, 1) := by decide +kernel
theorem fo1 : FO 1 RX1 2 [.long 0, .long 0] := ⟨TX1, tyX1, rfl, in1, tyX1_ok, fun j hj => by rcases (show j = 0 ∨ j = 1 by omega) with rfl | rfl <;> rfl, mt1 (j := 191) rfl rfl, mt1 (j := 8) rfl rfl⟩
theorem wo1 : Cond.methodLink RX1 1 objectInit ∈ gt := mt1 (j := 195) rfl rfl
theorem wf1_7 : Cond.fieldLink RX1 7 RX1 "above" "J" ∈ gt := mt1 (j := 196) rfl rfl
theorem wf1_13 : Cond.fieldLink RX1 13 RX1 "below" "J" ∈ gt := mt1 (j := 197) rfl rfl
abbrev bld1 (h0 : Nat) (_ : Unit) : va_W := (h0, .inr (1, [.long 0, .long 1])) :: []
theorem c1_init (l : Launch) (Y : K0) (h0 sz : Nat) (ex : State → Prop) : Met l m1_init.1 (wsM m1_init) (rmC m1_init 0 0) (CtP Y ex h0 1 [.long 0, .long 0] [] sz) (CtQ Y h0 sz (bld1 h0)) 0 0 (CtA h0 sz) := by
  refine cons_of l mok1_init rfl rfl (Nat.le_of_ble_eq_true rfl) ?_
  intro p e s m args below meth c F hnm hex hsz ret ls hl hP hD hS hA
  refine lv_aload_n F.1 F.2.1 D1_0 rfl (lv_at hl 0 rfl) ?_
  refine oI F wo1 wIO wCO hl.1 rfl D1_1 ⟨(Nat.le_of_ble_eq_true rfl), (Nat.le_of_ble_eq_true rfl)⟩ ?_
  refine lv_aload_n F.1 F.2.1 D1_4 rfl (lv_at hl 0 rfl) ?_
  refine lv_lconst (v := 0) F.1 F.2.1 D1_5 rfl ?_
  refine pL (k := 0) (ty := .long) F rfl in1 tyX1_ok nmX1 (Nat.le_of_ble_eq_true rfl) wf1_7 rfl rfl (by decide +kernel) rfl rfl (Nat.le_of_ble_eq_true rfl) hP hD hS D1_6 (fun H locs hP hD hS => ?_)
  have hP : va_P Y.1 classes ((h0, .inr (1, [.long 0, .long 0])) :: ([])) H := hP
  have hD : va_D (CtA h0 sz) ((h0, .inr (1, [.long 0, .long 0])) :: ([])) := hD
  refine lv_aload_n F.1 F.2.1 D1_9 rfl (lv_at hl 0 rfl) ?_
  refine lv_lconst (v := 1) F.1 F.2.1 D1_10 rfl ?_
  refine pL (k := 1) (ty := .long) F rfl in1 tyX1_ok nmX1 (Nat.le_of_ble_eq_true rfl) wf1_13 rfl rfl (by decide +kernel) rfl rfl (Nat.le_of_ble_eq_true rfl) hP hD hS D1_11 (fun H locs hP hD hS => ?_)
  have hP : va_P Y.1 classes ((h0, .inr (1, [.long 0, .long 1])) :: ([])) H := hP
  have hD : va_D (CtA h0 sz) ((h0, .inr (1, [.long 0, .long 1])) :: ([])) := hD
  exact ret _ _ _ _ _ _ () D1_14 (Nat.le_of_ble_eq_true rfl) (Nat.le_of_ble_eq_true rfl) hP hD hS
abbrev m8_init : MI := (yX8_init, cX8_init, 1, none, 2, 42)
theorem mok8_init : MOK m8_init := ⟨mt1 (j := 164) rfl rfl, by decide +kernel, mt1 (j := 7) rfl rfl, ⟨by decide +kernel, by decide +kernel⟩, by decide +kernel⟩
theorem D8_0 : decode cX8_init 0 = .ok (.aload_n 0, 1) := by decide +kernel
theorem D8_1 : decode cX8_init 1 = .ok (.invokespecial 3, 3) := by decide +kernel
theorem D8_4 : decode cX8_init 4 = .ok (.aload_n 0, 1) := by decide +kernel
theorem D8_5 : decode cX8_init 5 = .ok (.new 9, 3) := by decide +kernel
theorem D8_8 : decode cX8_init 8 = .ok (.dup, 1) := by decide +kernel
theorem D8_9 : decode cX8_init 9 = .ok (.sipush 150, 3) := by decide +kernel
theorem D8_12 : decode cX8_init 12 = .ok (.invokespecial 13, 3) := by decide +kernel
theorem D8_15 : decode cX8_init 15 = .ok (.putfield 16, 3) := by decide +kernel
theorem D8_18 : decode cX8_init 18 = .ok (.aload_n 0, 1) := by decide +kernel
theorem D8_19 : decode cX8_init 19 = .ok (.new 9, 3) := by decide +kernel
theorem D8_22 : decode cX8_init 22 = .ok (.dup, 1) := by decide +kernel
theorem D8_23 : decode cX8_init 23 = .ok (.iconst 3, 1) := by decide +kernel
theorem D8_24 : decode cX8_init 24 = .ok (.invokespecial 13, 3) := by decide +kernel
theorem D8_27 : decode cX8_init 27 = .ok (.putfield 20, 3) := by decide +kernel
theorem D8_30 : decode cX8_init 30 = .ok (.return_, 1) := by decide +kernel
theorem fo8 : FO 8 RX8 7 [.null, .null, .int 0, .int 0, .int 0, .int 0, .int 0] := ⟨TX8, tyX8, rfl, in8, tyX8_ok, fun j hj => by rcases (show j = 0 ∨ j = 1 ∨ j = 2 ∨ j = 3 ∨ j = 4 ∨ j = 5 ∨ j = 6 by omega) with rfl | rfl | rfl | rfl | rfl | rfl | rfl <;> rfl, mt1 (j := 161) rfl rfl, mt1 (j := 7) rfl rfl⟩
theorem wo8 : Cond.methodLink RX8 3 objectInit ∈ gt := mt1 (j := 165) rfl rfl
theorem wk8_9 : Cond.classLink RX8 9 RX6 ∈ gt := mt1 (j := 166) rfl rfl
theorem wf8_16 : Cond.fieldLink RX8 16 RX8 "bytes" "LSteepleStruck$Row;" ∈ gt := mt1 (j := 168) rfl rfl
theorem wf8_20 : Cond.fieldLink RX8 20 RX8 "told" "LSteepleStruck$Row;" ∈ gt := mt1 (j := 169) rfl rfl
theorem ci8_13 : CI RX8 13 m6_init 1 := ⟨mok6_init, mt1 (j := 167) rfl rfl, mt1 (j := 152) rfl rfl, by decide +kernel, rfl, rfl⟩
abbrev bld8 (Y : K0) (h0 : Nat) (u : Nat → Nat) : va_W := (h0, .inr (8, [.ref (u 0), .ref (u 2), .int 0, .int 0, .int 0, .int 0, .int 0])) :: (([] ++ bld6 Y 150 (u 0) (u 1)) ++ bld6 Y 3 (u 2) (u 3))
theorem c8_init (l : Launch) (Y : K0) (h0 sz : Nat) (ex : State → Prop) : Met l m8_init.1 (wsM m8_init) (rmC m8_init 4 155) (CtP Y ex h0 8 [.null, .null, .int 0, .int 0, .int 0, .int 0, .int 0] [] sz) (CtQ Y h0 sz (bld8 Y h0)) 4 155 (CtA h0 sz) := by
  refine cons_of l mok8_init rfl rfl (Nat.le_of_ble_eq_true rfl) ?_
  intro p e s m args below meth c F hnm hex hsz ret ls hl hP hD hS hA
  refine lv_aload_n F.1 F.2.1 D8_0 rfl (lv_at hl 0 rfl) ?_
  refine oI F wo8 wIO wCO hl.1 rfl D8_1 ⟨(Nat.le_of_ble_eq_true rfl), (Nat.le_of_ble_eq_true rfl)⟩ ?_
  refine lv_aload_n F.1 F.2.1 D8_4 rfl (lv_at hl 0 rfl) ?_
  refine nO F fo6 wk8_9 hP hD hS hA (Nat.le_of_ble_eq_true rfl) (Nat.le_of_ble_eq_true rfl) D8_5 (fun q0 H hP hD hS => ?_)
  refine lv_dup F.1 F.2.1 D8_8 rfl ?_
  refine lv_sipush (v := 150) F.1 F.2.1 D8_9 (by decide) ?_
  refine cons_go (runI (As := [.int 150]) (rest := [.ref q0, .ref h0]) ⟨F.1, F.2.1, F.2.2.1, F.2.2.2.1, F.2.2.2.2.1⟩ ci8_13 (c6_init l Y q0 H.size (fun _ => True) 150 150 (by decide) (by decide)) rfl ⟨(Nat.le_of_ble_eq_true rfl), (Nat.le_of_ble_eq_true rfl)⟩ (fun _ _ _ _ h => h) (fun _ _ _ => trivial) (P_last hP) F.2.2.2.2.2 hl.1 (Nat.le_of_ble_eq_true rfl) D8_12 ⟨(Nat.le_of_ble_eq_true rfl), (Nat.le_of_ble_eq_true rfl)⟩) hP hD hS hA (fun u0 H locs hP hD hS => ?_)
  refine pF (k := 0) (ty := .object "SteepleStruck$Row") F hnm rfl in8 tyX8_ok nmX8 (Nat.le_of_ble_eq_true rfl) wf8_16 rfl rfl (by decide +kernel) rfl rfl (Nat.le_of_ble_eq_true rfl) hP hD hS D8_15 (fun H locs hP hD hS => ?_)
  have hP : va_P Y.1 classes ((h0, .inr (8, [.ref q0, .null, .int 0, .int 0, .int 0, .int 0, .int 0])) :: ([] ++ bld6 Y 150 q0 u0)) H := hP
  have hD : va_D (CtA h0 sz) ((h0, .inr (8, [.ref q0, .null, .int 0, .int 0, .int 0, .int 0, .int 0])) :: ([] ++ bld6 Y 150 q0 u0)) := hD
  refine lv_aload_n F.1 F.2.1 D8_18 rfl (lv_at hl 0 rfl) ?_
  refine nO F fo6 wk8_9 hP hD hS hA (Nat.le_of_ble_eq_true rfl) (Nat.le_of_ble_eq_true rfl) D8_19 (fun q1 H hP hD hS => ?_)
  refine lv_dup F.1 F.2.1 D8_22 rfl ?_
  refine lv_iconst (v := 3) F.1 F.2.1 D8_23 (by decide) ?_
  refine cons_go (runI (As := [.int 3]) (rest := [.ref q1, .ref h0]) ⟨F.1, F.2.1, F.2.2.1, F.2.2.2.1, F.2.2.2.2.1⟩ ci8_13 (c6_init l Y q1 H.size (fun _ => True) 3 3 (by decide) (by decide)) rfl ⟨(Nat.le_of_ble_eq_true rfl), (Nat.le_of_ble_eq_true rfl)⟩ (fun _ _ _ _ h => h) (fun _ _ _ => trivial) (P_last hP) F.2.2.2.2.2 hl.1 (Nat.le_of_ble_eq_true rfl) D8_24 ⟨(Nat.le_of_ble_eq_true rfl), (Nat.le_of_ble_eq_true rfl)⟩) hP hD hS hA (fun u1 H locs hP hD hS => ?_)
  refine pF (k := 1) (ty := .object "SteepleStruck$Row") F hnm rfl in8 tyX8_ok nmX8 (Nat.le_of_ble_eq_true rfl) wf8_20 rfl rfl (by decide +kernel) rfl rfl (Nat.le_of_ble_eq_true rfl) hP hD hS D8_27 (fun H locs hP hD hS => ?_)
  have hP : va_P Y.1 classes ((h0, .inr (8, [.ref q0, .ref q1, .int 0, .int 0, .int 0, .int 0, .int 0])) :: (([] ++ bld6 Y 150 q0 u0) ++ bld6 Y 3 q1 u1)) H := hP
  have hD : va_D (CtA h0 sz) ((h0, .inr (8, [.ref q0, .ref q1, .int 0, .int 0, .int 0, .int 0, .int 0])) :: (([] ++ bld6 Y 150 q0 u0) ++ bld6 Y 3 q1 u1)) := hD
  exact ret _ _ _ _ _ _ (fun i => [q0, u0, q1, u1].getD i 0) D8_30 (Nat.le_of_ble_eq_true rfl) (Nat.le_of_ble_eq_true rfl) hP hD hS
abbrev m5_init : MI := (yX5_init, cX5_init, 1, none, 2, 42)
theorem mok5_init : MOK m5_init := ⟨mt1 (j := 207) rfl rfl, by decide +kernel, mt1 (j := 9) rfl rfl, ⟨by decide +kernel, by decide +kernel⟩, by decide +kernel⟩
theorem D5_0 : decode cX5_init 0 = .ok (.aload_n 0, 1) := by decide +kernel
theorem D5_1 : decode cX5_init 1 = .ok (.invokespecial 3, 3) := by decide +kernel
theorem D5_4 : decode cX5_init 4 = .ok (.aload_n 0, 1) := by decide +kernel
theorem D5_5 : decode cX5_init 5 = .ok (.new 9, 3) := by decide +kernel
theorem D5_8 : decode cX5_init 8 = .ok (.dup, 1) := by decide +kernel
theorem D5_9 : decode cX5_init 9 = .ok (.bipush 64, 2) := by decide +kernel
theorem D5_11 : decode cX5_init 11 = .ok (.invokespecial 13, 3) := by decide +kernel
theorem D5_14 : decode cX5_init 14 = .ok (.putfield 16, 3) := by decide +kernel
theorem D5_17 : decode cX5_init 17 = .ok (.aload_n 0, 1) := by decide +kernel
theorem D5_18 : decode cX5_init 18 = .ok (.new 9, 3) := by decide +kernel
theorem D5_21 : decode cX5_init 21 = .ok (.dup, 1) := by decide +kernel
theorem D5_22 : decode cX5_init 22 = .ok (.bipush 64, 2) := by decide +kernel
theorem D5_24 : decode cX5_init 24 = .ok (.invokespecial 13, 3) := by decide +kernel
theorem D5_27 : decode cX5_init 27 = .ok (.putfield 20, 3) := by decide +kernel
theorem D5_30 : decode cX5_init 30 = .ok (.aload_n 0, 1) := by decide +kernel
theorem D5_31 : decode cX5_init 31 = .ok (.new 9, 3) := by decide +kernel
theorem D5_34 : decode cX5_init 34 = .ok (.dup, 1) := by decide +kernel
theorem D5_35 : decode cX5_init 35 = .ok (.bipush 6, 2) := by decide +kernel
theorem D5_37 : decode cX5_init 37 = .ok (.invokespecial 13, 3) := by decide +kernel
theorem D5_40 : decode cX5_init 40 = .ok (.putfield 23, 3) := by decide +kernel
theorem D5_43 : decode cX5_init 43 = .ok (.return_, 1) := by decide +kernel
theorem fo5 : FO 5 RX5 5 [.null, .null, .null, .int 0, .int 0] := ⟨TX5, tyX5, rfl, in5, tyX5_ok, fun j hj => by rcases (show j = 0 ∨ j = 1 ∨ j = 2 ∨ j = 3 ∨ j = 4 by omega) with rfl | rfl | rfl | rfl | rfl <;> rfl, mt1 (j := 204) rfl rfl, mt1 (j := 9) rfl rfl⟩
theorem wo5 : Cond.methodLink RX5 3 objectInit ∈ gt := mt1 (j := 208) rfl rfl
theorem wk5_9 : Cond.classLink RX5 9 RX6 ∈ gt := mt1 (j := 209) rfl rfl
theorem wf5_16 : Cond.fieldLink RX5 16 RX5 "left" "LSteepleStruck$Row;" ∈ gt := mt1 (j := 211) rfl rfl
theorem wf5_20 : Cond.fieldLink RX5 20 RX5 "least" "LSteepleStruck$Row;" ∈ gt := mt1 (j := 212) rfl rfl
theorem wf5_23 : Cond.fieldLink RX5 23 RX5 "order" "LSteepleStruck$Row;" ∈ gt := mt1 (j := 213) rfl rfl
theorem ci5_13 : CI RX5 13 m6_init 1 := ⟨mok6_init, mt1 (j := 210) rfl rfl, mt1 (j := 152) rfl rfl, by decide +kernel, rfl, rfl⟩
abbrev bld5 (Y : K0) (h0 : Nat) (u : Nat → Nat) : va_W := (h0, .inr (5, [.ref (u 0), .ref (u 2), .ref (u 4), .int 0, .int 0])) :: ((([] ++ bld6 Y 64 (u 0) (u 1)) ++ bld6 Y 64 (u 2) (u 3)) ++ bld6 Y 6 (u 4) (u 5))
theorem c5_init (l : Launch) (Y : K0) (h0 sz : Nat) (ex : State → Prop) : Met l m5_init.1 (wsM m5_init) (rmC m5_init 6 137) (CtP Y ex h0 5 [.null, .null, .null, .int 0, .int 0] [] sz) (CtQ Y h0 sz (bld5 Y h0)) 6 137 (CtA h0 sz) := by
  refine cons_of l mok5_init rfl rfl (Nat.le_of_ble_eq_true rfl) ?_
  intro p e s m args below meth c F hnm hex hsz ret ls hl hP hD hS hA
  refine lv_aload_n F.1 F.2.1 D5_0 rfl (lv_at hl 0 rfl) ?_
  refine oI F wo5 wIO wCO hl.1 rfl D5_1 ⟨(Nat.le_of_ble_eq_true rfl), (Nat.le_of_ble_eq_true rfl)⟩ ?_
  refine lv_aload_n F.1 F.2.1 D5_4 rfl (lv_at hl 0 rfl) ?_
  refine nO F fo6 wk5_9 hP hD hS hA (Nat.le_of_ble_eq_true rfl) (Nat.le_of_ble_eq_true rfl) D5_5 (fun q0 H hP hD hS => ?_)
  refine lv_dup F.1 F.2.1 D5_8 rfl ?_
  refine lv_bipush (v := 64) F.1 F.2.1 D5_9 (by decide) ?_
  refine cons_go (runI (As := [.int 64]) (rest := [.ref q0, .ref h0]) ⟨F.1, F.2.1, F.2.2.1, F.2.2.2.1, F.2.2.2.2.1⟩ ci5_13 (c6_init l Y q0 H.size (fun _ => True) 64 64 (by decide) (by decide)) rfl ⟨(Nat.le_of_ble_eq_true rfl), (Nat.le_of_ble_eq_true rfl)⟩ (fun _ _ _ _ h => h) (fun _ _ _ => trivial) (P_last hP) F.2.2.2.2.2 hl.1 (Nat.le_of_ble_eq_true rfl) D5_11 ⟨(Nat.le_of_ble_eq_true rfl), (Nat.le_of_ble_eq_true rfl)⟩) hP hD hS hA (fun u0 H locs hP hD hS => ?_)
  refine pF (k := 0) (ty := .object "SteepleStruck$Row") F hnm rfl in5 tyX5_ok nmX5 (Nat.le_of_ble_eq_true rfl) wf5_16 rfl rfl (by decide +kernel) rfl rfl (Nat.le_of_ble_eq_true rfl) hP hD hS D5_14 (fun H locs hP hD hS => ?_)
  have hP : va_P Y.1 classes ((h0, .inr (5, [.ref q0, .null, .null, .int 0, .int 0])) :: ([] ++ bld6 Y 64 q0 u0)) H := hP
  have hD : va_D (CtA h0 sz) ((h0, .inr (5, [.ref q0, .null, .null, .int 0, .int 0])) :: ([] ++ bld6 Y 64 q0 u0)) := hD
  refine lv_aload_n F.1 F.2.1 D5_17 rfl (lv_at hl 0 rfl) ?_
  refine nO F fo6 wk5_9 hP hD hS hA (Nat.le_of_ble_eq_true rfl) (Nat.le_of_ble_eq_true rfl) D5_18 (fun q1 H hP hD hS => ?_)
  refine lv_dup F.1 F.2.1 D5_21 rfl ?_
  refine lv_bipush (v := 64) F.1 F.2.1 D5_22 (by decide) ?_
  refine cons_go (runI (As := [.int 64]) (rest := [.ref q1, .ref h0]) ⟨F.1, F.2.1, F.2.2.1, F.2.2.2.1, F.2.2.2.2.1⟩ ci5_13 (c6_init l Y q1 H.size (fun _ => True) 64 64 (by decide) (by decide)) rfl ⟨(Nat.le_of_ble_eq_true rfl), (Nat.le_of_ble_eq_true rfl)⟩ (fun _ _ _ _ h => h) (fun _ _ _ => trivial) (P_last hP) F.2.2.2.2.2 hl.1 (Nat.le_of_ble_eq_true rfl) D5_24 ⟨(Nat.le_of_ble_eq_true rfl), (Nat.le_of_ble_eq_true rfl)⟩) hP hD hS hA (fun u1 H locs hP hD hS => ?_)
  refine pF (k := 1) (ty := .object "SteepleStruck$Row") F hnm rfl in5 tyX5_ok nmX5 (Nat.le_of_ble_eq_true rfl) wf5_20 rfl rfl (by decide +kernel) rfl rfl (Nat.le_of_ble_eq_true rfl) hP hD hS D5_27 (fun H locs hP hD hS => ?_)
  have hP : va_P Y.1 classes ((h0, .inr (5, [.ref q0, .ref q1, .null, .int 0, .int 0])) :: (([] ++ bld6 Y 64 q0 u0) ++ bld6 Y 64 q1 u1)) H := hP
  have hD : va_D (CtA h0 sz) ((h0, .inr (5, [.ref q0, .ref q1, .null, .int 0, .int 0])) :: (([] ++ bld6 Y 64 q0 u0) ++ bld6 Y 64 q1 u1)) := hD
  refine lv_aload_n F.1 F.2.1 D5_30 rfl (lv_at hl 0 rfl) ?_
  refine nO F fo6 wk5_9 hP hD hS hA (Nat.le_of_ble_eq_true rfl) (Nat.le_of_ble_eq_true rfl) D5_31 (fun q2 H hP hD hS => ?_)
  refine lv_dup F.1 F.2.1 D5_34 rfl ?_
  refine lv_bipush (v := 6) F.1 F.2.1 D5_35 (by decide) ?_
  refine cons_go (runI (As := [.int 6]) (rest := [.ref q2, .ref h0]) ⟨F.1, F.2.1, F.2.2.1, F.2.2.2.1, F.2.2.2.2.1⟩ ci5_13 (c6_init l Y q2 H.size (fun _ => True) 6 6 (by decide) (by decide)) rfl ⟨(Nat.le_of_ble_eq_true rfl), (Nat.le_of_ble_eq_true rfl)⟩ (fun _ _ _ _ h => h) (fun _ _ _ => trivial) (P_last hP) F.2.2.2.2.2 hl.1 (Nat.le_of_ble_eq_true rfl) D5_37 ⟨(Nat.le_of_ble_eq_true rfl), (Nat.le_of_ble_eq_true rfl)⟩) hP hD hS hA (fun u2 H locs hP hD hS => ?_)
  refine pF (k := 2) (ty := .object "SteepleStruck$Row") F hnm rfl in5 tyX5_ok nmX5 (Nat.le_of_ble_eq_true rfl) wf5_23 rfl rfl (by decide +kernel) rfl rfl (Nat.le_of_ble_eq_true rfl) hP hD hS D5_40 (fun H locs hP hD hS => ?_)
  have hP : va_P Y.1 classes ((h0, .inr (5, [.ref q0, .ref q1, .ref q2, .int 0, .int 0])) :: ((([] ++ bld6 Y 64 q0 u0) ++ bld6 Y 64 q1 u1) ++ bld6 Y 6 q2 u2)) H := hP
  have hD : va_D (CtA h0 sz) ((h0, .inr (5, [.ref q0, .ref q1, .ref q2, .int 0, .int 0])) :: ((([] ++ bld6 Y 64 q0 u0) ++ bld6 Y 64 q1 u1) ++ bld6 Y 6 q2 u2)) := hD
  exact ret _ _ _ _ _ _ (fun i => [q0, u0, q1, u1, q2, u2].getD i 0) D5_43 (Nat.le_of_ble_eq_true rfl) (Nat.le_of_ble_eq_true rfl) hP hD hS
abbrev m2_init : MI := (yX2_init, cX2_init, 1, none, 2, 42)
theorem mok2_init : MOK m2_init := ⟨mt1 (j := 231) rfl rfl, by decide +kernel, mt1 (j := 10) rfl rfl, ⟨by decide +kernel, by decide +kernel⟩, by decide +kernel⟩
theorem D2_0 : decode cX2_init 0 = .ok (.aload_n 0, 1) := by decide +kernel
theorem D2_1 : decode cX2_init 1 = .ok (.invokespecial 3, 3) := by decide +kernel
theorem D2_4 : decode cX2_init 4 = .ok (.aload_n 0, 1) := by decide +kernel
theorem D2_5 : decode cX2_init 5 = .ok (.new 9, 3) := by decide +kernel
theorem D2_8 : decode cX2_init 8 = .ok (.dup, 1) := by decide +kernel
theorem D2_9 : decode cX2_init 9 = .ok (.bipush 6, 2) := by decide +kernel
theorem D2_11 : decode cX2_init 11 = .ok (.invokespecial 11, 3) := by decide +kernel
theorem D2_14 : decode cX2_init 14 = .ok (.putfield 14, 3) := by decide +kernel
theorem D2_17 : decode cX2_init 17 = .ok (.return_, 1) := by decide +kernel
theorem fo2 : FO 2 RX2 1 [.null] := ⟨TX2, tyX2, rfl, in2, tyX2_ok, fun j hj => by rcases (show j = 0 by omega) with rfl <;> rfl, mt1 (j := 228) rfl rfl, mt1 (j := 10) rfl rfl⟩
theorem wo2 : Cond.methodLink RX2 3 objectInit ∈ gt := mt1 (j := 232) rfl rfl
theorem wk2_9 : Cond.classLink RX2 9 RX6 ∈ gt := mt1 (j := 233) rfl rfl
theorem wf2_14 : Cond.fieldLink RX2 14 RX2 "answers" "LSteepleStruck$Row;" ∈ gt := mt1 (j := 235) rfl rfl
theorem ci2_11 : CI RX2 11 m6_init 1 := ⟨mok6_init, mt1 (j := 234) rfl rfl, mt1 (j := 152) rfl rfl, by decide +kernel, rfl, rfl⟩
abbrev bld2 (Y : K0) (h0 : Nat) (u : Nat → Nat) : va_W := (h0, .inr (2, [.ref (u 0)])) :: ([] ++ bld6 Y 6 (u 0) (u 1))
theorem c2_init (l : Launch) (Y : K0) (h0 sz : Nat) (ex : State → Prop) : Met l m2_init.1 (wsM m2_init) (rmC m2_init 2 7) (CtP Y ex h0 2 [.null] [] sz) (CtQ Y h0 sz (bld2 Y h0)) 2 7 (CtA h0 sz) := by
  refine cons_of l mok2_init rfl rfl (Nat.le_of_ble_eq_true rfl) ?_
  intro p e s m args below meth c F hnm hex hsz ret ls hl hP hD hS hA
  refine lv_aload_n F.1 F.2.1 D2_0 rfl (lv_at hl 0 rfl) ?_
  refine oI F wo2 wIO wCO hl.1 rfl D2_1 ⟨(Nat.le_of_ble_eq_true rfl), (Nat.le_of_ble_eq_true rfl)⟩ ?_
  refine lv_aload_n F.1 F.2.1 D2_4 rfl (lv_at hl 0 rfl) ?_
  refine nO F fo6 wk2_9 hP hD hS hA (Nat.le_of_ble_eq_true rfl) (Nat.le_of_ble_eq_true rfl) D2_5 (fun q0 H hP hD hS => ?_)
  refine lv_dup F.1 F.2.1 D2_8 rfl ?_
  refine lv_bipush (v := 6) F.1 F.2.1 D2_9 (by decide) ?_
  refine cons_go (runI (As := [.int 6]) (rest := [.ref q0, .ref h0]) ⟨F.1, F.2.1, F.2.2.1, F.2.2.2.1, F.2.2.2.2.1⟩ ci2_11 (c6_init l Y q0 H.size (fun _ => True) 6 6 (by decide) (by decide)) rfl ⟨(Nat.le_of_ble_eq_true rfl), (Nat.le_of_ble_eq_true rfl)⟩ (fun _ _ _ _ h => h) (fun _ _ _ => trivial) (P_last hP) F.2.2.2.2.2 hl.1 (Nat.le_of_ble_eq_true rfl) D2_11 ⟨(Nat.le_of_ble_eq_true rfl), (Nat.le_of_ble_eq_true rfl)⟩) hP hD hS hA (fun u0 H locs hP hD hS => ?_)
  refine pF (k := 0) (ty := .object "SteepleStruck$Row") F hnm rfl in2 tyX2_ok nmX2 (Nat.le_of_ble_eq_true rfl) wf2_14 rfl rfl (by decide +kernel) rfl rfl (Nat.le_of_ble_eq_true rfl) hP hD hS D2_14 (fun H locs hP hD hS => ?_)
  have hP : va_P Y.1 classes ((h0, .inr (2, [.ref q0])) :: ([] ++ bld6 Y 6 q0 u0)) H := hP
  have hD : va_D (CtA h0 sz) ((h0, .inr (2, [.ref q0])) :: ([] ++ bld6 Y 6 q0 u0)) := hD
  exact ret _ _ _ _ _ _ (fun i => [q0, u0].getD i 0) D2_17 (Nat.le_of_ble_eq_true rfl) (Nat.le_of_ble_eq_true rfl) hP hD hS
abbrev m0_init : MI := (yX0_init, cX0_init, 1, none, 2, 42)
theorem mok0_init : MOK m0_init := ⟨mt2 (j := 3) rfl rfl, by decide +kernel, mt1 (j := 11) rfl rfl, ⟨by decide +kernel, by decide +kernel⟩, by decide +kernel⟩
theorem D0_0 : decode cX0_init 0 = .ok (.aload_n 0, 1) := by decide +kernel
theorem D0_1 : decode cX0_init 1 = .ok (.invokespecial 3, 3) := by decide +kernel
theorem D0_4 : decode cX0_init 4 = .ok (.aload_n 0, 1) := by decide +kernel
theorem D0_5 : decode cX0_init 5 = .ok (.new 9, 3) := by decide +kernel
theorem D0_8 : decode cX0_init 8 = .ok (.dup, 1) := by decide +kernel
theorem D0_9 : decode cX0_init 9 = .ok (.bipush 10, 2) := by decide +kernel
theorem D0_11 : decode cX0_init 11 = .ok (.invokespecial 13, 3) := by decide +kernel
theorem D0_14 : decode cX0_init 14 = .ok (.putfield 16, 3) := by decide +kernel
theorem D0_17 : decode cX0_init 17 = .ok (.return_, 1) := by decide +kernel
theorem fo0 : FO 0 RX0 2 [.null, .int 0] := ⟨TX0, tyX0, rfl, in0, tyX0_ok, fun j hj => by rcases (show j = 0 ∨ j = 1 by omega) with rfl | rfl <;> rfl, mt2 (j := 0) rfl rfl, mt1 (j := 11) rfl rfl⟩
theorem wo0 : Cond.methodLink RX0 3 objectInit ∈ gt := mt2 (j := 4) rfl rfl
theorem wk0_9 : Cond.classLink RX0 9 RX6 ∈ gt := mt2 (j := 5) rfl rfl
theorem wf0_16 : Cond.fieldLink RX0 16 RX0 "best" "LSteepleStruck$Row;" ∈ gt := mt2 (j := 7) rfl rfl
theorem ci0_13 : CI RX0 13 m6_init 1 := ⟨mok6_init, mt2 (j := 6) rfl rfl, mt1 (j := 152) rfl rfl, by decide +kernel, rfl, rfl⟩
abbrev bld0 (Y : K0) (h0 : Nat) (u : Nat → Nat) : va_W := (h0, .inr (0, [.ref (u 0), .int 0])) :: ([] ++ bld6 Y 10 (u 0) (u 1))
theorem c0_init (l : Launch) (Y : K0) (h0 sz : Nat) (ex : State → Prop) : Met l m0_init.1 (wsM m0_init) (rmC m0_init 2 11) (CtP Y ex h0 0 [.null, .int 0] [] sz) (CtQ Y h0 sz (bld0 Y h0)) 2 11 (CtA h0 sz) := by
  refine cons_of l mok0_init rfl rfl (Nat.le_of_ble_eq_true rfl) ?_
  intro p e s m args below meth c F hnm hex hsz ret ls hl hP hD hS hA
  refine lv_aload_n F.1 F.2.1 D0_0 rfl (lv_at hl 0 rfl) ?_
  refine oI F wo0 wIO wCO hl.1 rfl D0_1 ⟨(Nat.le_of_ble_eq_true rfl), (Nat.le_of_ble_eq_true rfl)⟩ ?_
  refine lv_aload_n F.1 F.2.1 D0_4 rfl (lv_at hl 0 rfl) ?_
  refine nO F fo6 wk0_9 hP hD hS hA (Nat.le_of_ble_eq_true rfl) (Nat.le_of_ble_eq_true rfl) D0_5 (fun q0 H hP hD hS => ?_)
  refine lv_dup F.1 F.2.1 D0_8 rfl ?_
  refine lv_bipush (v := 10) F.1 F.2.1 D0_9 (by decide) ?_
  refine cons_go (runI (As := [.int 10]) (rest := [.ref q0, .ref h0]) ⟨F.1, F.2.1, F.2.2.1, F.2.2.2.1, F.2.2.2.2.1⟩ ci0_13 (c6_init l Y q0 H.size (fun _ => True) 10 10 (by decide) (by decide)) rfl ⟨(Nat.le_of_ble_eq_true rfl), (Nat.le_of_ble_eq_true rfl)⟩ (fun _ _ _ _ h => h) (fun _ _ _ => trivial) (P_last hP) F.2.2.2.2.2 hl.1 (Nat.le_of_ble_eq_true rfl) D0_11 ⟨(Nat.le_of_ble_eq_true rfl), (Nat.le_of_ble_eq_true rfl)⟩) hP hD hS hA (fun u0 H locs hP hD hS => ?_)
  refine pF (k := 0) (ty := .object "SteepleStruck$Row") F hnm rfl in0 tyX0_ok nmX0 (Nat.le_of_ble_eq_true rfl) wf0_16 rfl rfl (by decide +kernel) rfl rfl (Nat.le_of_ble_eq_true rfl) hP hD hS D0_14 (fun H locs hP hD hS => ?_)
  have hP : va_P Y.1 classes ((h0, .inr (0, [.ref q0, .int 0])) :: ([] ++ bld6 Y 10 q0 u0)) H := hP
  have hD : va_D (CtA h0 sz) ((h0, .inr (0, [.ref q0, .int 0])) :: ([] ++ bld6 Y 10 q0 u0)) := hD
  exact ret _ _ _ _ _ _ (fun i => [q0, u0].getD i 0) D0_17 (Nat.le_of_ble_eq_true rfl) (Nat.le_of_ble_eq_true rfl) hP hD hS
