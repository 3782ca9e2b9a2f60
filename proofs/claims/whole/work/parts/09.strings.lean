/-! texts: length and charAt of the constants -/
def sLen (k : Nat) : Int32 := nI (lenJS.getD k 0)
def sAt (k : Nat) (i : Int32) : Option Int32 := ck (inb i (lenJS.getD k 0)) (some ((bytJS.getD k []).getD i.toNatClampNeg 0))
section STR
variable {y : MI} {pc n idx : Nat} {L : List (Option AV)} {st : List AV} {σ S : Mem} {V : Option AV}
theorem g_k6 {i k : Nat} (hl : L[i]? = some (some (.inr (.inr (12, k))))) (kk : k < 6 → Go y pc L st σ V S) : Go y pc L st σ V S := by
  intro X p l e R s m args below meth c A cells slots Q F hr oL oS
  have z := oL.at hl
  simp only [okA, show ¬ (12 ∈ kds) from by decide, if_false] at z
  exact kk z X p l e R s m args below meth c A cells slots Q F hr oL oS
theorem g_k6' {i k : Nat} (hl : L[i]? = some (some (.inr (.inr (23, k))))) (kk : k < 6 → Go y pc L st σ V S) : Go y pc L st σ V S := by
  intro X p l e R s m args below meth c A cells slots Q F hr oL oS
  have z := oL.at hl
  simp only [okA, show ¬ (23 ∈ kds) from by decide, if_false] at z
  exact kk z X p l e R s m args below meth c A cells slots Q F hr oL oS
theorem ok23 {X : Kx} {k : Nat} (h : k < 6) : okA X (.inr (.inr (23, k))) := by
  simp only [okA, show ¬ (23 ∈ kds) from by decide, if_false]
  exact h
theorem g_val {k : Nat} (hy : y.1.cls = RJ0) (hd : At y.2.1 pc (.getfield 9) 3 n) (hk : k < 6) (kk : Go y n L (.inr (.inr (23, k)) :: st) σ V S) : Go y pc L (.inr (.inr (12, k)) :: st) σ V S := by
  obtain ⟨hd, rfl⟩ := hd
  intro X p l e R s m args below meth c A cells slots Q F hr oL oS H locs ls hl hW hS
  have hw := F.2.2.2.2.1 _ flJ0_9
  have hown := F.2.2.2.1
  rw [hy] at hown
  exact vk_getf F.1 F.2.1 (F.2.2.2.2.2.2.2.2.1.1.1 k hk).2.2.1 hS hown hw (fun _ h => h) hd (kk X p l e R s m args below meth c A cells slots Q F hr oL (oS.tl.cons (ok23 hk)) H locs ls hl hW hS)
theorem g_coder {k : Nat} (hy : y.1.cls = RJ0) (hd : At y.2.1 pc (.getfield 15) 3 n) (hk : k < 6) (kk : Go y n L (.inl 0 :: st) σ V S) : Go y pc L (.inr (.inr (12, k)) :: st) σ V S := by
  obtain ⟨hd, rfl⟩ := hd
  intro X p l e R s m args below meth c A cells slots Q F hr oL oS H locs ls hl hW hS
  have hw := F.2.2.2.2.1 _ flJ0_15
  have hown := F.2.2.2.1
  rw [hy] at hown
  exact vk_getf F.1 F.2.1 (F.2.2.2.2.2.2.2.2.1.1.1 k hk).2.1 hS hown hw (fun _ h => h) hd (kk X p l e R s m args below meth c A cells slots Q F hr oL oS.tl.i H locs ls hl hW hS)
theorem g_compact (hy : y.1.cls = RJ0) (hd : At y.2.1 pc (.getstatic 38) 3 n) (kk : Go y n L (.inl 1 :: st) σ V S) : Go y pc L st σ V S := by
  obtain ⟨hd, rfl⟩ := hd
  intro X p l e R s m args below meth c A cells slots Q F hr oL oS H locs ls hl hW hS
  have hw := F.2.2.2.2.1 _ flJ0_38
  have hown := F.2.2.2.1
  rw [hy] at hown
  exact va_gets F.1 F.2.1 F.2.2.2.2.2.2.2.2.1.2.1.1 hS hown hw (fun _ h => h) hd (kk X p l e R s m args below meth c A cells slots Q F hr oL oS.i H locs ls hl hW hS)
theorem g_blen {k : Nat} (hd : At y.2.1 pc .arraylength 1 n) (hk : k < 6) (kk : Go y n L (.inl (nI (lenJS.getD k 0)) :: st) σ V S) : Go y pc L (.inr (.inr (23, k)) :: st) σ V S := by
  obtain ⟨hd, rfl⟩ := hd
  intro X p l e R s m args below meth c A cells slots Q F hr oL oS H locs ls hl hW hS
  exact va_tlen F.1 F.2.1 (F.2.2.2.2.2.2.2.2.1.1.1 k hk).2.2.2 hS rfl hd (kk X p l e R s m args below meth c A cells slots Q F hr oL oS.tl.i H locs ls hl hW hS)
theorem g_bbld {k : Nat} {i : Int32} (hd : At y.2.1 pc .baload 1 n) (hk : k < 6) (hin : vp_in i (lenJS.getD k 0)) (kk : Go y n L (.inl ((bytJS.getD k []).getD i.toNatClampNeg 0) :: st) σ V S) : Go y pc L (.inl i :: .inr (.inr (23, k)) :: st) σ V S := by
  obtain ⟨hd, rfl⟩ := hd
  intro X p l e R s m args below meth c A cells slots Q F hr oL oS H locs ls hl hW hS
  exact va_tb F.1 F.2.1 (F.2.2.2.2.2.2.2.2.1.1.1 k hk).2.2.2 hS hin rfl hd (kk X p l e R s m args below meth c A cells slots Q F hr oL oS.tl.tl.i H locs ls hl hW hS)
theorem g_i2c {x v : Int32} (hd : At y.2.1 pc .i2c 1 n) (hv : (x.toUInt32 % 65536).toInt32 = v) (kk : Go y n L (.inl v :: st) σ V S) : Go y pc L (.inl x :: st) σ V S := by
  obtain ⟨hd, rfl⟩ := hd
  intro X p l e R s m args below meth c A cells slots Q F hr oL oS H locs ls hl hW hS
  exact lv_i2c F.1 F.2.1 hd hv (kk X p l e R s m args below meth c A cells slots Q F hr oL oS.tl.i H locs ls hl hW hS)
end STR
theorem EJ0_coder (k : Nat) (σ : Mem) : Ev mJ0_coder [.inr (.inr (12, k))] σ (some (.inl 0)) σ := by
  show Go mJ0_coder 0 [some (.inr (.inr (12, k)))] [] σ (some (.inl 0)) σ
  refine g_k6 (i := 0) rfl (fun hk => ?_)
  refine g_compact rfl aJ0_coder_0 ?_
  refine g_if_eq (tgt := 13) aJ0_coder_3 rfl (fun h => absurd h (by decide)) (fun _ => ?_)
  refine g_aload_n aJ0_coder_6 rfl ?_
  refine g_coder rfl aJ0_coder_7 hk ?_
  refine g_goto (tgt := 14) aJ0_coder_10 rfl ?_
  exact g_retE aJ0_coder_14 (show narrow .byte (.int 0) = .int 0 from rfl) rfl rfl
theorem EJ0_isLatin1 (k : Nat) (σ : Mem) : Ev mJ0_isLatin1 [.inr (.inr (12, k))] σ (some (.inl 1)) σ := by
  show Go mJ0_isLatin1 0 [some (.inr (.inr (12, k)))] [] σ (some (.inl 1)) σ
  refine g_k6 (i := 0) rfl (fun hk => ?_)
  refine g_compact rfl aJ0_isLatin1_0 ?_
  refine g_if_eq (tgt := 17) aJ0_isLatin1_3 rfl (fun h => absurd h (by decide)) (fun _ => ?_)
  refine g_aload_n aJ0_isLatin1_6 rfl ?_
  refine g_coder rfl aJ0_isLatin1_7 hk ?_
  refine g_if_ne (tgt := 17) aJ0_isLatin1_10 rfl (fun h => absurd rfl h) (fun _ => ?_)
  refine g_iconst (v := 1) aJ0_isLatin1_13 rfl ?_
  refine g_goto (tgt := 18) aJ0_isLatin1_14 rfl ?_
  exact g_retE aJ0_isLatin1_18 (Or.inr rfl) rfl rfl
theorem EJ0_length (k : Nat) (σ : Mem) : Ev mJ0_length [.inr (.inr (12, k))] σ (some (.inl (sLen k)) : Option AV) σ := by
  show Go mJ0_length 0 [some (.inr (.inr (12, k)))] [] σ (some (.inl (sLen k))) σ
  refine g_k6 (i := 0) rfl (fun hk => ?_)
  refine g_aload_n aJ0_length_0 rfl ?_
  refine g_val rfl aJ0_length_1 hk ?_
  refine g_blen aJ0_length_4 hk ?_
  refine g_aload_n aJ0_length_5 rfl ?_
  refine g_T0s (v1 := .inl 0) (σ1 := σ) aJ0_length_6 cvJ0_335 (EJ0_coder _ _) rfl (fun _ => ?_)
  refine g_ishr aJ0_length_9 ?_
  have e : nI (lenJS.getD k 0) >>> ((0 : Int32) &&& 31) = sLen k := by
    rcases (show k = 0 ∨ k = 1 ∨ k = 2 ∨ k = 3 ∨ k = 4 ∨ k = 5 by omega) with rfl | rfl | rfl | rfl | rfl | rfl <;> decide +kernel
  rw [e]
  exact g_retE aJ0_length_10 trivial rfl rfl
/-! the index looked at -/
theorem met_J3 (l : Launch) (i n : Int32) (v : Value) (h0 : ¬ i < 0) (h1 : i < n) (hv : v.category = 1) : Met l mJ3_checkIndex.1 (wsM mJ3_checkIndex) (rmM mJ3_checkIndex) (fun a _ => a = #[.int i, .int n, v]) (fun _ st o t => o = .returned (some (.int i)) ∧ t.heap = st.heap) 0 0 (fun _ => False) := by
  refine Met.ofW (cc := cJ3_checkIndex_8e157) (maxL := 3) (ret := some .int) mokJ3_checkIndex.2.1 rfl ?_
  intro p e s m args below meth c s₁ B hml hv0
  subst hv0
  have hl := lv_entry ([.int i, .int n, v]) (n := 3) (by
    have e : (lg_sl [Value.int i, .int n, v]).length = 3 := by cases v <;> first | rfl | cases hv
    omega)
  rw [lg_entry_eq (vs := [.int i, .int n, v])]
  have g0 := hl.2.2 (0, .int i) (by simp [lv_args])
  have g1 := hl.2.2 (1, .int n) (by simp [lv_args, Value.category])
  refine lv_iload_n B.exec B.bytes aJ3_checkIndex_0.1 rfl g0 ?_
  refine lv_if_lt (tgt := 9) B.exec B.bytes aJ3_checkIndex_1.1 rfl (fun h => absurd h h0) (fun _ => ?_)
  refine lv_iload_n B.exec B.bytes aJ3_checkIndex_4.1 rfl g0 ?_
  refine lv_iload_n B.exec B.bytes aJ3_checkIndex_5.1 rfl g1 ?_
  refine lv_icmp_lt (tgt := 16) B.exec B.bytes aJ3_checkIndex_6.1 rfl (fun _ => ?_) (fun h => absurd h1 h)
  refine lv_iload_n B.exec B.bytes aJ3_checkIndex_16.1 rfl g0 ?_
  exact W.iret B.exec B.bytes B.returns (fun t ht _ => ⟨rfl, ht⟩) (fun _ h => by cases h) aJ3_checkIndex_17.1 B.notSynchronized
theorem EJ0_checkIndex (i n : Int32) (σ : Mem) (h0 : ¬ i < 0) (h1 : i < n) : Ev mJ0_checkIndex [.inl i, .inl n] σ none σ := by
  show Go mJ0_checkIndex 0 [some (.inl i), some (.inl n)] [] σ none σ
  refine g_iload_n aJ0_checkIndex_0 rfl ?_
  refine g_iload_n aJ0_checkIndex_1 rfl ?_
  intro X p l e R s m args below meth c A cells slots Q F hr oL oS H locs ls hl hW hS
  have hts := F.2.2.2.2.1
  have hw := hts _ flJ0_1053
  have go : ∀ (v : Value), v.category = 1 → W p l e R s m args below meth c H locs cells slots Q (F0 m 5 ls (v :: List.map (cv (Kad X)) [.inl n, .inl i])) := by
    intro v hv
    obtain ⟨hM, hlk, hst, hna⟩ := csJ0_1059
    have cw := callB_of (R := R) (y := mJ3_checkIndex.1) (bytes := mJ3_checkIndex.2.1) (maxL := 3) (ret := some .int) (rm := rmM mJ3_checkIndex) (mc := 0) (ms := 0) (own := RJ0) (index := 1059) 3 hts (gt_GoodIn hM) (show wsM mJ3_checkIndex = _ :: gt from rfl) rfl rfl (hts _ hM.2.2.1) (hts _ hlk) ⟨hM.2.2.2.1.1, hM.2.2.2.1.2, hna⟩ ⟨Nat.le_trans (Nat.le_of_ble_eq_true rfl) F.2.2.2.2.2.2.2.2.2.2.1, Nat.le_trans (Nat.le_of_ble_eq_true rfl) F.2.2.2.2.2.2.2.2.2.2.2.1⟩
    have hrun := va_runS (H := H) (locs := locs) (cells := cells) (slots := slots) (below := below) (meth := meth) (e := e) (As := [.int i, .int n, v]) (rest := []) (g := F0 m 5 ls (v :: List.map (cv (Kad X)) [.inl n, .inl i])) (Ts := gt) ⟨F.1, F.2.1, F.2.2.1, F.2.2.2.1, hts⟩ (met_J3 l i n v h0 h1 hv) ⟨cw, hts _ hst⟩ ⟨fun _ _ _ _ h => h, fun _ _ _ => rfl⟩ rfl rfl hl.1 rfl (lv_room (Nat.le_of_ble_eq_true rfl)) aJ0_checkIndex_5.1 ⟨F.2.2.2.2.2.2.2.2.2.2.2.2.1, F.2.2.2.2.2.2.2.2.2.2.2.2.2⟩
    intro T hT X'
    obtain ⟨v', st₀, t, T', L, g0, X'', hL, e1, e2, ⟨hv', hh⟩, hst'⟩ := hrun T hT X'
    cases hv'
    have eL : L = [] := by
      cases L with
      | nil => rfl
      | cons q L => exact (hL q List.mem_cons_self).elim
    subst eL
    have kk : W p l e R s m args below meth c H locs cells slots Q (F0 m 8 ls [.int i]) := by
      refine lv_pop F.1 F.2.1 aJ0_checkIndex_8.1 rfl ?_
      exact hr 9 H locs ls aJ0_checkIndex_9.1 trivial (fun _ h => by cases h) hW hS
    obtain ⟨t2, a1, b1⟩ := kk T' (by rw [e1, hh, g0]) (by simpa using X'')
    exact ⟨t2, hst' t2 a1, b1⟩
  rcases F.2.2.2.2.2.2.2.2.1.2.1.2 with hz | ⟨t, hz⟩
  · exact va_gets F.1 F.2.1 hz hS F.2.2.2.1 hw (fun _ h => h) aJ0_checkIndex_2.1 (go .null rfl)
  · exact va_gets F.1 F.2.1 hz hS F.2.2.2.1 hw (fun _ h => h) aJ0_checkIndex_2.1 (go (.ref t) rfl)
theorem sc_all : ∀ k, k < 6 → ∀ b ∈ bytJS.getD k [], ((b &&& 255).toUInt32 % 65536).toInt32 = b ∧ narrow .char (.int b) = .int b := by decide +kernel
theorem sc_len : ∀ k, k < 6 → lenJS.getD k 0 = (bytJS.getD k []).length ∧ lenJS.getD k 0 < 8 := by decide +kernel
theorem sc_in {k : Nat} {i : Int32} (hk : k < 6) (h : inb i (lenJS.getD k 0) = true) : (¬ i < 0 ∧ i < nI (lenJS.getD k 0)) ∧ (((bytJS.getD k []).getD i.toNatClampNeg 0 &&& 255).toUInt32 % 65536).toInt32 = (bytJS.getD k []).getD i.toNatClampNeg 0 ∧ narrow .char (.int ((bytJS.getD k []).getD i.toNatClampNeg 0)) = .int ((bytJS.getD k []).getD i.toNatClampNeg 0) := by
  obtain ⟨h1, h2⟩ := sc_len k hk
  have hin := inb_ok h
  obtain ⟨j, hj, rfl⟩ := vp_in_of hin (by omega)
  refine ⟨⟨nI_pos (by omega), nI_lt hj (by omega)⟩, ?_⟩
  have e : (bytJS.getD k []).getD (nI j).toNatClampNeg 0 ∈ bytJS.getD k [] := by
    have hlt : j < (bytJS.getD k []).length := by omega
    rw [nI_clamp (by omega)]
    generalize bytJS.getD k [] = q at hlt ⊢
    rw [List.getD_eq_getElem?_getD, List.getElem?_eq_getElem hlt]
    exact List.getElem_mem _
  exact sc_all k hk _ e
theorem EJ1_charAt {k : Nat} {i : Int32} {σ : Mem} {w : Int32} (h : sAt k i = some w) : Ev mJ1_charAt [.inr (.inr (23, k)), .inl i] σ (some (.inl w) : Option AV) σ := by
  obtain ⟨hb, h⟩ := ck_inv h
  have h := Option.some.inj h
  subst h
  show Go mJ1_charAt 0 [some (.inr (.inr (23, k))), some (.inl i)] [] σ _ σ
  refine g_k6' (i := 0) rfl (fun hk => ?_)
  obtain ⟨⟨h0, h1⟩, e, hn⟩ := sc_in hk hb
  refine g_iload_n aJ1_charAt_0 rfl ?_
  refine g_aload_n aJ1_charAt_1 rfl ?_
  refine g_blen aJ1_charAt_2 hk ?_
  refine g_S2n (σ1 := σ) aJ1_charAt_3 csJ1_9 (EJ0_checkIndex _ _ _ h0 h1) rfl (fun _ => ?_)
  refine g_aload_n aJ1_charAt_6 rfl ?_
  refine g_iload_n aJ1_charAt_7 rfl ?_
  refine g_bbld aJ1_charAt_8 hk (inb_ok hb) ?_
  refine g_sipush (v := 255) aJ1_charAt_9 rfl ?_
  refine g_iand aJ1_charAt_12 ?_
  refine g_i2c aJ1_charAt_13 e ?_
  exact g_retE aJ1_charAt_14 hn rfl rfl
theorem EJ0_charAt {k : Nat} {i : Int32} {σ : Mem} {w : Int32} (h : sAt k i = some w) : Ev mJ0_charAt [.inr (.inr (12, k)), .inl i] σ (some (.inl w) : Option AV) σ := by
  show Go mJ0_charAt 0 [some (.inr (.inr (12, k))), some (.inl i)] [] σ _ σ
  refine g_k6 (i := 0) rfl (fun hk => ?_)
  refine g_aload_n aJ0_charAt_0 rfl ?_
  refine g_T0s (v1 := .inl 1) (σ1 := σ) aJ0_charAt_1 cvJ0_492 (EJ0_isLatin1 _ _) rfl (fun _ => ?_)
  refine g_if_eq (tgt := 16) aJ0_charAt_4 rfl (fun h => absurd h (by decide)) (fun _ => ?_)
  refine g_aload_n aJ0_charAt_7 rfl ?_
  refine g_val rfl aJ0_charAt_8 hk ?_
  refine g_iload_n aJ0_charAt_11 rfl ?_
  refine g_S2s (v1 := .inl w) (σ1 := σ) aJ0_charAt_12 csJ0_495 (EJ1_charAt h) rfl (fun hv => ?_)
  exact g_retE aJ0_charAt_15 hv rfl rfl
