/-! a run is a contract, and a contract serves at a call -/
theorem SX.same {X : Kx} {A : Nat → Prop} {u U : State} {H : Heap} (hv : u.vm = U.vm) (h : SX X A u H) : SX X A U H :=
  have al : u.vm.Alike U.vm := by rw [← hv]; exact Vm.Alike.refl _
  ⟨h.1.moved al, ⟨h.2.1.1.moved al, h.2.1.2.moved al⟩, fun i hi => vk_R.same hv.symm (h.2.2.1 i hi), va_Nw.same rfl hv h.2.2.2⟩
theorem SX.warm {X : Kx} {A : Nat → Prop} {s U : State} {H : Heap} (hW : s.WarmedH U.vm) (h : SX X A s H) : SX X A U H :=
  ⟨h.1.moved hW.alike, ⟨h.2.1.1.moved hW.alike, h.2.1.2.moved hW.alike⟩, fun i hi => vk_R.warm hW (h.2.2.1 i hi), va_Nw.warmM hW h.2.2.2⟩
theorem SX.down {X : Kx} {A B : Nat → Prop} {s : State} {H : Heap} {locs : List Loc} (h : SX X A s s.heap) (hS : va_S A s.heap H locs) (hAB : ∀ q, B q → A q) : SX X B s H :=
  ⟨(h.1.kept hS.2.1).narrow hAB, ⟨(h.2.1.1.kept hS.2.1).narrow hAB, (h.2.1.2.kept hS.2.1).narrow hAB⟩, h.2.2⟩
theorem Pm_blind {X : Kx} {As : List AV} {σ : Mem} : FrameBlind (Pm X As σ) := by
  intro a U g mk h
  obtain ⟨h1, h2, h3, h4⟩ := h
  exact ⟨h1, h2, va_K.moved (u := U) (U := U.calling g mk a) (Vm.Alike.refl U.vm) h3, SX.same (u := U) (U := U.calling g mk a) rfl h4⟩
theorem Wa_in {X : Kx} {A : Nat → Prop} (h : ∀ q ∈ Klx X, A (Kad X q.1 q.2)) : ∀ a, Wa X a → A a := by
  rintro a ⟨q, hq, rfl⟩
  exact h q hq
theorem ret_go {y : MI} {X : Kx} {p : Program} {l : Launch} {e : Env} {R : Room} {s : State} {m : MethodId} {args : Array Value} {below : List Frame} {meth : Method} {c : Code} {V : Option AV} {S : Mem} (hx : p.tables.exec = Jvm.exec) (hb : c.code = y.2.1) (hr : meth.sig.returnType = y.2.2.2.1) (hlk : meth.locks = false) : Rt y X p l e R s m args below meth c (Wa X) 0 0 (MQ below (Qm X y.2.2.2.1 V S) args s 0 0 (Wa X)) V S := by
  intro pc H locs ls hd hv oS hW hS
  have hq : ∀ t : State, t.heap = H → s.WarmedH t.vm → Qm X y.2.2.2.1 V S args s (.returned (V.map (cv (Kad X)))) t := fun t ht _ => ⟨rfl, hv, oS, by rw [ht]; exact hW, hS.F ht⟩
  obtain ⟨y1, y2, y3, y4, y5⟩ := y
  dsimp only at hv hd hr hb hq ⊢
  cases y4 with
  | none =>
    cases V with
    | none => exact W.vret hx hb hr hq hS.2.2 hd hlk
    | some v => exact hv.elim
  | some ty =>
    cases V with
    | none => cases ty <;> exact hv.elim
    | some v =>
      cases ty <;> rcases v with v | v | v <;> first
        | exact hv.elim
        | exact W.iret hx hb hr hq hS.2.2 hd hlk
        | exact W.lret hx hb hr hq hS.2.2 hd hlk
        | exact W.zret (ty := .byte) hx hb hr hv hq hS.2.2 hd hlk
        | exact W.zret (ty := .char) hx hb hr hv hq hS.2.2 hd hlk
        | exact W.zret (ty := .boolean) hx hb hr (by rcases hv with rfl | rfl <;> rfl) hq hS.2.2 hd hlk
        | exact W.aret hx hb hr (Or.inl ⟨_, rfl⟩) (Or.inr ⟨_, rfl⟩) hq hS.2.2 hd hlk
theorem met_of {y : MI} {As : List AV} {σ S : Mem} {V : Option AV} (hE : Ev y As σ V S) (hM : MOK y) (hL : (lay As).length ≤ y.2.2.1) (l : Launch) (X : Kx) (hA : okS X As) (hAp : Cl X ∧ Ap X) : Met l y.1 (wsM y) (rmM y) (Pm X As σ) (Qm X y.2.2.2.1 V S) 0 0 (Wa X) := by
  refine Met.ofW (cc := y.2.1) (maxL := y.2.2.1) (ret := y.2.2.2.1) hM.2.1 rfl ?_
  intro p e s m args below meth c s₁ B hml hv0
  obtain ⟨rfl, hW, hK, hX⟩ := hv0
  have hts := atoms_spec (ws := wsM y) B.pre
  have hlen : (lg_sl (As.map (cv (Kad X)))).length ≤ y.2.2.1 := by rw [← lay_len]; exact hL
  have hl := lv_entry (As.map (cv (Kad X))) (n := y.2.2.1) hlen
  rw [lg_entry_eq]
  refine hE X p l e _ s m _ below meth c (Wa X) 0 0 _ ⟨B.exec, B.bytes, hml, findClass_of_methodNamed B.named, fun w hw => hts w (List.mem_cons_of_mem _ hw), hK, hAp, fun q hq => ⟨q, hq, rfl⟩, hX, fun h => absurd h hM.2.2.2.2, Nat.le_refl _, Nat.le_refl _, Nat.zero_le _, Nat.zero_le _⟩ (ret_go B.exec B.bytes B.returns B.notSynchronized) ?_ (fun _ h => by cases h) s.heap [] _ ⟨hl.1, hl.2.1, fun i a hi => ?_⟩ hW va_S.rf
  · intro a ha
    rcases List.mem_append.mp ha with h | h
    · have key : ∀ (l : List AV), some a ∈ lay l → a ∈ l := by
        intro l
        induction l with
        | nil => intro h; simp [lay] at h
        | cons b l ih =>
          intro h
          rcases b with x | x | q
          · simp only [lay, List.mem_cons, Option.some.injEq] at h
            rcases h with rfl | h
            · exact List.mem_cons_self
            · exact List.mem_cons_of_mem _ (ih h)
          · simp only [lay, List.mem_cons, Option.some.injEq] at h
            rcases h with rfl | h | h
            · exact List.mem_cons_self
            · cases h
            · exact List.mem_cons_of_mem _ (ih h)
          · simp only [lay, List.mem_cons, Option.some.injEq] at h
            rcases h with rfl | h
            · exact List.mem_cons_self
            · exact List.mem_cons_of_mem _ (ih h)
      exact hA a (key As h)
    · have := List.eq_of_mem_replicate h
      cases this
  · rw [ini, List.getElem?_append] at hi
    split at hi
    · have := lay_lv (ad := Kad X) As 0 i a hi
      rw [Nat.zero_add] at this
      exact hl.2.2 _ this
    · rw [List.getElem?_replicate] at hi
      split at hi <;> cases hi
section CALL
variable {p : Program} {l : Launch} {e : Env} {R : Room} {s : State} {m : MethodId} {args : Array Value} {below : List Frame} {meth : Method} {c : Code} {H : Heap} {locs : List Loc} {cells slots : Nat} {Q : State → Prop}
variable {pc : Nat} {ls : Array Slot} {rest st0 : List Value} {a : Array Value} {A0 : Nat → Prop} {H0 : Heap} {X : Kx} {V : Option AV} {S : Mem} {rt : Option FieldType}
theorem run_go (hr : va_Run p l e R s m args below meth c H locs cells slots 0 0 (F0 m pc ls st0) rest (Qm X rt V S a) (Wa X)) (hS : va_S A0 H0 H locs) (hA : ∀ q, Wa X q → A0 q)
    (kk : ∀ (H1 : Heap) (locs1 : List Loc), vok rt V → okS X V.toList → Wd X S H1 → va_S A0 H0 H1 locs1 → W p l e R s m args below meth c H1 locs1 cells slots Q (F0 m (pc + 3) ls ((V.map (cv (Kad X))).toList ++ rest))) : W p l e R s m args below meth c H locs cells slots Q (F0 m pc ls st0) := by
  intro T hT X'
  obtain ⟨v, st₀, t, T', L, h0, X', hL, e1, e2, ⟨hv, hvk, ho, hW, hz, hk⟩, st⟩ := hr T hT X'
  cases hv
  rw [h0] at hz hk
  obtain ⟨t2, a1, b1⟩ := kk T'.heap (locs ++ L) hvk ho (by rw [e1]; exact hW)
    ⟨Nat.le_trans hS.1 (by rw [e1]; exact hz), fun q h1 h2 => by rw [e1, hk q (Nat.lt_of_lt_of_le h1 hS.1) (fun z => h2 (hA q z))]; exact hS.2.1 q h1 h2, fun q hq => by
      rcases List.mem_append.mp hq with h | h
      · exact hS.2.2 q h
      · exact hA _ (hL q h)⟩ T' rfl X'
  exact ⟨t2, st t2 a1, b1⟩
end CALL
theorem gt_GoodIn {y : MI} (hM : MOK y) : GoodIn gt (wsM y) := by
  intro w hw
  have h : w ∈ gt := (List.mem_cons.mp hw).elim (fun e => e ▸ hM.1) id
  exact ⟨h, good_of_word (lw_good w h)⟩
/-- a call's words -/
def CS (own : String) (idx : Nat) (z : MI) (na : Nat) : Prop := MOK z ∧ Cond.methodLink own idx z.1 ∈ gt ∧ Cond.static z.1 ∈ gt ∧ (parseMethodDescriptor z.1.desc).map (fun d => d.parameters.length) = some na
def CV (own : String) (idx : Nat) (z : MI) (na cc : Nat) : Prop := MOK z ∧ Cond.methodLink own idx z.1 ∈ gt ∧ Cond.instanceMethod z.1 ∈ gt ∧ Cond.selects z.1.cls z.1 z.1 ∈ gt ∧ (parseMethodDescriptor z.1.desc).map (fun d => d.parameters.length) = some na ∧ cc < 12 ∧ (classes[cc]?).map (fun q => q.1) = some z.1.cls
def CT (own : String) (idx : Nat) (z : MI) (na : Nat) : Prop := MOK z ∧ Cond.methodLink own idx z.1 ∈ gt ∧ Cond.instanceMethod z.1 ∈ gt ∧ Cond.selects z.1.cls z.1 z.1 ∈ gt ∧ (parseMethodDescriptor z.1.desc).map (fun d => d.parameters.length) = some na ∧ z.1.cls = "java/lang/String"
def cat1 (st : List AV) : Nat := (st.map fun a => match a with | .inr (.inl _) => 2 | _ => 1).sum
theorem cat_sum {ad : AdT} (st : List AV) : ((st.map (cv ad)).map fun v => v.category).sum = cat1 st := by
  induction st with
  | nil => rfl
  | cons a st ih =>
    simp only [cat1, List.map_cons, List.sum_cons] at ih ⊢
    rw [ih]
    rcases a with x | x | q <;> rfl
/-- the sizes of a call, by one count -/
def szOK (y z : MI) (As st : List AV) (d : Nat) : Bool := Nat.ble ((lay As).length + d) z.2.2.1 && (Nat.ble (z.2.2.2.2.1 + 1) y.2.2.2.2.1 && (Nat.ble (8 + (z.2.2.1 + 11) + z.2.2.2.2.2) y.2.2.2.2.2 && Nat.ble (cat1 st) 8))
theorem szOK_use {y z : MI} {As st : List AV} {d : Nat} (h : szOK y z As st d = true) : (lay As).length + d ≤ z.2.2.1 ∧ (z.2.2.2.2.1 + 1 ≤ y.2.2.2.2.1 ∧ 8 + (z.2.2.1 + 11) + z.2.2.2.2.2 ≤ y.2.2.2.2.2) ∧ cat1 st ≤ 8 := by
  simp only [szOK, Bool.and_eq_true] at h
  exact ⟨Nat.le_of_ble_eq_true h.1, ⟨Nat.le_of_ble_eq_true h.2.1, Nat.le_of_ble_eq_true h.2.2.1⟩, Nat.le_of_ble_eq_true h.2.2.2⟩
section CALL2
variable {y z : MI} {pc n idx na cc k : Nat} {L : List (Option AV)} {As st : List AV} {σ σ1 S : Mem} {V V1 : Option AV}
/-- the room that the callee asks for is there -/
def rmOK (y z : MI) : Prop := z.2.2.2.2.1 + 1 ≤ y.2.2.2.2.1 ∧ 8 + (z.2.2.1 + 11) + z.2.2.2.2.2 ≤ y.2.2.2.2.2
theorem okS_rev {X : Kx} {As st : List AV} (h : okS X (As.reverse ++ st)) : okS X As ∧ okS X st := ⟨fun a ha => h a (List.mem_append_left _ (List.mem_reverse.mpr ha)), fun a ha => h a (List.mem_append_right _ ha)⟩
theorem map_stack {ad : AdT} {As st : List AV} : (As.reverse ++ st).map (cv ad) = (As.map (cv ad)).reverse ++ st.map (cv ad) := by simp
theorem val_stack {ad : AdT} {V1 : Option AV} {st : List AV} : (V1.map (cv ad)).toList ++ st.map (cv ad) = (V1.toList ++ st).map (cv ad) := by cases V1 <;> rfl
theorem g_callS (hd : At y.2.1 pc (.invokestatic idx) 3 n) (hc : CS y.1.cls idx z na) (hE : Ev z As σ V1 σ1) (hlen : As.length = na) (hlay : (lay As).length ≤ z.2.2.1) (hrm : rmOK y z) (hcat : cat1 st ≤ 8)
    (kk : vok z.2.2.2.1 V1 → Go y n L (V1.toList ++ st) σ1 V S) : Go y pc L (As.reverse ++ st) σ V S := by
  obtain ⟨hd, rfl⟩ := hd
  intro X p l e R s m args below meth c A cells slots Q F hr oL oS H locs ls hl hW hS
  obtain ⟨o1, o2⟩ := okS_rev oS
  obtain ⟨hM, hlk, hst, hna⟩ := hc
  have hmet := met_of hE hM hlay l X o1 F.2.2.2.2.2.2.1
  have hts := F.2.2.2.2.1
  have hR : (rmM z).frames + 1 ≤ R.frames ∧ 8 + (z.2.2.1 + 11) + (rmM z).locals ≤ R.locals := ⟨Nat.le_trans hrm.1 F.2.2.2.2.2.2.2.2.2.2.1, Nat.le_trans hrm.2 F.2.2.2.2.2.2.2.2.2.2.2.1⟩
  have cw := callB_of (y := z.1) (bytes := z.2.1) (maxL := z.2.2.1) (ret := z.2.2.2.1) (mc := 0) (ms := 0) (own := y.1.cls) (index := idx) na hts (gt_GoodIn hM) (show wsM z = _ :: gt from rfl) rfl rfl (hts _ hM.2.2.1) (hts _ hlk) ⟨hM.2.2.2.1.1, hM.2.2.2.1.2, hna⟩ hR
  have hWA := Wa_in F.2.2.2.2.2.2.2.1
  refine run_go (va_runS (As := As.map (cv (Kad X))) (rest := st.map (cv (Kad X))) (Ts := gt) ⟨F.1, F.2.1, F.2.2.1, F.2.2.2.1, hts⟩ hmet ⟨cw, hts _ hst⟩ ⟨Pm_blind, fun U hU hWm => ⟨rfl, by rw [hU]; exact hW, va_K.moved hWm.alike F.2.2.2.2.2.1, ?_⟩⟩ rfl (by rw [List.length_map]; exact hlen) hl.1 map_stack (lv_room (by rw [cat_sum]; exact hcat)) hd ⟨F.2.2.2.2.2.2.2.2.2.2.2.2.1, F.2.2.2.2.2.2.2.2.2.2.2.2.2⟩) hS hWA (fun H1 locs1 h0 h1 h2 h3 => ?_)
  · rw [hU]
    exact SX.warm hWm (F.2.2.2.2.2.2.2.2.1.down hS hWA)
  · rw [val_stack]
    refine kk h0 X p l e R s m args below meth c A cells slots Q F hr oL ?_ H1 locs1 ls hl h2 h3
    intro b hb
    rcases List.mem_append.mp hb with hb | hb
    · exact h1 b hb
    · exact o2 b hb
theorem g_callV (hd : At y.2.1 pc (.invokevirtual idx) 3 n) (hc : CV y.1.cls idx z na cc) (hE : Ev z (.inr (.inr (cc, k)) :: As) σ V1 σ1) (hlen : As.length = na) (hlay : (lay As).length + 1 ≤ z.2.2.1) (hrm : rmOK y z) (hcat : cat1 st ≤ 8)
    (kk : vok z.2.2.2.1 V1 → Go y n L (V1.toList ++ st) σ1 V S) : Go y pc L (As.reverse ++ .inr (.inr (cc, k)) :: st) σ V S := by
  obtain ⟨hd, rfl⟩ := hd
  intro X p l e R s m args below meth c A cells slots Q F hr oL oS H locs ls hl hW hS
  obtain ⟨o1, o2⟩ := okS_rev oS
  obtain ⟨hM, hlk, hin, hse, hna, h12, hcl⟩ := hc
  have hmet := met_of hE hM hlay l X (o1.cons o2.hd) F.2.2.2.2.2.2.1
  have hts := F.2.2.2.2.1
  have hR : (rmM z).frames + 1 ≤ R.frames ∧ 8 + (z.2.2.1 + 11) + (rmM z).locals ≤ R.locals := ⟨Nat.le_trans hrm.1 F.2.2.2.2.2.2.2.2.2.2.1, Nat.le_trans hrm.2 F.2.2.2.2.2.2.2.2.2.2.2.1⟩
  have cw := callB_of (y := z.1) (bytes := z.2.1) (maxL := z.2.2.1) (ret := z.2.2.2.1) (mc := 0) (ms := 0) (own := y.1.cls) (index := idx) na hts (gt_GoodIn hM) (show wsM z = _ :: gt from rfl) rfl rfl (hts _ hM.2.2.1) (hts _ hlk) ⟨hM.2.2.2.1.1, hM.2.2.2.1.2, hna⟩ hR
  have hWA := Wa_in F.2.2.2.2.2.2.2.1
  obtain ⟨i, hi⟩ := cl_in o2.hd (kds_lt h12)
  have hcell : (wl X σ)[i]? = some (Kad X cc k, .inr (cc, (List.range (nf cc)).map fun j => cv (Kad X) (fav σ cc k j))) := by
    rw [wl_at hi]
    simp [acell, h12]
  obtain ⟨qc, hqc⟩ : ∃ qc, classes[cc]? = some qc := by
    cases hz : classes[cc]? with
    | none => rw [hz] at hcl; cases hcl
    | some qc => exact ⟨qc, rfl⟩
  have hq1 : qc.1 = z.1.cls := by
    rw [hqc] at hcl
    exact Option.some.inj hcl
  have hrec := va_recv F.2.2.2.2.2.1 hW.1 hqc hcell
  rw [hq1] at hrec
  refine run_go (va_runV (As := As.map (cv (Kad X))) (rest := st.map (cv (Kad X))) (b := Kad X cc k) (C := z.1.cls) (Ts := gt) ⟨F.1, F.2.1, F.2.2.1, F.2.2.2.1, hts⟩ hmet ⟨cw, hts _ hin, hts _ hse⟩ ⟨Pm_blind, hrec, fun U hU hWm => ⟨rfl, by rw [hU]; exact hW, va_K.moved hWm.alike F.2.2.2.2.2.1, ?_⟩⟩ rfl (by rw [List.length_map]; exact hlen) hl.1 map_stack (lv_room (by rw [cat_sum]; exact hcat)) hd ⟨F.2.2.2.2.2.2.2.2.2.2.2.2.1, F.2.2.2.2.2.2.2.2.2.2.2.2.2⟩) hS hWA (fun H1 locs1 h0 h1 h2 h3 => ?_)
  · rw [hU]
    exact SX.warm hWm (F.2.2.2.2.2.2.2.2.1.down hS hWA)
  · rw [val_stack]
    refine kk h0 X p l e R s m args below meth c A cells slots Q F hr oL ?_ H1 locs1 ls hl h2 h3
    intro b hb
    rcases List.mem_append.mp hb with hb | hb
    · exact h1 b hb
    · exact o2.tl b hb
/-- a method of a text constant -/
theorem g_callT (hd : At y.2.1 pc (.invokevirtual idx) 3 n) (hc : CT y.1.cls idx z na) (hE : Ev z (.inr (.inr (12, k)) :: As) σ V1 σ1) (hlen : As.length = na) (hlay : (lay As).length + 1 ≤ z.2.2.1) (hrm : rmOK y z) (hcat : cat1 st ≤ 8)
    (kk : vok z.2.2.2.1 V1 → Go y n L (V1.toList ++ st) σ1 V S) : Go y pc L (As.reverse ++ .inr (.inr (12, k)) :: st) σ V S := by
  obtain ⟨hd, rfl⟩ := hd
  intro X p l e R s m args below meth c A cells slots Q F hr oL oS H locs ls hl hW hS
  obtain ⟨o1, o2⟩ := okS_rev oS
  obtain ⟨hM, hlk, hin, hse, hna, hzc⟩ := hc
  have hmet := met_of hE hM hlay l X (o1.cons o2.hd) F.2.2.2.2.2.2.1
  have hts := F.2.2.2.2.1
  have hR : (rmM z).frames + 1 ≤ R.frames ∧ 8 + (z.2.2.1 + 11) + (rmM z).locals ≤ R.locals := ⟨Nat.le_trans hrm.1 F.2.2.2.2.2.2.2.2.2.2.1, Nat.le_trans hrm.2 F.2.2.2.2.2.2.2.2.2.2.2.1⟩
  have cw := callB_of (y := z.1) (bytes := z.2.1) (maxL := z.2.2.1) (ret := z.2.2.2.1) (mc := 0) (ms := 0) (own := y.1.cls) (index := idx) na hts (gt_GoodIn hM) (show wsM z = _ :: gt from rfl) rfl rfl (hts _ hM.2.2.1) (hts _ hlk) ⟨hM.2.2.2.1.1, hM.2.2.2.1.2, hna⟩ hR
  have hWA := Wa_in F.2.2.2.2.2.2.2.1
  have hrec := vk_recv F.2.2.2.2.2.2.2.2.1.1 (by have z := o2.hd; simp only [okA, show ¬ (12 ∈ kds) from by decide, if_false] at z; exact z) hS
  rw [← hzc] at hrec
  refine run_go (va_runV (As := As.map (cv (Kad X))) (rest := st.map (cv (Kad X))) (b := Kad X 12 k) (C := z.1.cls) (Ts := gt) ⟨F.1, F.2.1, F.2.2.1, F.2.2.2.1, hts⟩ hmet ⟨cw, hts _ hin, hts _ hse⟩ ⟨Pm_blind, hrec, fun U hU hWm => ⟨rfl, by rw [hU]; exact hW, va_K.moved hWm.alike F.2.2.2.2.2.1, ?_⟩⟩ rfl (by rw [List.length_map]; exact hlen) hl.1 map_stack (lv_room (by rw [cat_sum]; exact hcat)) hd ⟨F.2.2.2.2.2.2.2.2.2.2.2.2.1, F.2.2.2.2.2.2.2.2.2.2.2.2.2⟩) hS hWA (fun H1 locs1 h0 h1 h2 h3 => ?_)
  · rw [hU]
    exact SX.warm hWm (F.2.2.2.2.2.2.2.2.1.down hS hWA)
  · rw [val_stack]
    refine kk h0 X p l e R s m args below meth c A cells slots Q F hr oL ?_ H1 locs1 ls hl h2 h3
    intro b hb
    rcases List.mem_append.mp hb with hb | hb
    · exact h1 b hb
    · exact o2.tl b hb
/-- a private static method of a nest mate: here one alone -/
theorem g_callW (hy : y.1.cls = RX8) (hd : At y.2.1 pc (.invokestatic 88) 3 n) (hz : z.1 = yX10_within) (hM : MOK z) (hst : Cond.static z.1 ∈ gt) (hE : Ev z As σ V1 σ1) (hlen : As.length = 3) (hlay : (lay As).length ≤ z.2.2.1) (hrm : rmOK y z) (hcat : cat1 st ≤ 8)
    (kk : vok z.2.2.2.1 V1 → Go y n L (V1.toList ++ st) σ1 V S) : Go y pc L (As.reverse ++ st) σ V S := by
  obtain ⟨hd, rfl⟩ := hd
  intro X p l e R s m args below meth c A cells slots Q F hr oL oS H locs ls hl hW hS
  obtain ⟨o1, o2⟩ := okS_rev oS
  have hmet := met_of hE hM hlay l X o1 F.2.2.2.2.2.2.1
  have hts := F.2.2.2.2.1
  have hR : (rmM z).frames + 1 ≤ R.frames ∧ 8 + (z.2.2.1 + 11) + (rmM z).locals ≤ R.locals := ⟨Nat.le_trans hrm.1 F.2.2.2.2.2.2.2.2.2.2.1, Nat.le_trans hrm.2 F.2.2.2.2.2.2.2.2.2.2.2.1⟩
  have hna : (parseMethodDescriptor z.1.desc).map (fun d => d.parameters.length) = some 3 := by rw [hz]; decide +kernel
  have h8 := F.2.2.2.2.2.2.2.2.1
  have cw := va_cnB (y := z.1) (bytes := z.2.1) (maxL := z.2.2.1) (ret := z.2.2.2.1) (mc := 0) (ms := 0) (own := y.1.cls) (host := "SteepleStruck") (index := 88) 3 hts (gt_GoodIn hM) (show wsM z = _ :: gt from rfl) rfl rfl (by rw [hy, hz]; exact h8.2.2.2) (hts _ hM.2.2.1) ⟨hM.2.2.2.1.1, hM.2.2.2.1.2, hna⟩ hR
  have hWA := Wa_in F.2.2.2.2.2.2.2.1
  refine run_go (va_runSN (As := As.map (cv (Kad X))) (rest := st.map (cv (Kad X))) (Ts := gt) ⟨F.1, F.2.1, F.2.2.1, F.2.2.2.1, hts⟩ hmet ⟨cw, hts _ hst, trivial⟩ ⟨Pm_blind, fun U hU hWm => ⟨rfl, by rw [hU]; exact hW, va_K.moved hWm.alike F.2.2.2.2.2.1, ?_⟩⟩ rfl (by rw [List.length_map]; exact hlen) hl.1 map_stack (lv_room (by rw [cat_sum]; exact hcat)) hd ⟨F.2.2.2.2.2.2.2.2.2.2.2.2.1, F.2.2.2.2.2.2.2.2.2.2.2.2.2⟩) hS hWA (fun H1 locs1 h0 h1 h2 h3 => ?_)
  · rw [hU]
    exact SX.warm hWm (h8.down hS hWA)
  · rw [val_stack]
    refine kk h0 X p l e R s m args below meth c A cells slots Q F hr oL ?_ H1 locs1 ls hl h2 h3
    intro b hb
    rcases List.mem_append.mp hb with hb | hb
    · exact h1 b hb
    · exact o2 b hb
end CALL2
