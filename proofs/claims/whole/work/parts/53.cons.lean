/-! constructors: the frame of a body -/
abbrev CF (Y : K0) (z : MI) (p : Program) (s : State) (m : MethodId) (args : Array Value) (c : Code) : Prop :=
  p.tables.exec = Jvm.exec ∧ c.code = z.2.1 ∧ c.maxLocals = z.2.2.1 ∧ s.vm.findClass z.1.cls = some m.cls ∧ (∀ w ∈ gt, w.before args s = true) ∧ va_K Y.1 classes (aty0 Y) s
def FO (c : Nat) (C : String) (N : Nat) (fs : List Value) : Prop := ∃ (T : u_T) (t0 : Nat → FieldType), classes[c]? = some (C, T, N) ∧ (∀ w ∈ u_ws C T N, w ∈ gt) ∧ (∀ k, k < N → parseFieldDescriptor (T k).2.2.1 = some (t0 k)) ∧ (∀ j, j < N → defaultValue (t0 j) = vp_V fs j) ∧ Cond.instantiable C N ∈ gt ∧ Cond.initialized C ∈ gt
section BODY
variable {p : Program} {l : Launch} {e : Env} {R : Room} {s : State} {m : MethodId} {args : Array Value} {below : List Frame} {meth : Method} {c : Code} {H : Heap} {locs : List Loc} {cells slots : Nat} {Q : State → Prop}
variable {pc : Nat} {ls : Array Slot} {rest : List Value} {A : Nat → Prop} {H0 : Heap} {Y : K0} {ws : va_W} {z : MI}
theorem nO (F : CF Y z p s m args c) {ci N idx : Nat} {C : String} {fs : List Value} (hO : FO ci C N fs) (hcl : Cond.classLink z.1.cls idx C ∈ gt) (hP : va_P Y.1 classes ws H) (hD : va_D A ws) (hS : va_S A H0 H locs) (hA : ∀ q, H0.size ≤ q → A q) (hcells : cells + 1 ≤ R.cells) (hslots : slots + N ≤ R.slots) (hdg : decode z.2.1 pc = .ok (.new idx, 3))
    (kk : ∀ (q : Nat) (H1 : Heap), va_P Y.1 classes (ws ++ [(q, .inr (ci, fs))]) H1 → va_D A (ws ++ [(q, .inr (ci, fs))]) → va_S A H0 H1 locs → W p l e R s m args below meth c H1 locs (cells + 1) (slots + N) Q (F0 m (pc + 3) ls (.ref q :: rest))) : W p l e R s m args below meth c H locs cells slots Q (F0 m pc ls rest) := by
  obtain ⟨T, t0, h1, h2, h3, h4, h5, h6⟩ := hO
  exact va_new F.1 F.2.1 F.2.2.2.2.1 h2 t0 h3 F.2.2.2.1 (F.2.2.2.2.1 _ hcl) (F.2.2.2.2.1 _ h5) (F.2.2.2.2.1 _ h6) F.2.2.2.2.2 hP hD hS hA h1 h4 hcells hslots hdg kk
theorem oI (F : CF Y z p s m args c) {idx a : Nat} (hlk : Cond.methodLink z.1.cls idx objectInit ∈ gt) (hin : Cond.instanceMethod objectInit ∈ gt) (hcode : Cond.code objectInit ⟨#[0xb1]⟩ 1 none ∈ gt) (hls : ls.size = z.2.2.1) (hcat : (rest.map fun v => v.category).sum = 0) (hdg : decode z.2.1 pc = .ok (.invokespecial idx, 3)) (hR : 1 ≤ R.frames ∧ 12 ≤ R.locals)
    (kk : W p l e R s m args below meth c H locs cells slots Q (F0 m (pc + 3) ls rest)) : W p l e R s m args below meth c H locs cells slots Q (F0 m pc ls (.ref a :: rest)) := by
  have hts := F.2.2.2.2.1
  refine W.objInit F.1 F.2.1 F.2.2.2.1 (hts _ hlk) (hts _ hin) (hts _ hcode) rfl (by rw [F.2.2.1]; exact hls) rfl hdg hR.1 ?_ kk
  show 2 * 0 + _ + 12 ≤ _
  rw [hcat]
  omega
theorem pF (F : CF Y z p s m args c) (hnm : meth.name = "<init>") {ci N k idx h0 : Nat} {T : u_T} {t0 : Nat → FieldType} {fs : List Value} {v : Value} (ty : FieldType) (hc : classes[ci]? = some (z.1.cls, T, N)) (hin : ∀ w ∈ u_ws z.1.cls T N, w ∈ gt) (hty : ∀ k, k < N → parseFieldDescriptor (T k).2.2.1 = some (t0 k)) (hnn : ∀ a, a < N → ∀ b, b < N → a ≠ b → (T a).2.1 ≠ (T b).2.1) (hk : k < N) (hlink : Cond.fieldLink z.1.cls idx z.1.cls (T k).2.1 (T k).2.2.1 ∈ gt) (hfin : (T k).2.2.2 = true) (hdecl : (T k).1 = z.1.cls) (hd : parseFieldDescriptor (T k).2.2.1 = some ty) (hn : narrow ty v = v) (hfit : fits ty v = true) (hl : k < fs.length)
    (hP : va_P Y.1 classes ((h0, .inr (ci, fs)) :: ws) H) (hD : va_D A ((h0, .inr (ci, fs)) :: ws)) (hS : va_S A H0 H locs) (hdg : decode z.2.1 pc = .ok (.putfield idx, 3))
    (kk : ∀ (H1 : Heap) (locs1 : List Loc), va_P Y.1 classes ((h0, .inr (ci, fs.set k v)) :: ws) H1 → va_D A ((h0, .inr (ci, fs.set k v)) :: ws) → va_S A H0 H1 locs1 → W p l e R s m args below meth c H1 locs1 cells slots Q (F0 m (pc + 3) ls rest)) : W p l e R s m args below meth c H locs cells slots Q (F0 m pc ls (v :: .ref h0 :: rest)) :=
  va_putF (ty := ty) F.1 F.2.1 F.2.2.2.2.1 hin t0 hty hnn F.2.2.2.1 F.2.2.2.2.2 hP hD hS 0 rfl hc k hk (F.2.2.2.2.1 _ hlink) (fun _ h9 => by rw [hdecl] at h9; exact h9) hfin hnm hdecl hd hn hfit hl hdg kk
theorem pL (F : CF Y z p s m args c) {ci N k idx h0 : Nat} {T : u_T} {t0 : Nat → FieldType} {fs : List Value} {v : Value} (ty : FieldType) (hc : classes[ci]? = some (z.1.cls, T, N)) (hin : ∀ w ∈ u_ws z.1.cls T N, w ∈ gt) (hty : ∀ k, k < N → parseFieldDescriptor (T k).2.2.1 = some (t0 k)) (hnn : ∀ a, a < N → ∀ b, b < N → a ≠ b → (T a).2.1 ≠ (T b).2.1) (hk : k < N) (hlink : Cond.fieldLink z.1.cls idx z.1.cls (T k).2.1 (T k).2.2.1 ∈ gt) (hfin : (T k).2.2.2 = false) (hdecl : (T k).1 = z.1.cls) (hd : parseFieldDescriptor (T k).2.2.1 = some ty) (hn : narrow ty v = v) (hfit : fits ty v = true) (hl : k < fs.length)
    (hP : va_P Y.1 classes ((h0, .inr (ci, fs)) :: ws) H) (hD : va_D A ((h0, .inr (ci, fs)) :: ws)) (hS : va_S A H0 H locs) (hdg : decode z.2.1 pc = .ok (.putfield idx, 3))
    (kk : ∀ (H1 : Heap) (locs1 : List Loc), va_P Y.1 classes ((h0, .inr (ci, fs.set k v)) :: ws) H1 → va_D A ((h0, .inr (ci, fs.set k v)) :: ws) → va_S A H0 H1 locs1 → W p l e R s m args below meth c H1 locs1 cells slots Q (F0 m (pc + 3) ls rest)) : W p l e R s m args below meth c H locs cells slots Q (F0 m pc ls (v :: .ref h0 :: rest)) :=
  va_put (ty := ty) F.1 F.2.1 F.2.2.2.2.1 hin t0 hty hnn F.2.2.2.1 F.2.2.2.2.2 hP hD hS 0 rfl hc k hk (F.2.2.2.2.1 _ hlink) (fun _ h9 => by rw [hdecl] at h9; exact h9) hfin hd hn hfit hl hdg kk
end BODY
theorem cons_of {S : Type} {z : MI} {Y : K0} {ex : State → Prop} {h0 ci sz mc ms : Nat} {fs As : List Value} {bld : S → va_W} (l : Launch) (hM : MOK z) (hnm : z.1.name = "<init>") (hret : z.2.2.2.1 = none) (hlen : (lg_sl (.ref h0 :: As)).length ≤ z.2.2.1)
    (k : ∀ (p : Program) (e : Env) (s : State) (m : MethodId) (args : Array Value) (below : List Frame) (meth : Method) (c : Code), CF Y z p s m args c → meth.name = "<init>" → ex s → s.heap.size = sz →
      (∀ (H : Heap) (locs : List Loc) (cells slots pc : Nat) (ls : Array Slot) (u : S), decode z.2.1 pc = .ok (.return_, 1) → cells ≤ mc → slots ≤ ms → va_P Y.1 classes (bld u) H → va_D (CtA h0 sz) (bld u) → va_S (CtA h0 sz) s.heap H locs →
        W p l e (headSpec (wsM z) (rmC z mc ms)).room s m args below meth c H locs cells slots (MQ below (CtQ Y h0 sz bld) args s mc ms (CtA h0 sz)) (F0 m pc ls [])) →
      ∀ ls : Array Slot, lv_has ls z.2.2.1 (lv_args 0 (.ref h0 :: As)) → va_P Y.1 classes [(h0, .inr (ci, fs))] s.heap → va_D (CtA h0 sz) [(h0, .inr (ci, fs))] → va_S (CtA h0 sz) s.heap s.heap [] → (∀ q, s.heap.size ≤ q → CtA h0 sz q) →
        W p l e (headSpec (wsM z) (rmC z mc ms)).room s m args below meth c s.heap [] 0 0 (MQ below (CtQ Y h0 sz bld) args s mc ms (CtA h0 sz)) (F0 m 0 ls [])) :
    Met l z.1 (wsM z) (rmC z mc ms) (CtP Y ex h0 ci fs As sz) (CtQ Y h0 sz bld) mc ms (CtA h0 sz) := by
  refine Met.ofW (cc := z.2.1) (maxL := z.2.2.1) (ret := z.2.2.2.1) hM.2.1 rfl ?_
  intro p e s m args below meth c s₁ B hml hv
  obtain ⟨rfl, hsz, hP, hK, hex⟩ := hv
  have hts := atoms_spec (ws := wsM z) B.pre
  have hl := lv_entry (.ref h0 :: As) (n := z.2.2.1) hlen
  have hlocks := B.notSynchronized
  rw [lg_entry_eq]
  refine k p e s m _ below meth c ⟨B.exec, B.bytes, hml, findClass_of_methodNamed B.named, fun w hw => hts w (List.mem_cons_of_mem _ hw), hK⟩ ((name_of_methodNamed B.named B.method).1.trans hnm) hex hsz ?_ _ hl hP ⟨fun i j x y hx hy _ => ?_, fun i x hx => ?_⟩ va_S.rf (fun q hq => Or.inr (by omega))
  · intro H locs cells slots pc ls u hd h1 h2 h3 h4 h5
    refine W.widen h1 h2 ?_
    exact W.vret B.exec B.bytes (by rw [← hret]; exact B.returns) (fun t ht _ => ⟨rfl, ⟨u, by rw [ht]; exact h3, h4⟩, h5.F ht⟩) h5.2.2 hd hlocks
  · have := (List.getElem?_eq_some_iff.mp hx).1
    have := (List.getElem?_eq_some_iff.mp hy).1
    simp only [List.length_cons, List.length_nil] at *
    omega
  · have h := (List.getElem?_eq_some_iff.mp hx).1
    simp only [List.length_cons, List.length_nil] at h
    have : i = 0 := by omega
    subst this
    cases hx
    exact Or.inl rfl
