/-! THE MACHINE LIFTED: the cells of class and reference as one memory of numbers, methods as runs over it -/
abbrev AV : Type := Int32 ⊕ (Int64 ⊕ (Nat × Nat))
abbrev ai (x : Int32) : AV := .inl x
abbrev al (x : Int64) : AV := .inr (.inl x)
abbrev ar (c k : Nat) : AV := .inr (.inr (c, k))
abbrev Mem : Type := (Nat → Nat → Nat → Int32) × (Nat → Nat → Nat → Int64)
abbrev AdT : Type := Nat → Nat → Nat
def cv (ad : AdT) : AV → Value
  | .inl x => .int x
  | .inr (.inl x) => .long x
  | .inr (.inr q) => .ref (ad q.1 q.2)
abbrev MI : Type := MethodName × ByteArray × Nat × Option FieldType × Nat × Nat
/-- how many cells of a kind: objects by class, 20 rows of tables, 21 of Row, 22 of the reference; 12 texts, 23 their bytes, 24 the script -/
def cnt : Nat → Nat
  | 0 => 1 | 1 => 1 | 2 => 1 | 3 => 0 | 4 => 5 | 5 => 1 | 6 => 8 | 7 => 28 | 8 => 1 | 9 => 4 | 10 => 1 | 11 => 1
  | 12 => 6 | 20 => 28 | 21 => 8 | 22 => 12 | 23 => 6 | 24 => 1
  | _ => 0
def kds : List Nat := [0, 1, 2, 3, 4, 5, 6, 7, 8, 9, 10, 11, 20, 21, 22]
def ix : List (Nat × Nat) := kds.flatMap fun c => (List.range (cnt c)).map fun k => (c, k)
def alen : Nat → Nat → Nat
  | 20, k => [12, 18, 6, 10, 30, 24, 32].getD (k % 7) 0
  | 21, k => [12, 150, 3, 64, 64, 6, 6, 10].getD k 0
  | _, k => [142, 284, 2, 3, 46, 6, 6, 6, 6, 150, 110, 3].getD k 0
def nf : Nat → Nat
  | 0 => 2 | 1 => 2 | 2 => 1 | 3 => 0 | 4 => 4 | 5 => 5 | 6 => 1 | 7 => 4 | 8 => 7 | 9 => 8 | 10 => 16 | 11 => 19
  | _ => 0
def favW (x : Int32) (l : Int64) (c k j : Nat) : AV := match c with
  | 0 => match j with
    | 0 => ar 6 7
    | _ => ai x
  | 1 => al l
  | 2 => ar 6 6
  | 5 => match j with
    | 0 => ar 6 3
    | 1 => ar 6 4
    | 2 => ar 6 5
    | _ => ai x
  | 6 => ar 21 k
  | 7 => match j with
    | 2 => ar 20 k
    | _ => ai x
  | 8 => match j with
    | 0 => ar 6 1
    | 1 => ar 6 2
    | _ => ai x
  | 9 => match j with
    | 0 => ar 7 (7 * k)
    | 1 => ar 7 (7 * k + 1)
    | 2 => ar 7 (7 * k + 2)
    | 3 => ar 7 (7 * k + 3)
    | 4 => ar 7 (7 * k + 4)
    | 5 => ar 7 (7 * k + 5)
    | 6 => ar 7 (7 * k + 6)
    | _ => ar 4 k
  | 10 => match j with
    | 0 => ar 9 0
    | 1 => ar 9 1
    | 2 => ar 9 2
    | 3 => ar 9 3
    | 4 => ar 4 4
    | 5 => ar 6 0
    | 6 => ar 8 0
    | 7 => ar 1 0
    | 8 => ar 5 0
    | 9 => ar 2 0
    | 10 => ar 0 0
    | _ => ai x
  | 11 => match j with
    | 0 => ar 22 0
    | 1 => ar 22 1
    | 2 => ar 22 2
    | 3 => ar 22 3
    | 4 => al l
    | 5 => al l
    | 6 => ar 22 4
    | 7 => ar 22 5
    | 8 => ar 22 6
    | 9 => ar 22 7
    | 10 => ar 22 8
    | 11 => ar 22 9
    | 17 => ar 22 10
    | 18 => ar 22 11
    | _ => ai x
  | _ => ai x
def fav (σ : Mem) (c k j : Nat) : AV := favW (σ.1 c k j) (σ.2 c k j) c k j
abbrev classes : List vw_C := [(RX0, TX0, 2), (RX1, TX1, 2), (RX2, TX2, 1), (RX4, TX4, 0), (RX4, TX4, 4), (RX5, TX5, 5), (RX6, TX6, 1), (RX7, TX7, 4), (RX8, TX8, 7), (RX9, TX9, 8), (RX10, TX10, 16), (RX11, TX11, 19)]
/-- the classes' and the arrays' numbers, the addresses, the script -/
abbrev Kx : Type := va_G × (ClassId × ClassId) × AdT × (Nat → Int32) × Nat × List (Nat × Nat)
abbrev Klx (X : Kx) : List (Nat × Nat) := X.2.2.2.2.2
abbrev Kad (X : Kx) : AdT := X.2.2.1
def acell (X : Kx) (σ : Mem) (c k : Nat) : va_E :=
  if c < 12 then .inr (c, (List.range (nf c)).map fun j => cv (Kad X) (fav σ c k j))
  else .inl (if c = 22 ∧ k = 2 then X.2.1.2 else X.2.1.1, alen c k, .inl (σ.1 c k))
def wl (X : Kx) (σ : Mem) : va_W := (Klx X).map fun q => (Kad X q.1 q.2, acell X σ q.1 q.2)
def Wd (X : Kx) (σ : Mem) (H : Heap) : Prop := va_P X.1 classes (wl X σ) H ∧ σ.1 24 0 = X.2.2.2.1 ∧ σ.1 24 1 0 = nI X.2.2.2.2.1
def Wa (X : Kx) : Nat → Prop := fun a => ∃ q ∈ Klx X, a = Kad X q.1 q.2
def Ap (X : Kx) : Prop := ∀ q ∈ Klx X, ∀ r ∈ Klx X, Kad X q.1 q.2 = Kad X r.1 r.2 → q = r
abbrev atys (X : Kx) : List (ClassId × FieldType) := [(X.2.1.1, .int), (X.2.1.2, .boolean)]
def lenJS : List Nat := [7, 5, 5, 4, 4, 7]
def bytJS : List (List Int32) := [[118, 105, 108, 108, 97, 103, 101], [115, 116, 111, 114, 109], [116, 104, 105, 110, 103], [112, 97, 114, 116], [116, 97, 107, 101], [115, 117, 109, 109, 101, 114, 115]]
def txtJS : List String := ["village", "storm", "thing", "part", "take", "summers"]
/-- the words of the tables that every method may hand on -/
def gt : List Cond := lw_tbl.filter goodWord
theorem gt_in {w : Cond} (h : w ∈ lw_tbl) (hg : goodWord w = true) : w ∈ gt := List.mem_filter.mpr ⟨h, hg⟩
def SX (X : Kx) (A : Nat → Prop) (s : State) (H : Heap) : Prop := vk_S 6 lenJS bytJS (Kad X 12) (Kad X 23) A s H ∧ (va_Z "java/lang/String" "COMPACT_STRINGS" "Z" (.int 1) A s H ∧ va_Zq "jdk/internal/util/Preconditions" "SIOOBE_FORMATTER" "Ljava/util/function/BiFunction;" A s H) ∧ (∀ i, i < 6 → vk_R RX8 (138 + 2 * i) (txtJS.getD i "") (Kad X 12 i) s) ∧ va_Nw (.methodLinkNest RX8 88 yX10_within "SteepleStruck") s
def okA (X : Kx) : AV → Prop
  | .inr (.inr q) => if q.1 ∈ kds then q ∈ Klx X else q.2 < cnt q.1
  | _ => True
/-- the cells that are there: of our kinds, each once, and what they refer to is there -/
def Cl (X : Kx) : Prop := (∀ q ∈ Klx X, q.1 ∈ kds) ∧ (Klx X).Nodup ∧ ∀ q ∈ Klx X, ∀ (x : Int32) (l : Int64) (j : Nat), okA X (favW x l q.1 q.2 j)
def okS (X : Kx) (st : List AV) : Prop := ∀ a ∈ st, okA X a
def okL (X : Kx) (L : List (Option AV)) : Prop := ∀ a, some a ∈ L → okA X a
theorem okS.tl {X : Kx} {a : AV} {st : List AV} (h : okS X (a :: st)) : okS X st := fun b hb => h b (List.mem_cons_of_mem _ hb)
theorem okS.hd {X : Kx} {a : AV} {st : List AV} (h : okS X (a :: st)) : okA X a := h a List.mem_cons_self
theorem okS.cons {X : Kx} {a : AV} {st : List AV} (ha : okA X a) (h : okS X st) : okS X (a :: st) := fun b hb => (List.mem_cons.mp hb).elim (fun e => e ▸ ha) (h b)
theorem okS.i {X : Kx} {x : Int32} {st : List AV} (h : okS X st) : okS X (.inl x :: st) := okS.cons trivial h
theorem okS.l {X : Kx} {x : Int64} {st : List AV} (h : okS X st) : okS X (.inr (.inl x) :: st) := okS.cons trivial h
theorem okL.at {X : Kx} {L : List (Option AV)} {i : Nat} {a : AV} (h : okL X L) (hl : L[i]? = some (some a)) : okA X a := h a (List.mem_of_getElem? hl)
theorem okL.set {X : Kx} {L : List (Option AV)} {i : Nat} {a : AV} (h : okL X L) (ha : okA X a) : okL X (L.set i (some a)) := by
  intro b hb
  rcases List.mem_or_eq_of_mem_set hb with h1 | h1
  · exact h b h1
  · cases h1; exact ha
theorem okL.unset {X : Kx} {L : List (Option AV)} {i : Nat} (h : okL X L) : okL X (L.set i none) := by
  intro b hb
  rcases List.mem_or_eq_of_mem_set hb with h1 | h1
  · exact h b h1
  · cases h1
theorem okA.in {X : Kx} {c k : Nat} (h : okA X (.inr (.inr (c, k)))) (hc : c ∈ kds) : (c, k) ∈ Klx X := by
  simp only [okA, hc, if_true] at h
  exact h
/-! the locals -/
def lvR (ad : AdT) (ls : Array Slot) (n : Nat) (L : List (Option AV)) : Prop := ls.size = n ∧ lv_wf ls ∧ ∀ (i : Nat) (a : AV), L[i]? = some (some a) → ls[i]? = some (.val (cv ad a))
def asc (ad : AdT) (L : List (Option AV)) : List (Nat × Value) := (List.range L.length).filterMap fun i => ((L[i]?).getD none).map fun a => (i, cv ad a)
theorem asc_mem {ad : AdT} {L : List (Option AV)} {q : Nat × Value} : q ∈ asc ad L ↔ ∃ a, L[q.1]? = some (some a) ∧ q.2 = cv ad a := by
  constructor
  · intro h
    obtain ⟨i, hi, h2⟩ := List.mem_filterMap.mp h
    cases hl : L[i]? with
    | none => rw [hl] at h2; cases h2
    | some o =>
      rw [hl] at h2
      cases o with
      | none => cases h2
      | some a =>
        cases h2
        exact ⟨a, hl, rfl⟩
  · rintro ⟨a, h1, h2⟩
    refine List.mem_filterMap.mpr ⟨q.1, List.mem_range.mpr (List.getElem?_eq_some_iff.mp h1).1, ?_⟩
    rw [h1]
    show some (q.1, cv ad a) = some q
    rw [← h2]
theorem lvR.has {ad : AdT} {ls : Array Slot} {n : Nat} {L : List (Option AV)} (h : lvR ad ls n L) : lv_has ls n (asc ad L) := by
  refine ⟨h.1, h.2.1, fun q hq => ?_⟩
  obtain ⟨a, h1, h2⟩ := asc_mem.mp hq
  rw [h2]
  exact h.2.2 q.1 a h1
/-- no long stands in the local just ahead -/
def nol (L : List (Option AV)) : Nat → Bool
  | 0 => true
  | i + 1 => match L[i]? with
    | some (some (.inr (.inl _))) => false
    | _ => true
theorem cv_cat2 {ad : AdT} {a : AV} (h : (cv ad a).category = 2) : ∃ x, a = .inr (.inl x) := by
  rcases a with x | x | q
  · cases h
  · exact ⟨x, rfl⟩
  · cases h
theorem nol_use {ad : AdT} {L : List (Option AV)} {i j : Nat} {a : AV} (h : nol L i = true) (hj : L[j]? = some (some a)) (e : j + 1 = i) : ¬ (cv ad a).category = 2 := by
  intro hc
  obtain ⟨x, rfl⟩ := cv_cat2 hc
  subst e
  simp [nol, hj] at h
theorem lvR.of1 {ad : AdT} {ls' : Array Slot} {n : Nat} {L : List (Option AV)} {i : Nat} {a : AV} (hno : nol L i = true) (h : lv_has ls' n ((i, cv ad a) :: (asc ad L).filter (fun q => !(q.1 == i) && !(q.1 + 1 == i && q.2.category == 2)))) : lvR ad ls' n (L.set i (some a)) := by
  refine ⟨h.1, h.2.1, fun j b hj => ?_⟩
  by_cases e : i = j
  · subst e
    rw [List.getElem?_set] at hj
    split at hj
    · split at hj
      · cases hj
        exact h.2.2 _ List.mem_cons_self
      · cases hj
    · exact absurd rfl ‹¬ i = i›
  · rw [List.getElem?_set_ne e] at hj
    refine h.2.2 (j, cv ad b) (List.mem_cons_of_mem _ (List.mem_filter.mpr ⟨asc_mem.mpr ⟨b, hj, rfl⟩, ?_⟩))
    have e2 : ¬ j = i := fun z => e z.symm
    by_cases e3 : j + 1 = i
    · have := nol_use (ad := ad) hno hj e3
      simp [e2, e3, this]
    · simp [e2, e3]
theorem lvR.of2 {ad : AdT} {ls' : Array Slot} {n : Nat} {L : List (Option AV)} {i : Nat} {a : AV} (hno : nol L i = true) (h : lv_has ls' n ((i, cv ad a) :: (asc ad L).filter (fun q => !(q.1 == i) && (!(q.1 == i + 1) && !(q.1 + 1 == i && q.2.category == 2))))) : lvR ad ls' n ((L.set i (some a)).set (i + 1) none) := by
  refine ⟨h.1, h.2.1, fun j b hj => ?_⟩
  by_cases e0 : i + 1 = j
  · subst e0
    rw [List.getElem?_set] at hj
    split at hj
    · split at hj <;> cases hj
    · exact absurd rfl ‹¬ i + 1 = i + 1›
  · rw [List.getElem?_set_ne e0] at hj
    by_cases e : i = j
    · subst e
      rw [List.getElem?_set] at hj
      split at hj
      · split at hj
        · cases hj
          exact h.2.2 _ List.mem_cons_self
        · cases hj
      · exact absurd rfl ‹¬ i = i›
    · rw [List.getElem?_set_ne e] at hj
      refine h.2.2 (j, cv ad b) (List.mem_cons_of_mem _ (List.mem_filter.mpr ⟨asc_mem.mpr ⟨b, hj, rfl⟩, ?_⟩))
      have e2 : ¬ j = i := fun z => e z.symm
      have e4 : ¬ j = i + 1 := fun z => e0 z.symm
      by_cases e3 : j + 1 = i
      · have := nol_use (ad := ad) hno hj e3
        simp [e2, e3, e4, this]
      · simp [e2, e3, e4]
/-! the world -/
theorem lx_nd {X : Kx} (h : (Klx X).Nodup) : ∀ (i j : Nat) (q : Nat × Nat), (Klx X)[i]? = some q → (Klx X)[j]? = some q → i = j := by
  intro i j q hi hj
  exact (List.getElem?_inj (List.getElem?_eq_some_iff.mp hi).1 h).mp (hi.trans hj.symm)
theorem ix_mem {c k : Nat} (hc : c ∈ kds) (hk : k < cnt c) : (c, k) ∈ ix := List.mem_flatMap.mpr ⟨c, hc, List.mem_map.mpr ⟨k, List.mem_range.mpr hk, rfl⟩⟩
theorem ix_kds {q : Nat × Nat} (h : q ∈ ix) : q.1 ∈ kds ∧ q.2 < cnt q.1 := by
  obtain ⟨c, hc, h2⟩ := List.mem_flatMap.mp h
  obtain ⟨k, hk, rfl⟩ := List.mem_map.mp h2
  exact ⟨hc, List.mem_range.mp hk⟩
theorem wl_at {X : Kx} {σ : Mem} {i : Nat} {q : Nat × Nat} (h : (Klx X)[i]? = some q) : (wl X σ)[i]? = some (Kad X q.1 q.2, acell X σ q.1 q.2) := by
  rw [wl, List.getElem?_map, h]; rfl
theorem wl_in {X : Kx} {σ : Mem} {i : Nat} {r : Nat × va_E} (h : (wl X σ)[i]? = some r) : ∃ q, (Klx X)[i]? = some q ∧ r = (Kad X q.1 q.2, acell X σ q.1 q.2) := by
  rw [wl, List.getElem?_map] at h
  cases hi : (Klx X)[i]? with
  | none => rw [hi] at h; cases h
  | some q => rw [hi] at h; exact ⟨q, rfl, (Option.some.inj h).symm⟩
theorem wl_set {X : Kx} {σ σ' : Mem} {i : Nat} {c k : Nat} (hC : Cl X) (h : (Klx X)[i]? = some (c, k)) (ho : ∀ q ∈ Klx X, q ≠ (c, k) → acell X σ' q.1 q.2 = acell X σ q.1 q.2) : (wl X σ).set i (Kad X c k, acell X σ' c k) = wl X σ' := by
  apply List.ext_getElem?
  intro j
  by_cases e : i = j
  · subst e
    rw [List.getElem?_set, wl_at (σ := σ') h]
    have := (List.getElem?_eq_some_iff.mp (wl_at (X := X) (σ := σ) h)).1
    simp [this]
  · rw [List.getElem?_set_ne e]
    cases hj : (Klx X)[j]? with
    | none => rw [wl, wl, List.getElem?_map, List.getElem?_map, hj]; rfl
    | some q =>
      rw [wl_at hj, wl_at hj, ho q (List.mem_of_getElem? hj)]
      intro z
      subst z
      exact e (lx_nd hC.2.1 i j _ h hj)
theorem wl_D {X : Kx} {σ : Mem} {A : Nat → Prop} (hC : Cl X) (hA : Ap X) (hin : ∀ q ∈ Klx X, A (Kad X q.1 q.2)) : va_D A (wl X σ) := by
  refine ⟨fun i j p q hi hj e => ?_, fun k q hk => ?_⟩
  · obtain ⟨r, h1, rfl⟩ := wl_in hi
    obtain ⟨t, h2, rfl⟩ := wl_in hj
    have := hA r (List.mem_of_getElem? h1) t (List.mem_of_getElem? h2) e
    subst this
    exact lx_nd hC.2.1 i j _ h1 h2
  · obtain ⟨r, h1, rfl⟩ := wl_in hk
    exact hin r (List.mem_of_getElem? h1)
/-- the frame's context -/
def Fr (y : MI) (X : Kx) (p : Program) (R : Room) (s : State) (m : MethodId) (args : Array Value) (meth : Method) (c : Code) (A : Nat → Prop) (cells slots : Nat) : Prop :=
  p.tables.exec = Jvm.exec ∧ c.code = y.2.1 ∧ c.maxLocals = y.2.2.1 ∧ s.vm.findClass y.1.cls = some m.cls ∧ (∀ w ∈ gt, w.before args s = true) ∧
  va_K X.1 classes (atys X) s ∧ (Cl X ∧ Ap X) ∧ (∀ q ∈ Klx X, A (Kad X q.1 q.2)) ∧ SX X A s s.heap ∧
  (y.1.cls = RL → va_X (Kad X 24 0) X.2.2.2.2.1 X.2.2.2.1 s s.heap ∧ Kad X 24 0 < s.heap.size ∧ ¬ A (Kad X 24 0) ∧ X.2.2.2.2.1 ≤ 384) ∧
  y.2.2.2.2.1 ≤ R.frames ∧ y.2.2.2.2.2 ≤ R.locals ∧ cells ≤ R.cells ∧ slots ≤ R.slots
def retIns : Option FieldType → Instr
  | none => .return_
  | some .long => .lreturn
  | some (.object _) => .areturn
  | some _ => .ireturn
/-- the answer is of the method's kind -/
def vok : Option FieldType → Option AV → Prop
  | none, none => True
  | some .int, some (.inl _) => True
  | some .boolean, some (.inl v) => v = 0 ∨ v = 1
  | some .byte, some (.inl v) => narrow .byte (.int v) = .int v
  | some .char, some (.inl v) => narrow .char (.int v) = .int v
  | some .long, some (.inr (.inl _)) => True
  | some (.object _), some (.inr (.inr _)) => True
  | _, _ => False
/-- what the method's end needs -/
def Rt (y : MI) (X : Kx) (p : Program) (l : Launch) (e : Env) (R : Room) (s : State) (m : MethodId) (args : Array Value) (below : List Frame) (meth : Method) (c : Code) (A : Nat → Prop) (cells slots : Nat) (Q : State → Prop) (V : Option AV) (S : Mem) : Prop :=
  ∀ (pc : Nat) (H : Heap) (locs : List Loc) (ls : Array Slot), decode y.2.1 pc = .ok (retIns y.2.2.2.1, 1) → vok y.2.2.2.1 V → okS X V.toList → Wd X S H → va_S A s.heap H locs →
    W p l e R s m args below meth c H locs cells slots Q (F0 m pc ls (V.toList.map (cv (Kad X))))
/-- from here on the method comes to its end with V, the memory being S -/
def Go (y : MI) (pc : Nat) (L : List (Option AV)) (st : List AV) (σ : Mem) (V : Option AV) (S : Mem) : Prop :=
  ∀ (X : Kx) (p : Program) (l : Launch) (e : Env) (R : Room) (s : State) (m : MethodId) (args : Array Value) (below : List Frame) (meth : Method) (c : Code) (A : Nat → Prop) (cells slots : Nat) (Q : State → Prop),
    Fr y X p R s m args meth c A cells slots → Rt y X p l e R s m args below meth c A cells slots Q V S → okL X L → okS X st →
    ∀ (H : Heap) (locs : List Loc) (ls : Array Slot), lvR (Kad X) ls y.2.2.1 L → Wd X σ H → va_S A s.heap H locs →
      W p l e R s m args below meth c H locs cells slots Q (F0 m pc ls (st.map (cv (Kad X))))
def At (b : ByteArray) (pc : Nat) (i : Instr) (len n : Nat) : Prop := decode b pc = .ok (i, len) ∧ pc + len = n
/-- fewer locals told -/
def sbl : List (Option AV) → List (Option AV) → Prop
  | [], _ => True
  | none :: l', _ :: l => sbl l' l
  | none :: l', [] => sbl l' []
  | some a :: l', b :: l => b = some a ∧ sbl l' l
  | some _ :: _, [] => False
theorem sbl_use : ∀ {L' L : List (Option AV)}, sbl L' L → ∀ (i : Nat) (a : AV), L'[i]? = some (some a) → L[i]? = some (some a)
  | [], _, _, i, a, h => by simp at h
  | none :: l', _ :: l, hs, i, a, h => by
    cases i with
    | zero => simp at h
    | succ i => rw [List.getElem?_cons_succ] at h ⊢; exact sbl_use (L' := l') (L := l) hs i a h
  | none :: l', [], hs, i, a, h => by
    cases i with
    | zero => simp at h
    | succ i =>
      rw [List.getElem?_cons_succ] at h
      have := sbl_use (L' := l') (L := []) hs i a h
      simp at this
  | some b :: l', x :: l, hs, i, a, h => by
    cases i with
    | zero => rw [List.getElem?_cons_zero] at h ⊢; rw [← h]; exact congrArg some hs.1
    | succ i => rw [List.getElem?_cons_succ] at h ⊢; exact sbl_use (L' := l') (L := l) hs.2 i a h
theorem g_weak {y : MI} {pc : Nat} {L L' : List (Option AV)} {st : List AV} {σ S : Mem} {V : Option AV} (k : Go y pc L' st σ V S) (h : sbl L' L) : Go y pc L st σ V S := by
  intro X p l e R s m args below meth c A cells slots Q F hr oL oS H locs ls hl hW hS
  refine k X p l e R s m args below meth c A cells slots Q F hr (fun a ha => ?_) oS H locs ls ⟨hl.1, hl.2.1, fun i a hi => hl.2.2 i a (sbl_use h i a hi)⟩ hW hS
  obtain ⟨i, hi⟩ := List.getElem?_of_mem ha
  exact oL a (List.mem_of_getElem? (sbl_use h i a hi))
section RULES
variable {y : MI} {pc n : Nat} {L : List (Option AV)} {st : List AV} {σ S : Mem} {V : Option AV}
theorem g_ret (hd : At y.2.1 pc (retIns y.2.2.2.1) 1 n) (hk : vok y.2.2.2.1 V) : Go y pc L V.toList σ V σ := by
  intro X p l e R s m args below meth c A cells slots Q F hr oL oS H locs ls hl hW hS
  exact hr pc H locs ls hd.1 hk oS hW hS
theorem g_retE {st : List AV} {V : Option AV} {σ S : Mem} (hd : At y.2.1 pc (retIns y.2.2.2.1) 1 n) (hk : vok y.2.2.2.1 V) (hv : V.toList = st) (hs : S = σ) : Go y pc L st σ V S := by
  subst hv; subst hs
  exact g_ret hd hk
theorem g_iconst {i : Int} {v : Int32} (hd : At y.2.1 pc (.iconst i) 1 n) (hv : Int32.ofInt i = v) (k : Go y n L (.inl v :: st) σ V S) : Go y pc L st σ V S := by
  obtain ⟨hd, rfl⟩ := hd
  intro X p l e R s m args below meth c A cells slots Q F hr oL oS H locs ls hl hW hS
  exact lv_iconst F.1 F.2.1 hd hv (k X p l e R s m args below meth c A cells slots Q F hr oL oS.i H locs ls hl hW hS)
theorem g_bipush {i : Int} {v : Int32} (hd : At y.2.1 pc (.bipush i) 2 n) (hv : (Int8.ofInt i).toInt32 = v) (k : Go y n L (.inl v :: st) σ V S) : Go y pc L st σ V S := by
  obtain ⟨hd, rfl⟩ := hd
  intro X p l e R s m args below meth c A cells slots Q F hr oL oS H locs ls hl hW hS
  exact lv_bipush F.1 F.2.1 hd hv (k X p l e R s m args below meth c A cells slots Q F hr oL oS.i H locs ls hl hW hS)
theorem g_sipush {i : Int} {v : Int32} (hd : At y.2.1 pc (.sipush i) 3 n) (hv : (Int16.ofInt i).toInt32 = v) (k : Go y n L (.inl v :: st) σ V S) : Go y pc L st σ V S := by
  obtain ⟨hd, rfl⟩ := hd
  intro X p l e R s m args below meth c A cells slots Q F hr oL oS H locs ls hl hW hS
  exact lv_sipush F.1 F.2.1 hd hv (k X p l e R s m args below meth c A cells slots Q F hr oL oS.i H locs ls hl hW hS)
theorem g_lconst {i : Fin 2} {v : Int64} (hd : At y.2.1 pc (.lconst i) 1 n) (hv : Int64.ofNat (i : Nat) = v) (k : Go y n L (.inr (.inl v) :: st) σ V S) : Go y pc L st σ V S := by
  obtain ⟨hd, rfl⟩ := hd
  intro X p l e R s m args below meth c A cells slots Q F hr oL oS H locs ls hl hW hS
  exact lv_lconst F.1 F.2.1 hd hv (k X p l e R s m args below meth c A cells slots Q F hr oL oS.l H locs ls hl hW hS)
theorem g_ldc {i : Nat} {v : Int32} (hd : At y.2.1 pc (.ldc i) 2 n) (hw : Cond.constant y.1.cls i v ∈ gt) (k : Go y n L (.inl v :: st) σ V S) : Go y pc L st σ V S := by
  obtain ⟨hd, rfl⟩ := hd
  intro X p l e R s m args below meth c A cells slots Q F hr oL oS H locs ls hl hW hS
  exact lv_ldc F.1 F.2.1 F.2.2.2.1 (F.2.2.2.2.1 _ hw) hd (k X p l e R s m args below meth c A cells slots Q F hr oL oS.i H locs ls hl hW hS)
theorem g_ldcw {i : Nat} {v : Int32} (hd : At y.2.1 pc (.ldc_w i) 3 n) (hw : Cond.constant y.1.cls i v ∈ gt) (k : Go y n L (.inl v :: st) σ V S) : Go y pc L st σ V S := by
  obtain ⟨hd, rfl⟩ := hd
  intro X p l e R s m args below meth c A cells slots Q F hr oL oS H locs ls hl hW hS
  exact lv_ldcw F.1 F.2.1 F.2.2.2.1 (F.2.2.2.2.1 _ hw) hd (k X p l e R s m args below meth c A cells slots Q F hr oL oS.i H locs ls hl hW hS)
theorem g_ldc2 {i : Nat} {v : Int64} (hd : At y.2.1 pc (.ldc2_w i) 3 n) (hw : Cond.constantLong y.1.cls i v ∈ gt) (k : Go y n L (.inr (.inl v) :: st) σ V S) : Go y pc L st σ V S := by
  obtain ⟨hd, rfl⟩ := hd
  intro X p l e R s m args below meth c A cells slots Q F hr oL oS H locs ls hl hW hS
  exact lv_ldc2 F.1 F.2.1 F.2.2.2.1 (F.2.2.2.2.1 _ hw) hd (k X p l e R s m args below meth c A cells slots Q F hr oL oS.l H locs ls hl hW hS)
end RULES
