/-! fields put, rows read and written, calls -/
section HEAP2
variable {y : MI} {pc n : Nat} {L : List (Option AV)} {st : List AV} {σ S : Mem} {V : Option AV}
theorem sI_off {σ : Mem} {c k j : Nat} {x : Int32} : ∀ q : Nat × Nat, q ≠ (c, k) → (sI σ c k j x).1 q.1 q.2 = σ.1 q.1 q.2 ∧ (sI σ c k j x).2 q.1 q.2 = σ.2 q.1 q.2 := by
  intro q hq
  exact ⟨sA_off (fun z => hq (Prod.ext z.1 z.2)), rfl⟩
theorem sA_offq {σ : Mem} {c k : Nat} {f : Nat → Int32} : ∀ q : Nat × Nat, q ≠ (c, k) → (sA σ c k f).1 q.1 q.2 = σ.1 q.1 q.2 ∧ (sA σ c k f).2 q.1 q.2 = σ.2 q.1 q.2 := by
  intro q hq
  exact ⟨sA_off (fun z => hq (Prod.ext z.1 z.2)), rfl⟩
theorem sL_off {σ : Mem} {c k j : Nat} {x : Int64} : ∀ q : Nat × Nat, q ≠ (c, k) → (sL σ c k j x).1 q.1 q.2 = σ.1 q.1 q.2 ∧ (sL σ c k j x).2 q.1 q.2 = σ.2 q.1 q.2 := by
  intro q hq
  refine ⟨rfl, ?_⟩
  have z : ¬ (q.1 = c ∧ q.2 = k) := fun z => hq (Prod.ext z.1 z.2)
  simp only [sL, if_neg z]
/-- an int field: what is read of it is the number put -/
def iF (c j : Nat) : Prop := ∀ (x : Int32) (l : Int64) (k : Nat), favW x l c k j = .inl x
def lF (c j : Nat) : Prop := ∀ (x : Int32) (l : Int64) (k : Nat), favW x l c k j = .inr (.inl l)
/-- the other fields don't look at that slot's number -/
theorem fav_sI {ad : AdT} {σ : Mem} {c k j : Nat} {x : Int32} (h : iF c j) : ∀ i, cv ad (fav (sI σ c k j x) c k i) = if i = j then .int x else cv ad (fav σ c k i) := by
  intro i
  by_cases e : i = j
  · subst e
    rw [if_pos rfl]
    unfold fav
    rw [h]
    show Value.int ((sI σ c k i x).1 c k i) = _
    rw [sI, sA_at]
    simp [upd]
  · rw [if_neg e]
    unfold fav
    rw [sI, sA_at]
    simp only [upd, if_neg e]
    rfl
theorem fav_sL {ad : AdT} {σ : Mem} {c k j : Nat} {x : Int64} (h : lF c j) : ∀ i, cv ad (fav (sL σ c k j x) c k i) = if i = j then .long x else cv ad (fav σ c k i) := by
  intro i
  by_cases e : i = j
  · subst e
    rw [if_pos rfl]
    unfold fav
    rw [h]
    show Value.long ((sL σ c k i x).2 c k i) = _
    simp [sL, vp_updL]
  · rw [if_neg e]
    unfold fav
    simp [sL, vp_updL, e]
theorem g_puti {cc k idx j : Nat} {x : Int32} (hd : At y.2.1 pc (.putfield idx) 3 n) (hf : FS y.1.cls idx cc j) (hp : PS cc j .int) (hi : iF cc j) (kk : Go y n L st (sI σ cc k j x) V S) : Go y pc L (.inl x :: .inr (.inr (cc, k)) :: st) σ V S := by
  obtain ⟨hd, rfl⟩ := hd
  intro X p l e R s m args below meth c A cells slots Q F hr oL oS H locs ls hl hW hS
  exact put_go F (v := .int x) hd hf hp oS.tl.hd rfl rfl sI_off (fav_sI hi) hW hS (fun H1 locs1 h1 h2 => kk X p l e R s m args below meth c A cells slots Q F hr oL oS.tl.tl H1 locs1 ls hl h1 h2)
theorem g_putz {cc k idx j : Nat} {x : Int32} (hd : At y.2.1 pc (.putfield idx) 3 n) (hf : FS y.1.cls idx cc j) (hp : PS cc j .boolean) (hi : iF cc j) (hx : x = 0 ∨ x = 1) (kk : Go y n L st (sI σ cc k j x) V S) : Go y pc L (.inl x :: .inr (.inr (cc, k)) :: st) σ V S := by
  obtain ⟨hd, rfl⟩ := hd
  intro X p l e R s m args below meth c A cells slots Q F hr oL oS H locs ls hl hW hS
  exact put_go F (v := .int x) hd hf hp oS.tl.hd (by rcases hx with rfl | rfl <;> rfl) (by rcases hx with rfl | rfl <;> rfl) sI_off (fav_sI hi) hW hS (fun H1 locs1 h1 h2 => kk X p l e R s m args below meth c A cells slots Q F hr oL oS.tl.tl H1 locs1 ls hl h1 h2)
theorem g_putl {cc k idx j : Nat} {x : Int64} (hd : At y.2.1 pc (.putfield idx) 3 n) (hf : FS y.1.cls idx cc j) (hp : PS cc j .long) (hi : lF cc j) (kk : Go y n L st (sL σ cc k j x) V S) : Go y pc L (.inr (.inl x) :: .inr (.inr (cc, k)) :: st) σ V S := by
  obtain ⟨hd, rfl⟩ := hd
  intro X p l e R s m args below meth c A cells slots Q F hr oL oS H locs ls hl hW hS
  exact put_go F (v := .long x) hd hf hp oS.tl.hd rfl rfl sL_off (fav_sL hi) hW hS (fun H1 locs1 h1 h2 => kk X p l e R s m args below meth c A cells slots Q F hr oL oS.tl.tl H1 locs1 ls hl h1 h2)
/-- a row of ints of ours -/
def rI (c k : Nat) : Prop := c ∈ kds ∧ ¬ c < 12 ∧ ¬ (c = 22 ∧ k = 2)
theorem rw_at {X : Kx} {σ : Mem} {i c k : Nat} (h : (Klx X)[i]? = some (c, k)) (hr : rI c k) : (wl X σ)[i]? = some (Kad X c k, .inl (X.2.1.1, alen c k, .inl (σ.1 c k))) := by
  rw [wl_at h]
  simp only [acell, if_neg hr.2.1, if_neg hr.2.2]
theorem g_iald {cc k : Nat} {i x : Int32} (hd : At y.2.1 pc .iaload 1 n) (hr0 : rI cc k) (hin : vp_in i (alen cc k)) (hx : σ.1 cc k i.toNatClampNeg = x) (kk : Go y n L (.inl x :: st) σ V S) : Go y pc L (.inl i :: .inr (.inr (cc, k)) :: st) σ V S := by
  obtain ⟨hd, rfl⟩ := hd
  subst hx
  intro X p l e R s m args below meth c A cells slots Q F hr oL oS H locs ls hl hW hS
  obtain ⟨q, hq⟩ := cl_in oS.tl.hd hr0.1
  exact va_iald (tys := atys X) F.1 F.2.1 F.2.2.2.2.2.1 hW.1 q 0 (rw_at hq hr0) rfl hin hd (kk X p l e R s m args below meth c A cells slots Q F hr oL oS.tl.tl.i H locs ls hl hW hS)
theorem g_iast {cc k j : Nat} {i x : Int32} (hd : At y.2.1 pc .iastore 1 n) (hr0 : rI cc k) (hin : vp_in i (alen cc k)) (hj : i.toNatClampNeg = j) (kk : Go y n L st (sI σ cc k j x) V S) : Go y pc L (.inl x :: .inl i :: .inr (.inr (cc, k)) :: st) σ V S := by
  obtain ⟨hd, rfl⟩ := hd
  subst hj
  intro X p l e R s m args below meth c A cells slots Q F hr oL oS H locs ls hl hW hS
  obtain ⟨q, hq⟩ := cl_in oS.tl.tl.hd hr0.1
  refine va_iast (tys := atys X) F.1 F.2.1 F.2.2.2.2.2.1 hW.1 (wl_D F.2.2.2.2.2.2.1.1 F.2.2.2.2.2.2.1.2 F.2.2.2.2.2.2.2.1) hS q 0 (rw_at hq hr0) rfl hin hd (fun H1 locs1 hP1 _ hS1 => kk X p l e R s m args below meth c A cells slots Q F hr oL oS.tl.tl.tl H1 locs1 ls hl (Wd_of hW ?_ ?_) hS1)
  · rw [← wl_set F.2.2.2.2.2.2.1.1 hq (fun q _ hq => acell_off (sI_off q hq).1 (sI_off q hq).2)]
    rw [show acell X (sI σ cc k i.toNatClampNeg x) cc k = .inl (X.2.1.1, alen cc k, .inl (upd (σ.1 cc k) i.toNatClampNeg x)) from by simp only [acell, if_neg hr0.2.1, if_neg hr0.2.2, sI, sA_at]]
    exact hP1
  · funext q
    exact (sI_off (24, q) (fun z => by cases z; exact absurd hr0.1 (by decide))).1
theorem g_zald {i x : Int32} (hd : At y.2.1 pc .baload 1 n) (hin : vp_in i 2) (hx : σ.1 22 2 i.toNatClampNeg = x) (kk : Go y n L (.inl x :: st) σ V S) : Go y pc L (.inl i :: .inr (.inr (22, 2)) :: st) σ V S := by
  obtain ⟨hd, rfl⟩ := hd
  subst hx
  intro X p l e R s m args below meth c A cells slots Q F hr oL oS H locs ls hl hW hS
  obtain ⟨q, hq⟩ := cl_in oS.tl.hd (by decide)
  exact va_zald (tys := atys X) F.1 F.2.1 F.2.2.2.2.2.1 hW.1 q 1 (wl_at hq) rfl hin hd (kk X p l e R s m args below meth c A cells slots Q F hr oL oS.tl.tl.i H locs ls hl hW hS)
theorem g_zast {i x : Int32} {j : Nat} (hd : At y.2.1 pc .bastore 1 n) (hin : vp_in i 2) (h01 : x = 0 ∨ x = 1) (hj : i.toNatClampNeg = j) (kk : Go y n L st (sI σ 22 2 j x) V S) : Go y pc L (.inl x :: .inl i :: .inr (.inr (22, 2)) :: st) σ V S := by
  obtain ⟨hd, rfl⟩ := hd
  subst hj
  have hn : vp_nar .boolean x = x := by rcases h01 with rfl | rfl <;> rfl
  intro X p l e R s m args below meth c A cells slots Q F hr oL oS H locs ls hl hW hS
  obtain ⟨q, hq⟩ := cl_in oS.tl.tl.hd (by decide)
  refine va_zast (tys := atys X) F.1 F.2.1 F.2.2.2.2.2.1 hW.1 (wl_D F.2.2.2.2.2.2.1.1 F.2.2.2.2.2.2.1.2 F.2.2.2.2.2.2.2.1) hS q 1 (wl_at hq) rfl hin hd (fun H1 locs1 hP1 _ hS1 => kk X p l e R s m args below meth c A cells slots Q F hr oL oS.tl.tl.tl H1 locs1 ls hl (Wd_of hW ?_ ?_) hS1)
  · rw [hn] at hP1
    rw [← wl_set F.2.2.2.2.2.2.1.1 hq (fun q _ hq => acell_off (sI_off q hq).1 (sI_off q hq).2)]
    rw [show acell X (sI σ 22 2 i.toNatClampNeg x) 22 2 = .inl (X.2.1.2, 2, .inl (upd (σ.1 22 2) i.toNatClampNeg x)) from by simp only [acell, sI, sA_at]; rfl]
    exact hP1
  · funext q
    exact (sI_off (24, q) (fun z => by cases z)).1
theorem g_alen {cc k : Nat} {x : Int32} (hd : At y.2.1 pc .arraylength 1 n) (hr0 : rI cc k) (hx : Int32.ofNat (alen cc k) = x) (kk : Go y n L (.inl x :: st) σ V S) : Go y pc L (.inr (.inr (cc, k)) :: st) σ V S := by
  obtain ⟨hd, rfl⟩ := hd
  intro X p l e R s m args below meth c A cells slots Q F hr oL oS H locs ls hl hW hS
  obtain ⟨q, hq⟩ := cl_in oS.hd hr0.1
  exact va_alen (tys := atys X) F.1 F.2.1 F.2.2.2.2.2.1 hW.1 q 0 (rw_at hq hr0) rfl hx hd (kk X p l e R s m args below meth c A cells slots Q F hr oL oS.tl.i H locs ls hl hW hS)
theorem g_slen {x : Int32} (hy : y.1.cls = RL) (hd : At y.2.1 pc .arraylength 1 n) (hx : σ.1 24 1 0 = x) (kk : Go y n L (.inl x :: st) σ V S) : Go y pc L (.inr (.inr (24, 0)) :: st) σ V S := by
  obtain ⟨hd, rfl⟩ := hd
  intro X p l e R s m args below meth c A cells slots Q F hr oL oS H locs ls hl hW hS
  obtain ⟨h1, h2, h3, h4⟩ := F.2.2.2.2.2.2.2.2.2.1 hy
  have e : x = Int32.ofNat X.2.2.2.2.1 := by rw [← hx]; exact hW.2.2
  subst e
  exact va_slen F.1 F.2.1 h1 h2 h3 hS hd (kk X p l e R s m args below meth c A cells slots Q F hr oL oS.tl.i H locs ls hl hW hS)
theorem g_sld {i x : Int32} (hy : y.1.cls = RL) (hd : At y.2.1 pc .iaload 1 n) (hin : ∀ N : Nat, N ≤ 384 → σ.1 24 1 0 = nI N → vp_in i N) (hx : σ.1 24 0 i.toNatClampNeg = x) (kk : Go y n L (.inl x :: st) σ V S) : Go y pc L (.inl i :: .inr (.inr (24, 0)) :: st) σ V S := by
  obtain ⟨hd, rfl⟩ := hd
  intro X p l e R s m args below meth c A cells slots Q F hr oL oS H locs ls hl hW hS
  obtain ⟨h1, h2, h3, h4⟩ := F.2.2.2.2.2.2.2.2.2.1 hy
  have e : x = X.2.2.2.1 i.toNatClampNeg := by rw [← hx]; exact congrFun hW.2.1 _
  subst e
  exact va_sld F.1 F.2.1 h1 h2 h3 hS (hin _ h4 hW.2.2) hd (kk X p l e R s m args below meth c A cells slots Q F hr oL oS.tl.tl.i H locs ls hl hW hS)
end HEAP2
/-! calls -/
/-- what the tables say of a method -/
def MOK (y : MI) : Prop := Cond.code y.1 y.2.1 y.2.2.1 y.2.2.2.1 ∈ gt ∧ plainName y.1.cls = true ∧ Cond.initialized y.1.cls ∈ gt ∧ (y.1.cls ≠ "java/lang/invoke/MethodHandle" ∧ y.1.cls ≠ "java/lang/invoke/VarHandle") ∧ y.1.cls ≠ RL
theorem lw_good : ∀ w ∈ gt, goodWord w = true := fun _ h => (List.mem_filter.mp h).2
/-- the locals at a method's begin -/
def lay : List AV → List (Option AV)
  | [] => []
  | .inr (.inl x) :: l => some (.inr (.inl x)) :: none :: lay l
  | a :: l => some a :: lay l
def ini (y : MI) (As : List AV) : List (Option AV) := lay As ++ List.replicate (y.2.2.1 - (lay As).length) none
def Ev (y : MI) (As : List AV) (σ : Mem) (V : Option AV) (S : Mem) : Prop := Go y 0 (ini y As) [] σ V S
def Qm (X : Kx) (rt : Option FieldType) (V : Option AV) (S : Mem) : Array Value → State → Outcome → State → Prop := fun _ st o t =>
  o = .returned (V.map (cv (Kad X))) ∧ vok rt V ∧ okS X V.toList ∧ Wd X S t.heap ∧ va_F (Wa X) st t
def Pm (X : Kx) (As : List AV) (σ : Mem) : Array Value → State → Prop := va_Pc (As.map (cv (Kad X))) (fun U => Wd X σ U.heap ∧ va_K X.1 classes (atys X) U ∧ SX X (Wa X) U U.heap)
def wsM (y : MI) : List Cond := Cond.code y.1 y.2.1 y.2.2.1 y.2.2.2.1 :: gt
def rmM (y : MI) : Room := { frames := y.2.2.2.2.1, cells := 0, slots := 0, locals := y.2.2.2.2.2 }
theorem lay_lv {ad : AdT} : ∀ (As : List AV) (i0 i : Nat) (a : AV), (lay As)[i]? = some (some a) → (i0 + i, cv ad a) ∈ lv_args i0 (As.map (cv ad))
  | [], _, _, _, h => by simp [lay] at h
  | .inl x :: l, i0, i, a, h => by
    cases i with
    | zero =>
      simp only [lay, List.getElem?_cons_zero, Option.some.injEq] at h
      subst h
      exact List.mem_cons_self
    | succ i =>
      simp only [lay, List.getElem?_cons_succ] at h
      have := lay_lv (ad := ad) l (i0 + 1) i a h
      rw [show i0 + (i + 1) = i0 + 1 + i by omega]
      exact List.mem_cons_of_mem _ this
  | .inr (.inl x) :: l, i0, i, a, h => by
    match i, h with
    | 0, h =>
      simp only [lay, List.getElem?_cons_zero, Option.some.injEq] at h
      subst h
      exact List.mem_cons_self
    | 1, h => simp [lay] at h
    | i + 2, h =>
      simp only [lay, List.getElem?_cons_succ] at h
      have := lay_lv (ad := ad) l (i0 + 2) i a h
      rw [show i0 + (i + 2) = i0 + 2 + i by omega]
      exact List.mem_cons_of_mem _ this
  | .inr (.inr q) :: l, i0, i, a, h => by
    cases i with
    | zero =>
      simp only [lay, List.getElem?_cons_zero, Option.some.injEq] at h
      subst h
      exact List.mem_cons_self
    | succ i =>
      simp only [lay, List.getElem?_cons_succ] at h
      have := lay_lv (ad := ad) l (i0 + 1) i a h
      rw [show i0 + (i + 1) = i0 + 1 + i by omega]
      exact List.mem_cons_of_mem _ this
theorem lay_len {ad : AdT} : ∀ As : List AV, (lay As).length = (lg_sl (As.map (cv ad))).length
  | [] => rfl
  | .inl x :: l => by simp only [lay, List.map_cons, List.length_cons]; rw [lay_len (ad := ad) l]; rfl
  | .inr (.inl x) :: l => by simp only [lay, List.map_cons, List.length_cons]; rw [lay_len (ad := ad) l]; rfl
  | .inr (.inr q) :: l => by simp only [lay, List.map_cons, List.length_cons]; rw [lay_len (ad := ad) l]; rfl
