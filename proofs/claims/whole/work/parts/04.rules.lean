/-! the rules, one an instruction, over the memory -/
section RULES2
variable {y : MI} {pc n : Nat} {L : List (Option AV)} {st : List AV} {σ S : Mem} {V : Option AV}
theorem g_iload {i : Nat} {x : Int32} (hd : At y.2.1 pc (.iload i) 2 n) (hv : L[i]? = some (some (.inl x))) (k : Go y n L (.inl x :: st) σ V S) : Go y pc L (st) σ V S := by
  obtain ⟨hd, rfl⟩ := hd
  intro X p l e R s m args below meth c A cells slots Q F hr oL oS H locs ls hl hW hS
  exact lv_iload F.1 F.2.1 hd (hl.2.2 _ _ hv) (k X p l e R s m args below meth c A cells slots Q F hr oL (oS.cons (oL.at hv)) H locs ls hl hW hS)
theorem g_iload_n {i : Fin 4} {x : Int32} (hd : At y.2.1 pc (.iload_n i) 1 n) (hv : L[(i : Nat)]? = some (some (.inl x))) (k : Go y n L (.inl x :: st) σ V S) : Go y pc L (st) σ V S := by
  obtain ⟨hd, rfl⟩ := hd
  intro X p l e R s m args below meth c A cells slots Q F hr oL oS H locs ls hl hW hS
  exact lv_iload_n F.1 F.2.1 hd rfl (hl.2.2 _ _ hv) (k X p l e R s m args below meth c A cells slots Q F hr oL (oS.cons (oL.at hv)) H locs ls hl hW hS)
theorem g_lload {i : Nat} {x : Int64} (hd : At y.2.1 pc (.lload i) 2 n) (hv : L[i]? = some (some (.inr (.inl x)))) (k : Go y n L (.inr (.inl x) :: st) σ V S) : Go y pc L (st) σ V S := by
  obtain ⟨hd, rfl⟩ := hd
  intro X p l e R s m args below meth c A cells slots Q F hr oL oS H locs ls hl hW hS
  exact lv_lload F.1 F.2.1 hd (hl.2.2 _ _ hv) (k X p l e R s m args below meth c A cells slots Q F hr oL (oS.cons (oL.at hv)) H locs ls hl hW hS)
theorem g_lload_n {i : Fin 4} {x : Int64} (hd : At y.2.1 pc (.lload_n i) 1 n) (hv : L[(i : Nat)]? = some (some (.inr (.inl x)))) (k : Go y n L (.inr (.inl x) :: st) σ V S) : Go y pc L (st) σ V S := by
  obtain ⟨hd, rfl⟩ := hd
  intro X p l e R s m args below meth c A cells slots Q F hr oL oS H locs ls hl hW hS
  exact lv_lload_n F.1 F.2.1 hd rfl (hl.2.2 _ _ hv) (k X p l e R s m args below meth c A cells slots Q F hr oL (oS.cons (oL.at hv)) H locs ls hl hW hS)
theorem g_aload {i : Nat} {x : Nat × Nat} (hd : At y.2.1 pc (.aload i) 2 n) (hv : L[i]? = some (some (.inr (.inr x)))) (k : Go y n L (.inr (.inr x) :: st) σ V S) : Go y pc L (st) σ V S := by
  obtain ⟨hd, rfl⟩ := hd
  intro X p l e R s m args below meth c A cells slots Q F hr oL oS H locs ls hl hW hS
  exact lv_aload F.1 F.2.1 hd (hl.2.2 _ _ hv) (k X p l e R s m args below meth c A cells slots Q F hr oL (oS.cons (oL.at hv)) H locs ls hl hW hS)
theorem g_aload_n {i : Fin 4} {x : Nat × Nat} (hd : At y.2.1 pc (.aload_n i) 1 n) (hv : L[(i : Nat)]? = some (some (.inr (.inr x)))) (k : Go y n L (.inr (.inr x) :: st) σ V S) : Go y pc L (st) σ V S := by
  obtain ⟨hd, rfl⟩ := hd
  intro X p l e R s m args below meth c A cells slots Q F hr oL oS H locs ls hl hW hS
  exact lv_aload_n F.1 F.2.1 hd rfl (hl.2.2 _ _ hv) (k X p l e R s m args below meth c A cells slots Q F hr oL (oS.cons (oL.at hv)) H locs ls hl hW hS)
theorem g_istore {i : Nat} {x : Int32} {L' : List (Option AV)} (hd : At y.2.1 pc (.istore i) 2 n) (hlt : i < y.2.2.1) (hno : nol L i = true) (hL : L.set i (some (.inl x)) = L') (k : Go y n L' (st) σ V S) : Go y pc L (.inl x :: st) σ V S := by
  obtain ⟨hd, rfl⟩ := hd
  intro X p l e R s m args below meth c A cells slots Q F hr oL oS H locs ls hl hW hS
  subst hL
  exact lv_istore F.1 F.2.1 hd hl.has hlt rfl (fun ls' hl' => k X p l e R s m args below meth c A cells slots Q F hr (oL.set oS.hd) oS.tl H locs ls' (lvR.of1 hno hl') hW hS)
theorem g_istore_n {i : Fin 4} {x : Int32} {L' : List (Option AV)} (hd : At y.2.1 pc (.istore_n i) 1 n) (hlt : (i : Nat) < y.2.2.1) (hno : nol L (i : Nat) = true) (hL : L.set (i : Nat) (some (.inl x)) = L') (k : Go y n L' (st) σ V S) : Go y pc L (.inl x :: st) σ V S := by
  obtain ⟨hd, rfl⟩ := hd
  intro X p l e R s m args below meth c A cells slots Q F hr oL oS H locs ls hl hW hS
  subst hL
  exact lv_istore_n F.1 F.2.1 hd rfl hl.has hlt rfl (fun ls' hl' => k X p l e R s m args below meth c A cells slots Q F hr (oL.set oS.hd) oS.tl H locs ls' (lvR.of1 hno hl') hW hS)
theorem g_astore {i : Nat} {x : Nat × Nat} {L' : List (Option AV)} (hd : At y.2.1 pc (.astore i) 2 n) (hlt : i < y.2.2.1) (hno : nol L i = true) (hL : L.set i (some (.inr (.inr x))) = L') (k : Go y n L' (st) σ V S) : Go y pc L (.inr (.inr x) :: st) σ V S := by
  obtain ⟨hd, rfl⟩ := hd
  intro X p l e R s m args below meth c A cells slots Q F hr oL oS H locs ls hl hW hS
  subst hL
  exact lv_astore F.1 F.2.1 hd hl.has hlt rfl (fun ls' hl' => k X p l e R s m args below meth c A cells slots Q F hr (oL.set oS.hd) oS.tl H locs ls' (lvR.of1 hno hl') hW hS)
theorem g_astore_n {i : Fin 4} {x : Nat × Nat} {L' : List (Option AV)} (hd : At y.2.1 pc (.astore_n i) 1 n) (hlt : (i : Nat) < y.2.2.1) (hno : nol L (i : Nat) = true) (hL : L.set (i : Nat) (some (.inr (.inr x))) = L') (k : Go y n L' (st) σ V S) : Go y pc L (.inr (.inr x) :: st) σ V S := by
  obtain ⟨hd, rfl⟩ := hd
  intro X p l e R s m args below meth c A cells slots Q F hr oL oS H locs ls hl hW hS
  subst hL
  exact lv_astore_n F.1 F.2.1 hd rfl hl.has hlt rfl (fun ls' hl' => k X p l e R s m args below meth c A cells slots Q F hr (oL.set oS.hd) oS.tl H locs ls' (lvR.of1 hno hl') hW hS)
theorem g_lstore {i : Nat} {x : Int64} {L' : List (Option AV)} (hd : At y.2.1 pc (.lstore i) 2 n) (hlt : i + 1 < y.2.2.1) (hno : nol L i = true) (hL : (L.set i (some (.inr (.inl x)))).set (i + 1) none = L') (k : Go y n L' (st) σ V S) : Go y pc L (.inr (.inl x) :: st) σ V S := by
  obtain ⟨hd, rfl⟩ := hd
  intro X p l e R s m args below meth c A cells slots Q F hr oL oS H locs ls hl hW hS
  subst hL
  exact lv_lstore F.1 F.2.1 hd hl.has hlt rfl (fun ls' hl' => k X p l e R s m args below meth c A cells slots Q F hr (oL.set oS.hd).unset oS.tl H locs ls' (lvR.of2 hno hl') hW hS)
theorem g_lstore_n {i : Fin 4} {x : Int64} {L' : List (Option AV)} (hd : At y.2.1 pc (.lstore_n i) 1 n) (hlt : (i : Nat) + 1 < y.2.2.1) (hno : nol L (i : Nat) = true) (hL : (L.set (i : Nat) (some (.inr (.inl x)))).set ((i : Nat) + 1) none = L') (k : Go y n L' (st) σ V S) : Go y pc L (.inr (.inl x) :: st) σ V S := by
  obtain ⟨hd, rfl⟩ := hd
  intro X p l e R s m args below meth c A cells slots Q F hr oL oS H locs ls hl hW hS
  subst hL
  exact lv_lstore_n F.1 F.2.1 hd rfl hl.has hlt rfl (fun ls' hl' => k X p l e R s m args below meth c A cells slots Q F hr (oL.set oS.hd).unset oS.tl H locs ls' (lvR.of2 hno hl') hW hS)
theorem g_iinc {i : Nat} {d : Int} {x v : Int32} {L' : List (Option AV)} (hd : At y.2.1 pc (.iinc i d) 3 n) (hx : L[i]? = some (some (.inl x))) (hv : x + Int32.ofInt d = v) (hlt : i < y.2.2.1) (hno : nol L i = true) (hL : L.set i (some (.inl v)) = L') (k : Go y n L' (st) σ V S) : Go y pc L (st) σ V S := by
  obtain ⟨hd, rfl⟩ := hd
  intro X p l e R s m args below meth c A cells slots Q F hr oL oS H locs ls hl hW hS
  subst hL
  obtain ⟨q, hq⟩ := List.getElem?_of_mem (asc_mem (ad := Kad X) (q := (i, cv (Kad X) (.inl x))).mpr ⟨_, hx, rfl⟩)
  exact lv_iinc F.1 F.2.1 hd hl.has hq hv hlt rfl (fun ls' hl' => k X p l e R s m args below meth c A cells slots Q F hr (oL.set trivial) oS H locs ls' (lvR.of1 hno hl') hW hS)
theorem g_iadd {x z : Int32} (hd : At y.2.1 pc .iadd 1 n) (k : Go y n L (.inl (x + z) :: st) σ V S) : Go y pc L (.inl z :: .inl x :: st) σ V S := by
  obtain ⟨hd, rfl⟩ := hd
  intro X p l e R s m args below meth c A cells slots Q F hr oL oS H locs ls hl hW hS
  exact lv_iadd F.1 F.2.1 hd (k X p l e R s m args below meth c A cells slots Q F hr oL oS.tl.tl.i H locs ls hl hW hS)
theorem g_isub {x z : Int32} (hd : At y.2.1 pc .isub 1 n) (k : Go y n L (.inl (x - z) :: st) σ V S) : Go y pc L (.inl z :: .inl x :: st) σ V S := by
  obtain ⟨hd, rfl⟩ := hd
  intro X p l e R s m args below meth c A cells slots Q F hr oL oS H locs ls hl hW hS
  exact lv_isub F.1 F.2.1 hd (k X p l e R s m args below meth c A cells slots Q F hr oL oS.tl.tl.i H locs ls hl hW hS)
theorem g_imul {x z : Int32} (hd : At y.2.1 pc .imul 1 n) (k : Go y n L (.inl (x * z) :: st) σ V S) : Go y pc L (.inl z :: .inl x :: st) σ V S := by
  obtain ⟨hd, rfl⟩ := hd
  intro X p l e R s m args below meth c A cells slots Q F hr oL oS H locs ls hl hW hS
  exact lv_imul F.1 F.2.1 hd (k X p l e R s m args below meth c A cells slots Q F hr oL oS.tl.tl.i H locs ls hl hW hS)
theorem g_iand {x z : Int32} (hd : At y.2.1 pc .iand 1 n) (k : Go y n L (.inl (x &&& z) :: st) σ V S) : Go y pc L (.inl z :: .inl x :: st) σ V S := by
  obtain ⟨hd, rfl⟩ := hd
  intro X p l e R s m args below meth c A cells slots Q F hr oL oS H locs ls hl hW hS
  exact lv_iand F.1 F.2.1 hd (k X p l e R s m args below meth c A cells slots Q F hr oL oS.tl.tl.i H locs ls hl hW hS)
theorem g_ior {x z : Int32} (hd : At y.2.1 pc .ior 1 n) (k : Go y n L (.inl (x ||| z) :: st) σ V S) : Go y pc L (.inl z :: .inl x :: st) σ V S := by
  obtain ⟨hd, rfl⟩ := hd
  intro X p l e R s m args below meth c A cells slots Q F hr oL oS H locs ls hl hW hS
  exact lv_ior F.1 F.2.1 hd (k X p l e R s m args below meth c A cells slots Q F hr oL oS.tl.tl.i H locs ls hl hW hS)
theorem g_ixor {x z : Int32} (hd : At y.2.1 pc .ixor 1 n) (k : Go y n L (.inl (x ^^^ z) :: st) σ V S) : Go y pc L (.inl z :: .inl x :: st) σ V S := by
  obtain ⟨hd, rfl⟩ := hd
  intro X p l e R s m args below meth c A cells slots Q F hr oL oS H locs ls hl hW hS
  exact lv_ixor F.1 F.2.1 hd (k X p l e R s m args below meth c A cells slots Q F hr oL oS.tl.tl.i H locs ls hl hW hS)
theorem g_ladd {x z : Int64} (hd : At y.2.1 pc .ladd 1 n) (k : Go y n L (.inr (.inl (x + z)) :: st) σ V S) : Go y pc L (.inr (.inl z) :: .inr (.inl x) :: st) σ V S := by
  obtain ⟨hd, rfl⟩ := hd
  intro X p l e R s m args below meth c A cells slots Q F hr oL oS H locs ls hl hW hS
  exact lv_ladd F.1 F.2.1 hd (k X p l e R s m args below meth c A cells slots Q F hr oL oS.tl.tl.l H locs ls hl hW hS)
theorem g_lmul {x z : Int64} (hd : At y.2.1 pc .lmul 1 n) (k : Go y n L (.inr (.inl (x * z)) :: st) σ V S) : Go y pc L (.inr (.inl z) :: .inr (.inl x) :: st) σ V S := by
  obtain ⟨hd, rfl⟩ := hd
  intro X p l e R s m args below meth c A cells slots Q F hr oL oS H locs ls hl hW hS
  exact lv_lmul F.1 F.2.1 hd (k X p l e R s m args below meth c A cells slots Q F hr oL oS.tl.tl.l H locs ls hl hW hS)
theorem g_idiv {x z : Int32} (hd : At y.2.1 pc .idiv 1 n) (h0 : ¬ z = 0) (k : Go y n L (.inl (x / z) :: st) σ V S) : Go y pc L (.inl z :: .inl x :: st) σ V S := by
  obtain ⟨hd, rfl⟩ := hd
  intro X p l e R s m args below meth c A cells slots Q F hr oL oS H locs ls hl hW hS
  exact lv_idiv F.1 F.2.1 hd h0 (k X p l e R s m args below meth c A cells slots Q F hr oL oS.tl.tl.i H locs ls hl hW hS)
theorem g_irem {x z : Int32} (hd : At y.2.1 pc .irem 1 n) (h0 : ¬ z = 0) (k : Go y n L (.inl (x - x / z * z) :: st) σ V S) : Go y pc L (.inl z :: .inl x :: st) σ V S := by
  obtain ⟨hd, rfl⟩ := hd
  intro X p l e R s m args below meth c A cells slots Q F hr oL oS H locs ls hl hW hS
  exact lv_irem F.1 F.2.1 hd h0 (k X p l e R s m args below meth c A cells slots Q F hr oL oS.tl.tl.i H locs ls hl hW hS)
theorem g_ldiv {x z : Int64} (hd : At y.2.1 pc .ldiv 1 n) (h0 : ¬ z = 0) (k : Go y n L (.inr (.inl (x / z)) :: st) σ V S) : Go y pc L (.inr (.inl z) :: .inr (.inl x) :: st) σ V S := by
  obtain ⟨hd, rfl⟩ := hd
  intro X p l e R s m args below meth c A cells slots Q F hr oL oS H locs ls hl hW hS
  exact lv_ldiv F.1 F.2.1 hd h0 (k X p l e R s m args below meth c A cells slots Q F hr oL oS.tl.tl.l H locs ls hl hW hS)
theorem g_lrem {x z : Int64} (hd : At y.2.1 pc .lrem 1 n) (h0 : ¬ z = 0) (k : Go y n L (.inr (.inl (x - x / z * z)) :: st) σ V S) : Go y pc L (.inr (.inl z) :: .inr (.inl x) :: st) σ V S := by
  obtain ⟨hd, rfl⟩ := hd
  intro X p l e R s m args below meth c A cells slots Q F hr oL oS H locs ls hl hW hS
  exact lv_lrem F.1 F.2.1 hd h0 (k X p l e R s m args below meth c A cells slots Q F hr oL oS.tl.tl.l H locs ls hl hW hS)
theorem g_ineg {x : Int32} (hd : At y.2.1 pc .ineg 1 n) (k : Go y n L (.inl (-x) :: st) σ V S) : Go y pc L (.inl x :: st) σ V S := by
  obtain ⟨hd, rfl⟩ := hd
  intro X p l e R s m args below meth c A cells slots Q F hr oL oS H locs ls hl hW hS
  exact lv_ineg F.1 F.2.1 hd (k X p l e R s m args below meth c A cells slots Q F hr oL oS.tl.i H locs ls hl hW hS)
theorem g_ishl {x z : Int32} (hd : At y.2.1 pc .ishl 1 n) (k : Go y n L (.inl (x <<< (z &&& 31)) :: st) σ V S) : Go y pc L (.inl z :: .inl x :: st) σ V S := by
  obtain ⟨hd, rfl⟩ := hd
  intro X p l e R s m args below meth c A cells slots Q F hr oL oS H locs ls hl hW hS
  exact lv_ishl F.1 F.2.1 hd (k X p l e R s m args below meth c A cells slots Q F hr oL oS.tl.tl.i H locs ls hl hW hS)
theorem g_ishr {x z : Int32} (hd : At y.2.1 pc .ishr 1 n) (k : Go y n L (.inl (x >>> (z &&& 31)) :: st) σ V S) : Go y pc L (.inl z :: .inl x :: st) σ V S := by
  obtain ⟨hd, rfl⟩ := hd
  intro X p l e R s m args below meth c A cells slots Q F hr oL oS H locs ls hl hW hS
  exact lv_ishr F.1 F.2.1 hd (k X p l e R s m args below meth c A cells slots Q F hr oL oS.tl.tl.i H locs ls hl hW hS)
theorem g_iushr {x z : Int32} (hd : At y.2.1 pc .iushr 1 n) (k : Go y n L (.inl ((x.toUInt32 >>> (z.toUInt32 &&& Int32.toUInt32 31)).toInt32) :: st) σ V S) : Go y pc L (.inl z :: .inl x :: st) σ V S := by
  obtain ⟨hd, rfl⟩ := hd
  intro X p l e R s m args below meth c A cells slots Q F hr oL oS H locs ls hl hW hS
  exact lv_iushr F.1 F.2.1 hd rfl (k X p l e R s m args below meth c A cells slots Q F hr oL oS.tl.tl.i H locs ls hl hW hS)
theorem g_i2l {x : Int32} (hd : At y.2.1 pc .i2l 1 n) (k : Go y n L (.inr (.inl x.toInt64) :: st) σ V S) : Go y pc L (.inl x :: st) σ V S := by
  obtain ⟨hd, rfl⟩ := hd
  intro X p l e R s m args below meth c A cells slots Q F hr oL oS H locs ls hl hW hS
  exact lv_i2l F.1 F.2.1 hd rfl (k X p l e R s m args below meth c A cells slots Q F hr oL oS.tl.l H locs ls hl hW hS)
theorem g_l2i {x : Int64} (hd : At y.2.1 pc .l2i 1 n) (k : Go y n L (.inl x.toInt32 :: st) σ V S) : Go y pc L (.inr (.inl x) :: st) σ V S := by
  obtain ⟨hd, rfl⟩ := hd
  intro X p l e R s m args below meth c A cells slots Q F hr oL oS H locs ls hl hW hS
  exact lv_l2i F.1 F.2.1 hd rfl (k X p l e R s m args below meth c A cells slots Q F hr oL oS.tl.i H locs ls hl hW hS)
theorem g_lcmp {x z : Int64} (hd : At y.2.1 pc .lcmp 1 n) (k : Go y n L (.inl (lg_cmp x z) :: st) σ V S) : Go y pc L (.inr (.inl z) :: .inr (.inl x) :: st) σ V S := by
  obtain ⟨hd, rfl⟩ := hd
  intro X p l e R s m args below meth c A cells slots Q F hr oL oS H locs ls hl hW hS
  exact W.lcmp F.1 F.2.1 hd (k X p l e R s m args below meth c A cells slots Q F hr oL oS.tl.tl.i H locs ls hl hW hS)
theorem g_dup {x : AV} (hd : At y.2.1 pc .dup 1 n) (hx : ∀ ad, (cv ad x).category = 1) (k : Go y n L (x :: x :: st) σ V S) : Go y pc L (x :: st) σ V S := by
  obtain ⟨hd, rfl⟩ := hd
  intro X p l e R s m args below meth c A cells slots Q F hr oL oS H locs ls hl hW hS
  exact lv_dup F.1 F.2.1 hd (hx _) (k X p l e R s m args below meth c A cells slots Q F hr oL (oS.cons oS.hd) H locs ls hl hW hS)
theorem g_pop {x : AV} (hd : At y.2.1 pc .pop 1 n) (hx : ∀ ad, (cv ad x).category = 1) (k : Go y n L (st) σ V S) : Go y pc L (x :: st) σ V S := by
  obtain ⟨hd, rfl⟩ := hd
  intro X p l e R s m args below meth c A cells slots Q F hr oL oS H locs ls hl hW hS
  exact lv_pop F.1 F.2.1 hd (hx _) (k X p l e R s m args below meth c A cells slots Q F hr oL oS.tl H locs ls hl hW hS)
theorem g_dup2 {x z : AV} (hd : At y.2.1 pc .dup2 1 n) (hx : ∀ ad, (cv ad x).category = 1) (hz : ∀ ad, (cv ad z).category = 1) (k : Go y n L (x :: z :: x :: z :: st) σ V S) : Go y pc L (x :: z :: st) σ V S := by
  obtain ⟨hd, rfl⟩ := hd
  intro X p l e R s m args below meth c A cells slots Q F hr oL oS H locs ls hl hW hS
  exact lv_dup2_11 F.1 F.2.1 hd (hx _) (hz _) (k X p l e R s m args below meth c A cells slots Q F hr oL ((oS.cons oS.tl.hd).cons oS.hd) H locs ls hl hW hS)
theorem g_if_eq {x : Int32} {off : Int} {tgt : Nat} (hd : At y.2.1 pc (.ifCond .eq off) 3 n) (ht : (pc : Int) + off = (tgt : Int)) (kt : x = 0 → Go y tgt L st σ V S) (kf : ¬ x = 0 → Go y n L st σ V S) : Go y pc L (.inl x :: st) σ V S := by
  obtain ⟨hd, rfl⟩ := hd
  intro X p l e R s m args below meth c A cells slots Q F hr oL oS H locs ls hl hW hS
  exact lv_if_eq F.1 F.2.1 hd ht (fun h => kt h X p l e R s m args below meth c A cells slots Q F hr oL oS.tl H locs ls hl hW hS) (fun h => kf h X p l e R s m args below meth c A cells slots Q F hr oL oS.tl H locs ls hl hW hS)
theorem g_icmp_eq {x z : Int32} {off : Int} {tgt : Nat} (hd : At y.2.1 pc (.if_icmp .eq off) 3 n) (ht : (pc : Int) + off = (tgt : Int)) (kt : x = z → Go y tgt L st σ V S) (kf : ¬ x = z → Go y n L st σ V S) : Go y pc L (.inl z :: .inl x :: st) σ V S := by
  obtain ⟨hd, rfl⟩ := hd
  intro X p l e R s m args below meth c A cells slots Q F hr oL oS H locs ls hl hW hS
  exact lv_icmp_eq F.1 F.2.1 hd ht (fun h => kt h X p l e R s m args below meth c A cells slots Q F hr oL oS.tl.tl H locs ls hl hW hS) (fun h => kf h X p l e R s m args below meth c A cells slots Q F hr oL oS.tl.tl H locs ls hl hW hS)
theorem g_if_ne {x : Int32} {off : Int} {tgt : Nat} (hd : At y.2.1 pc (.ifCond .ne off) 3 n) (ht : (pc : Int) + off = (tgt : Int)) (kt : ¬ x = 0 → Go y tgt L st σ V S) (kf : x = 0 → Go y n L st σ V S) : Go y pc L (.inl x :: st) σ V S := by
  obtain ⟨hd, rfl⟩ := hd
  intro X p l e R s m args below meth c A cells slots Q F hr oL oS H locs ls hl hW hS
  exact lv_if_ne F.1 F.2.1 hd ht (fun h => kt h X p l e R s m args below meth c A cells slots Q F hr oL oS.tl H locs ls hl hW hS) (fun h => kf h X p l e R s m args below meth c A cells slots Q F hr oL oS.tl H locs ls hl hW hS)
theorem g_icmp_ne {x z : Int32} {off : Int} {tgt : Nat} (hd : At y.2.1 pc (.if_icmp .ne off) 3 n) (ht : (pc : Int) + off = (tgt : Int)) (kt : ¬ x = z → Go y tgt L st σ V S) (kf : x = z → Go y n L st σ V S) : Go y pc L (.inl z :: .inl x :: st) σ V S := by
  obtain ⟨hd, rfl⟩ := hd
  intro X p l e R s m args below meth c A cells slots Q F hr oL oS H locs ls hl hW hS
  exact lv_icmp_ne F.1 F.2.1 hd ht (fun h => kt h X p l e R s m args below meth c A cells slots Q F hr oL oS.tl.tl H locs ls hl hW hS) (fun h => kf h X p l e R s m args below meth c A cells slots Q F hr oL oS.tl.tl H locs ls hl hW hS)
theorem g_if_lt {x : Int32} {off : Int} {tgt : Nat} (hd : At y.2.1 pc (.ifCond .lt off) 3 n) (ht : (pc : Int) + off = (tgt : Int)) (kt : x < 0 → Go y tgt L st σ V S) (kf : ¬ x < 0 → Go y n L st σ V S) : Go y pc L (.inl x :: st) σ V S := by
  obtain ⟨hd, rfl⟩ := hd
  intro X p l e R s m args below meth c A cells slots Q F hr oL oS H locs ls hl hW hS
  exact lv_if_lt F.1 F.2.1 hd ht (fun h => kt h X p l e R s m args below meth c A cells slots Q F hr oL oS.tl H locs ls hl hW hS) (fun h => kf h X p l e R s m args below meth c A cells slots Q F hr oL oS.tl H locs ls hl hW hS)
theorem g_icmp_lt {x z : Int32} {off : Int} {tgt : Nat} (hd : At y.2.1 pc (.if_icmp .lt off) 3 n) (ht : (pc : Int) + off = (tgt : Int)) (kt : x < z → Go y tgt L st σ V S) (kf : ¬ x < z → Go y n L st σ V S) : Go y pc L (.inl z :: .inl x :: st) σ V S := by
  obtain ⟨hd, rfl⟩ := hd
  intro X p l e R s m args below meth c A cells slots Q F hr oL oS H locs ls hl hW hS
  exact lv_icmp_lt F.1 F.2.1 hd ht (fun h => kt h X p l e R s m args below meth c A cells slots Q F hr oL oS.tl.tl H locs ls hl hW hS) (fun h => kf h X p l e R s m args below meth c A cells slots Q F hr oL oS.tl.tl H locs ls hl hW hS)
theorem g_if_ge {x : Int32} {off : Int} {tgt : Nat} (hd : At y.2.1 pc (.ifCond .ge off) 3 n) (ht : (pc : Int) + off = (tgt : Int)) (kt : 0 ≤ x → Go y tgt L st σ V S) (kf : ¬ 0 ≤ x → Go y n L st σ V S) : Go y pc L (.inl x :: st) σ V S := by
  obtain ⟨hd, rfl⟩ := hd
  intro X p l e R s m args below meth c A cells slots Q F hr oL oS H locs ls hl hW hS
  exact lv_if_ge F.1 F.2.1 hd ht (fun h => kt h X p l e R s m args below meth c A cells slots Q F hr oL oS.tl H locs ls hl hW hS) (fun h => kf h X p l e R s m args below meth c A cells slots Q F hr oL oS.tl H locs ls hl hW hS)
theorem g_icmp_ge {x z : Int32} {off : Int} {tgt : Nat} (hd : At y.2.1 pc (.if_icmp .ge off) 3 n) (ht : (pc : Int) + off = (tgt : Int)) (kt : z ≤ x → Go y tgt L st σ V S) (kf : ¬ z ≤ x → Go y n L st σ V S) : Go y pc L (.inl z :: .inl x :: st) σ V S := by
  obtain ⟨hd, rfl⟩ := hd
  intro X p l e R s m args below meth c A cells slots Q F hr oL oS H locs ls hl hW hS
  exact lv_icmp_ge F.1 F.2.1 hd ht (fun h => kt h X p l e R s m args below meth c A cells slots Q F hr oL oS.tl.tl H locs ls hl hW hS) (fun h => kf h X p l e R s m args below meth c A cells slots Q F hr oL oS.tl.tl H locs ls hl hW hS)
theorem g_if_gt {x : Int32} {off : Int} {tgt : Nat} (hd : At y.2.1 pc (.ifCond .gt off) 3 n) (ht : (pc : Int) + off = (tgt : Int)) (kt : 0 < x → Go y tgt L st σ V S) (kf : ¬ 0 < x → Go y n L st σ V S) : Go y pc L (.inl x :: st) σ V S := by
  obtain ⟨hd, rfl⟩ := hd
  intro X p l e R s m args below meth c A cells slots Q F hr oL oS H locs ls hl hW hS
  exact lv_if_gt F.1 F.2.1 hd ht (fun h => kt h X p l e R s m args below meth c A cells slots Q F hr oL oS.tl H locs ls hl hW hS) (fun h => kf h X p l e R s m args below meth c A cells slots Q F hr oL oS.tl H locs ls hl hW hS)
theorem g_icmp_gt {x z : Int32} {off : Int} {tgt : Nat} (hd : At y.2.1 pc (.if_icmp .gt off) 3 n) (ht : (pc : Int) + off = (tgt : Int)) (kt : z < x → Go y tgt L st σ V S) (kf : ¬ z < x → Go y n L st σ V S) : Go y pc L (.inl z :: .inl x :: st) σ V S := by
  obtain ⟨hd, rfl⟩ := hd
  intro X p l e R s m args below meth c A cells slots Q F hr oL oS H locs ls hl hW hS
  exact lv_icmp_gt F.1 F.2.1 hd ht (fun h => kt h X p l e R s m args below meth c A cells slots Q F hr oL oS.tl.tl H locs ls hl hW hS) (fun h => kf h X p l e R s m args below meth c A cells slots Q F hr oL oS.tl.tl H locs ls hl hW hS)
theorem g_if_le {x : Int32} {off : Int} {tgt : Nat} (hd : At y.2.1 pc (.ifCond .le off) 3 n) (ht : (pc : Int) + off = (tgt : Int)) (kt : x ≤ 0 → Go y tgt L st σ V S) (kf : ¬ x ≤ 0 → Go y n L st σ V S) : Go y pc L (.inl x :: st) σ V S := by
  obtain ⟨hd, rfl⟩ := hd
  intro X p l e R s m args below meth c A cells slots Q F hr oL oS H locs ls hl hW hS
  exact lv_if_le F.1 F.2.1 hd ht (fun h => kt h X p l e R s m args below meth c A cells slots Q F hr oL oS.tl H locs ls hl hW hS) (fun h => kf h X p l e R s m args below meth c A cells slots Q F hr oL oS.tl H locs ls hl hW hS)
theorem g_icmp_le {x z : Int32} {off : Int} {tgt : Nat} (hd : At y.2.1 pc (.if_icmp .le off) 3 n) (ht : (pc : Int) + off = (tgt : Int)) (kt : x ≤ z → Go y tgt L st σ V S) (kf : ¬ x ≤ z → Go y n L st σ V S) : Go y pc L (.inl z :: .inl x :: st) σ V S := by
  obtain ⟨hd, rfl⟩ := hd
  intro X p l e R s m args below meth c A cells slots Q F hr oL oS H locs ls hl hW hS
  exact lv_icmp_le F.1 F.2.1 hd ht (fun h => kt h X p l e R s m args below meth c A cells slots Q F hr oL oS.tl.tl H locs ls hl hW hS) (fun h => kf h X p l e R s m args below meth c A cells slots Q F hr oL oS.tl.tl H locs ls hl hW hS)
theorem g_goto {off : Int} {tgt : Nat} (hd : At y.2.1 pc (.goto off) 3 n) (ht : (pc : Int) + off = (tgt : Int)) (k : Go y tgt L st σ V S) : Go y pc L st σ V S := by
  obtain ⟨hd, rfl⟩ := hd
  intro X p l e R s m args below meth c A cells slots Q F hr oL oS H locs ls hl hW hS
  exact lv_goto F.1 F.2.1 hd ht (k X p l e R s m args below meth c A cells slots Q F hr oL oS H locs ls hl hW hS)
theorem g_tsOut {dflt lo hi : Int} {offs : Array Int} {len : Nat} {x : Int32} {tgt : Nat} (hd : At y.2.1 pc (.tableswitch dflt lo hi offs) len n) (h : x.toInt < lo ∨ hi < x.toInt) (ht : (pc : Int) + dflt = (tgt : Int)) (k : Go y tgt L st σ V S) : Go y pc L (.inl x :: st) σ V S := by
  obtain ⟨hd, rfl⟩ := hd
  intro X p l e R s m args below meth c A cells slots Q F hr oL oS H locs ls hl hW hS
  exact lv_tableOut F.1 F.2.1 hd h ht (k X p l e R s m args below meth c A cells slots Q F hr oL oS.tl H locs ls hl hW hS)
theorem g_tsIn {dflt lo hi : Int} {offs : Array Int} {len : Nat} {x : Int32} {off : Int} {tgt : Nat} (hd : At y.2.1 pc (.tableswitch dflt lo hi offs) len n) (h1 : ¬ x.toInt < lo) (h2 : ¬ hi < x.toInt) (ho : offs[(x.toInt - lo).toNat]? = some off) (ht : (pc : Int) + off = (tgt : Int)) (k : Go y tgt L st σ V S) : Go y pc L (.inl x :: st) σ V S := by
  obtain ⟨hd, rfl⟩ := hd
  intro X p l e R s m args below meth c A cells slots Q F hr oL oS H locs ls hl hW hS
  exact lv_tableIn F.1 F.2.1 hd h1 h2 ho ht (k X p l e R s m args below meth c A cells slots Q F hr oL oS.tl H locs ls hl hW hS)
theorem g_lsw {dflt : Int} {ps : Array (Int × Int)} {len : Nat} {x : Int32} {off : Int} {tgt : Nat} (hd : At y.2.1 pc (.lookupswitch dflt ps) len n) (hp : (ps.toList.zip (ps.toList.drop 1)).all (fun (a, next) => a.1 < next.1) = true) (ho : Op.lookupswitch.offset ps.toList dflt x.toInt = off) (ht : (pc : Int) + off = (tgt : Int)) (k : Go y tgt L st σ V S) : Go y pc L (.inl x :: st) σ V S := by
  obtain ⟨hd, rfl⟩ := hd
  intro X p l e R s m args below meth c A cells slots Q F hr oL oS H locs ls hl hW hS
  exact lv_lookup F.1 F.2.1 hd hp ho ht (k X p l e R s m args below meth c A cells slots Q F hr oL oS.tl H locs ls hl hW hS)
end RULES2
/-! the heap -/
/-- a field of a class of ours, linked from a class: its words -/
def FS (own : String) (idx c j : Nat) : Prop := ∃ (C : String) (T : u_T), classes[c]? = some (C, T, nf c) ∧ j < nf c ∧ c < 12 ∧ (∀ w ∈ u_ws C T (nf c), w ∈ gt) ∧ Cond.fieldLink own idx C (T j).2.1 (T j).2.2.1 ∈ gt ∧ (T j).1 = C
/-- it may be put: a number of a kind -/
def PS (c j : Nat) (ty : FieldType) : Prop := ∃ (C : String) (T : u_T) (t0 : Nat → FieldType), classes[c]? = some (C, T, nf c) ∧ (T j).2.2.2 = false ∧ parseFieldDescriptor (T j).2.2.1 = some ty ∧ (∀ k, k < nf c → parseFieldDescriptor (T k).2.2.1 = some (t0 k)) ∧ (∀ a, a < nf c → ∀ b, b < nf c → a ≠ b → (T a).2.1 ≠ (T b).2.1)
/-- a row of the memory anew -/
def sA (σ : Mem) (c k : Nat) (f : Nat → Int32) : Mem := (fun c' k' => if c' = c ∧ k' = k then f else σ.1 c' k', σ.2)
def sI (σ : Mem) (c k j : Nat) (x : Int32) : Mem := sA σ c k (upd (σ.1 c k) j x)
def sL (σ : Mem) (c k j : Nat) (x : Int64) : Mem := (σ.1, fun c' k' => if c' = c ∧ k' = k then vp_updL (σ.2 c k) j x else σ.2 c' k')
theorem sA_at (σ : Mem) (c k : Nat) (f : Nat → Int32) : (sA σ c k f).1 c k = f := by simp [sA]
theorem sA_off {σ : Mem} {c k c' k' : Nat} {f : Nat → Int32} (h : ¬ (c' = c ∧ k' = k)) : (sA σ c k f).1 c' k' = σ.1 c' k' := by simp only [sA, if_neg h]
theorem sA_2 (σ : Mem) (c k : Nat) (f : Nat → Int32) : (sA σ c k f).2 = σ.2 := rfl
theorem fav_off {σ σ' : Mem} {c k j : Nat} (h1 : σ'.1 c k = σ.1 c k) (h2 : σ'.2 c k = σ.2 c k) : fav σ' c k j = fav σ c k j := by
  unfold fav
  rw [h1, h2]
theorem acell_off {X : Kx} {σ σ' : Mem} {c k : Nat} (h1 : σ'.1 c k = σ.1 c k) (h2 : σ'.2 c k = σ.2 c k) : acell X σ' c k = acell X σ c k := by
  unfold acell
  rw [h1]
  congr 3
  exact List.map_congr_left (fun j _ => by rw [fav_off h1 h2])
theorem cl_in {X : Kx} {c k : Nat} (h : okA X (.inr (.inr (c, k)))) (hc : c ∈ kds) : ∃ i : Nat, (Klx X)[i]? = some (c, k) := List.getElem?_of_mem (h.in hc)
section HEAP
variable {y : MI} {pc n : Nat} {L : List (Option AV)} {st : List AV} {σ S : Mem} {V : Option AV}
theorem kds_lt {c : Nat} (h : c < 12) : c ∈ kds := by
  unfold kds
  simp only [List.mem_cons]
  omega
theorem g_getf {cc k idx j : Nat} {v : AV} (hd : At y.2.1 pc (.getfield idx) 3 n) (hf : FS y.1.cls idx cc j) (hv : fav σ cc k j = v) (kk : Go y n L (v :: st) σ V S) : Go y pc L (.inr (.inr (cc, k)) :: st) σ V S := by
  obtain ⟨hd, rfl⟩ := hd
  intro X p l e R s m args below meth c A cells slots Q F hr oL oS H locs ls hl hW hS
  obtain ⟨C, T, hc, hj, h12, hin, hw, hT⟩ := hf
  have hk := oS.hd
  obtain ⟨i, hi⟩ := cl_in hk (kds_lt h12)
  have hcell : (wl X σ)[i]? = some (Kad X cc k, .inr (cc, (List.range (nf cc)).map fun j => cv (Kad X) (fav σ cc k j))) := by
    rw [wl_at hi]
    simp [acell, h12]
  refine va_get (D := X.1) (ci := cc) (v := cv (Kad X) v) (C := C) (T := T) (N := nf cc) F.1 F.2.1 F.2.2.2.2.1 hin F.2.2.2.1 F.2.2.2.2.2.1 hW.1 i hcell hc j hj (F.2.2.2.2.1 _ hw) (fun _ h9 => by rw [← hT]; exact h9) ?_ hd (kk X p l e R s m args below meth c A cells slots Q F hr oL (oS.tl.cons (by rw [← hv]; exact F.2.2.2.2.2.2.1.1.2.2 _ (hk.in (kds_lt h12)) _ _ _)) H locs ls hl hW hS)
  rw [List.getElem?_map, List.getElem?_range hj, ← hv]
  rfl
theorem Wd_of {X : Kx} {σ σ' : Mem} {H H1 : Heap} (hW : Wd X σ H) (h : va_P X.1 classes (wl X σ') H1) (h1 : σ'.1 24 = σ.1 24) : Wd X σ' H1 := ⟨h, by rw [h1]; exact hW.2.1, by rw [h1]; exact hW.2.2⟩
theorem put_go {X : Kx} {p : Program} {l : Launch} {e : Env} {R : Room} {s : State} {m : MethodId} {args : Array Value} {below : List Frame} {meth : Method} {c : Code} {A : Nat → Prop} {cells slots : Nat} {Q : State → Prop} {H : Heap} {locs : List Loc} {ls : Array Slot} {rest : List Value}
    (F : Fr y X p R s m args meth c A cells slots) {cc k idx j : Nat} {ty : FieldType} {v : Value} {σ' : Mem} (hd : decode y.2.1 pc = .ok (.putfield idx, 3)) (hf : FS y.1.cls idx cc j) (hp : PS cc j ty) (hk : okA X (.inr (.inr (cc, k)))) (hn : narrow ty v = v) (hfit : fits ty v = true)
    (ho : ∀ q, q ≠ (cc, k) → σ'.1 q.1 q.2 = σ.1 q.1 q.2 ∧ σ'.2 q.1 q.2 = σ.2 q.1 q.2) (hv : ∀ i, cv (Kad X) (fav σ' cc k i) = if i = j then v else cv (Kad X) (fav σ cc k i))
    (hW : Wd X σ H) (hS : va_S A s.heap H locs) (kk : ∀ (H1 : Heap) (locs1 : List Loc), Wd X σ' H1 → va_S A s.heap H1 locs1 → W p l e R s m args below meth c H1 locs1 cells slots Q (F0 m (pc + 3) ls rest)) : W p l e R s m args below meth c H locs cells slots Q (F0 m pc ls (v :: .ref (Kad X cc k) :: rest)) := by
  obtain ⟨C, T, hc, hj, h12, hin, hw, hT⟩ := hf
  obtain ⟨C', T', t0, hc', hfin, hty, hall, hnm⟩ := hp
  cases hc.symm.trans hc'
  obtain ⟨i, hi⟩ := cl_in hk (kds_lt h12)
  have hcell : (wl X σ)[i]? = some (Kad X cc k, .inr (cc, (List.range (nf cc)).map fun j => cv (Kad X) (fav σ cc k j))) := by
    rw [wl_at hi]
    simp [acell, h12]
  refine va_put (D := X.1) (ci := cc) (v := v) (ty := ty) (C := C) (T := T) (N := nf cc) F.1 F.2.1 F.2.2.2.2.1 hin t0 hall hnm F.2.2.2.1 F.2.2.2.2.2.1 hW.1 (wl_D F.2.2.2.2.2.2.1.1 F.2.2.2.2.2.2.1.2 F.2.2.2.2.2.2.2.1) hS i hcell hc j hj (F.2.2.2.2.1 _ hw) (fun _ h9 => by rw [← hT]; exact h9) hfin hty hn hfit (by rw [List.length_map, List.length_range]; exact hj) hd (fun H1 locs1 hP1 _ hS1 => kk H1 locs1 (Wd_of hW ?_ ?_) hS1)
  · have e : acell X σ' cc k = .inr (cc, ((List.range (nf cc)).map fun j => cv (Kad X) (fav σ cc k j)).set j v) := by
      simp only [acell, h12, if_true]
      congr 2
      apply List.ext_getElem?
      intro q
      rw [List.getElem?_set, List.getElem?_map, List.getElem?_map, List.length_map, List.length_range]
      by_cases hq : q < nf cc
      · rw [List.getElem?_range hq]
        show some (cv (Kad X) (fav σ' cc k q)) = _
        rw [hv q]
        by_cases z : q = j
        · subst z
          simp [hq]
        · have z2 : ¬ j = q := fun t => z t.symm
          simp [z, z2]
      · have hq2 : (List.range (nf cc))[q]? = none := by simp; omega
        rw [hq2]
        have z2 : ¬ j = q := fun t => hq (t ▸ hj)
        simp [z2]
    rw [← wl_set F.2.2.2.2.2.2.1.1 hi (fun q _ hq => acell_off (ho q hq).1 (ho q hq).2), e]
    exact hP1
  · funext q
    exact (ho (24, q) (fun z => by cases z; exact absurd h12 (by decide))).1
end HEAP
