/-! words for decompiled runs -/
def ck {α : Type} (b : Bool) (k : Option α) : Option α := match b with
  | true => k
  | false => none
def bnd {α β : Type} (o : Option α) (k : α → Option β) : Option β := match o with
  | some a => k a
  | none => none
def lt {α β : Type} (a : α) (k : α → β) : β := k a
def sm {α β γ : Type} (o : α ⊕ β) (f : α → γ) (g : β → γ) : γ := match o with
  | .inl a => f a
  | .inr b => g b
def inb (i : Int32) (n : Nat) : Bool := decide (¬ (i < 0 ∨ n ≤ i.toNatClampNeg))
theorem ck_inv {α : Type} {b : Bool} {k : Option α} {r : α} (h : ck b k = some r) : b = true ∧ k = some r := by
  cases b with
  | true => exact ⟨rfl, h⟩
  | false => cases h
theorem bnd_inv {α β : Type} {o : Option α} {k : α → Option β} {r : β} (h : bnd o k = some r) : ∃ w, o = some w ∧ k w = some r := by
  cases o with
  | some a => exact ⟨a, rfl, h⟩
  | none => cases h
theorem lt_inv {α β : Type} {a : α} {k : α → β} {r : β} (h : lt a k = r) : ∃ w, a = w ∧ k w = r := ⟨a, rfl, h⟩
theorem sm_l {α β γ : Type} {u : α} {f : α → γ} {g : β → γ} {r : γ} (h : sm (.inl u) f g = r) : f u = r := h
theorem sm_r {α β γ : Type} {u : β} {f : α → γ} {g : β → γ} {r : γ} (h : sm (.inr u) f g = r) : g u = r := h
theorem inb_ok {i : Int32} {n : Nat} (h : inb i n = true) : vp_in i n := by
  simp only [inb, decide_eq_true_eq] at h
  exact h
theorem rI20 (k : Nat) : rI 20 k := ⟨by decide, by decide, fun h => absurd h.1 (by decide)⟩
theorem rI21 (k : Nat) : rI 21 k := ⟨by decide, by decide, fun h => absurd h.1 (by decide)⟩
theorem rI22 {k : Nat} (h : ¬ k = 2) : rI 22 k := ⟨by decide, by decide, fun q => h q.2⟩
section WRAP
variable {y z : MI} {pc n idx cc k : Nat} {L : List (Option AV)} {st : List AV} {σ σ1 S : Mem} {V : Option AV}
theorem g_V0s {v1 : AV} (hd : At y.2.1 pc (.invokevirtual idx) 3 n) (hc : CV y.1.cls idx z 0 cc) (hE : Ev z (.inr (.inr (cc, k)) :: []) σ (some v1) σ1) (hq : szOK y z [] st 1 = true) (kk : vok z.2.2.2.1 (some v1) → Go y n L (v1 :: st) σ1 V S) : Go y pc L (.inr (.inr (cc, k)) :: st) σ V S :=
  g_callV (As := []) hd hc hE rfl (szOK_use hq).1 (szOK_use hq).2.1 (szOK_use hq).2.2 kk
theorem g_V0n (hd : At y.2.1 pc (.invokevirtual idx) 3 n) (hc : CV y.1.cls idx z 0 cc) (hE : Ev z (.inr (.inr (cc, k)) :: []) σ none σ1) (hq : szOK y z [] st 1 = true) (kk : vok z.2.2.2.1 none → Go y n L (st) σ1 V S) : Go y pc L (.inr (.inr (cc, k)) :: st) σ V S :=
  g_callV (As := []) hd hc hE rfl (szOK_use hq).1 (szOK_use hq).2.1 (szOK_use hq).2.2 kk
theorem g_V1s {a0 : AV} {v1 : AV} (hd : At y.2.1 pc (.invokevirtual idx) 3 n) (hc : CV y.1.cls idx z 1 cc) (hE : Ev z (.inr (.inr (cc, k)) :: [a0]) σ (some v1) σ1) (hq : szOK y z [a0] st 1 = true) (kk : vok z.2.2.2.1 (some v1) → Go y n L (v1 :: st) σ1 V S) : Go y pc L (a0 :: .inr (.inr (cc, k)) :: st) σ V S :=
  g_callV (As := [a0]) hd hc hE rfl (szOK_use hq).1 (szOK_use hq).2.1 (szOK_use hq).2.2 kk
theorem g_V1n {a0 : AV} (hd : At y.2.1 pc (.invokevirtual idx) 3 n) (hc : CV y.1.cls idx z 1 cc) (hE : Ev z (.inr (.inr (cc, k)) :: [a0]) σ none σ1) (hq : szOK y z [a0] st 1 = true) (kk : vok z.2.2.2.1 none → Go y n L (st) σ1 V S) : Go y pc L (a0 :: .inr (.inr (cc, k)) :: st) σ V S :=
  g_callV (As := [a0]) hd hc hE rfl (szOK_use hq).1 (szOK_use hq).2.1 (szOK_use hq).2.2 kk
theorem g_V2s {a0 a1 : AV} {v1 : AV} (hd : At y.2.1 pc (.invokevirtual idx) 3 n) (hc : CV y.1.cls idx z 2 cc) (hE : Ev z (.inr (.inr (cc, k)) :: [a0, a1]) σ (some v1) σ1) (hq : szOK y z [a0, a1] st 1 = true) (kk : vok z.2.2.2.1 (some v1) → Go y n L (v1 :: st) σ1 V S) : Go y pc L (a1 :: a0 :: .inr (.inr (cc, k)) :: st) σ V S :=
  g_callV (As := [a0, a1]) hd hc hE rfl (szOK_use hq).1 (szOK_use hq).2.1 (szOK_use hq).2.2 kk
theorem g_V2n {a0 a1 : AV} (hd : At y.2.1 pc (.invokevirtual idx) 3 n) (hc : CV y.1.cls idx z 2 cc) (hE : Ev z (.inr (.inr (cc, k)) :: [a0, a1]) σ none σ1) (hq : szOK y z [a0, a1] st 1 = true) (kk : vok z.2.2.2.1 none → Go y n L (st) σ1 V S) : Go y pc L (a1 :: a0 :: .inr (.inr (cc, k)) :: st) σ V S :=
  g_callV (As := [a0, a1]) hd hc hE rfl (szOK_use hq).1 (szOK_use hq).2.1 (szOK_use hq).2.2 kk
theorem g_V3s {a0 a1 a2 : AV} {v1 : AV} (hd : At y.2.1 pc (.invokevirtual idx) 3 n) (hc : CV y.1.cls idx z 3 cc) (hE : Ev z (.inr (.inr (cc, k)) :: [a0, a1, a2]) σ (some v1) σ1) (hq : szOK y z [a0, a1, a2] st 1 = true) (kk : vok z.2.2.2.1 (some v1) → Go y n L (v1 :: st) σ1 V S) : Go y pc L (a2 :: a1 :: a0 :: .inr (.inr (cc, k)) :: st) σ V S :=
  g_callV (As := [a0, a1, a2]) hd hc hE rfl (szOK_use hq).1 (szOK_use hq).2.1 (szOK_use hq).2.2 kk
theorem g_V3n {a0 a1 a2 : AV} (hd : At y.2.1 pc (.invokevirtual idx) 3 n) (hc : CV y.1.cls idx z 3 cc) (hE : Ev z (.inr (.inr (cc, k)) :: [a0, a1, a2]) σ none σ1) (hq : szOK y z [a0, a1, a2] st 1 = true) (kk : vok z.2.2.2.1 none → Go y n L (st) σ1 V S) : Go y pc L (a2 :: a1 :: a0 :: .inr (.inr (cc, k)) :: st) σ V S :=
  g_callV (As := [a0, a1, a2]) hd hc hE rfl (szOK_use hq).1 (szOK_use hq).2.1 (szOK_use hq).2.2 kk
theorem g_V4s {a0 a1 a2 a3 : AV} {v1 : AV} (hd : At y.2.1 pc (.invokevirtual idx) 3 n) (hc : CV y.1.cls idx z 4 cc) (hE : Ev z (.inr (.inr (cc, k)) :: [a0, a1, a2, a3]) σ (some v1) σ1) (hq : szOK y z [a0, a1, a2, a3] st 1 = true) (kk : vok z.2.2.2.1 (some v1) → Go y n L (v1 :: st) σ1 V S) : Go y pc L (a3 :: a2 :: a1 :: a0 :: .inr (.inr (cc, k)) :: st) σ V S :=
  g_callV (As := [a0, a1, a2, a3]) hd hc hE rfl (szOK_use hq).1 (szOK_use hq).2.1 (szOK_use hq).2.2 kk
theorem g_V4n {a0 a1 a2 a3 : AV} (hd : At y.2.1 pc (.invokevirtual idx) 3 n) (hc : CV y.1.cls idx z 4 cc) (hE : Ev z (.inr (.inr (cc, k)) :: [a0, a1, a2, a3]) σ none σ1) (hq : szOK y z [a0, a1, a2, a3] st 1 = true) (kk : vok z.2.2.2.1 none → Go y n L (st) σ1 V S) : Go y pc L (a3 :: a2 :: a1 :: a0 :: .inr (.inr (cc, k)) :: st) σ V S :=
  g_callV (As := [a0, a1, a2, a3]) hd hc hE rfl (szOK_use hq).1 (szOK_use hq).2.1 (szOK_use hq).2.2 kk
theorem g_V5s {a0 a1 a2 a3 a4 : AV} {v1 : AV} (hd : At y.2.1 pc (.invokevirtual idx) 3 n) (hc : CV y.1.cls idx z 5 cc) (hE : Ev z (.inr (.inr (cc, k)) :: [a0, a1, a2, a3, a4]) σ (some v1) σ1) (hq : szOK y z [a0, a1, a2, a3, a4] st 1 = true) (kk : vok z.2.2.2.1 (some v1) → Go y n L (v1 :: st) σ1 V S) : Go y pc L (a4 :: a3 :: a2 :: a1 :: a0 :: .inr (.inr (cc, k)) :: st) σ V S :=
  g_callV (As := [a0, a1, a2, a3, a4]) hd hc hE rfl (szOK_use hq).1 (szOK_use hq).2.1 (szOK_use hq).2.2 kk
theorem g_V5n {a0 a1 a2 a3 a4 : AV} (hd : At y.2.1 pc (.invokevirtual idx) 3 n) (hc : CV y.1.cls idx z 5 cc) (hE : Ev z (.inr (.inr (cc, k)) :: [a0, a1, a2, a3, a4]) σ none σ1) (hq : szOK y z [a0, a1, a2, a3, a4] st 1 = true) (kk : vok z.2.2.2.1 none → Go y n L (st) σ1 V S) : Go y pc L (a4 :: a3 :: a2 :: a1 :: a0 :: .inr (.inr (cc, k)) :: st) σ V S :=
  g_callV (As := [a0, a1, a2, a3, a4]) hd hc hE rfl (szOK_use hq).1 (szOK_use hq).2.1 (szOK_use hq).2.2 kk
theorem g_V6s {a0 a1 a2 a3 a4 a5 : AV} {v1 : AV} (hd : At y.2.1 pc (.invokevirtual idx) 3 n) (hc : CV y.1.cls idx z 6 cc) (hE : Ev z (.inr (.inr (cc, k)) :: [a0, a1, a2, a3, a4, a5]) σ (some v1) σ1) (hq : szOK y z [a0, a1, a2, a3, a4, a5] st 1 = true) (kk : vok z.2.2.2.1 (some v1) → Go y n L (v1 :: st) σ1 V S) : Go y pc L (a5 :: a4 :: a3 :: a2 :: a1 :: a0 :: .inr (.inr (cc, k)) :: st) σ V S :=
  g_callV (As := [a0, a1, a2, a3, a4, a5]) hd hc hE rfl (szOK_use hq).1 (szOK_use hq).2.1 (szOK_use hq).2.2 kk
theorem g_V6n {a0 a1 a2 a3 a4 a5 : AV} (hd : At y.2.1 pc (.invokevirtual idx) 3 n) (hc : CV y.1.cls idx z 6 cc) (hE : Ev z (.inr (.inr (cc, k)) :: [a0, a1, a2, a3, a4, a5]) σ none σ1) (hq : szOK y z [a0, a1, a2, a3, a4, a5] st 1 = true) (kk : vok z.2.2.2.1 none → Go y n L (st) σ1 V S) : Go y pc L (a5 :: a4 :: a3 :: a2 :: a1 :: a0 :: .inr (.inr (cc, k)) :: st) σ V S :=
  g_callV (As := [a0, a1, a2, a3, a4, a5]) hd hc hE rfl (szOK_use hq).1 (szOK_use hq).2.1 (szOK_use hq).2.2 kk
theorem g_V7s {a0 a1 a2 a3 a4 a5 a6 : AV} {v1 : AV} (hd : At y.2.1 pc (.invokevirtual idx) 3 n) (hc : CV y.1.cls idx z 7 cc) (hE : Ev z (.inr (.inr (cc, k)) :: [a0, a1, a2, a3, a4, a5, a6]) σ (some v1) σ1) (hq : szOK y z [a0, a1, a2, a3, a4, a5, a6] st 1 = true) (kk : vok z.2.2.2.1 (some v1) → Go y n L (v1 :: st) σ1 V S) : Go y pc L (a6 :: a5 :: a4 :: a3 :: a2 :: a1 :: a0 :: .inr (.inr (cc, k)) :: st) σ V S :=
  g_callV (As := [a0, a1, a2, a3, a4, a5, a6]) hd hc hE rfl (szOK_use hq).1 (szOK_use hq).2.1 (szOK_use hq).2.2 kk
theorem g_V7n {a0 a1 a2 a3 a4 a5 a6 : AV} (hd : At y.2.1 pc (.invokevirtual idx) 3 n) (hc : CV y.1.cls idx z 7 cc) (hE : Ev z (.inr (.inr (cc, k)) :: [a0, a1, a2, a3, a4, a5, a6]) σ none σ1) (hq : szOK y z [a0, a1, a2, a3, a4, a5, a6] st 1 = true) (kk : vok z.2.2.2.1 none → Go y n L (st) σ1 V S) : Go y pc L (a6 :: a5 :: a4 :: a3 :: a2 :: a1 :: a0 :: .inr (.inr (cc, k)) :: st) σ V S :=
  g_callV (As := [a0, a1, a2, a3, a4, a5, a6]) hd hc hE rfl (szOK_use hq).1 (szOK_use hq).2.1 (szOK_use hq).2.2 kk
theorem g_S0s {v1 : AV} (hd : At y.2.1 pc (.invokestatic idx) 3 n) (hc : CS y.1.cls idx z 0) (hE : Ev z ([]) σ (some v1) σ1) (hq : szOK y z [] st 0 = true) (kk : vok z.2.2.2.1 (some v1) → Go y n L (v1 :: st) σ1 V S) : Go y pc L (st) σ V S :=
  g_callS (As := []) hd hc hE rfl (szOK_use hq).1 (szOK_use hq).2.1 (szOK_use hq).2.2 kk
theorem g_S0n (hd : At y.2.1 pc (.invokestatic idx) 3 n) (hc : CS y.1.cls idx z 0) (hE : Ev z ([]) σ none σ1) (hq : szOK y z [] st 0 = true) (kk : vok z.2.2.2.1 none → Go y n L (st) σ1 V S) : Go y pc L (st) σ V S :=
  g_callS (As := []) hd hc hE rfl (szOK_use hq).1 (szOK_use hq).2.1 (szOK_use hq).2.2 kk
theorem g_S1s {a0 : AV} {v1 : AV} (hd : At y.2.1 pc (.invokestatic idx) 3 n) (hc : CS y.1.cls idx z 1) (hE : Ev z ([a0]) σ (some v1) σ1) (hq : szOK y z [a0] st 0 = true) (kk : vok z.2.2.2.1 (some v1) → Go y n L (v1 :: st) σ1 V S) : Go y pc L (a0 :: st) σ V S :=
  g_callS (As := [a0]) hd hc hE rfl (szOK_use hq).1 (szOK_use hq).2.1 (szOK_use hq).2.2 kk
theorem g_S1n {a0 : AV} (hd : At y.2.1 pc (.invokestatic idx) 3 n) (hc : CS y.1.cls idx z 1) (hE : Ev z ([a0]) σ none σ1) (hq : szOK y z [a0] st 0 = true) (kk : vok z.2.2.2.1 none → Go y n L (st) σ1 V S) : Go y pc L (a0 :: st) σ V S :=
  g_callS (As := [a0]) hd hc hE rfl (szOK_use hq).1 (szOK_use hq).2.1 (szOK_use hq).2.2 kk
theorem g_S2s {a0 a1 : AV} {v1 : AV} (hd : At y.2.1 pc (.invokestatic idx) 3 n) (hc : CS y.1.cls idx z 2) (hE : Ev z ([a0, a1]) σ (some v1) σ1) (hq : szOK y z [a0, a1] st 0 = true) (kk : vok z.2.2.2.1 (some v1) → Go y n L (v1 :: st) σ1 V S) : Go y pc L (a1 :: a0 :: st) σ V S :=
  g_callS (As := [a0, a1]) hd hc hE rfl (szOK_use hq).1 (szOK_use hq).2.1 (szOK_use hq).2.2 kk
theorem g_S2n {a0 a1 : AV} (hd : At y.2.1 pc (.invokestatic idx) 3 n) (hc : CS y.1.cls idx z 2) (hE : Ev z ([a0, a1]) σ none σ1) (hq : szOK y z [a0, a1] st 0 = true) (kk : vok z.2.2.2.1 none → Go y n L (st) σ1 V S) : Go y pc L (a1 :: a0 :: st) σ V S :=
  g_callS (As := [a0, a1]) hd hc hE rfl (szOK_use hq).1 (szOK_use hq).2.1 (szOK_use hq).2.2 kk
theorem g_S3s {a0 a1 a2 : AV} {v1 : AV} (hd : At y.2.1 pc (.invokestatic idx) 3 n) (hc : CS y.1.cls idx z 3) (hE : Ev z ([a0, a1, a2]) σ (some v1) σ1) (hq : szOK y z [a0, a1, a2] st 0 = true) (kk : vok z.2.2.2.1 (some v1) → Go y n L (v1 :: st) σ1 V S) : Go y pc L (a2 :: a1 :: a0 :: st) σ V S :=
  g_callS (As := [a0, a1, a2]) hd hc hE rfl (szOK_use hq).1 (szOK_use hq).2.1 (szOK_use hq).2.2 kk
theorem g_S3n {a0 a1 a2 : AV} (hd : At y.2.1 pc (.invokestatic idx) 3 n) (hc : CS y.1.cls idx z 3) (hE : Ev z ([a0, a1, a2]) σ none σ1) (hq : szOK y z [a0, a1, a2] st 0 = true) (kk : vok z.2.2.2.1 none → Go y n L (st) σ1 V S) : Go y pc L (a2 :: a1 :: a0 :: st) σ V S :=
  g_callS (As := [a0, a1, a2]) hd hc hE rfl (szOK_use hq).1 (szOK_use hq).2.1 (szOK_use hq).2.2 kk
theorem g_S4s {a0 a1 a2 a3 : AV} {v1 : AV} (hd : At y.2.1 pc (.invokestatic idx) 3 n) (hc : CS y.1.cls idx z 4) (hE : Ev z ([a0, a1, a2, a3]) σ (some v1) σ1) (hq : szOK y z [a0, a1, a2, a3] st 0 = true) (kk : vok z.2.2.2.1 (some v1) → Go y n L (v1 :: st) σ1 V S) : Go y pc L (a3 :: a2 :: a1 :: a0 :: st) σ V S :=
  g_callS (As := [a0, a1, a2, a3]) hd hc hE rfl (szOK_use hq).1 (szOK_use hq).2.1 (szOK_use hq).2.2 kk
theorem g_S4n {a0 a1 a2 a3 : AV} (hd : At y.2.1 pc (.invokestatic idx) 3 n) (hc : CS y.1.cls idx z 4) (hE : Ev z ([a0, a1, a2, a3]) σ none σ1) (hq : szOK y z [a0, a1, a2, a3] st 0 = true) (kk : vok z.2.2.2.1 none → Go y n L (st) σ1 V S) : Go y pc L (a3 :: a2 :: a1 :: a0 :: st) σ V S :=
  g_callS (As := [a0, a1, a2, a3]) hd hc hE rfl (szOK_use hq).1 (szOK_use hq).2.1 (szOK_use hq).2.2 kk
theorem g_S5s {a0 a1 a2 a3 a4 : AV} {v1 : AV} (hd : At y.2.1 pc (.invokestatic idx) 3 n) (hc : CS y.1.cls idx z 5) (hE : Ev z ([a0, a1, a2, a3, a4]) σ (some v1) σ1) (hq : szOK y z [a0, a1, a2, a3, a4] st 0 = true) (kk : vok z.2.2.2.1 (some v1) → Go y n L (v1 :: st) σ1 V S) : Go y pc L (a4 :: a3 :: a2 :: a1 :: a0 :: st) σ V S :=
  g_callS (As := [a0, a1, a2, a3, a4]) hd hc hE rfl (szOK_use hq).1 (szOK_use hq).2.1 (szOK_use hq).2.2 kk
theorem g_S5n {a0 a1 a2 a3 a4 : AV} (hd : At y.2.1 pc (.invokestatic idx) 3 n) (hc : CS y.1.cls idx z 5) (hE : Ev z ([a0, a1, a2, a3, a4]) σ none σ1) (hq : szOK y z [a0, a1, a2, a3, a4] st 0 = true) (kk : vok z.2.2.2.1 none → Go y n L (st) σ1 V S) : Go y pc L (a4 :: a3 :: a2 :: a1 :: a0 :: st) σ V S :=
  g_callS (As := [a0, a1, a2, a3, a4]) hd hc hE rfl (szOK_use hq).1 (szOK_use hq).2.1 (szOK_use hq).2.2 kk
theorem g_S6s {a0 a1 a2 a3 a4 a5 : AV} {v1 : AV} (hd : At y.2.1 pc (.invokestatic idx) 3 n) (hc : CS y.1.cls idx z 6) (hE : Ev z ([a0, a1, a2, a3, a4, a5]) σ (some v1) σ1) (hq : szOK y z [a0, a1, a2, a3, a4, a5] st 0 = true) (kk : vok z.2.2.2.1 (some v1) → Go y n L (v1 :: st) σ1 V S) : Go y pc L (a5 :: a4 :: a3 :: a2 :: a1 :: a0 :: st) σ V S :=
  g_callS (As := [a0, a1, a2, a3, a4, a5]) hd hc hE rfl (szOK_use hq).1 (szOK_use hq).2.1 (szOK_use hq).2.2 kk
theorem g_S6n {a0 a1 a2 a3 a4 a5 : AV} (hd : At y.2.1 pc (.invokestatic idx) 3 n) (hc : CS y.1.cls idx z 6) (hE : Ev z ([a0, a1, a2, a3, a4, a5]) σ none σ1) (hq : szOK y z [a0, a1, a2, a3, a4, a5] st 0 = true) (kk : vok z.2.2.2.1 none → Go y n L (st) σ1 V S) : Go y pc L (a5 :: a4 :: a3 :: a2 :: a1 :: a0 :: st) σ V S :=
  g_callS (As := [a0, a1, a2, a3, a4, a5]) hd hc hE rfl (szOK_use hq).1 (szOK_use hq).2.1 (szOK_use hq).2.2 kk
theorem g_S7s {a0 a1 a2 a3 a4 a5 a6 : AV} {v1 : AV} (hd : At y.2.1 pc (.invokestatic idx) 3 n) (hc : CS y.1.cls idx z 7) (hE : Ev z ([a0, a1, a2, a3, a4, a5, a6]) σ (some v1) σ1) (hq : szOK y z [a0, a1, a2, a3, a4, a5, a6] st 0 = true) (kk : vok z.2.2.2.1 (some v1) → Go y n L (v1 :: st) σ1 V S) : Go y pc L (a6 :: a5 :: a4 :: a3 :: a2 :: a1 :: a0 :: st) σ V S :=
  g_callS (As := [a0, a1, a2, a3, a4, a5, a6]) hd hc hE rfl (szOK_use hq).1 (szOK_use hq).2.1 (szOK_use hq).2.2 kk
theorem g_S7n {a0 a1 a2 a3 a4 a5 a6 : AV} (hd : At y.2.1 pc (.invokestatic idx) 3 n) (hc : CS y.1.cls idx z 7) (hE : Ev z ([a0, a1, a2, a3, a4, a5, a6]) σ none σ1) (hq : szOK y z [a0, a1, a2, a3, a4, a5, a6] st 0 = true) (kk : vok z.2.2.2.1 none → Go y n L (st) σ1 V S) : Go y pc L (a6 :: a5 :: a4 :: a3 :: a2 :: a1 :: a0 :: st) σ V S :=
  g_callS (As := [a0, a1, a2, a3, a4, a5, a6]) hd hc hE rfl (szOK_use hq).1 (szOK_use hq).2.1 (szOK_use hq).2.2 kk
theorem g_T0s {v1 : AV} (hd : At y.2.1 pc (.invokevirtual idx) 3 n) (hc : CT y.1.cls idx z 0) (hE : Ev z (.inr (.inr (12, k)) :: []) σ (some v1) σ1) (hq : szOK y z [] st 1 = true) (kk : vok z.2.2.2.1 (some v1) → Go y n L (v1 :: st) σ1 V S) : Go y pc L (.inr (.inr (12, k)) :: st) σ V S :=
  g_callT (As := []) hd hc hE rfl (szOK_use hq).1 (szOK_use hq).2.1 (szOK_use hq).2.2 kk
theorem g_T1s {a0 : AV} {v1 : AV} (hd : At y.2.1 pc (.invokevirtual idx) 3 n) (hc : CT y.1.cls idx z 1) (hE : Ev z (.inr (.inr (12, k)) :: [a0]) σ (some v1) σ1) (hq : szOK y z [a0] st 1 = true) (kk : vok z.2.2.2.1 (some v1) → Go y n L (v1 :: st) σ1 V S) : Go y pc L (a0 :: .inr (.inr (12, k)) :: st) σ V S :=
  g_callT (As := [a0]) hd hc hE rfl (szOK_use hq).1 (szOK_use hq).2.1 (szOK_use hq).2.2 kk
theorem g_ldcS {q : Nat} (hy : y.1.cls = RX8) (hd : At y.2.1 pc (.ldc (138 + 2 * q)) 2 n) (hq : q < 6) (k : Go y n L (.inr (.inr (12, q)) :: st) σ V S) : Go y pc L st σ V S := by
  obtain ⟨hd, rfl⟩ := hd
  intro X p l e R s m args below meth c A cells slots Q F hr oL oS H locs ls hl hW hS
  have hown := F.2.2.2.1
  rw [hy] at hown
  exact va_ldcS F.1 F.2.1 hown (F.2.2.2.2.2.2.2.2.1.2.2.1 q hq) hd (k X p l e R s m args below meth c A cells slots Q F hr oL (oS.cons (by simp only [okA, show ¬ (12 ∈ kds) from by decide, if_false]; exact hq)) H locs ls hl hW hS)
theorem g_W3s {a0 a1 a2 v1 : AV} (hy : y.1.cls = RX8) (hd : At y.2.1 pc (.invokestatic 88) 3 n) (hz : z.1 = yX10_within) (hM : MOK z) (hst : Cond.static z.1 ∈ gt) (hE : Ev z [a0, a1, a2] σ (some v1) σ1) (hq : szOK y z [a0, a1, a2] st 0 = true) (kk : vok z.2.2.2.1 (some v1) → Go y n L (v1 :: st) σ1 V S) : Go y pc L (a2 :: a1 :: a0 :: st) σ V S :=
  g_callW (As := [a0, a1, a2]) hy hd hz hM hst hE rfl (szOK_use hq).1 (szOK_use hq).2.1 (szOK_use hq).2.2 kk
end WRAP
theorem in_of {ws : List Cond} (h : ws.all (fun w => decide (w ∈ lw_tbl) && goodWord w) = true) : ∀ w ∈ ws, w ∈ gt := by
  intro w hw
  have h1 := List.all_eq_true.mp h w hw
  simp only [Bool.and_eq_true, decide_eq_true_eq] at h1
  exact gt_in h1.1 h1.2
theorem at_of {i : Nat} {w : Cond} (h : lw_tbl[i]? = some w) (hg : goodWord w = true) : w ∈ gt := gt_in (List.mem_of_getElem? h) hg
theorem in0 : ∀ w ∈ u_ws RX0 TX0 2, w ∈ gt := in_of (by decide +kernel)
theorem in1 : ∀ w ∈ u_ws RX1 TX1 2, w ∈ gt := in_of (by decide +kernel)
theorem in2 : ∀ w ∈ u_ws RX2 TX2 1, w ∈ gt := in_of (by decide +kernel)
theorem in3 : ∀ w ∈ u_ws RX3 TX3 0, w ∈ gt := in_of (by decide +kernel)
theorem in4 : ∀ w ∈ u_ws RX4 TX4 4, w ∈ gt := in_of (by decide +kernel)
theorem in5 : ∀ w ∈ u_ws RX5 TX5 5, w ∈ gt := in_of (by decide +kernel)
theorem in6 : ∀ w ∈ u_ws RX6 TX6 1, w ∈ gt := in_of (by decide +kernel)
theorem in7 : ∀ w ∈ u_ws RX7 TX7 4, w ∈ gt := in_of (by decide +kernel)
theorem in8 : ∀ w ∈ u_ws RX8 TX8 7, w ∈ gt := in_of (by decide +kernel)
theorem in9 : ∀ w ∈ u_ws RX9 TX9 8, w ∈ gt := in_of (by decide +kernel)
theorem in10 : ∀ w ∈ u_ws RX10 TX10 16, w ∈ gt := in_of (by decide +kernel)
theorem in11 : ∀ w ∈ u_ws RX11 TX11 19, w ∈ gt := in_of (by decide +kernel)
theorem t1_lw {w : Cond} (h : w ∈ tables_1) : w ∈ lw_tbl := List.mem_append_right _ h
theorem mt1 {j : Nat} {w : Cond} (e : tables_1_1[j]? = some w) (hg : goodWord w = true) : w ∈ gt := by
  have h := List.mem_of_getElem? e
  exact gt_in (t1_lw (List.mem_append_left _ h)) hg
theorem mt2 {j : Nat} {w : Cond} (e : tables_1_2[j]? = some w) (hg : goodWord w = true) : w ∈ gt := by
  have h := List.mem_of_getElem? e
  exact gt_in (t1_lw (List.mem_append_right _ (List.mem_append_left _ h))) hg
theorem mt3 {j : Nat} {w : Cond} (e : tables_1_3[j]? = some w) (hg : goodWord w = true) : w ∈ gt := by
  have h := List.mem_of_getElem? e
  exact gt_in (t1_lw (List.mem_append_right _ (List.mem_append_right _ (List.mem_append_left _ h)))) hg
theorem mt4 {j : Nat} {w : Cond} (e : tables_1_4[j]? = some w) (hg : goodWord w = true) : w ∈ gt := by
  have h := List.mem_of_getElem? e
  exact gt_in (t1_lw (List.mem_append_right _ (List.mem_append_right _ (List.mem_append_right _ (List.mem_append_left _ h))))) hg
theorem mt5 {j : Nat} {w : Cond} (e : tables_1_5[j]? = some w) (hg : goodWord w = true) : w ∈ gt := by
  have h := List.mem_of_getElem? e
  exact gt_in (t1_lw (List.mem_append_right _ (List.mem_append_right _ (List.mem_append_right _ (List.mem_append_right _ (List.mem_append_left _ h)))))) hg
theorem mt6 {j : Nat} {w : Cond} (e : tables_1_6[j]? = some w) (hg : goodWord w = true) : w ∈ gt := by
  have h := List.mem_of_getElem? e
  exact gt_in (t1_lw (List.mem_append_right _ (List.mem_append_right _ (List.mem_append_right _ (List.mem_append_right _ (List.mem_append_right _ (h))))))) hg
def mxI (x z : Int32) : Int32 := if x < z then z else x
def mnI (x z : Int32) : Int32 := if z < x then z else x
def abI (x : Int32) : Int32 := if 0 ≤ x then x else 0 - x
def CM (own : String) (idx : Nat) (nm : MethodName) (b : ByteArray) (na : Nat) : Prop := Cond.methodLink own idx nm ∈ gt ∧ Cond.static nm ∈ gt ∧ Cond.initialized "java/lang/Math" ∈ gt ∧ Cond.code nm b na (some .int) ∈ gt
def szM (y : MI) (st : List AV) : Bool := Nat.ble 1 y.2.2.2.2.1 && Nat.ble (cat1 st + 13) y.2.2.2.2.2
section MATH
variable {y : MI} {pc n idx : Nat} {L : List (Option AV)} {st : List AV} {σ S : Mem} {V : Option AV}
theorem g_max {x z : Int32} (hd : At y.2.1 pc (.invokestatic idx) 3 n) (hc : CM y.1.cls idx Lib.Math.max.name Lib.Math.max.code 2) (hq : szM y st = true) (k : Go y n L (.inl (mxI x z) :: st) σ V S) : Go y pc L (.inl z :: .inl x :: st) σ V S := by
  obtain ⟨hd, rfl⟩ := hd
  intro X p l e R s m args below meth c A cells slots Q F hr oL oS H locs ls hl hW hS
  simp only [szM, Bool.and_eq_true] at hq
  have hts := F.2.2.2.2.1
  exact va_mmax F.1 F.2.1 (by rw [F.2.2.1]; exact hl.1.symm) F.2.2.2.1 (hts _ hc.1) (hts _ hc.2.1) (hts _ hc.2.2.1) (hts _ hc.2.2.2) (Nat.le_trans (Nat.le_of_ble_eq_true hq.1) F.2.2.2.2.2.2.2.2.2.2.1) (by rw [cat_sum]; exact Nat.le_trans (Nat.le_of_ble_eq_true hq.2) F.2.2.2.2.2.2.2.2.2.2.2.1) F.2.2.2.2.2.2.2.2.2.2.2.2.1 F.2.2.2.2.2.2.2.2.2.2.2.2.2 hd (k X p l e R s m args below meth c A cells slots Q F hr oL oS.tl.tl.i H locs ls hl hW hS)
theorem g_min {x z : Int32} (hd : At y.2.1 pc (.invokestatic idx) 3 n) (hc : CM y.1.cls idx Lib.Math.min.name Lib.Math.min.code 2) (hq : szM y st = true) (k : Go y n L (.inl (mnI x z) :: st) σ V S) : Go y pc L (.inl z :: .inl x :: st) σ V S := by
  obtain ⟨hd, rfl⟩ := hd
  intro X p l e R s m args below meth c A cells slots Q F hr oL oS H locs ls hl hW hS
  simp only [szM, Bool.and_eq_true] at hq
  have hts := F.2.2.2.2.1
  exact va_mmin F.1 F.2.1 (by rw [F.2.2.1]; exact hl.1.symm) F.2.2.2.1 (hts _ hc.1) (hts _ hc.2.1) (hts _ hc.2.2.1) (hts _ hc.2.2.2) (Nat.le_trans (Nat.le_of_ble_eq_true hq.1) F.2.2.2.2.2.2.2.2.2.2.1) (by rw [cat_sum]; exact Nat.le_trans (Nat.le_of_ble_eq_true hq.2) F.2.2.2.2.2.2.2.2.2.2.2.1) F.2.2.2.2.2.2.2.2.2.2.2.2.1 F.2.2.2.2.2.2.2.2.2.2.2.2.2 hd (k X p l e R s m args below meth c A cells slots Q F hr oL oS.tl.tl.i H locs ls hl hW hS)
theorem g_abs {x : Int32} (hd : At y.2.1 pc (.invokestatic idx) 3 n) (hc : CM y.1.cls idx Lib.Math.abs.name Lib.Math.abs.code 1) (hq : szM y st = true) (k : Go y n L (.inl (abI x) :: st) σ V S) : Go y pc L (.inl x :: st) σ V S := by
  obtain ⟨hd, rfl⟩ := hd
  intro X p l e R s m args below meth c A cells slots Q F hr oL oS H locs ls hl hW hS
  simp only [szM, Bool.and_eq_true] at hq
  have hts := F.2.2.2.2.1
  exact va_mabs F.1 F.2.1 (by rw [F.2.2.1]; exact hl.1.symm) F.2.2.2.1 (hts _ hc.1) (hts _ hc.2.1) (hts _ hc.2.2.1) (hts _ hc.2.2.2) (Nat.le_trans (Nat.le_of_ble_eq_true hq.1) F.2.2.2.2.2.2.2.2.2.2.1) (by rw [cat_sum]; exact Nat.le_trans (Nat.le_of_ble_eq_true hq.2) F.2.2.2.2.2.2.2.2.2.2.2.1) F.2.2.2.2.2.2.2.2.2.2.2.2.1 F.2.2.2.2.2.2.2.2.2.2.2.2.2 hd (k X p l e R s m args below meth c A cells slots Q F hr oL oS.tl.i H locs ls hl hW hS)
end MATH
