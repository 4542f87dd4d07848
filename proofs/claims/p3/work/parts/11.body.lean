/-! a method's body, by its table -/
theorem ev_body {l : Launch} {ys : List (MethodName × List Cond)} {d : Nat} {nm : MethodName} {bytes : ByteArray} {nL : Nat} {ret : Option FieldType} {ws : List Cond} (hws : ∀ w ∈ ev_gd, w ∈ ws) {tb : List (List (ev_O ev_R))} {pad vs : List Value} {w w1 : ev_W} {rv : Option Value} {k1 : Nat}
    (htab : ∀ (p : Program) (e : Env) (R : Room) (s : State) (m : MethodId) (args : Array Value) (below : List Frame) (meth : Method) (c : Code) (Q : State → Prop) (D : va_G) (G : Nat → ClassId) (ad : Nat → Nat) (A : Nat → Prop) (z wE nE : Nat) (P : Nat → List Value → List Value → ev_W → Nat → Prop) (r : ev_R),
      ev_X bytes nL nm.cls ret p s m args meth c D G ad A z → ev_PP p l e R s m args below meth c Q nL D G ad A z wE nE P → (wE - z ≤ R.cells ∧ nE ≤ R.slots) → (d + 3 ≤ R.frames ∧ 64 * (d + 3) ≤ R.locals) → meth.name = nm.name → ∀ Qc, Q = MQ below Qc args s (wE - z) nE A →
      (∀ (v : Option Value) (w : ev_W) (n : Nat), (fun r w n => some (r, w, n) : Option Value → ev_W → Nat → Option ev_R) v w n = some r → w.length = wE ∧ n = nE ∧ ∀ H locs, ev_H D G ad A w H → va_S A s.heap H locs → ∀ t : State, t.heap = H → s.WarmedH t.vm → Qc args s (.returned (v.map (ev_v ad))) t) → ev_all2 (ev_ok P r) 0 tb)
    (hcat : ∀ v ∈ vs, v.category = 1) (hpad : ∀ v ∈ pad, v = .retAddr 0) (hn : vs.length ≤ nL) (hrun : ev_run tb (fun _ _ _ _ _ => none) 100000 0 (vs ++ pad) [] w 0 = some (rv, w1, k1))
    {D : va_G} {G : Nat → ClassId} {ad : Nat → Nat} {A : Nat → Prop} {z : Nat} (had : ∀ k, z ≤ k → ad (k + 1) = ad k + 1) (hz : z ≤ w.length)
    {p : Program} {e : Env} {s : State} {m : MethodId} {args : Array Value} {below : List Frame} {meth : Method} {c : Code} {s₁ : State} (B : BodyLoose p l nm (headSpec ws (ev_rm (d + 1) (w1.length - w.length) k1)) bytes nL ret e s m args below meth c s₁) (hml : c.maxLocals = nL) (hv : ev_Pc D G ad A vs w args s) :
    W p l e (headSpec ws (ev_rm (d + 1) (w1.length - w.length) k1)).room s m args below meth c s.heap [] 0 0 (MQ below (ev_Qc D G ad A rv w1) args s (w1.length - w.length) k1 A) (entryFrame m args nL) := by
  obtain ⟨rfl, hH, hK, hAO, hNW, hZ, hA⟩ := hv
  have hts0 := atoms_spec (ws := ws) B.pre
  have hown : s.vm.findClass nm.cls = some m.cls := findClass_of_methodNamed B.named
  have hin : meth.name = nm.name := (name_of_methodNamed B.named B.method).1
  have had' : ∀ k, w.length ≤ k → ad (k + 1) = ad k + 1 := fun k hk => had k (Nat.le_trans hz hk)
  have X : ev_X bytes nL nm.cls ret p s m ((vs.map (ev_v ad)).toArray) meth c D G ad A w.length := ⟨B.exec, B.bytes, hml, hown, fun w hw => hts0 w (hws w hw), hK, hAO, hNW, hZ, hA, B.notSynchronized, B.returns, had'⟩
  let P : Nat → List Value → List Value → ev_W → Nat → Prop := fun pc L S w' n => w.length ≤ w'.length → (w'.length ≤ w1.length ∧ n ≤ k1) ∧ ∀ (H : Heap) (locs : List Loc) (ls : Array Slot), ev_H D G ad A w' H → lv_has ls nL (ev_l ad L) → va_S A s.heap H locs → W p l e (headSpec ws (ev_rm (d + 1) (w1.length - w.length) k1)).room s m ((vs.map (ev_v ad)).toArray) below meth c H locs (w'.length - w.length) n (MQ below (ev_Qc D G ad A rv w1) ((vs.map (ev_v ad)).toArray) s (w1.length - w.length) k1 A) (F0 m pc ls (S.map (ev_v ad)))
  have htb := htab p e (headSpec ws (ev_rm (d + 1) (w1.length - w.length) k1)).room s m ((vs.map (ev_v ad)).toArray) below meth c (MQ below (ev_Qc D G ad A rv w1) ((vs.map (ev_v ad)).toArray) s (w1.length - w.length) k1 A) D G ad A w.length w1.length k1 P (rv, w1, k1) X (fun _ _ _ _ _ => Iff.rfl) ⟨Nat.le_refl _, Nat.le_refl _⟩ ⟨Nat.le_refl _, Nat.le_refl _⟩ hin (ev_Qc D G ad A rv w1) rfl (fun v w' n h => by
    cases h
    exact ⟨rfl, rfl, fun H locs hH' hS t ht hW => ⟨rfl, by rw [ht]; exact hH', hS.F ht⟩⟩)
  have h := ev_run_ok htb (fun _ _ _ _ _ h => by cases h) 100000 0 (vs ++ pad) [] w 0 hrun (Nat.le_refl _)
  rw [lg_entry_eq]
  have h2 := h.2 s.heap [] _ hH (ev_l_entry hcat hpad hn) va_S.rf
  rw [Nat.sub_self] at h2
  exact h2
theorem ev_cat_some {α : Type} {y : Option α} {r : α} : ∀ (vs : List Value), ev_cat vs y = some r → (∀ v ∈ vs, v.category = 1) ∧ y = some r := by
  intro vs
  induction vs with
  | nil => intro h; exact ⟨(fun v hv => by cases hv), h⟩
  | cons v vs ih =>
    intro h
    obtain ⟨h1, h2⟩ := ev_c1_some (show ev_c1 v (ev_cat vs y) = some r from h)
    obtain ⟨h3, h4⟩ := ih h2
    refine ⟨fun u hu => ?_, h4⟩
    rcases List.mem_cons.mp hu with rfl | hu
    · exact h1
    · exact h3 u hu
/-- what a method's row must be: its words over the machine, d + 1 deep -/
def ev_row (l : Launch) (d : Nat) (q : MethodName × List Cond) (M : ev_Y) : Prop := ∀ (vs : List Value) (w w1 : ev_W) (rv : Option Value) (k1 : Nat), ev_go M vs w = some (rv, w1, k1) → w.length ≤ w1.length ∧ ∀ (D : va_G) (G : Nat → ClassId) (ad : Nat → Nat) (A : Nat → Prop) (z : Nat), (∀ k, z ≤ k → ad (k + 1) = ad k + 1) → z ≤ w.length →
    Met l q.1 q.2 (ev_rm (d + 1) (w1.length - w.length) k1) (ev_Pc D G ad A vs w) (ev_Qc D G ad A rv w1) (w1.length - w.length) k1 A
theorem ev_go_some {M : ev_Y} {vs : List Value} {w : ev_W} {r : ev_R} (h : ev_go M vs w = some r) : vs.length = M.1 ∧ (∀ v ∈ vs, v.category = 1) ∧ ev_run M.2.2 (fun _ _ _ _ _ => none) 100000 0 (vs ++ M.2.1) [] w 0 = some r := by
  obtain ⟨h1, h2⟩ := ev_bc_t h
  obtain ⟨h3, h4⟩ := ev_cat_some vs h2
  refine ⟨?_, h3, h4⟩
  have := Nat.eq_of_beq_eq_true h1
  rw [ev_len_eq] at this
  exact this
theorem ev_row_mono {tb : List (List (ev_O ev_R))} (hmo : ∀ (r : ev_R) (wE nE : Nat), (∀ (v : Option Value) (w : ev_W) (n : Nat), (fun r w n => some (r, w, n) : Option Value → ev_W → Nat → Option ev_R) v w n = some r → w.length = wE ∧ n = nE) → ev_all2 (ev_ok (ev_Pm wE nE) r) 0 tb) {L : List Value} {w w1 : ev_W} {rv : Option Value} {k1 : Nat} (h : ev_run tb (fun _ _ _ _ _ => none) 100000 0 L [] w 0 = some (rv, w1, k1)) : w.length ≤ w1.length :=
  (ev_run_ok (P := ev_Pm w1.length k1) (hmo (rv, w1, k1) w1.length k1 (fun v w' n h => by cases h; exact ⟨rfl, rfl⟩)) (fun _ _ _ _ _ h => by cases h) 100000 0 L [] w 0 h).1
abbrev ev_ht (l : Launch) (d : Nat) (nm : MethodName) (bytes : ByteArray) (nL : Nat) (ret : Option FieldType) (tb : List (List (ev_O ev_R))) : Prop := ∀ (p : Program) (e : Env) (R : Room) (s : State) (m : MethodId) (args : Array Value) (below : List Frame) (meth : Method) (c : Code) (Q : State → Prop) (D : va_G) (G : Nat → ClassId) (ad : Nat → Nat) (A : Nat → Prop) (z wE nE : Nat) (P : Nat → List Value → List Value → ev_W → Nat → Prop) (r : ev_R),
      ev_X bytes nL nm.cls ret p s m args meth c D G ad A z → ev_PP p l e R s m args below meth c Q nL D G ad A z wE nE P → (wE - z ≤ R.cells ∧ nE ≤ R.slots) → (d + 3 ≤ R.frames ∧ 64 * (d + 3) ≤ R.locals) → meth.name = nm.name → ∀ Qc, Q = MQ below Qc args s (wE - z) nE A →
      (∀ (v : Option Value) (w : ev_W) (n : Nat), (fun r w n => some (r, w, n) : Option Value → ev_W → Nat → Option ev_R) v w n = some r → w.length = wE ∧ n = nE ∧ ∀ H locs, ev_H D G ad A w H → va_S A s.heap H locs → ∀ t : State, t.heap = H → s.WarmedH t.vm → Qc args s (.returned (v.map (ev_v ad))) t) → ev_all2 (ev_ok P r) 0 tb
theorem ev_row_code {l : Launch} {d : Nat} {nm : MethodName} {bytes : ByteArray} {nL na : Nat} {ret : Option FieldType} {tb : List (List (ev_O ev_R))} {pad : List Value} (hy : plainName nm.cls = true) (hmo : ∀ (r : ev_R) (wE nE : Nat), (∀ (v : Option Value) (w : ev_W) (n : Nat), (fun r w n => some (r, w, n) : Option Value → ev_W → Nat → Option ev_R) v w n = some r → w.length = wE ∧ n = nE) → ev_all2 (ev_ok (ev_Pm wE nE) r) 0 tb) (htab : ev_ht l d nm bytes nL ret tb) (hpad : ∀ v ∈ pad, v = .retAddr 0) (hn : na ≤ nL) : ev_row l d (nm, Cond.code nm bytes nL ret :: ev_gd) (na, pad, tb) := by
  intro vs w w1 rv k1 h
  obtain ⟨hlen, hcat, hrun⟩ := ev_go_some h
  refine ⟨ev_row_mono hmo hrun, fun D G ad A z had hz => ?_⟩
  refine Met.ofW (cc := bytes) (maxL := nL) (ret := ret) hy rfl ?_
  intro p e s m args below meth c s₁ B hml hv
  exact ev_body (ys := []) (fun w hw => List.mem_cons_of_mem _ hw) htab hcat hpad (by rw [hlen]; exact hn) hrun had hz B hml hv
theorem ev_row_codeW {l : Launch} {d : Nat} {nm : MethodName} {bytes : ByteArray} {nL na : Nat} {ret : Option FieldType} {hh : List (Nat × Nat × Nat × Nat)} {tb : List (List (ev_O ev_R))} {pad : List Value} (hy : plainName nm.cls = true) (hmo : ∀ (r : ev_R) (wE nE : Nat), (∀ (v : Option Value) (w : ev_W) (n : Nat), (fun r w n => some (r, w, n) : Option Value → ev_W → Nat → Option ev_R) v w n = some r → w.length = wE ∧ n = nE) → ev_all2 (ev_ok (ev_Pm wE nE) r) 0 tb) (htab : ev_ht l d nm bytes nL ret tb) (hpad : ∀ v ∈ pad, v = .retAddr 0) (hn : na ≤ nL) : ev_row l d (nm, Cond.codeWith nm bytes nL ret hh :: ev_gd) (na, pad, tb) := by
  intro vs w w1 rv k1 h
  obtain ⟨hlen, hcat, hrun⟩ := ev_go_some h
  refine ⟨ev_row_mono hmo hrun, fun D G ad A z had hz => ?_⟩
  refine va_MetW (cc := bytes) (maxL := nL) (ret := ret) hy rfl ?_
  intro p e s m args below meth c s₁ B hml hv
  exact ev_body (ys := []) (fun w hw => List.mem_cons_of_mem _ hw) htab hcat hpad (by rw [hlen]; exact hn) hrun had hz B hml hv
theorem ev_row_none {l : Launch} {d : Nat} {q : MethodName × List Cond} {pad : List Value} {na : Nat} : ev_row l d q (na, pad, []) := by
  intro vs w w1 rv k1 h
  obtain ⟨-, -, hrun⟩ := ev_go_some h
  exact (ev_run_ok (P := fun _ _ _ _ _ => False) (tb := []) (r := (rv, w1, k1)) ev_b0 (fun _ _ _ _ _ h => by cases h) 100000 0 _ [] w 0 hrun).elim
def ev_rows (l : Launch) (d : Nat) : List (MethodName × List Cond) → List ev_Y → Prop
  | q :: t, M :: u => ev_row l d q M ∧ ev_rows l d t u
  | [], [] => True
  | _, _ => False
theorem ev_r0 {l : Launch} {d : Nat} : ev_rows l d [] [] := trivial
theorem ev_r {l : Launch} {d : Nat} {q : MethodName × List Cond} {M : ev_Y} {t : List (MethodName × List Cond)} {u : List ev_Y} (h : ev_row l d q M) (ht : ev_rows l d t u) : ev_rows l d (q :: t) (M :: u) := ⟨h, ht⟩
theorem ev_rows_at {l : Launch} {d : Nat} : ∀ (ys : List (MethodName × List Cond)) (Ms : List ev_Y) (y : Nat) (M : ev_Y), ev_rows l d ys Ms → Ms[y]? = some M → ∃ q, ys[y]? = some q ∧ ev_row l d q M := by
  intro ys
  induction ys with
  | nil =>
    intro Ms y M h hM
    cases Ms with
    | nil => cases hM
    | cons _ _ => exact h.elim
  | cons q ys ih =>
    intro Ms y M h hM
    cases Ms with
    | nil => exact h.elim
    | cons N Ms =>
      cases y with
      | zero => cases hM; exact ⟨q, rfl, h.1⟩
      | succ y =>
        obtain ⟨q', h1, h2⟩ := ih Ms y M h.2 (by simpa using hM)
        exact ⟨q', by simpa using h1, h2⟩
