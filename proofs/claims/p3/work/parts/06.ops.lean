/-! each operation of the evaluator, over the machine -/
def ev_nk : Cond → Bool
  | .fieldLinkNest .. => true
  | .methodLinkNest .. => true
  | .castable .. => true
  | _ => false
/-- the words that stay as the tables warm; those that are carried by hand; the two calls through an interface -/
def ev_gd : List Cond := lw_tbl.filter goodWord
def ev_nw : List Cond := lw_tbl.filter ev_nk
def ev_fw : List (String × MethodName × MethodName) := [("java/util/ArrayList$Itr", ⟨"java/util/Iterator", "hasNext", "()Z"⟩, ⟨"java/util/ArrayList$Itr", "hasNext", "()Z"⟩), ("java/util/ArrayList$Itr", ⟨"java/util/Iterator", "next", "()Ljava/lang/Object;"⟩, ⟨"java/util/ArrayList$Itr", "next", "()Ljava/lang/Object;"⟩)]
def ev_NW (U : State) : Prop := (∀ w ∈ ev_nw, va_Nw w U) ∧ (∀ q ∈ ev_fw, va_Fw q.1 q.2.1 q.2.2 U) ∧ (∃ mi : Nat, va_Mi "[Ljava/lang/Object;" mi U) ∧ va_Dc U
theorem ev_NW.warm {s U : State} (hW : s.WarmedH U.vm) (h : ev_NW s) : ev_NW U := by
  refine ⟨fun w hw => ?_, fun q hq => ?_, h.2.2.1.imp fun mi hm => hm.moved hW.alike, h.2.2.2.moved hW.alike⟩
  · have h1 := h.1 w hw
    have hk : ev_nk w = true := (List.mem_filter.mp hw).2
    cases w <;> first | exact va_Nw.warmF hW h1 | exact va_Nw.warmM hW h1 | exact va_Nw.warmC hW h1 | exact absurd hk (by simp [ev_nk])
  · refine va_Fw.moved ?_ hW.alike (h.2.1 q hq)
    unfold ev_fw at hq
    rcases List.mem_cons.mp hq with rfl | hq
    · exact ⟨by decide, by decide⟩
    · rcases List.mem_cons.mp hq with rfl | hq
      · exact ⟨by decide, by decide⟩
      · cases hq
/-- what is so behind every step: the world's tables, the array that new lists share -/
def ev_B (D : va_G) (G : Nat → ClassId) (ad : Nat → Nat) (A : Nat → Prop) (w : ev_W) (U : State) : Prop :=
  ev_H D G ad A w U.heap ∧ va_K D vwCl (ev_ty G) U ∧ va_AO "java/lang/Object" U ∧ ev_NW U ∧ va_Z "java/util/ArrayList" "DEFAULTCAPACITY_EMPTY_ELEMENTDATA" "[Ljava/lang/Object;" (.ref (ad 1)) A U U.heap ∧ ∀ q, U.heap.size ≤ q → A q
def ev_X (cc : ByteArray) (nL : Nat) (own : String) (rt : Option FieldType) (p : Program) (s : State) (m : MethodId) (args : Array Value) (meth : Method) (c : Code) (D : va_G) (G : Nat → ClassId) (ad : Nat → Nat) (A : Nat → Prop) (z : Nat) : Prop :=
  p.tables.exec = Jvm.exec ∧ c.code = cc ∧ c.maxLocals = nL ∧ s.vm.findClass own = some m.cls ∧ (∀ w ∈ ev_gd, w.before args s = true) ∧ va_K D vwCl (ev_ty G) s ∧ va_AO "java/lang/Object" s ∧ ev_NW s ∧ va_Z "java/util/ArrayList" "DEFAULTCAPACITY_EMPTY_ELEMENTDATA" "[Ljava/lang/Object;" (.ref (ad 1)) A s s.heap ∧ (∀ q, s.heap.size ≤ q → A q) ∧ meth.locks = false ∧ meth.sig.returnType = rt ∧ (∀ k, z ≤ k → ad (k + 1) = ad k + 1)
/-- an operation is right at a place: where what follows is, it is -/
def ev_ok {α : Type} (P : Nat → List Value → List Value → ev_W → Nat → Prop) (r : α) (pc : Nat) (o : ev_O α) : Prop := ∀ (k : ev_G α) (L S : List Value) (w : ev_W) (n : Nat), (∀ pc' L' S' w' n', k pc' L' S' w' n' = some r → P pc' L' S' w' n') → o k L S w n = some r → P pc L S w n
section OPS
variable {p : Program} {l : Launch} {e : Env} {R : Room} {s : State} {m : MethodId} {args : Array Value} {below : List Frame} {meth : Method} {c : Code} {Q : State → Prop}
variable {cc : ByteArray} {nL : Nat} {own : String} {rt : Option FieldType} {D : va_G} {G : Nat → ClassId} {ad : Nat → Nat} {A : Nat → Prop} {z wE nE : Nat} {α : Type} {r : α} {P : Nat → List Value → List Value → ev_W → Nat → Prop} {pc q i idx : Nat}
abbrev ev_PP (p : Program) (l : Launch) (e : Env) (R : Room) (s : State) (m : MethodId) (args : Array Value) (below : List Frame) (meth : Method) (c : Code) (Q : State → Prop) (nL : Nat) (D : va_G) (G : Nat → ClassId) (ad : Nat → Nat) (A : Nat → Prop) (z wE nE : Nat) (P : Nat → List Value → List Value → ev_W → Nat → Prop) : Prop :=
  ∀ pc L S w n, P pc L S w n ↔ (z ≤ w.length → (w.length ≤ wE ∧ n ≤ nE) ∧ ∀ (H : Heap) (locs : List Loc) (ls : Array Slot), ev_H D G ad A w H → lv_has ls nL (ev_l ad L) → va_S A s.heap H locs → W p l e R s m args below meth c H locs (w.length - z) n Q (F0 m pc ls (S.map (ev_v ad))))
theorem ok_no : ev_ok P r pc (ev_no : ev_O α) := fun k L S w n _ h => by cases h
/-- an operation that moves neither world nor count, by what it is over the machine -/
theorem ok_of (X : ev_X cc nL own rt p s m args meth c D G ad A z) (hP : ev_PP p l e R s m args below meth c Q nL D G ad A z wE nE P) {o : ev_O α} (h : ∀ (k : ev_G α) (L S : List Value) (w : ev_W) (n : Nat), o k L S w n = some r → ∃ pc' L' S', k pc' L' S' w n = some r ∧ ∀ (H : Heap) (locs : List Loc) (ls : Array Slot), ev_H D G ad A w H → lv_has ls nL (ev_l ad L) → va_S A s.heap H locs → (∀ ls', lv_has ls' nL (ev_l ad L') → W p l e R s m args below meth c H locs (w.length - z) n Q (F0 m pc' ls' (S'.map (ev_v ad)))) → W p l e R s m args below meth c H locs (w.length - z) n Q (F0 m pc ls (S.map (ev_v ad)))) : ev_ok P r pc o := by
  intro k L S w n hk ho
  obtain ⟨pc', L', S', h1, h2⟩ := h k L S w n ho
  rw [hP]
  intro hz
  obtain ⟨hm, h3⟩ := (hP _ _ _ _ _).mp (hk _ _ _ _ _ h1) hz
  exact ⟨hm, fun H locs ls hH hl hS => h2 H locs ls hH hl hS fun ls' hl' => h3 H locs ls' hH hl' hS⟩
theorem ok_psh_iconst (X : ev_X cc nL own rt p s m args meth c D G ad A z) (hP : ev_PP p l e R s m args below meth c Q nL D G ad A z wE nE P) {n : Int} (hd : decode cc pc = .ok (.iconst n, 1)) (hq : pc + 1 = q) : ev_ok P r pc (ev_psh q (.int (Int32.ofInt n))) := by
  subst hq
  exact ok_of X hP fun k L S w n h => ⟨_, _, _, h, fun H locs ls hH hl hS kk => lv_iconst X.1 X.2.1 hd rfl (kk ls hl)⟩
theorem ok_psh_bipush (X : ev_X cc nL own rt p s m args meth c D G ad A z) (hP : ev_PP p l e R s m args below meth c Q nL D G ad A z wE nE P) {n : Int} (hd : decode cc pc = .ok (.bipush n, 2)) (hq : pc + 2 = q) : ev_ok P r pc (ev_psh q (.int (Int8.ofInt n).toInt32)) := by
  subst hq
  exact ok_of X hP fun k L S w n h => ⟨_, _, _, h, fun H locs ls hH hl hS kk => lv_bipush X.1 X.2.1 hd rfl (kk ls hl)⟩
theorem ok_psh_sipush (X : ev_X cc nL own rt p s m args meth c D G ad A z) (hP : ev_PP p l e R s m args below meth c Q nL D G ad A z wE nE P) {n : Int} (hd : decode cc pc = .ok (.sipush n, 3)) (hq : pc + 3 = q) : ev_ok P r pc (ev_psh q (.int (Int16.ofInt n).toInt32)) := by
  subst hq
  exact ok_of X hP fun k L S w n h => ⟨_, _, _, h, fun H locs ls hH hl hS kk => lv_sipush X.1 X.2.1 hd rfl (kk ls hl)⟩
theorem ok_psh_ldc (X : ev_X cc nL own rt p s m args meth c D G ad A z) (hP : ev_PP p l e R s m args below meth c Q nL D G ad A z wE nE P) {v : Int32} (hd : decode cc pc = .ok (.ldc idx, 2)) (hl : Cond.constant own idx v ∈ ev_gd) (hq : pc + 2 = q) : ev_ok P r pc (ev_psh q (.int v)) := by
  subst hq
  exact ok_of X hP fun k L S w n h => ⟨_, _, _, h, fun H locs ls hH hl' hS kk => lv_ldc X.1 X.2.1 X.2.2.2.1 (X.2.2.2.2.1 _ hl) hd (kk ls hl')⟩
theorem ok_psh_null (X : ev_X cc nL own rt p s m args meth c D G ad A z) (hP : ev_PP p l e R s m args below meth c Q nL D G ad A z wE nE P) (hd : decode cc pc = .ok (.aconst_null, 1)) (hq : pc + 1 = q) : ev_ok P r pc (ev_psh q .null) := by
  subst hq
  exact ok_of X hP fun k L S w n h => ⟨_, _, _, h, fun H locs ls hH hl hS kk => lv_null X.1 X.2.1 hd (kk ls hl)⟩
theorem ok_ild_n (X : ev_X cc nL own rt p s m args meth c D G ad A z) (hP : ev_PP p l e R s m args below meth c Q nL D G ad A z wE nE P) {j : Fin 4} (hd : decode cc pc = .ok (.iload_n j, 1)) (hj : (j : Nat) = i) (hq : pc + 1 = q) : ev_ok P r pc (ev_ild q i) := by
  subst hq
  refine ok_of X hP fun k L S w n h => ?_
  obtain ⟨v, h1, h⟩ := ev_oc_some h
  obtain ⟨x, rfl, h⟩ := ev_ic_some h
  rw [ev_at_eq] at h1
  exact ⟨_, _, _, h, fun H locs ls hH hl hS kk => lv_iload_n X.1 X.2.1 hd hj (ev_l_at hl h1 (Or.inr (Or.inr ⟨_, rfl⟩))) (kk ls hl)⟩
theorem ok_ild (X : ev_X cc nL own rt p s m args meth c D G ad A z) (hP : ev_PP p l e R s m args below meth c Q nL D G ad A z wE nE P) (hd : decode cc pc = .ok (.iload i, 2)) (hq : pc + 2 = q) : ev_ok P r pc (ev_ild q i) := by
  subst hq
  refine ok_of X hP fun k L S w n h => ?_
  obtain ⟨v, h1, h⟩ := ev_oc_some h
  obtain ⟨x, rfl, h⟩ := ev_ic_some h
  rw [ev_at_eq] at h1
  exact ⟨_, _, _, h, fun H locs ls hH hl hS kk => lv_iload X.1 X.2.1 hd (ev_l_at hl h1 (Or.inr (Or.inr ⟨_, rfl⟩))) (kk ls hl)⟩
theorem ok_ald_n (X : ev_X cc nL own rt p s m args meth c D G ad A z) (hP : ev_PP p l e R s m args below meth c Q nL D G ad A z wE nE P) {j : Fin 4} (hd : decode cc pc = .ok (.aload_n j, 1)) (hj : (j : Nat) = i) (hq : pc + 1 = q) : ev_ok P r pc (ev_ald q i) := by
  subst hq
  refine ok_of X hP fun k L S w n h => ?_
  obtain ⟨v, h1, h⟩ := ev_oc_some h
  obtain ⟨hv, h⟩ := ev_pc_some h
  rw [ev_at_eq] at h1
  refine ⟨_, _, _, h, fun H locs ls hH hl hS kk => ?_⟩
  rcases hv with rfl | ⟨x, rfl⟩
  · exact lv_aload_nN X.1 X.2.1 hd hj (ev_l_at hl h1 (Or.inl rfl)) (kk ls hl)
  · exact lv_aload_n X.1 X.2.1 hd hj (ev_l_at hl h1 (Or.inr (Or.inl ⟨_, rfl⟩))) (kk ls hl)
theorem ok_ald (X : ev_X cc nL own rt p s m args meth c D G ad A z) (hP : ev_PP p l e R s m args below meth c Q nL D G ad A z wE nE P) (hd : decode cc pc = .ok (.aload i, 2)) (hq : pc + 2 = q) : ev_ok P r pc (ev_ald q i) := by
  subst hq
  refine ok_of X hP fun k L S w n h => ?_
  obtain ⟨v, h1, h⟩ := ev_oc_some h
  obtain ⟨hv, h⟩ := ev_pc_some h
  rw [ev_at_eq] at h1
  refine ⟨_, _, _, h, fun H locs ls hH hl hS kk => ?_⟩
  rcases hv with rfl | ⟨x, rfl⟩
  · exact lv_aloadN X.1 X.2.1 hd (ev_l_at hl h1 (Or.inl rfl)) (kk ls hl)
  · exact lv_aload X.1 X.2.1 hd (ev_l_at hl h1 (Or.inr (Or.inl ⟨_, rfl⟩))) (kk ls hl)
theorem ok_ist_n (X : ev_X cc nL own rt p s m args meth c D G ad A z) (hP : ev_PP p l e R s m args below meth c Q nL D G ad A z wE nE P) {j : Fin 4} (hd : decode cc pc = .ok (.istore_n j, 1)) (hj : (j : Nat) = i) (hn : i < nL) (hq : pc + 1 = q) : ev_ok P r pc (ev_ist q i) := by
  subst hq
  refine ok_of X hP fun k L S w n h => ?_
  obtain ⟨v, S', rfl, g⟩ := ev_lc_some h
  obtain ⟨x, rfl, g2⟩ := ev_ic_some (v := v) g
  have g3 : k (pc + 1) (ev_set L i (.int x)) S' w n = some r := g2
  rw [ev_set_eq] at g3
  exact ⟨_, _, _, g3, fun H locs ls hH hl hS kk => lv_istore_n X.1 X.2.1 hd hj hl hn rfl fun ls' h' => kk ls' (ev_l_put (u := .int x) h')⟩
theorem ok_ist (X : ev_X cc nL own rt p s m args meth c D G ad A z) (hP : ev_PP p l e R s m args below meth c Q nL D G ad A z wE nE P) (hd : decode cc pc = .ok (.istore i, 2)) (hn : i < nL) (hq : pc + 2 = q) : ev_ok P r pc (ev_ist q i) := by
  subst hq
  refine ok_of X hP fun k L S w n h => ?_
  obtain ⟨v, S', rfl, g⟩ := ev_lc_some h
  obtain ⟨x, rfl, g2⟩ := ev_ic_some (v := v) g
  have g3 : k (pc + 2) (ev_set L i (.int x)) S' w n = some r := g2
  rw [ev_set_eq] at g3
  exact ⟨_, _, _, g3, fun H locs ls hH hl hS kk => lv_istore X.1 X.2.1 hd hl hn rfl fun ls' h' => kk ls' (ev_l_put (u := .int x) h')⟩
theorem ok_ast_n (X : ev_X cc nL own rt p s m args meth c D G ad A z) (hP : ev_PP p l e R s m args below meth c Q nL D G ad A z wE nE P) {j : Fin 4} (hd : decode cc pc = .ok (.astore_n j, 1)) (hj : (j : Nat) = i) (hn : i < nL) (hq : pc + 1 = q) : ev_ok P r pc (ev_ast q i) := by
  subst hq
  refine ok_of X hP fun k L S w n h => ?_
  obtain ⟨v, S', rfl, h⟩ := ev_lc_some h
  obtain ⟨hv, h⟩ := ev_pc_some h
  rw [ev_set_eq] at h
  refine ⟨_, _, _, h, fun H locs ls hH hl hS kk => ?_⟩
  rcases hv with rfl | ⟨x, rfl⟩
  · exact lv_astore_nN X.1 X.2.1 hd hj hl hn rfl fun ls' h' => kk ls' (ev_l_put (u := .null) h')
  · exact lv_astore_n X.1 X.2.1 hd hj hl hn rfl fun ls' h' => kk ls' (ev_l_put (u := .ref x) h')
theorem ok_ast (X : ev_X cc nL own rt p s m args meth c D G ad A z) (hP : ev_PP p l e R s m args below meth c Q nL D G ad A z wE nE P) (hd : decode cc pc = .ok (.astore i, 2)) (hn : i < nL) (hq : pc + 2 = q) : ev_ok P r pc (ev_ast q i) := by
  subst hq
  refine ok_of X hP fun k L S w n h => ?_
  obtain ⟨v, S', rfl, h⟩ := ev_lc_some h
  obtain ⟨hv, h⟩ := ev_pc_some h
  rw [ev_set_eq] at h
  refine ⟨_, _, _, h, fun H locs ls hH hl hS kk => ?_⟩
  rcases hv with rfl | ⟨x, rfl⟩
  · exact lv_astoreN X.1 X.2.1 hd hl hn rfl fun ls' h' => kk ls' (ev_l_put (u := .null) h')
  · exact lv_astore X.1 X.2.1 hd hl hn rfl fun ls' h' => kk ls' (ev_l_put (u := .ref x) h')
theorem ok_inc (X : ev_X cc nL own rt p s m args meth c D G ad A z) (hP : ev_PP p l e R s m args below meth c Q nL D G ad A z wE nE P) {c' : Int} (hd : decode cc pc = .ok (.iinc i c', 3)) (hn : i < nL) (hq : pc + 3 = q) : ev_ok P r pc (ev_inc q i (Int32.ofInt c')) := by
  subst hq
  refine ok_of X hP fun k L S w n h => ?_
  obtain ⟨v, h1, g⟩ := ev_oc_some h
  obtain ⟨x, rfl, g2⟩ := ev_ic_some (v := v) g
  have g3 : k (pc + 3) (ev_set L i (.int (x + Int32.ofInt c'))) S w n = some r := g2
  rw [ev_set_eq] at g3
  rw [ev_at_eq] at h1
  refine ⟨_, _, _, g3, fun H locs ls hH hl hS kk => ?_⟩
  obtain ⟨j, hj⟩ := List.getElem?_of_mem (ev_l_mem.mpr ⟨.int x, h1, rfl, rfl⟩ : (i, ev_v ad (.int x)) ∈ ev_l ad L)
  exact lv_iinc X.1 X.2.1 hd hl (k := j) hj rfl hn rfl fun ls' h' => kk ls' (ev_l_put (u := .int (x + Int32.ofInt c')) h')
theorem ok_dup (X : ev_X cc nL own rt p s m args meth c D G ad A z) (hP : ev_PP p l e R s m args below meth c Q nL D G ad A z wE nE P) (hd : decode cc pc = .ok (.dup, 1)) (hq : pc + 1 = q) : ev_ok P r pc (ev_dup q) := by
  subst hq
  refine ok_of X hP fun k L S w n h => ?_
  obtain ⟨v, S', rfl, h⟩ := ev_lc_some h
  obtain ⟨hv, h⟩ := ev_c1_some h
  exact ⟨_, _, _, h, fun H locs ls hH hl hS kk => lv_dup X.1 X.2.1 hd (ev_v_cat.trans hv) (kk ls hl)⟩
theorem ok_dx1 (X : ev_X cc nL own rt p s m args meth c D G ad A z) (hP : ev_PP p l e R s m args below meth c Q nL D G ad A z wE nE P) (hd : decode cc pc = .ok (.dup_x1, 1)) (hq : pc + 1 = q) : ev_ok P r pc (ev_dx1 q) := by
  subst hq
  refine ok_of X hP fun k L S w n h => ?_
  obtain ⟨v, S1, rfl, h⟩ := ev_lc_some h
  obtain ⟨u, S', rfl, h⟩ := ev_lc_some (l := S1) h
  obtain ⟨hv, h⟩ := ev_c1_some h
  obtain ⟨hu, h⟩ := ev_c1_some h
  exact ⟨_, _, _, h, fun H locs ls hH hl hS kk => lv_dup_x1 X.1 X.2.1 hd (ev_v_cat.trans hv) (ev_v_cat.trans hu) (kk ls hl)⟩
theorem ok_drop (X : ev_X cc nL own rt p s m args meth c D G ad A z) (hP : ev_PP p l e R s m args below meth c Q nL D G ad A z wE nE P) (hd : decode cc pc = .ok (.pop, 1)) (hq : pc + 1 = q) : ev_ok P r pc (ev_drop q) := by
  subst hq
  refine ok_of X hP fun k L S w n h => ?_
  obtain ⟨v, S', rfl, h⟩ := ev_lc_some h
  obtain ⟨hv, h⟩ := ev_c1_some h
  exact ⟨_, _, _, h, fun H locs ls hH hl hS kk => lv_pop X.1 X.2.1 hd (ev_v_cat.trans hv) (kk ls hl)⟩
/-- two numbers off the stack -/
theorem ok_bin (X : ev_X cc nL own rt p s m args meth c D G ad A z) (hP : ev_PP p l e R s m args below meth c Q nL D G ad A z wE nE P) {f : Int32 → Int32 → Int32} (hr : ∀ (H : Heap) (locs : List Loc) (ls : Array Slot) (cells slots : Nat) (rest : List Value) (x y : Int32), W p l e R s m args below meth c H locs cells slots Q (F0 m (pc + 1) ls (.int (f x y) :: rest)) → W p l e R s m args below meth c H locs cells slots Q (F0 m pc ls (.int y :: .int x :: rest))) (hq : pc + 1 = q) : ev_ok P r pc (ev_bin q f) := by
  subst hq
  refine ok_of X hP fun k L S w n h => ?_
  obtain ⟨v, S1, rfl, h⟩ := ev_lc_some h
  obtain ⟨u, S', rfl, h⟩ := ev_lc_some (l := S1) h
  obtain ⟨y, rfl, h⟩ := ev_ic_some h
  obtain ⟨x, rfl, h⟩ := ev_ic_some h
  exact ⟨_, _, _, h, fun H locs ls hH hl hS kk => hr H locs ls _ _ _ x y (kk ls hl)⟩
theorem ok_iadd (X : ev_X cc nL own rt p s m args meth c D G ad A z) (hP : ev_PP p l e R s m args below meth c Q nL D G ad A z wE nE P) (hd : decode cc pc = .ok (.iadd, 1)) (hq : pc + 1 = q) : ev_ok P r pc (ev_bin q (fun x y => x + y)) := ok_bin X hP (fun _ _ _ _ _ _ _ _ kk => lv_iadd X.1 X.2.1 hd kk) hq
theorem ok_isub (X : ev_X cc nL own rt p s m args meth c D G ad A z) (hP : ev_PP p l e R s m args below meth c Q nL D G ad A z wE nE P) (hd : decode cc pc = .ok (.isub, 1)) (hq : pc + 1 = q) : ev_ok P r pc (ev_bin q (fun x y => x - y)) := ok_bin X hP (fun _ _ _ _ _ _ _ _ kk => lv_isub X.1 X.2.1 hd kk) hq
theorem ok_imul (X : ev_X cc nL own rt p s m args meth c D G ad A z) (hP : ev_PP p l e R s m args below meth c Q nL D G ad A z wE nE P) (hd : decode cc pc = .ok (.imul, 1)) (hq : pc + 1 = q) : ev_ok P r pc (ev_bin q (fun x y => x * y)) := ok_bin X hP (fun _ _ _ _ _ _ _ _ kk => lv_imul X.1 X.2.1 hd kk) hq
theorem ok_iand (X : ev_X cc nL own rt p s m args meth c D G ad A z) (hP : ev_PP p l e R s m args below meth c Q nL D G ad A z wE nE P) (hd : decode cc pc = .ok (.iand, 1)) (hq : pc + 1 = q) : ev_ok P r pc (ev_bin q (fun x y => x &&& y)) := ok_bin X hP (fun _ _ _ _ _ _ _ _ kk => lv_iand X.1 X.2.1 hd kk) hq
theorem ok_ior (X : ev_X cc nL own rt p s m args meth c D G ad A z) (hP : ev_PP p l e R s m args below meth c Q nL D G ad A z wE nE P) (hd : decode cc pc = .ok (.ior, 1)) (hq : pc + 1 = q) : ev_ok P r pc (ev_bin q (fun x y => x ||| y)) := ok_bin X hP (fun _ _ _ _ _ _ _ _ kk => lv_ior X.1 X.2.1 hd kk) hq
theorem ok_ishl (X : ev_X cc nL own rt p s m args meth c D G ad A z) (hP : ev_PP p l e R s m args below meth c Q nL D G ad A z wE nE P) (hd : decode cc pc = .ok (.ishl, 1)) (hq : pc + 1 = q) : ev_ok P r pc (ev_bin q (fun x y => x <<< (y &&& 31))) := ok_bin X hP (fun _ _ _ _ _ _ _ _ kk => lv_ishl X.1 X.2.1 hd kk) hq
theorem ok_ishr (X : ev_X cc nL own rt p s m args meth c D G ad A z) (hP : ev_PP p l e R s m args below meth c Q nL D G ad A z wE nE P) (hd : decode cc pc = .ok (.ishr, 1)) (hq : pc + 1 = q) : ev_ok P r pc (ev_bin q (fun x y => x >>> (y &&& 31))) := ok_bin X hP (fun _ _ _ _ _ _ _ _ kk => lv_ishr X.1 X.2.1 hd kk) hq
theorem ok_div (X : ev_X cc nL own rt p s m args meth c D G ad A z) (hP : ev_PP p l e R s m args below meth c Q nL D G ad A z wE nE P) {f : Int32 → Int32 → Int32} (hr : ∀ (H : Heap) (locs : List Loc) (ls : Array Slot) (cells slots : Nat) (rest : List Value) (x y : Int32), ¬ y = 0 → W p l e R s m args below meth c H locs cells slots Q (F0 m (pc + 1) ls (.int (f x y) :: rest)) → W p l e R s m args below meth c H locs cells slots Q (F0 m pc ls (.int y :: .int x :: rest))) (hq : pc + 1 = q) : ev_ok P r pc (ev_div q f) := by
  subst hq
  refine ok_of X hP fun k L S w n h => ?_
  obtain ⟨v, S1, rfl, h⟩ := ev_lc_some h
  obtain ⟨u, S', rfl, h⟩ := ev_lc_some (l := S1) h
  obtain ⟨y, rfl, h⟩ := ev_ic_some h
  obtain ⟨x, rfl, h⟩ := ev_ic_some h
  rcases ev_bc_some h with ⟨-, h⟩ | ⟨hy, h⟩
  · cases h
  · exact ⟨_, _, _, h, fun H locs ls hH hl hS kk => hr H locs ls _ _ _ x y (fun e => by rw [ev_zero_iff.mpr e] at hy; cases hy) (kk ls hl)⟩
theorem ok_idiv (X : ev_X cc nL own rt p s m args meth c D G ad A z) (hP : ev_PP p l e R s m args below meth c Q nL D G ad A z wE nE P) (hd : decode cc pc = .ok (.idiv, 1)) (hq : pc + 1 = q) : ev_ok P r pc (ev_div q (fun x y => x / y)) := ok_div X hP (fun _ _ _ _ _ _ _ _ hy kk => lv_idiv X.1 X.2.1 hd hy kk) hq
theorem ok_irem (X : ev_X cc nL own rt p s m args meth c D G ad A z) (hP : ev_PP p l e R s m args below meth c Q nL D G ad A z wE nE P) (hd : decode cc pc = .ok (.irem, 1)) (hq : pc + 1 = q) : ev_ok P r pc (ev_div q (fun x y => x - x / y * y)) := ok_div X hP (fun _ _ _ _ _ _ _ _ hy kk => lv_irem X.1 X.2.1 hd hy kk) hq
/-- a branch on two numbers -/
theorem ok_cmp (X : ev_X cc nL own rt p s m args meth c D G ad A z) (hP : ev_PP p l e R s m args below meth c Q nL D G ad A z wE nE P) {t : Nat} {f : Int32 → Int32 → Bool} {g : Int32 → Int32 → Prop} (hf : ∀ x y, f x y = true ↔ g x y) (hr : ∀ (H : Heap) (locs : List Loc) (ls : Array Slot) (cells slots : Nat) (rest : List Value) (x y : Int32), (g x y → W p l e R s m args below meth c H locs cells slots Q (F0 m t ls rest)) → (¬ g x y → W p l e R s m args below meth c H locs cells slots Q (F0 m (pc + 3) ls rest)) → W p l e R s m args below meth c H locs cells slots Q (F0 m pc ls (.int y :: .int x :: rest))) (hq : pc + 3 = q) : ev_ok P r pc (ev_cmp q t f) := by
  subst hq
  refine ok_of X hP fun k L S w n h => ?_
  obtain ⟨v, S1, rfl, h⟩ := ev_lc_some h
  obtain ⟨u, S', rfl, h⟩ := ev_lc_some (l := S1) h
  obtain ⟨y, rfl, h⟩ := ev_ic_some h
  obtain ⟨x, rfl, h⟩ := ev_ic_some h
  rcases ev_bc_some h with ⟨hb, h⟩ | ⟨hb, h⟩
  · exact ⟨_, _, _, h, fun H locs ls hH hl hS kk => hr H locs ls _ _ _ x y (fun _ => kk ls hl) (fun q => absurd ((hf x y).mp hb) q)⟩
  · exact ⟨_, _, _, h, fun H locs ls hH hl hS kk => hr H locs ls _ _ _ x y (fun q => by rw [(hf x y).mpr q] at hb; cases hb) (fun _ => kk ls hl)⟩
theorem ok_icmp_eq (X : ev_X cc nL own rt p s m args meth c D G ad A z) (hP : ev_PP p l e R s m args below meth c Q nL D G ad A z wE nE P) {t : Nat} {off : Int} (hd : decode cc pc = .ok (.if_icmp .eq off, 3)) (ht : (pc : Int) + off = (t : Int)) (hq : pc + 3 = q) : ev_ok P r pc (ev_cmp q t (fun x y => Nat.beq (ev_bits x) (ev_bits y))) := ok_cmp X hP (g := fun x y => x = y) (fun _ _ => ev_eq_iff) (fun _ _ _ _ _ _ _ _ k1 k2 => lv_icmp_eq X.1 X.2.1 hd ht k1 k2) hq
theorem ok_icmp_ne (X : ev_X cc nL own rt p s m args meth c D G ad A z) (hP : ev_PP p l e R s m args below meth c Q nL D G ad A z wE nE P) {t : Nat} {off : Int} (hd : decode cc pc = .ok (.if_icmp .ne off, 3)) (ht : (pc : Int) + off = (t : Int)) (hq : pc + 3 = q) : ev_ok P r pc (ev_cmp q t (fun x y => !Nat.beq (ev_bits x) (ev_bits y))) := ok_cmp X hP (g := fun x y => ¬ x = y) (fun x y => by rw [← ev_eq_iff]; cases Nat.beq (ev_bits x) (ev_bits y) <;> simp) (fun _ _ _ _ _ _ _ _ k1 k2 => lv_icmp_ne X.1 X.2.1 hd ht k1 (fun e => k2 (fun q => q e))) hq
theorem ok_icmp_lt (X : ev_X cc nL own rt p s m args meth c D G ad A z) (hP : ev_PP p l e R s m args below meth c Q nL D G ad A z wE nE P) {t : Nat} {off : Int} (hd : decode cc pc = .ok (.if_icmp .lt off, 3)) (ht : (pc : Int) + off = (t : Int)) (hq : pc + 3 = q) : ev_ok P r pc (ev_cmp q t (fun x y => Nat.blt (ev_sg x) (ev_sg y))) := ok_cmp X hP (g := fun x y => x < y) (fun _ _ => ev_lt_iff) (fun _ _ _ _ _ _ _ _ k1 k2 => lv_icmp_lt X.1 X.2.1 hd ht k1 k2) hq
theorem ok_icmp_ge (X : ev_X cc nL own rt p s m args meth c D G ad A z) (hP : ev_PP p l e R s m args below meth c Q nL D G ad A z wE nE P) {t : Nat} {off : Int} (hd : decode cc pc = .ok (.if_icmp .ge off, 3)) (ht : (pc : Int) + off = (t : Int)) (hq : pc + 3 = q) : ev_ok P r pc (ev_cmp q t (fun x y => Nat.ble (ev_sg y) (ev_sg x))) := ok_cmp X hP (g := fun x y => y ≤ x) (fun _ _ => ev_le_iff) (fun _ _ _ _ _ _ _ _ k1 k2 => lv_icmp_ge X.1 X.2.1 hd ht k1 k2) hq
theorem ok_icmp_gt (X : ev_X cc nL own rt p s m args meth c D G ad A z) (hP : ev_PP p l e R s m args below meth c Q nL D G ad A z wE nE P) {t : Nat} {off : Int} (hd : decode cc pc = .ok (.if_icmp .gt off, 3)) (ht : (pc : Int) + off = (t : Int)) (hq : pc + 3 = q) : ev_ok P r pc (ev_cmp q t (fun x y => Nat.blt (ev_sg y) (ev_sg x))) := ok_cmp X hP (g := fun x y => y < x) (fun _ _ => ev_lt_iff) (fun _ _ _ _ _ _ _ _ k1 k2 => lv_icmp_gt X.1 X.2.1 hd ht k1 k2) hq
theorem ok_icmp_le (X : ev_X cc nL own rt p s m args meth c D G ad A z) (hP : ev_PP p l e R s m args below meth c Q nL D G ad A z wE nE P) {t : Nat} {off : Int} (hd : decode cc pc = .ok (.if_icmp .le off, 3)) (ht : (pc : Int) + off = (t : Int)) (hq : pc + 3 = q) : ev_ok P r pc (ev_cmp q t (fun x y => Nat.ble (ev_sg x) (ev_sg y))) := ok_cmp X hP (g := fun x y => x ≤ y) (fun _ _ => ev_le_iff) (fun _ _ _ _ _ _ _ _ k1 k2 => lv_icmp_le X.1 X.2.1 hd ht k1 k2) hq
theorem ok_cm0 (X : ev_X cc nL own rt p s m args meth c D G ad A z) (hP : ev_PP p l e R s m args below meth c Q nL D G ad A z wE nE P) {t : Nat} {f : Int32 → Bool} {g : Int32 → Prop} (hf : ∀ x, f x = true ↔ g x) (hr : ∀ (H : Heap) (locs : List Loc) (ls : Array Slot) (cells slots : Nat) (rest : List Value) (x : Int32), (g x → W p l e R s m args below meth c H locs cells slots Q (F0 m t ls rest)) → (¬ g x → W p l e R s m args below meth c H locs cells slots Q (F0 m (pc + 3) ls rest)) → W p l e R s m args below meth c H locs cells slots Q (F0 m pc ls (.int x :: rest))) (hq : pc + 3 = q) : ev_ok P r pc (ev_cm0 q t f) := by
  subst hq
  refine ok_of X hP fun k L S w n h => ?_
  obtain ⟨v, S', rfl, h⟩ := ev_lc_some h
  obtain ⟨x, rfl, h⟩ := ev_ic_some h
  rcases ev_bc_some h with ⟨hb, h⟩ | ⟨hb, h⟩
  · exact ⟨_, _, _, h, fun H locs ls hH hl hS kk => hr H locs ls _ _ _ x (fun _ => kk ls hl) (fun q => absurd ((hf x).mp hb) q)⟩
  · exact ⟨_, _, _, h, fun H locs ls hH hl hS kk => hr H locs ls _ _ _ x (fun q => by rw [(hf x).mpr q] at hb; cases hb) (fun _ => kk ls hl)⟩
theorem ok_if_eq (X : ev_X cc nL own rt p s m args meth c D G ad A z) (hP : ev_PP p l e R s m args below meth c Q nL D G ad A z wE nE P) {t : Nat} {off : Int} (hd : decode cc pc = .ok (.ifCond .eq off, 3)) (ht : (pc : Int) + off = (t : Int)) (hq : pc + 3 = q) : ev_ok P r pc (ev_cm0 q t (fun x => Nat.beq (ev_bits x) (ev_bits 0))) := ok_cm0 X hP (g := fun x => x = 0) (fun _ => ev_eq_iff) (fun _ _ _ _ _ _ _ k1 k2 => lv_if_eq X.1 X.2.1 hd ht k1 k2) hq
theorem ok_if_ne (X : ev_X cc nL own rt p s m args meth c D G ad A z) (hP : ev_PP p l e R s m args below meth c Q nL D G ad A z wE nE P) {t : Nat} {off : Int} (hd : decode cc pc = .ok (.ifCond .ne off, 3)) (ht : (pc : Int) + off = (t : Int)) (hq : pc + 3 = q) : ev_ok P r pc (ev_cm0 q t (fun x => !Nat.beq (ev_bits x) (ev_bits 0))) := ok_cm0 X hP (g := fun x => ¬ x = 0) (fun x => by rw [← ev_eq_iff]; cases Nat.beq (ev_bits x) (ev_bits 0) <;> simp) (fun _ _ _ _ _ _ _ k1 k2 => lv_if_ne X.1 X.2.1 hd ht k1 (fun e => k2 (fun q => q e))) hq
theorem ok_if_lt (X : ev_X cc nL own rt p s m args meth c D G ad A z) (hP : ev_PP p l e R s m args below meth c Q nL D G ad A z wE nE P) {t : Nat} {off : Int} (hd : decode cc pc = .ok (.ifCond .lt off, 3)) (ht : (pc : Int) + off = (t : Int)) (hq : pc + 3 = q) : ev_ok P r pc (ev_cm0 q t (fun x => Nat.blt (ev_sg x) (ev_sg 0))) := ok_cm0 X hP (g := fun x => x < 0) (fun _ => ev_lt_iff) (fun _ _ _ _ _ _ _ k1 k2 => lv_if_lt X.1 X.2.1 hd ht k1 k2) hq
theorem ok_if_ge (X : ev_X cc nL own rt p s m args meth c D G ad A z) (hP : ev_PP p l e R s m args below meth c Q nL D G ad A z wE nE P) {t : Nat} {off : Int} (hd : decode cc pc = .ok (.ifCond .ge off, 3)) (ht : (pc : Int) + off = (t : Int)) (hq : pc + 3 = q) : ev_ok P r pc (ev_cm0 q t (fun x => Nat.ble (ev_sg 0) (ev_sg x))) := ok_cm0 X hP (g := fun x => 0 ≤ x) (fun _ => ev_le_iff) (fun _ _ _ _ _ _ _ k1 k2 => lv_if_ge X.1 X.2.1 hd ht k1 k2) hq
theorem ok_if_gt (X : ev_X cc nL own rt p s m args meth c D G ad A z) (hP : ev_PP p l e R s m args below meth c Q nL D G ad A z wE nE P) {t : Nat} {off : Int} (hd : decode cc pc = .ok (.ifCond .gt off, 3)) (ht : (pc : Int) + off = (t : Int)) (hq : pc + 3 = q) : ev_ok P r pc (ev_cm0 q t (fun x => Nat.blt (ev_sg 0) (ev_sg x))) := ok_cm0 X hP (g := fun x => 0 < x) (fun _ => ev_lt_iff) (fun _ _ _ _ _ _ _ k1 k2 => lv_if_gt X.1 X.2.1 hd ht k1 k2) hq
theorem ok_if_le (X : ev_X cc nL own rt p s m args meth c D G ad A z) (hP : ev_PP p l e R s m args below meth c Q nL D G ad A z wE nE P) {t : Nat} {off : Int} (hd : decode cc pc = .ok (.ifCond .le off, 3)) (ht : (pc : Int) + off = (t : Int)) (hq : pc + 3 = q) : ev_ok P r pc (ev_cm0 q t (fun x => Nat.ble (ev_sg x) (ev_sg 0))) := ok_cm0 X hP (g := fun x => x ≤ 0) (fun _ => ev_le_iff) (fun _ _ _ _ _ _ _ k1 k2 => lv_if_le X.1 X.2.1 hd ht k1 k2) hq
theorem ok_jmp (X : ev_X cc nL own rt p s m args meth c D G ad A z) (hP : ev_PP p l e R s m args below meth c Q nL D G ad A z wE nE P) {t : Nat} {off : Int} (hd : decode cc pc = .ok (.goto off, 3)) (ht : (pc : Int) + off = (t : Int)) : ev_ok P r pc (ev_jmp t) := by
  refine ok_of X hP fun k L S w n h => ?_
  exact ⟨_, _, _, h, fun H locs ls hH hl hS kk => lv_goto X.1 X.2.1 hd ht (kk ls hl)⟩
theorem ok_i2l (X : ev_X cc nL own rt p s m args meth c D G ad A z) (hP : ev_PP p l e R s m args below meth c Q nL D G ad A z wE nE P) (hd : decode cc pc = .ok (.i2l, 1)) (hq : pc + 1 = q) : ev_ok P r pc (ev_i2l q) := by
  subst hq
  refine ok_of X hP fun k L S w n h => ?_
  obtain ⟨v, S', rfl, h⟩ := ev_lc_some h
  obtain ⟨x, rfl, h⟩ := ev_ic_some h
  exact ⟨_, _, _, h, fun H locs ls hH hl hS kk => lv_i2l X.1 X.2.1 hd rfl (kk ls hl)⟩
theorem ok_lcm (X : ev_X cc nL own rt p s m args meth c D G ad A z) (hP : ev_PP p l e R s m args below meth c Q nL D G ad A z wE nE P) (hd : decode cc pc = .ok (.lcmp, 1)) (hq : pc + 1 = q) : ev_ok P r pc (ev_lcm q) := by
  subst hq
  refine ok_of X hP fun k L S w n h => ?_
  obtain ⟨v, S1, rfl, h⟩ := ev_lc_some h
  obtain ⟨u, S', rfl, h⟩ := ev_lc_some (l := S1) h
  obtain ⟨y, rfl, h⟩ := ev_jc_some h
  obtain ⟨x, rfl, h⟩ := ev_jc_some h
  exact ⟨_, _, _, h, fun H locs ls hH hl hS kk => W.lcmp X.1 X.2.1 hd (kk ls hl)⟩
theorem ok_gst (X : ev_X cc nL own rt p s m args meth c D G ad A z) (hP : ev_PP p l e R s m args below meth c Q nL D G ad A z wE nE P) (hd : decode cc pc = .ok (.getstatic idx, 3)) (hl : Cond.fieldLink own idx "java/util/ArrayList" "DEFAULTCAPACITY_EMPTY_ELEMENTDATA" "[Ljava/lang/Object;" ∈ ev_gd) (hq : pc + 3 = q) : ev_ok P r pc (ev_gst q 1) := by
  subst hq
  refine ok_of X hP fun k L S w n h => ?_
  obtain ⟨hx, hb, hml, hown, hts, hK, hAO, hNW, hZ, -⟩ := X
  exact ⟨_, _, _, h, fun H locs ls hH hl' hS kk => va_gets hx hb hZ hS hown (hts _ hl) (fun x h => h) hd (kk ls hl')⟩
theorem ok_tsw (X : ev_X cc nL own rt p s m args meth c D G ad A z) (hP : ev_PP p l e R s m args below meth c Q nL D G ad A z wE nE P) {ts : List Nat} {dflt hi : Int} {offs : Array Int} {len : Nat} (hd : decode cc pc = .ok (.tableswitch dflt 0 hi offs, len)) (hh : hi + 1 = (ts.length : Int)) (ho : (List.range ts.length).all (fun j => match offs[j]?, ts[j]? with | some off, some t => decide ((pc : Int) + off = (t : Int)) | _, _ => false) = true) : ev_ok P r pc (ev_tsw ts) := by
  refine ok_of X hP fun k L S w n h => ?_
  obtain ⟨v, S', rfl, h⟩ := ev_lc_some h
  obtain ⟨x, rfl, h⟩ := ev_ic_some h
  obtain ⟨hb, h⟩ := ev_bc_t h
  obtain ⟨t, h1, h⟩ := ev_oc_some h
  rw [Nat.blt_eq] at hb
  rw [ev_at_eq] at h1
  have e : x.toInt = (ev_bits x : Int) := by rw [ev_bits_toInt, if_pos (by omega)]
  have hlt := (List.getElem?_eq_some_iff.mp h1).1
  have ho1 := List.all_eq_true.mp ho (ev_bits x) (List.mem_range.mpr hlt)
  rw [h1] at ho1
  cases o1 : offs[ev_bits x]? with
  | none => rw [o1] at ho1; cases ho1
  | some off =>
    rw [o1] at ho1
    have o3 : (pc : Int) + off = (t : Int) := of_decide_eq_true ho1
    refine ⟨_, _, _, h, fun H locs ls hH hl hS kk => lv_tableIn X.1 X.2.1 hd (by rw [e]; omega) (by rw [e]; omega) (off := off) ?_ o3 (kk ls hl)⟩
    rw [e]
    simpa using o1
end OPS
