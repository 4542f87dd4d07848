/-! calls -/
def ev_Qc (D : va_G) (G : Nat → ClassId) (ad : Nat → Nat) (A : Nat → Prop) (rv : Option Value) (w' : ev_W) : Array Value → State → Outcome → State → Prop := fun _ st o t => o = .returned (rv.map (ev_v ad)) ∧ ev_H D G ad A w' t.heap ∧ va_F A st t
def ev_Pc (D : va_G) (G : Nat → ClassId) (ad : Nat → Nat) (A : Nat → Prop) (vs : List Value) (w : ev_W) : Array Value → State → Prop := fun a U => a = (vs.map (ev_v ad)).toArray ∧ ev_B D G ad A w U
def ev_rm (d mc ms : Nat) : Room := { frames := d + 2, cells := mc, slots := ms, locals := 64 * (d + 2) }
/-- what the calls that the evaluator makes are over the machine: d deep at most; ys: each method's name and words -/
def ev_cf (l : Launch) (ys : List (MethodName × List Cond)) (d : Nat) (cf : Nat → List Value → ev_W → Option ev_R) : Prop :=
  ∀ (y : Nat) (vs : List Value) (w w1 : ev_W) (rv : Option Value) (k1 : Nat), cf y vs w = some (rv, w1, k1) → w.length ≤ w1.length ∧ ∀ (nm : MethodName) (ws : List Cond), ys[y]? = some (nm, ws) → ∀ (D : va_G) (G : Nat → ClassId) (ad : Nat → Nat) (A : Nat → Prop) (z : Nat), (∀ k, z ≤ k → ad (k + 1) = ad k + 1) → z ≤ w.length →
    Met l nm ws (ev_rm d (w1.length - w.length) k1) (ev_Pc D G ad A vs w) (ev_Qc D G ad A rv w1) (w1.length - w.length) k1 A
theorem ev_blind {D : va_G} {G : Nat → ClassId} {ad : Nat → Nat} {A : Nat → Prop} {vs : List Value} {w : ev_W} : FrameBlind (ev_Pc D G ad A vs w) := by
  intro a U g mk h
  obtain ⟨ha, hH, hK, hAO, hNW, hZ, hA⟩ := h
  exact ⟨ha, hH, va_K.moved (u := U) (U := U.calling g mk a) (Vm.Alike.refl U.vm) hK, va_AO.moved (u := U) (U := U.calling g mk a) (Vm.Alike.refl U.vm) hAO, ev_NW.warm (s := U) (U := U.calling g mk a) (State.WarmedH.refl U) hNW, va_Z.moved (u := U) (U := U.calling g mk a) (Vm.Alike.refl U.vm) hZ, hA⟩
theorem ev_good {ws : List Cond} (h : ∀ w ∈ ws, w ∈ ev_gd) : GoodIn ev_gd ws := fun w hw => ⟨h w hw, good_of_word (List.mem_filter.mp (h w hw)).2⟩
theorem ev_push_eq {ad : Nat → Nat} {rv : Option Value} {S : List Value} : (ev_push rv S).map (ev_v ad) = (rv.map (ev_v ad)).toList ++ S.map (ev_v ad) := by cases rv <;> rfl
section CALLS
variable {p : Program} {l : Launch} {e : Env} {R : Room} {s : State} {m : MethodId} {args : Array Value} {below : List Frame} {meth : Method} {c : Code} {Q : State → Prop}
variable {cc : ByteArray} {nL : Nat} {own : String} {rt : Option FieldType} {D : va_G} {G : Nat → ClassId} {ad : Nat → Nat} {A : Nat → Prop} {z wE nE : Nat} {α : Type} {r : α} {P : Nat → List Value → List Value → ev_W → Nat → Prop} {pc q i idx : Nat}
theorem ev_callW {H : Heap} {locs : List Loc} {cells slots mc ms : Nat} {ls : Array Slot} {st0 rest : List Value} {rv : Option Value} {w1 : ev_W} {a0 : Array Value} (hr : va_Run p l e R s m args below meth c H locs cells slots mc ms (F0 m pc ls st0) rest (ev_Qc D G ad A rv w1 a0) A) (hS : va_S A s.heap H locs)
    (kk : ∀ H1 locs1, ev_H D G ad A w1 H1 → va_S A s.heap H1 locs1 → W p l e R s m args below meth c H1 locs1 (cells + mc) (slots + ms) Q (F0 m (pc + 3) ls ((rv.map (ev_v ad)).toList ++ rest))) : W p l e R s m args below meth c H locs cells slots Q (F0 m pc ls st0) := by
  intro T hT X
  obtain ⟨v, st₀, t, T', L, h0, X', hL, e1, e2, ⟨hv, hH, hz, hk⟩, st⟩ := hr T hT X
  cases hv
  rw [h0] at hz hk
  obtain ⟨t2, a1, b1⟩ := kk T'.heap (locs ++ L) (by rw [e1]; exact hH)
    ⟨Nat.le_trans hS.1 (by rw [e1]; exact hz), fun q h1 h2 => by rw [e1, hk q (Nat.lt_of_lt_of_le h1 hS.1) h2]; exact hS.2.1 q h1 h2, fun q hq => by
      rcases List.mem_append.mp hq with h | h
      · exact hS.2.2 q h
      · exact hL q h⟩ T' rfl X'
  exact ⟨t2, st t2 a1, b1⟩
theorem ev_callW5 {H : Heap} {locs : List Loc} {cells slots mc ms : Nat} {ls : Array Slot} {st0 rest : List Value} {rv : Option Value} {w1 : ev_W} {a0 : Array Value} (hr : va_Run5 p l e R s m args below meth c H locs cells slots mc ms (F0 m pc ls st0) rest (ev_Qc D G ad A rv w1 a0) A) (hS : va_S A s.heap H locs)
    (kk : ∀ H1 locs1, ev_H D G ad A w1 H1 → va_S A s.heap H1 locs1 → W p l e R s m args below meth c H1 locs1 (cells + mc) (slots + ms) Q (F0 m (pc + 5) ls ((rv.map (ev_v ad)).toList ++ rest))) : W p l e R s m args below meth c H locs cells slots Q (F0 m pc ls st0) := by
  intro T hT X
  obtain ⟨v, st₀, t, T', L, h0, X', hL, e1, e2, ⟨hv, hH, hz, hk⟩, st⟩ := hr T hT X
  cases hv
  rw [h0] at hz hk
  obtain ⟨t2, a1, b1⟩ := kk T'.heap (locs ++ L) (by rw [e1]; exact hH)
    ⟨Nat.le_trans hS.1 (by rw [e1]; exact hz), fun q h1 h2 => by rw [e1, hk q (Nat.lt_of_lt_of_le h1 hS.1) h2]; exact hS.2.1 q h1 h2, fun q hq => by
      rcases List.mem_append.mp hq with h | h
      · exact hS.2.2 q h
      · exact hL q h⟩ T' rfl X'
  exact ⟨t2, st t2 a1, b1⟩
/-- what a callee asks, where a caller stands -/
theorem ev_Bof (X : ev_X cc nL own rt p s m args meth c D G ad A z) {w : ev_W} {H : Heap} {locs : List Loc} (hH : ev_H D G ad A w H) (hS : va_S A s.heap H locs) {U : State} (hU : U.heap = H) (hW : s.WarmedH U.vm) : ev_B D G ad A w U := by
  obtain ⟨hx, hbb, hml, hown, hts, hK, hAO, hNW, hZ, hA, -⟩ := X
  refine ⟨by rw [hU]; exact hH, va_K.moved hW.alike hK, va_AO.moved hW.alike hAO, ev_NW.warm hW hNW, ?_, fun q hq => hA q (Nat.le_trans hS.1 (by rw [← hU]; exact hq))⟩
  rw [hU]
  exact (va_Z.moved hW.alike hZ).kept (fun a h1 h2 => hS.2.1 a h1 h2)
/-- a call by its run over the machine, whatever its kind -/
abbrev ev_Ru (p : Program) (l : Launch) (e : Env) (R : Room) (s : State) (m : MethodId) (args : Array Value) (below : List Frame) (meth : Method) (c : Code) (nL : Nat) (D : va_G) (G : Nat → ClassId) (ad : Nat → Nat) (A : Nat → Prop) (z : Nat) (pc : Nat) (d : Nat) (y : MethodName) (ws : List Cond) (as S' : List Value) (w : ev_W) (n : Nat) (H : Heap) (locs : List Loc) (ls : Array Slot) : Prop :=
  ∀ (w1 : ev_W) (rv : Option Value) (k1 : Nat), Met l y ws (ev_rm d (w1.length - w.length) k1) (ev_Pc D G ad A as w) (ev_Qc D G ad A rv w1) (w1.length - w.length) k1 A → w.length - z + (w1.length - w.length) ≤ R.cells ∧ n + k1 ≤ R.slots →
      va_Run p l e R s m args below meth c H locs (w.length - z) n (w1.length - w.length) k1 (F0 m pc ls ((as.reverse ++ S').map (ev_v ad))) (S'.map (ev_v ad)) (ev_Qc D G ad A rv w1 (as.map (ev_v ad)).toArray) A
theorem ok_inv {ys : List (MethodName × List Cond)} {d : Nat} {cf : Nat → List Value → ev_W → Option ev_R} (X : ev_X cc nL own rt p s m args meth c D G ad A z) (hP : ev_PP p l e R s m args below meth c Q nL D G ad A z wE nE P) (hR : wE - z ≤ R.cells ∧ nE ≤ R.slots) (hcf : ev_cf l ys d cf) {cal na : Nat} {y : MethodName} {ws : List Cond} (hy : ys[cal]? = some (y, ws))
    (run : ∀ (as S' : List Value) (w : ev_W) (n : Nat) (H : Heap) (locs : List Loc) (ls : Array Slot), as.length = na → S'.length ≤ 4 → ev_H D G ad A w H → ls.size = nL → va_S A s.heap H locs → ev_Ru p l e R s m args below meth c nL D G ad A z pc d y ws as S' w n H locs ls) (hq : pc + 3 = q) : ev_ok P r pc (ev_inv cf q cal na : ev_O α) := by
  subst hq
  intro k L S w n hk h
  obtain ⟨as, S', rfl, hna, h1⟩ := ev_pop_some _ _ _ _ h
  rw [List.append_nil] at h1
  obtain ⟨hb, h2⟩ := ev_bc_t h1
  obtain ⟨⟨rv, w1, k1⟩, hcall, h3⟩ := ev_oc_some h2
  rw [Nat.ble_eq, ev_len_eq] at hb
  obtain ⟨hlen, hMet⟩ := hcf _ _ _ _ _ _ hcall
  rw [hP]
  intro hz
  have hM := hMet y ws hy D G ad A z X.2.2.2.2.2.2.2.2.2.2.2.2 hz
  obtain ⟨hm, h4⟩ := (hP _ _ _ _ _).mp (hk _ _ _ _ _ h3) (Nat.le_trans hz hlen)
  have hm1 : w1.length ≤ wE := hm.1
  have hm2 : n + k1 ≤ nE := hm.2
  refine ⟨⟨Nat.le_trans hlen hm1, by omega⟩, fun H locs ls hH hl' hS => ?_⟩
  refine ev_callW (run as S' w n H locs ls hna hb hH hl'.1 hS w1 rv k1 hM ⟨by omega, by omega⟩) hS fun H1 locs1 hH1 hS1 => ?_
  have h5 := h4 H1 locs1 ls hH1 hl' hS1
  rw [ev_push_eq] at h5
  have e : w.length - z + (w1.length - w.length) = w1.length - z := by omega
  rw [e]
  exact h5
theorem ok_invS {ys : List (MethodName × List Cond)} {d : Nat} {cf : Nat → List Value → ev_W → Option ev_R} (X : ev_X cc nL own rt p s m args meth c D G ad A z) (hP : ev_PP p l e R s m args below meth c Q nL D G ad A z wE nE P) (hR : wE - z ≤ R.cells ∧ nE ≤ R.slots) (hd2 : d + 3 ≤ R.frames ∧ 64 * (d + 3) ≤ R.locals) (hcf : ev_cf l ys d cf) {cal na : Nat} {y : MethodName} {bytes : ByteArray} {maxL : Nat} {ret : Option FieldType} (hy : ys[cal]? = some (y, Cond.code y bytes maxL ret :: ev_gd)) (hd : decode cc pc = .ok (.invokestatic idx, 3)) (h1 : Cond.code y bytes maxL ret ∈ ev_gd) (h2 : Cond.methodLink own idx y ∈ ev_gd) (h3 : Cond.static y ∈ ev_gd) (h4 : Cond.initialized y.cls ∈ ev_gd)
    (hdn : y.cls ≠ "java/lang/invoke/MethodHandle" ∧ y.cls ≠ "java/lang/invoke/VarHandle" ∧ (parseMethodDescriptor y.desc).map (fun d => d.parameters.length) = some na) (hm : maxL ≤ 45) (hq : pc + 3 = q) : ev_ok P r pc (ev_inv cf q cal na : ev_O α) := by
  refine ok_inv X hP hR hcf hy (fun as S' w n H locs ls hna hS' hH hls hS w1 rv k1 hM hbud => ?_) hq
  obtain ⟨hx, hbb, hml, hown, hts, -⟩ := id X
  refine va_runS ⟨hx, hbb, hml, hown, hts⟩ hM (va_cwS na hts (ev_good fun w hw => ?_) rfl rfl rfl hdn ⟨hd2.1, ?_⟩) ⟨ev_blind, fun U hU hW => ⟨rfl, ev_Bof X hH hS hU hW⟩⟩ rfl (by rw [List.length_map]; exact hna) hls (by rw [List.map_append, List.map_reverse]) (lv_room (ev_sum hS')) hd hbud
  · unfold va_wsS at hw
    rcases List.mem_append.mp hw with hw | hw
    · simp at hw
      rcases hw with rfl | rfl | rfl
      · exact h2
      · exact h3
      · exact h4
    · rcases List.mem_cons.mp hw with rfl | hw
      · exact h1
      · exact hw
  · show 8 + (maxL + 11) + 64 * (d + 2) ≤ R.locals
    omega
theorem ok_invSW {ys : List (MethodName × List Cond)} {d : Nat} {cf : Nat → List Value → ev_W → Option ev_R} (X : ev_X cc nL own rt p s m args meth c D G ad A z) (hP : ev_PP p l e R s m args below meth c Q nL D G ad A z wE nE P) (hR : wE - z ≤ R.cells ∧ nE ≤ R.slots) (hd2 : d + 3 ≤ R.frames ∧ 64 * (d + 3) ≤ R.locals) (hcf : ev_cf l ys d cf) {cal na : Nat} {y : MethodName} {bytes : ByteArray} {maxL : Nat} {ret : Option FieldType} {hh : List (Nat × Nat × Nat × Nat)} (hy : ys[cal]? = some (y, Cond.codeWith y bytes maxL ret hh :: ev_gd)) (hd : decode cc pc = .ok (.invokestatic idx, 3)) (h1 : Cond.codeWith y bytes maxL ret hh ∈ ev_gd) (h2 : Cond.methodLink own idx y ∈ ev_gd) (h3 : Cond.static y ∈ ev_gd) (h4 : Cond.initialized y.cls ∈ ev_gd)
    (hdn : y.cls ≠ "java/lang/invoke/MethodHandle" ∧ y.cls ≠ "java/lang/invoke/VarHandle" ∧ (parseMethodDescriptor y.desc).map (fun d => d.parameters.length) = some na) (hm : maxL ≤ 45) (hq : pc + 3 = q) : ev_ok P r pc (ev_inv cf q cal na : ev_O α) := by
  refine ok_inv X hP hR hcf hy (fun as S' w n H locs ls hna hS' hH hls hS w1 rv k1 hM hbud => ?_) hq
  obtain ⟨hx, hbb, hml, hown, hts, -⟩ := id X
  refine vx_runSW ⟨hx, hbb, hml, hown, hts⟩ hM (vx_cwSW na hts (ev_good fun w hw => ?_) rfl rfl rfl hdn ⟨hd2.1, ?_⟩) ⟨ev_blind, fun U hU hW => ⟨rfl, ev_Bof X hH hS hU hW⟩⟩ rfl (by rw [List.length_map]; exact hna) hls (by rw [List.map_append, List.map_reverse]) (lv_room (ev_sum hS')) hd hbud
  · unfold va_wsS at hw
    rcases List.mem_append.mp hw with hw | hw
    · simp at hw
      rcases hw with rfl | rfl | rfl
      · exact h2
      · exact h3
      · exact h4
    · rcases List.mem_cons.mp hw with rfl | hw
      · exact h1
      · exact hw
  · show 8 + (maxL + 11) + 64 * (d + 2) ≤ R.locals
    omega
theorem ok_invSN {ys : List (MethodName × List Cond)} {d : Nat} {cf : Nat → List Value → ev_W → Option ev_R} (X : ev_X cc nL own rt p s m args meth c D G ad A z) (hP : ev_PP p l e R s m args below meth c Q nL D G ad A z wE nE P) (hR : wE - z ≤ R.cells ∧ nE ≤ R.slots) (hd2 : d + 3 ≤ R.frames ∧ 64 * (d + 3) ≤ R.locals) (hcf : ev_cf l ys d cf) {cal na : Nat} {y : MethodName} {host : String} {bytes : ByteArray} {maxL : Nat} {ret : Option FieldType} (hy : ys[cal]? = some (y, Cond.code y bytes maxL ret :: ev_gd)) (hd : decode cc pc = .ok (.invokestatic idx, 3)) (h1 : Cond.code y bytes maxL ret ∈ ev_gd) (h2 : Cond.methodLinkNest own idx y host ∈ ev_nw) (h3 : Cond.static y ∈ ev_gd) (h4 : Cond.initialized y.cls ∈ ev_gd)
    (hdn : y.cls ≠ "java/lang/invoke/MethodHandle" ∧ y.cls ≠ "java/lang/invoke/VarHandle" ∧ (parseMethodDescriptor y.desc).map (fun d => d.parameters.length) = some na) (hm : maxL ≤ 45) (hq : pc + 3 = q) : ev_ok P r pc (ev_inv cf q cal na : ev_O α) := by
  refine ok_inv X hP hR hcf hy (fun as S' w n H locs ls hna hS' hH hls hS w1 rv k1 hM hbud => ?_) hq
  obtain ⟨hx, hbb, hml, hown, hts, hK, hAO, hNW, -⟩ := id X
  refine va_runSN ⟨hx, hbb, hml, hown, hts⟩ hM ⟨va_cnB na hts (ev_good fun w hw => ?_) rfl rfl rfl (hNW.1 _ h2) (hts _ h4) hdn ⟨hd2.1, ?_⟩, hts _ h3, trivial⟩ ⟨ev_blind, fun U hU hW => ⟨rfl, ev_Bof X hH hS hU hW⟩⟩ rfl (by rw [List.length_map]; exact hna) hls (by rw [List.map_append, List.map_reverse]) (lv_room (ev_sum hS')) hd hbud
  · rcases List.mem_cons.mp hw with rfl | hw
    · exact h1
    · exact hw
  · show 8 + (maxL + 11) + 64 * (d + 2) ≤ R.locals
    omega
/-- the receiver is the deepest of the arguments -/
theorem ev_recv_split {as : List Value} {na : Nat} (h : as.length = na + 1) : ∃ v as', as = v :: as' ∧ as'.length = na := by
  cases as with
  | nil => simp at h
  | cons v as' => exact ⟨v, as', rfl, by simpa using h⟩
theorem ok_inr0 {ys : List (MethodName × List Cond)} {d : Nat} {cf : Nat → List Value → ev_W → Option ev_R} (X : ev_X cc nL own rt p s m args meth c D G ad A z) (hP : ev_PP p l e R s m args below meth c Q nL D G ad A z wE nE P) (hR : wE - z ≤ R.cells ∧ nE ≤ R.slots) (hcf : ev_cf l ys d cf) {cal na ci : Nat} {y : MethodName} {ws : List Cond} (hy : ys[cal]? = some (y, ws)) (len : Nat)
    (go : ∀ (a : Nat) (as' S' : List Value) (w : ev_W) (n : Nat) (H : Heap) (locs : List Loc) (ls : Array Slot) (c0 : ev_Q) (w1 : ev_W) (rv : Option Value) (k1 : Nat), as'.length + 1 = na → S'.length ≤ 4 → w[a]? = some c0 → Nat.beq c0.1 (ci + 3) = true → ev_H D G ad A w H → ls.size = nL → va_S A s.heap H locs → Met l y ws (ev_rm d (w1.length - w.length) k1) (ev_Pc D G ad A (.ref a :: as') w) (ev_Qc D G ad A rv w1) (w1.length - w.length) k1 A → w.length - z + (w1.length - w.length) ≤ R.cells ∧ n + k1 ≤ R.slots →
      (∀ H1 locs1, ev_H D G ad A w1 H1 → va_S A s.heap H1 locs1 → W p l e R s m args below meth c H1 locs1 (w.length - z + (w1.length - w.length)) (n + k1) Q (F0 m (pc + len) ls ((rv.map (ev_v ad)).toList ++ S'.map (ev_v ad)))) → W p l e R s m args below meth c H locs (w.length - z) n Q (F0 m pc ls (((.ref a :: as').reverse ++ S').map (ev_v ad)))) : ev_ok P r pc (ev_inr cf (pc + len) cal na ci : ev_O α) := by
  intro k L S w n hk h
  obtain ⟨as, S', rfl, hna, h1⟩ := ev_pop_some _ _ _ _ h
  rw [List.append_nil] at h1
  obtain ⟨v, as', rfl, h2⟩ := ev_lc_some h1
  obtain ⟨a, rfl, h3⟩ := ev_rc_some (v := v) h2
  obtain ⟨c0, hc0, h4⟩ := ev_oc_some h3
  obtain ⟨hb, h5⟩ := ev_bc_t h4
  obtain ⟨⟨rv, w1, k1⟩, hcall, h6⟩ := ev_oc_some h5
  rw [ev_at_eq] at hc0
  rw [Bool.and_eq_true, Nat.ble_eq, ev_len_eq] at hb
  obtain ⟨hlen, hMet⟩ := hcf _ _ _ _ _ _ hcall
  rw [hP]
  intro hz
  have hM := hMet y ws hy D G ad A z X.2.2.2.2.2.2.2.2.2.2.2.2 hz
  obtain ⟨hm, h7⟩ := (hP _ _ _ _ _).mp (hk _ _ _ _ _ h6) (Nat.le_trans hz hlen)
  have hm1 : w1.length ≤ wE := hm.1
  have hm2 : n + k1 ≤ nE := hm.2
  refine ⟨⟨Nat.le_trans hlen hm1, by omega⟩, fun H locs ls hH hl' hS => ?_⟩
  refine go a as' S' w n H locs ls c0 w1 rv k1 (by simpa using hna) hb.2 hc0 hb.1 hH hl'.1 hS hM ⟨by omega, by omega⟩ fun H1 locs1 hH1 hS1 => ?_
  have h8 := h7 H1 locs1 ls hH1 hl' hS1
  rw [ev_push_eq] at h8
  have e : w.length - z + (w1.length - w.length) = w1.length - z := by omega
  rw [e]
  exact h8
theorem ok_invV {ys : List (MethodName × List Cond)} {d : Nat} {cf : Nat → List Value → ev_W → Option ev_R} (X : ev_X cc nL own rt p s m args meth c D G ad A z) (hP : ev_PP p l e R s m args below meth c Q nL D G ad A z wE nE P) (hR : wE - z ≤ R.cells ∧ nE ≤ R.slots) (hd2 : d + 3 ≤ R.frames ∧ 64 * (d + 3) ≤ R.locals) (hcf : ev_cf l ys d cf) {cal na ci : Nat} {y : MethodName} {bytes : ByteArray} {maxL : Nat} {ret : Option FieldType} {C : vw_C} (hy : ys[cal]? = some (y, Cond.code y bytes maxL ret :: ev_gd)) (hc : vwCl[ci]? = some C) (hd : decode cc pc = .ok (.invokevirtual idx, 3)) (h1 : Cond.code y bytes maxL ret ∈ ev_gd) (h2 : Cond.methodLink own idx y ∈ ev_gd) (h3 : Cond.instanceMethod y ∈ ev_gd) (h4 : Cond.selects C.1 y y ∈ ev_gd) (h5 : Cond.initialized C.1 ∈ ev_gd)
    (hdn : y.cls = C.1 ∧ y.cls ≠ "java/lang/invoke/MethodHandle" ∧ y.cls ≠ "java/lang/invoke/VarHandle" ∧ (parseMethodDescriptor y.desc).map (fun d => d.parameters.length) = some na) (hm : maxL ≤ 45) (hq : pc + 3 = q) : ev_ok P r pc (ev_inr cf q cal (na + 1) ci : ev_O α) := by
  subst hq
  refine ok_inr0 X hP hR hcf hy 3 fun a as' S' w n H locs ls c0 w1 rv k1 hna hS' hc0 hb hH hls hS hM hbud kk => ?_
  obtain ⟨hx, hbb, hml, hown, hts, hK, -⟩ := id X
  refine ev_callW (va_runV (As := as'.map (ev_v ad)) (rest := S'.map (ev_v ad)) (b := ad a) ⟨hx, hbb, hml, hown, hts⟩ hM (cwV na hts (ev_good fun w hw => ?_) rfl rfl rfl hdn ⟨hd2.1, ?_⟩) ⟨ev_blind, va_recv hK hH.1 hc (ev_obj_at (G := G) (ad := ad) hc0 hb), fun U hU hW => ⟨rfl, ev_Bof X hH hS hU hW⟩⟩ rfl (by rw [List.length_map]; omega) hls (by simp [ev_v]) (lv_room (ev_sum hS')) hd hbud) hS kk
  · unfold wsV at hw
    rcases List.mem_append.mp hw with hw | hw
    · simp at hw
      rcases hw with rfl | rfl | rfl | rfl
      · exact h2
      · exact h3
      · exact h4
      · exact h5
    · rcases List.mem_cons.mp hw with rfl | hw
      · exact h1
      · exact hw
  · show 8 + (maxL + 11) + 64 * (d + 2) ≤ R.locals
    omega
theorem ok_invF {ys : List (MethodName × List Cond)} {d cnt : Nat} {cf : Nat → List Value → ev_W → Option ev_R} (X : ev_X cc nL own rt p s m args meth c D G ad A z) (hP : ev_PP p l e R s m args below meth c Q nL D G ad A z wE nE P) (hR : wE - z ≤ R.cells ∧ nE ≤ R.slots) (hd2 : d + 3 ≤ R.frames ∧ 64 * (d + 3) ≤ R.locals) (hcf : ev_cf l ys d cf) {cal na ci : Nat} {x y : MethodName} {bytes : ByteArray} {maxL : Nat} {ret : Option FieldType} {C : vw_C} (hy : ys[cal]? = some (y, Cond.code y bytes maxL ret :: ev_gd)) (hc : vwCl[ci]? = some C) (hd : decode cc pc = .ok (.invokeinterface idx cnt, 5)) (h1 : Cond.code y bytes maxL ret ∈ ev_gd) (h2 : Cond.methodLink own idx x ∈ ev_gd) (h3 : Cond.selects C.1 x y ∈ ev_gd) (h4 : Cond.instanceMethod y ∈ ev_gd) (h5 : Cond.initialized y.cls ∈ ev_gd) (h6 : (C.1, x, y) ∈ ev_fw)
    (hdn : x.cls ≠ "java/lang/invoke/MethodHandle" ∧ x.cls ≠ "java/lang/invoke/VarHandle" ∧ (parseMethodDescriptor x.desc).map (fun d => d.parameters.length) = some na) (hm : maxL ≤ 45) (hq : pc + 5 = q) : ev_ok P r pc (ev_inr cf q cal (na + 1) ci : ev_O α) := by
  subst hq
  refine ok_inr0 X hP hR hcf hy 5 fun a as' S' w n H locs ls c0 w1 rv k1 hna hS' hc0 hb hH hls hS hM hbud kk => ?_
  obtain ⟨hx, hbb, hml, hown, hts, hK, hAO, hNW, -⟩ := id X
  refine ev_callW5 (va_runF (As := as'.map (ev_v ad)) (rest := S'.map (ev_v ad)) (b := ad a) (hK.1 ci _ hc).2 ⟨hx, hbb, hml, hown, hts⟩ hM (va_cwF na hts (ev_good fun w hw => ?_) rfl rfl rfl (hNW.2.1 _ h6) hdn ⟨hd2.1, ?_⟩) ⟨ev_blind, va_recv hK hH.1 hc (ev_obj_at (G := G) (ad := ad) hc0 hb), fun U hU hW => ⟨rfl, ev_Bof X hH hS hU hW⟩⟩ rfl (by rw [List.length_map]; omega) hls (by simp [ev_v]) (lv_room (ev_sum hS')) hd hbud) hS kk
  · unfold va_wsF at hw
    rcases List.mem_append.mp hw with hw | hw
    · simp at hw
      rcases hw with rfl | rfl | rfl | rfl
      · exact h2
      · exact h3
      · exact h4
      · exact h5
    · rcases List.mem_cons.mp hw with rfl | hw
      · exact h1
      · exact hw
  · show 8 + (maxL + 11) + 64 * (d + 2) ≤ R.locals
    omega
/-- constructors: the receiver lies deepest, and is a cell's place -/
theorem ok_inv1 {ys : List (MethodName × List Cond)} {d : Nat} {cf : Nat → List Value → ev_W → Option ev_R} (X : ev_X cc nL own rt p s m args meth c D G ad A z) (hP : ev_PP p l e R s m args below meth c Q nL D G ad A z wE nE P) (hR : wE - z ≤ R.cells ∧ nE ≤ R.slots) (hcf : ev_cf l ys d cf) {cal na : Nat} {y : MethodName} {ws : List Cond} (hy : ys[cal]? = some (y, ws))
    (run : ∀ (a : Nat) (as' S' : List Value) (w : ev_W) (n : Nat) (H : Heap) (locs : List Loc) (ls : Array Slot), as'.length = na → S'.length ≤ 4 → ev_H D G ad A w H → ls.size = nL → va_S A s.heap H locs → ev_Ru p l e R s m args below meth c nL D G ad A z pc d y ws (.ref a :: as') S' w n H locs ls) (hq : pc + 3 = q) : ev_ok P r pc (ev_ini cf q cal (na + 1) : ev_O α) := by
  subst hq
  intro k L S w n hk h
  obtain ⟨as, S', rfl, hna, h1⟩ := ev_pop_some _ _ _ _ h
  rw [List.append_nil] at h1
  obtain ⟨v, as', rfl, h2⟩ := ev_lc_some h1
  obtain ⟨a, rfl, h3⟩ := ev_rc_some (v := v) h2
  obtain ⟨hb, h5⟩ := ev_bc_t h3
  obtain ⟨⟨rv, w1, k1⟩, hcall, h6⟩ := ev_oc_some h5
  rw [Nat.ble_eq, ev_len_eq] at hb
  obtain ⟨hlen, hMet⟩ := hcf _ _ _ _ _ _ hcall
  rw [hP]
  intro hz
  have hM := hMet y ws hy D G ad A z X.2.2.2.2.2.2.2.2.2.2.2.2 hz
  obtain ⟨hm, h7⟩ := (hP _ _ _ _ _).mp (hk _ _ _ _ _ h6) (Nat.le_trans hz hlen)
  have hm1 : w1.length ≤ wE := hm.1
  have hm2 : n + k1 ≤ nE := hm.2
  refine ⟨⟨Nat.le_trans hlen hm1, by omega⟩, fun H locs ls hH hl' hS => ?_⟩
  refine ev_callW (run a as' S' w n H locs ls (by simpa using hna) hb hH hl'.1 hS w1 rv k1 hM ⟨by omega, by omega⟩) hS fun H1 locs1 hH1 hS1 => ?_
  have h8 := h7 H1 locs1 ls hH1 hl' hS1
  rw [ev_push_eq] at h8
  have e : w.length - z + (w1.length - w.length) = w1.length - z := by omega
  rw [e]
  exact h8
theorem ok_invI {ys : List (MethodName × List Cond)} {d : Nat} {cf : Nat → List Value → ev_W → Option ev_R} (X : ev_X cc nL own rt p s m args meth c D G ad A z) (hP : ev_PP p l e R s m args below meth c Q nL D G ad A z wE nE P) (hR : wE - z ≤ R.cells ∧ nE ≤ R.slots) (hd2 : d + 3 ≤ R.frames ∧ 64 * (d + 3) ≤ R.locals) (hcf : ev_cf l ys d cf) {cal na : Nat} {y : MethodName} {bytes : ByteArray} {maxL : Nat} (hy : ys[cal]? = some (y, Cond.code y bytes maxL none :: ev_gd)) (hd : decode cc pc = .ok (.invokespecial idx, 3)) (h1 : Cond.code y bytes maxL none ∈ ev_gd) (h2 : Cond.methodLink own idx y ∈ ev_gd) (h3 : Cond.instanceMethod y ∈ ev_gd) (h4 : Cond.initialized y.cls ∈ ev_gd) (hy1 : y.name = "<init>")
    (hdn : y.cls ≠ "java/lang/invoke/MethodHandle" ∧ y.cls ≠ "java/lang/invoke/VarHandle" ∧ (parseMethodDescriptor y.desc).map (fun d => d.parameters.length) = some na) (hm : maxL ≤ 45) (hq : pc + 3 = q) : ev_ok P r pc (ev_ini cf q cal (na + 1) : ev_O α) := by
  refine ok_inv1 X hP hR hcf hy (fun a as' S' w n H locs ls hna hS' hH hls hS w1 rv k1 hM hbud => ?_) hq
  obtain ⟨hx, hbb, hml, hown, hts, -⟩ := id X
  refine va_runI (As := as'.map (ev_v ad)) (rest := S'.map (ev_v ad)) (b := ad a) ⟨hx, hbb, hml, hown, hts⟩ hM (cwI na hts (ev_good fun w hw => ?_) rfl rfl rfl (hts _ h4) (hts _ h2) (hts _ h3) hy1 hdn ⟨hd2.1, ?_⟩) ⟨ev_blind, fun U hU hW => ⟨rfl, ev_Bof X hH hS hU hW⟩⟩ rfl (by rw [List.length_map]; exact hna) hls (by simp [ev_v]) (lv_room (ev_sum hS')) hd hbud
  · rcases List.mem_cons.mp hw with rfl | hw
    · exact h1
    · exact hw
  · show 8 + (maxL + 11) + 64 * (d + 2) ≤ R.locals
    omega
theorem ok_invIN {ys : List (MethodName × List Cond)} {d : Nat} {cf : Nat → List Value → ev_W → Option ev_R} (X : ev_X cc nL own rt p s m args meth c D G ad A z) (hP : ev_PP p l e R s m args below meth c Q nL D G ad A z wE nE P) (hR : wE - z ≤ R.cells ∧ nE ≤ R.slots) (hd2 : d + 3 ≤ R.frames ∧ 64 * (d + 3) ≤ R.locals) (hcf : ev_cf l ys d cf) {cal na : Nat} {y : MethodName} {host : String} {bytes : ByteArray} {maxL : Nat} (hy : ys[cal]? = some (y, Cond.code y bytes maxL none :: ev_gd)) (hd : decode cc pc = .ok (.invokespecial idx, 3)) (h1 : Cond.code y bytes maxL none ∈ ev_gd) (h2 : Cond.methodLinkNest own idx y host ∈ ev_nw) (h3 : Cond.instanceMethod y ∈ ev_gd) (h4 : Cond.initialized y.cls ∈ ev_gd) (hy1 : y.name = "<init>")
    (hdn : y.cls ≠ "java/lang/invoke/MethodHandle" ∧ y.cls ≠ "java/lang/invoke/VarHandle" ∧ (parseMethodDescriptor y.desc).map (fun d => d.parameters.length) = some na) (hm : maxL ≤ 45) (hq : pc + 3 = q) : ev_ok P r pc (ev_ini cf q cal (na + 1) : ev_O α) := by
  refine ok_inv1 X hP hR hcf hy (fun a as' S' w n H locs ls hna hS' hH hls hS w1 rv k1 hM hbud => ?_) hq
  obtain ⟨hx, hbb, hml, hown, hts, hK, hAO, hNW, -⟩ := id X
  refine va_runIN (As := as'.map (ev_v ad)) (rest := S'.map (ev_v ad)) (b := ad a) ⟨hx, hbb, hml, hown, hts⟩ hM ⟨va_cnB na hts (ev_good fun w hw => ?_) rfl rfl rfl (hNW.1 _ h2) (hts _ h4) hdn ⟨hd2.1, ?_⟩, hy1, hts _ h3⟩ ⟨ev_blind, fun U hU hW => ⟨rfl, ev_Bof X hH hS hU hW⟩⟩ rfl (by rw [List.length_map]; exact hna) hls (by simp [ev_v]) (lv_room (ev_sum hS')) hd hbud
  · rcases List.mem_cons.mp hw with rfl | hw
    · exact h1
    · exact hw
  · show 8 + (maxL + 11) + 64 * (d + 2) ≤ R.locals
    omega
end CALLS
