/-! operations on the world's cells -/
theorem ev_H_set {D : va_G} {G : Nat → ClassId} {ad : Nat → Nat} {A : Nat → Prop} {w : ev_W} {H H1 : Heap} {a : Nat} {c0 c1 : ev_Q} (hH : ev_H D G ad A w H) (h0 : w[a]? = some c0) (he : va_at D vwCl (ad a, ev_e G ad c1) H1) (z : H1.size = H.size) (oq : ∀ q : Nat, q ≠ ad a → H1[q]? = H[q]?) (hc : c1.2.1 = c1.2.2.length ∧ c1.2.1 ≤ 100000) : ev_H D G ad A (w.set a c1) H1 := by
  obtain ⟨hP, hD, hw, hz⟩ := hH
  have h1 := ev_w_at (G := G) (ad := ad) h0
  refine ⟨?_, ?_, ev_wf_set hw hc, by rw [z, hz, List.length_set]⟩
  · rw [ev_w_set]; exact hP.set hD h1 he oq
  · rw [ev_w_set]; exact hD.set h1
theorem ev_H_push {D : va_G} {G : Nat → ClassId} {ad : Nat → Nat} {A : Nat → Prop} {w : ev_W} {H H1 : Heap} {c1 : ev_Q} (hH : ev_H D G ad A w H) (he : va_at D vwCl (ad w.length, ev_e G ad c1) H1) (z : H1.size = H.size + 1) (oq : ∀ q : Nat, q < H.size → H1[q]? = H[q]?) (hA : A (ad w.length)) (had : ad (w.length + 1) = ad w.length + 1) (hc : c1.2.1 = c1.2.2.length ∧ c1.2.1 ≤ 100000) : ev_H D G ad A (w ++ [c1]) H1 := by
  obtain ⟨hP, hD, hw, hz⟩ := hH
  refine ⟨?_, ?_, ev_wf_push hw hc, by rw [z, hz, List.length_append, List.length_singleton, had]⟩
  · rw [ev_w_push]
    refine (hP.kept (fun k q hk => oq q.1 (hP k q hk).lt)).app (fun k q hk => ?_)
    have hl := (List.getElem?_eq_some_iff.mp hk).1
    rw [List.length_singleton] at hl
    have h0 : k = 0 := by omega
    subst h0
    cases hk
    exact he
  · rw [ev_w_push]
    exact hD.push hP hz.symm hA
theorem ev_obj_at {G : Nat → ClassId} {ad : Nat → Nat} {w : ev_W} {a ci : Nat} {c : ev_Q} (h : w[a]? = some c) (ht : Nat.beq c.1 (ci + 3) = true) : (ev_w G ad w)[a]? = some (ad a, .inr (ci, c.2.2.map (ev_v ad))) := by
  obtain ⟨t, N, vs⟩ := c
  have e : t = ci + 3 := Nat.eq_of_beq_eq_true ht
  subst e
  exact ev_w_at h
theorem ev_arr_at {G : Nat → ClassId} {ad : Nat → Nat} {w : ev_W} {a : Nat} {c : ev_Q} (h : w[a]? = some c) (t : Nat) (ht : c.1 = t) : (ev_w G ad w)[a]? = some (ad a, ev_e G ad (t, c.2)) := by
  subst ht
  exact ev_w_at h
/-- which types a field's kind stands for -/
def ev_tk (ty : FieldType) (q : Nat) : Bool := match q, ty with
  | 0, .int => true
  | 1, .object _ => true
  | 1, .array _ => true
  | 2, .boolean => true
  | 3, .long => true
  | _, _ => false
theorem ev_fit_some {α : Type} {q : Nat} {v : Value} {y : Option α} {r : α} {ty : FieldType} {ad : Nat → Nat} (hty : ev_tk ty q = true) (h : ev_fit q v y = some r) : y = some r ∧ narrow ty (ev_v ad v) = ev_v ad v ∧ fits ty (ev_v ad v) = true := by
  match q, hty, h with
  | 0, hty, h =>
    obtain ⟨x, rfl, h1⟩ := ev_ic_some (v := v) h
    cases ty <;> simp [ev_tk] at hty
    exact ⟨h1, rfl, rfl⟩
  | 1, hty, h =>
    obtain ⟨hv, h1⟩ := ev_pc_some (v := v) h
    rcases hv with rfl | ⟨x, rfl⟩ <;> cases ty <;> simp [ev_tk] at hty <;> exact ⟨h1, rfl, rfl⟩
  | 2, hty, h =>
    obtain ⟨x, rfl, h1⟩ := ev_ic_some (v := v) h
    obtain ⟨hb, h2⟩ := ev_bc_t h1
    cases ty <;> simp [ev_tk] at hty
    rcases ev_bool (by rw [← Nat.blt_eq]; exact hb) with rfl | rfl
    · exact ⟨h2, rfl, rfl⟩
    · exact ⟨h2, rfl, rfl⟩
  | 3, hty, h =>
    obtain ⟨x, rfl, h1⟩ := ev_jc_some (v := v) h
    cases ty <;> simp [ev_tk] at hty
    exact ⟨h1, rfl, rfl⟩
  | q + 4, hty, h => cases ty <;> simp [ev_tk] at hty
section HOPS
variable {p : Program} {l : Launch} {e : Env} {R : Room} {s : State} {m : MethodId} {args : Array Value} {below : List Frame} {meth : Method} {c : Code} {Q : State → Prop}
variable {cc : ByteArray} {nL : Nat} {own : String} {rt : Option FieldType} {D : va_G} {G : Nat → ClassId} {ad : Nat → Nat} {A : Nat → Prop} {z wE nE : Nat} {α : Type} {r : α} {P : Nat → List Value → List Value → ev_W → Nat → Prop} {pc q i idx : Nat}
/-- an operation that sets a cell -/
theorem ok_upd (hP : ev_PP p l e R s m args below meth c Q nL D G ad A z wE nE P) {o : ev_O α} (h : ∀ (k : ev_G α) (L S : List Value) (w : ev_W) (n : Nat), o k L S w n = some r → ∃ pc' S' a c1, k pc' L S' (w.set a c1) n = some r ∧ ∀ (H : Heap) (locs : List Loc) (ls : Array Slot), ev_H D G ad A w H → lv_has ls nL (ev_l ad L) → va_S A s.heap H locs → (∀ H1 locs1, ev_H D G ad A (w.set a c1) H1 → va_S A s.heap H1 locs1 → W p l e R s m args below meth c H1 locs1 (w.length - z) n Q (F0 m pc' ls (S'.map (ev_v ad)))) → W p l e R s m args below meth c H locs (w.length - z) n Q (F0 m pc ls (S.map (ev_v ad)))) : ev_ok P r pc o := by
  intro k L S w n hk ho
  obtain ⟨pc', S', a, c1, h1, h2⟩ := h k L S w n ho
  rw [hP]
  intro hz
  obtain ⟨hm, h3⟩ := (hP _ _ _ _ _).mp (hk _ _ _ _ _ h1) (by rw [List.length_set]; exact hz)
  rw [List.length_set] at hm h3
  exact ⟨hm, fun H locs ls hH hl hS => h2 H locs ls hH hl hS fun H1 locs1 hH1 hS1 => h3 H1 locs1 ls hH1 hl hS1⟩
/-- an operation that makes a cell of N slots -/
theorem ok_push (hP : ev_PP p l e R s m args below meth c Q nL D G ad A z wE nE P) (hR : wE - z ≤ R.cells ∧ nE ≤ R.slots) {o : ev_O α} (h : ∀ (k : ev_G α) (L S : List Value) (w : ev_W) (n : Nat), o k L S w n = some r → ∃ pc' S' c1 N, k pc' L S' (w ++ [c1]) (n + N) = some r ∧ ∀ (H : Heap) (locs : List Loc) (ls : Array Slot), z ≤ w.length → w.length - z + 1 ≤ R.cells → n + N ≤ R.slots → ev_H D G ad A w H → lv_has ls nL (ev_l ad L) → va_S A s.heap H locs → (∀ H1 locs1, ev_H D G ad A (w ++ [c1]) H1 → va_S A s.heap H1 locs1 → W p l e R s m args below meth c H1 locs1 (w.length - z + 1) (n + N) Q (F0 m pc' ls (S'.map (ev_v ad)))) → W p l e R s m args below meth c H locs (w.length - z) n Q (F0 m pc ls (S.map (ev_v ad)))) : ev_ok P r pc o := by
  intro k L S w n hk ho
  obtain ⟨pc', S', c1, N, h1, h2⟩ := h k L S w n ho
  rw [hP]
  intro hz
  obtain ⟨hm, h3⟩ := (hP _ _ _ _ _).mp (hk _ _ _ _ _ h1) (by rw [List.length_append]; omega)
  rw [List.length_append, List.length_singleton] at hm h3
  have e : w.length + 1 - z = w.length - z + 1 := by omega
  rw [e] at h3
  exact ⟨⟨by omega, by omega⟩, fun H locs ls hH hl hS => h2 H locs ls hz (by omega) (by omega) hH hl hS fun H1 locs1 hH1 hS1 => h3 H1 locs1 ls hH1 hl hS1⟩
theorem ev_same {ref O nm ds : String} (X : ev_X cc nL own rt p s m args meth c D G ad A z) (hs : ref = O ∨ Cond.sameField ref O nm ds ∈ ev_gd) : ∀ x, s.fieldFound? O nm ds = some x → s.fieldFound? ref nm ds = some x := by
  intro x hx
  rcases hs with rfl | h
  · exact hx
  · exact u_same (X.2.2.2.2.1 _ h) x hx
theorem ok_get (X : ev_X cc nL own rt p s m args meth c D G ad A z) (hP : ev_PP p l e R s m args below meth c Q nL D G ad A z wE nE P) {ci kf N : Nat} {ref C : String} {T : u_T} (hd : decode cc pc = .ok (.getfield idx, 3)) (hc : vwCl[ci]? = some (C, T, N)) (hin : ∀ w ∈ u_ws C T N, w ∈ ev_gd) (hk : kf < N) (hl : Cond.fieldLink own idx ref (T kf).2.1 (T kf).2.2.1 ∈ ev_gd) (hs : ref = (T kf).1 ∨ Cond.sameField ref (T kf).1 (T kf).2.1 (T kf).2.2.1 ∈ ev_gd) (hq : pc + 3 = q) : ev_ok P r pc (ev_get q ci kf) := by
  subst hq
  have hsame := ev_same X hs
  refine ok_of X hP fun k L S w n h => ?_
  obtain ⟨v, S', rfl, h1⟩ := ev_lc_some h
  obtain ⟨a, rfl, h2⟩ := ev_rc_some (v := v) h1
  obtain ⟨c0, hc0, h3⟩ := ev_oc_some h2
  obtain ⟨hb, h4⟩ := ev_bc_t h3
  obtain ⟨u, hu, h5⟩ := ev_oc_some h4
  rw [ev_at_eq] at hc0 hu
  obtain ⟨hx, hbb, hml, hown, hts, hK, -⟩ := X
  exact ⟨_, _, _, h5, fun H locs ls hH hl' hS kk => va_get hx hbb hts hin hown hK hH.1 a (ev_obj_at hc0 hb) hc kf hk (hts _ hl) hsame (v := ev_v ad u) (by rw [List.getElem?_map, hu]; rfl) hd (kk ls hl')⟩
theorem ok_getN (X : ev_X cc nL own rt p s m args meth c D G ad A z) (hP : ev_PP p l e R s m args below meth c Q nL D G ad A z wE nE P) {ci kf N : Nat} {ref C host : String} {T : u_T} (hd : decode cc pc = .ok (.getfield idx, 3)) (hc : vwCl[ci]? = some (C, T, N)) (hin : ∀ w ∈ u_ws C T N, w ∈ ev_gd) (hk : kf < N) (hl : Cond.fieldLinkNest own idx ref (T kf).2.1 (T kf).2.2.1 host ∈ ev_nw) (hs : ref = (T kf).1 ∨ Cond.sameField ref (T kf).1 (T kf).2.1 (T kf).2.2.1 ∈ ev_gd) (hq : pc + 3 = q) : ev_ok P r pc (ev_get q ci kf) := by
  subst hq
  have hsame := ev_same X hs
  refine ok_of X hP fun k L S w n h => ?_
  obtain ⟨v, S', rfl, h1⟩ := ev_lc_some h
  obtain ⟨a, rfl, h2⟩ := ev_rc_some (v := v) h1
  obtain ⟨c0, hc0, h3⟩ := ev_oc_some h2
  obtain ⟨hb, h4⟩ := ev_bc_t h3
  obtain ⟨u, hu, h5⟩ := ev_oc_some h4
  rw [ev_at_eq] at hc0 hu
  obtain ⟨hx, hbb, hml, hown, hts, hK, hAO, hNW, -⟩ := X
  exact ⟨_, _, _, h5, fun H locs ls hH hl' hS kk => va_getN hx hbb hts hin hown hK hH.1 a (ev_obj_at hc0 hb) hc kf hk (va_Nw.use rfl (hNW.1 _ hl)) hsame (v := ev_v ad u) (by rw [List.getElem?_map, hu]; rfl) hd (kk ls hl')⟩
/-- what the heap holds behind a store into a field -/
theorem ev_put_at {ci kf N : Nat} {C : String} {T : u_T} {a : Nat} {cell : Cell} {fs : List Value} {v : Value} {H1 : Heap} (hc : vwCl[ci]? = some (C, T, N)) (e1 : H1[a]? = some (cell.setSlot ((D.2 ci) kf) v)) (q2 : cell.cls = D.1 ci) (q3 : cell.vm = .none) (q4 : ∀ k, k < N → cell.slots[(D.2 ci) k]? = some (vp_V fs k)) (hap : ∀ x y, x < N → y < N → x ≠ y → (D.2 ci) x ≠ (D.2 ci) y) (hk : kf < N) (hl : kf < fs.length) : va_at D vwCl (a, .inr (ci, fs.set kf v)) H1 :=
  ⟨_, hc, t_OB.to (V := updV (vp_V fs) kf v) ⟨_, e1, q2, q3, t_set q4 hap hk v⟩ (fun j _ => vp_updV_set hl v j)⟩
theorem ev_ptf_some {ci kf tq : Nat} {k : ev_G α} {L S : List Value} {w : ev_W} {n : Nat} {ty : FieldType} (hty : ev_tk ty tq = true) (h : ev_ptf q ci kf tq k L S w n = some r) : ∃ v S' a c0, S = v :: .ref a :: S' ∧ w[a]? = some c0 ∧ Nat.beq c0.1 (ci + 3) = true ∧ kf < c0.2.1 ∧ (narrow ty (ev_v ad v) = ev_v ad v ∧ fits ty (ev_v ad v) = true) ∧ k q L S' (w.set a (c0.1, c0.2.1, c0.2.2.set kf v)) n = some r := by
  obtain ⟨v, S1, rfl, h1⟩ := ev_lc_some h
  obtain ⟨u, S', rfl, h2⟩ := ev_lc_some (l := S1) h1
  obtain ⟨a, rfl, h3⟩ := ev_rc_some (v := u) h2
  obtain ⟨c0, hc0, h4⟩ := ev_oc_some h3
  obtain ⟨hb, h5⟩ := ev_bc_t h4
  obtain ⟨h6, hn⟩ := ev_fit_some (ad := ad) hty h5
  rw [ev_at_eq] at hc0
  rw [ev_set_eq, ev_set_eq] at h6
  rw [Bool.and_eq_true] at hb
  exact ⟨v, S', a, c0, rfl, hc0, hb.1, by rw [← Nat.blt_eq]; exact hb.2, hn, h6⟩
theorem ok_put (X : ev_X cc nL own rt p s m args meth c D G ad A z) (hP : ev_PP p l e R s m args below meth c Q nL D G ad A z wE nE P) {ci kf N tq : Nat} {ref C : String} {T : u_T} (tyf : Nat → FieldType) (hd : decode cc pc = .ok (.putfield idx, 3)) (hc : vwCl[ci]? = some (C, T, N)) (hin : ∀ w ∈ u_ws C T N, w ∈ ev_gd) (hty : ∀ k, k < N → parseFieldDescriptor (T k).2.2.1 = some (tyf k)) (hnm : ∀ a, a < N → ∀ b, b < N → a ≠ b → (T a).2.1 ≠ (T b).2.1) (hk : kf < N) (hl : Cond.fieldLink own idx ref (T kf).2.1 (T kf).2.2.1 ∈ ev_gd) (hs : ref = (T kf).1 ∨ Cond.sameField ref (T kf).1 (T kf).2.1 (T kf).2.2.1 ∈ ev_gd) (hfin : (T kf).2.2.2 = false) (htq : ev_tk (tyf kf) tq = true) (hq : pc + 3 = q) : ev_ok P r pc (ev_ptf q ci kf tq) := by
  subst hq
  have hsame := ev_same X hs
  refine ok_upd hP fun k L S w n h => ?_
  obtain ⟨v, S', a, c0, rfl, hc0, hb, hlt, ⟨hn, hfit⟩, h5⟩ := ev_ptf_some (ad := ad) htq h
  refine ⟨_, _, _, _, h5, fun H locs ls hH hl' hS0 kk => ?_⟩
  obtain ⟨hx, hbb, hml, hown, hts, hK, -⟩ := X
  have hap := va_apart (own := own) hts hin tyf hty hnm hK hc
  have he := ev_obj_at (G := G) (ad := ad) hc0 hb
  obtain ⟨r', h1, cell, q1, q2, q3, q4⟩ := hH.1 a _ he
  have hr : r' = (C, T, N) := Option.some.inj (h1.symm.trans hc)
  subst hr
  obtain ⟨hS, hfc, kC, hkC, hkind⟩ := hK.1 ci _ hc
  obtain ⟨cf, kf', fi, f, hi, hsl⟩ := hS kf hk
  have hlay := hts _ (hin _ (u_in_lay hk))
  unfold u_lay at hlay
  rw [if_neg (by rw [hfin]; decide)] at hlay
  have hst := (u_facts hfc hkC (u_lays hts hin hk) hi).1
  have h6 := u_store hfc hkC hkind hlay hi (hty kf hk) hn hfit
  have hw := hH.2.2.1 c0 (List.mem_of_getElem? hc0)
  refine W.putK hx hbb (f := f) ⟨hown, hts _ hl, ⟨_, _, _, hsame _ hi⟩, hst⟩ (by rw [q2]; exact h6) q1 q3 (by rw [hsl]; exact k2_hasslot (q4 kf hk)) rfl rfl hd fun H' e1 e2 e3 => ?_
  rw [hsl] at e1 ⊢
  refine kk H' _ (ev_H_set hH hc0 ?_ e2 e3 ⟨by rw [List.length_set]; exact hw.1, hw.2⟩) (hS0.put e2 e3 (hH.2.1.2 a _ he))
  obtain ⟨t, N0, vs⟩ := c0
  have e : t = ci + 3 := Nat.eq_of_beq_eq_true hb
  subst e
  show va_at D vwCl (ad a, .inr (ci, (vs.set kf v).map (ev_v ad))) H'
  rw [List.map_set]
  exact ev_put_at hc e1 q2 q3 q4 hap hk (by rw [List.length_map, ← hw.1]; exact hlt)
theorem ok_putN (X : ev_X cc nL own rt p s m args meth c D G ad A z) (hP : ev_PP p l e R s m args below meth c Q nL D G ad A z wE nE P) {ci kf N tq : Nat} {ref C host : String} {T : u_T} (tyf : Nat → FieldType) (hd : decode cc pc = .ok (.putfield idx, 3)) (hc : vwCl[ci]? = some (C, T, N)) (hin : ∀ w ∈ u_ws C T N, w ∈ ev_gd) (hty : ∀ k, k < N → parseFieldDescriptor (T k).2.2.1 = some (tyf k)) (hnm : ∀ a, a < N → ∀ b, b < N → a ≠ b → (T a).2.1 ≠ (T b).2.1) (hk : kf < N) (hl : Cond.fieldLinkNest own idx ref (T kf).2.1 (T kf).2.2.1 host ∈ ev_nw) (hs : ref = (T kf).1 ∨ Cond.sameField ref (T kf).1 (T kf).2.1 (T kf).2.2.1 ∈ ev_gd) (hfin : (T kf).2.2.2 = false) (htq : ev_tk (tyf kf) tq = true) (hq : pc + 3 = q) : ev_ok P r pc (ev_ptf q ci kf tq) := by
  subst hq
  have hsame := ev_same X hs
  refine ok_upd hP fun k L S w n h => ?_
  obtain ⟨v, S', a, c0, rfl, hc0, hb, hlt, ⟨hn, hfit⟩, h5⟩ := ev_ptf_some (ad := ad) htq h
  refine ⟨_, _, _, _, h5, fun H locs ls hH hl' hS0 kk => ?_⟩
  obtain ⟨hx, hbb, hml, hown, hts, hK, hAO, hNW, -⟩ := X
  have hap := va_apart (own := own) hts hin tyf hty hnm hK hc
  have he := ev_obj_at (G := G) (ad := ad) hc0 hb
  obtain ⟨r', h1, cell, q1, q2, q3, q4⟩ := hH.1 a _ he
  have hr : r' = (C, T, N) := Option.some.inj (h1.symm.trans hc)
  subst hr
  obtain ⟨hS, hfc, kC, hkC, hkind⟩ := hK.1 ci _ hc
  obtain ⟨cf, kf', fi, f, hi, hsl⟩ := hS kf hk
  have hlay := hts _ (hin _ (u_in_lay hk))
  unfold u_lay at hlay
  rw [if_neg (by rw [hfin]; decide)] at hlay
  have hst := (u_facts hfc hkC (u_lays hts hin hk) hi).1
  have h6 := u_store hfc hkC hkind hlay hi (hty kf hk) hn hfit
  have hw := hH.2.2.1 c0 (List.mem_of_getElem? hc0)
  refine va_WputK hx hbb (f := f) hown (va_Nw.use rfl (hNW.1 _ hl)) (hsame _ hi) hst (by rw [q2]; exact h6) q1 q3 (by rw [hsl]; exact k2_hasslot (q4 kf hk)) rfl rfl hd fun H' e1 e2 e3 => ?_
  rw [hsl] at e1 ⊢
  refine kk H' _ (ev_H_set hH hc0 ?_ e2 e3 ⟨by rw [List.length_set]; exact hw.1, hw.2⟩) (hS0.put e2 e3 (hH.2.1.2 a _ he))
  obtain ⟨t, N0, vs⟩ := c0
  have e : t = ci + 3 := Nat.eq_of_beq_eq_true hb
  subst e
  show va_at D vwCl (ad a, .inr (ci, (vs.set kf v).map (ev_v ad))) H'
  rw [List.map_set]
  exact ev_put_at hc e1 q2 q3 q4 hap hk (by rw [List.length_map, ← hw.1]; exact hlt)
theorem ok_putF (X : ev_X cc nL own rt p s m args meth c D G ad A z) (hP : ev_PP p l e R s m args below meth c Q nL D G ad A z wE nE P) (hin2 : meth.name = "<init>") {ci kf N tq : Nat} {ref C : String} {T : u_T} (tyf : Nat → FieldType) (hd : decode cc pc = .ok (.putfield idx, 3)) (hc : vwCl[ci]? = some (C, T, N)) (hin : ∀ w ∈ u_ws C T N, w ∈ ev_gd) (hty : ∀ k, k < N → parseFieldDescriptor (T k).2.2.1 = some (tyf k)) (hnm : ∀ a, a < N → ∀ b, b < N → a ≠ b → (T a).2.1 ≠ (T b).2.1) (hk : kf < N) (hl : Cond.fieldLink own idx ref (T kf).2.1 (T kf).2.2.1 ∈ ev_gd) (hs : ref = (T kf).1 ∨ Cond.sameField ref (T kf).1 (T kf).2.1 (T kf).2.2.1 ∈ ev_gd) (hfin : (T kf).2.2.2 = true) (hdecl : (T kf).1 = own) (htq : ev_tk (tyf kf) tq = true) (hq : pc + 3 = q) : ev_ok P r pc (ev_ptf q ci kf tq) := by
  subst hq
  have hsame := ev_same X hs
  refine ok_upd hP fun k L S w n h => ?_
  obtain ⟨v, S', a, c0, rfl, hc0, hb, hlt, ⟨hn, hfit⟩, h5⟩ := ev_ptf_some (ad := ad) htq h
  refine ⟨_, _, _, _, h5, fun H locs ls hH hl' hS0 kk => ?_⟩
  obtain ⟨hx, hbb, hml, hown, hts, hK, -⟩ := X
  have hap := va_apart (own := own) hts hin tyf hty hnm hK hc
  have he := ev_obj_at (G := G) (ad := ad) hc0 hb
  obtain ⟨r', h1, cell, q1, q2, q3, q4⟩ := hH.1 a _ he
  have hr : r' = (C, T, N) := Option.some.inj (h1.symm.trans hc)
  subst hr
  obtain ⟨hS, hfc, kC, hkC, hkind⟩ := hK.1 ci _ hc
  obtain ⟨cf, kf', fi, f, hi, hsl⟩ := hS kf hk
  have hlay := hts _ (hin _ (u_in_lay hk))
  unfold u_lay at hlay
  rw [if_pos hfin] at hlay
  have hst := (u_facts hfc hkC (u_lays hts hin hk) hi).1
  have hcf : m.cls = cf := by
    obtain ⟨_, _, c', _, _, _, -, -, hf', -, -, -, hown2, -⟩ := Cond.laysFinal_spec hlay
    have e1 : c' = cf := by have := hi.symm.trans hf'; simp at this; exact this.1.symm
    rw [hdecl] at hown2
    rw [← e1]; exact Option.some.inj (hown.symm.trans hown2)
  have h6 := u_fits hfc hkC hkind (Or.inr hlay) hi (hty kf hk) hn hfit
  have hw := hH.2.2.1 c0 (List.mem_of_getElem? hc0)
  refine W.putFinK hx hbb hown (hts _ hl) (hsame _ hi) hst hcf hin2 (by rw [q2]; exact h6) q1 q3 (by rw [hsl]; exact k2_hasslot (q4 kf hk)) rfl rfl hd fun H' e1 e2 e3 => ?_
  rw [hsl] at e1 ⊢
  refine kk H' _ (ev_H_set hH hc0 ?_ e2 e3 ⟨by rw [List.length_set]; exact hw.1, hw.2⟩) (hS0.put e2 e3 (hH.2.1.2 a _ he))
  obtain ⟨t, N0, vs⟩ := c0
  have e : t = ci + 3 := Nat.eq_of_beq_eq_true hb
  subst e
  show va_at D vwCl (ad a, .inr (ci, (vs.set kf v).map (ev_v ad))) H'
  rw [List.map_set]
  exact ev_put_at hc e1 q2 q3 q4 hap hk (by rw [List.length_map, ← hw.1]; exact hlt)
theorem ev_pl_some {w : ev_W} {a : Nat} {y : Option α} {r : α} (h : ev_pl w a y = some r) : y = some r ∧ ∀ j, a = j + 1 → ∃ c, w[j]? = some c := by
  cases a with
  | zero => exact ⟨h, fun j hj => by cases hj⟩
  | succ a =>
    obtain ⟨c, hc, h1⟩ := ev_oc_some (show ev_oc (ev_at w a) (fun _ => y) = some r from h)
    rw [ev_at_eq] at hc
    exact ⟨h1, fun j hj => by cases hj; exact ⟨c, hc⟩⟩
theorem ok_acmp_eq (X : ev_X cc nL own rt p s m args meth c D G ad A z) (hP : ev_PP p l e R s m args below meth c Q nL D G ad A z wE nE P) {t : Nat} {off : Int} (hd : decode cc pc = .ok (.if_acmp .eq off, 3)) (ht : (pc : Int) + off = (t : Int)) (hq : pc + 3 = q) : ev_ok P r pc (ev_acm t q) := by
  subst hq
  refine ok_of X hP fun k L S w n h => ?_
  obtain ⟨v, S1, rfl, h1⟩ := ev_lc_some h
  obtain ⟨u, S', rfl, h2⟩ := ev_lc_some (l := S1) h1
  obtain ⟨hx, hbb, -⟩ := X
  rcases ev_rn_some (v := v) h2 with ⟨rfl, h3⟩ | ⟨y, rfl, h3⟩ <;> rcases ev_rn_some (v := u) h3 with ⟨rfl, h4⟩ | ⟨x, rfl, h4⟩
  · exact ⟨t, L, S', h4, fun H locs ls hH hl hS kk => lv_acmp_eq (rx := none) (ry := none) hx hbb hd ht (fun _ => kk ls hl) (fun q => absurd rfl q)⟩
  · rcases ev_bc_some h4 with ⟨hb, h5⟩ | ⟨hb, h5⟩
    · exact absurd (Nat.eq_of_beq_eq_true hb) (by omega)
    · exact ⟨pc + 3, L, S', (ev_pl_some (ev_pl_some h5).1).1, fun H locs ls hH hl hS kk => lv_acmp_eq (rx := some (ad x)) (ry := none) hx hbb hd ht (fun q => by cases q) (fun _ => kk ls hl)⟩
  · rcases ev_bc_some h4 with ⟨hb, h5⟩ | ⟨hb, h5⟩
    · exact absurd (Nat.eq_of_beq_eq_true hb) (by omega)
    · exact ⟨pc + 3, L, S', (ev_pl_some (ev_pl_some h5).1).1, fun H locs ls hH hl hS kk => lv_acmp_eq (rx := none) (ry := some (ad y)) hx hbb hd ht (fun q => by cases q) (fun _ => kk ls hl)⟩
  · rcases ev_bc_some h4 with ⟨hb, h5⟩ | ⟨hb, h5⟩
    · have h9 : x + 1 = y + 1 := Nat.eq_of_beq_eq_true hb
      have e : x = y := Nat.succ.inj h9
      subst e
      exact ⟨t, L, S', h5, fun H locs ls hH hl hS kk => lv_acmp_eq (rx := some (ad x)) (ry := some (ad x)) hx hbb hd ht (fun _ => kk ls hl) (fun q => absurd rfl q)⟩
    · obtain ⟨h6, g1⟩ := ev_pl_some h5
      obtain ⟨h7, g2⟩ := ev_pl_some h6
      obtain ⟨c1, e1⟩ := g1 y rfl
      obtain ⟨c2, e2⟩ := g2 x rfl
      have hne : ¬ x = y := fun e => by subst e; rw [Nat.beq_refl] at hb; cases hb
      exact ⟨pc + 3, L, S', h7, fun H locs ls hH hl hS kk => lv_acmp_eq (rx := some (ad x)) (ry := some (ad y)) hx hbb hd ht (fun q => absurd (hH.2.1.1 x y _ _ (ev_w_at (G := G) (ad := ad) e2) (ev_w_at (G := G) (ad := ad) e1) (Option.some.inj q)) hne) (fun _ => kk ls hl)⟩
theorem ok_mx (X : ev_X cc nL own rt p s m args meth c D G ad A z) (hP : ev_PP p l e R s m args below meth c Q nL D G ad A z wE nE P) (hR : wE - z ≤ R.cells ∧ nE ≤ R.slots) (hR1 : 1 ≤ R.frames) (hR2 : 21 ≤ R.locals) (hd : decode cc pc = .ok (.invokestatic idx, 3)) (h1 : Cond.methodLink own idx Lib.Math.max.name ∈ ev_gd) (h2 : Cond.static Lib.Math.max.name ∈ ev_gd) (h3 : Cond.initialized "java/lang/Math" ∈ ev_gd) (h4 : Cond.code Lib.Math.max.name Lib.Math.max.code 2 (some .int) ∈ ev_gd) (hq : pc + 3 = q) : ev_ok P r pc (ev_mx q) := by
  subst hq
  intro k L S w n hk h
  obtain ⟨v, S1, rfl, h5⟩ := ev_lc_some h
  obtain ⟨u, S', rfl, h6⟩ := ev_lc_some (l := S1) h5
  obtain ⟨y, rfl, h7⟩ := ev_ic_some (v := v) h6
  obtain ⟨x, rfl, h8⟩ := ev_ic_some (v := u) h7
  obtain ⟨hb, h9⟩ := ev_bc_t h8
  rw [Nat.ble_eq, ev_len_eq] at hb
  rw [hP]
  intro hz
  obtain ⟨hm, h10⟩ := (hP _ _ _ _ _).mp (hk _ _ _ _ _ h9) hz
  obtain ⟨hx, hbb, hml, hown, hts, -⟩ := X
  refine ⟨hm, fun H locs ls hH hl hS => ?_⟩
  have hsum := ev_sum (ad := ad) hb
  refine va_mmax hx hbb (hml.trans hl.1.symm) hown (hts _ h1) (hts _ h2) (hts _ h3) (hts _ h4) hR1 (by omega) (by omega) (by omega) hd ?_
  have e : (if x < y then y else x) = cond (Nat.blt (ev_sg x) (ev_sg y)) y x := by
    by_cases hlt : x < y
    · rw [if_pos hlt, ev_lt_iff.mpr hlt]; rfl
    · rw [if_neg hlt]
      cases hbl : Nat.blt (ev_sg x) (ev_sg y) with
      | true => exact absurd (ev_lt_iff.mp hbl) hlt
      | false => rfl
  rw [e]
  exact h10 H locs ls hH hl hS
end HOPS
