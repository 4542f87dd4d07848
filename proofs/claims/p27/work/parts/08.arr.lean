/-! arrays, new cells, casts, returns -/
section AOPS
variable {p : Program} {l : Launch} {e : Env} {R : Room} {s : State} {m : MethodId} {args : Array Value} {below : List Frame} {meth : Method} {c : Code} {Q : State → Prop}
variable {cc : ByteArray} {nL : Nat} {own : String} {rt : Option FieldType} {D : va_G} {G : Nat → ClassId} {ad : Nat → Nat} {A : Nat → Prop} {z wE nE : Nat} {α : Type} {r : α} {P : Nat → List Value → List Value → ev_W → Nat → Prop} {pc q i idx : Nat}
theorem ok_ialoads (X : ev_X cc nL own rt p s m args meth c D G ad A z) (hP : ev_PP p l e R s m args below meth c Q nL D G ad A z wE nE P) (hd : decode cc pc = .ok (.iaload, 1)) (hq : pc + 1 = q) : ev_ok P r pc (ev_ldi q 0) := by
  subst hq
  refine ok_of X hP fun k L S w n h => ?_
  obtain ⟨v, S1, rfl, h1⟩ := ev_lc_some h
  obtain ⟨u, S', rfl, h2⟩ := ev_lc_some (l := S1) h1
  obtain ⟨i, rfl, h3⟩ := ev_ic_some (v := v) h2
  obtain ⟨a, rfl, h4⟩ := ev_rc_some (v := u) h3
  obtain ⟨c0, hc0, h5⟩ := ev_oc_some h4
  obtain ⟨hb, h6⟩ := ev_bc_t h5
  obtain ⟨y, hy, h7⟩ := ev_oc_some h6
  obtain ⟨x, rfl, h8⟩ := ev_ic_some (v := y) h7
  rw [ev_at_eq] at hc0 hy
  rw [Bool.and_eq_true, Nat.blt_eq] at hb
  refine ⟨_, _, _, h8, fun H locs ls hH hl' hS kk => ?_⟩
  have hw := hH.2.2.1 c0 (List.mem_of_getElem? hc0)
  obtain ⟨hin, hi⟩ := ev_vpin hb.2 hw.2
  have he := ev_arr_at (G := G) (ad := ad) hc0 0 (Nat.eq_of_beq_eq_true hb.1)
  refine va_iald X.1 X.2.1 X.2.2.2.2.2.1 hH.1 a 0 he rfl hin hd ?_
  have ex : ev_iv (c0.2.2.getD i.toNatClampNeg .null) = x := by rw [hi, List.getD_eq_getElem?_getD, hy]; rfl
  rw [ex]
  exact kk ls hl'
theorem ok_baloads (X : ev_X cc nL own rt p s m args meth c D G ad A z) (hP : ev_PP p l e R s m args below meth c Q nL D G ad A z wE nE P) (hd : decode cc pc = .ok (.baload, 1)) (hq : pc + 1 = q) : ev_ok P r pc (ev_ldi q 1) := by
  subst hq
  refine ok_of X hP fun k L S w n h => ?_
  obtain ⟨v, S1, rfl, h1⟩ := ev_lc_some h
  obtain ⟨u, S', rfl, h2⟩ := ev_lc_some (l := S1) h1
  obtain ⟨i, rfl, h3⟩ := ev_ic_some (v := v) h2
  obtain ⟨a, rfl, h4⟩ := ev_rc_some (v := u) h3
  obtain ⟨c0, hc0, h5⟩ := ev_oc_some h4
  obtain ⟨hb, h6⟩ := ev_bc_t h5
  obtain ⟨y, hy, h7⟩ := ev_oc_some h6
  obtain ⟨x, rfl, h8⟩ := ev_ic_some (v := y) h7
  rw [ev_at_eq] at hc0 hy
  rw [Bool.and_eq_true, Nat.blt_eq] at hb
  refine ⟨_, _, _, h8, fun H locs ls hH hl' hS kk => ?_⟩
  have hw := hH.2.2.1 c0 (List.mem_of_getElem? hc0)
  obtain ⟨hin, hi⟩ := ev_vpin hb.2 hw.2
  have he := ev_arr_at (G := G) (ad := ad) hc0 1 (Nat.eq_of_beq_eq_true hb.1)
  refine va_zald X.1 X.2.1 X.2.2.2.2.2.1 hH.1 a 1 he rfl hin hd ?_
  have ex : ev_iv (c0.2.2.getD i.toNatClampNeg .null) = x := by rw [hi, List.getD_eq_getElem?_getD, hy]; rfl
  rw [ex]
  exact kk ls hl'
theorem ok_aaloads (X : ev_X cc nL own rt p s m args meth c D G ad A z) (hP : ev_PP p l e R s m args below meth c Q nL D G ad A z wE nE P) (hd : decode cc pc = .ok (.aaload, 1)) (hq : pc + 1 = q) : ev_ok P r pc (ev_ldq q) := by
  subst hq
  refine ok_of X hP fun k L S w n h => ?_
  obtain ⟨v, S1, rfl, h1⟩ := ev_lc_some h
  obtain ⟨u, S', rfl, h2⟩ := ev_lc_some (l := S1) h1
  obtain ⟨i, rfl, h3⟩ := ev_ic_some (v := v) h2
  obtain ⟨a, rfl, h4⟩ := ev_rc_some (v := u) h3
  obtain ⟨c0, hc0, h5⟩ := ev_oc_some h4
  obtain ⟨hb, h6⟩ := ev_bc_t h5
  obtain ⟨y, hy, h7⟩ := ev_oc_some h6
  obtain ⟨hyk, h8⟩ := ev_pc_some h7
  rw [ev_at_eq] at hc0 hy
  rw [Bool.and_eq_true, Nat.blt_eq] at hb
  refine ⟨_, _, _, h8, fun H locs ls hH hl' hS kk => ?_⟩
  have hw := hH.2.2.1 c0 (List.mem_of_getElem? hc0)
  obtain ⟨hin, hi⟩ := ev_vpin hb.2 hw.2
  have he := ev_arr_at (G := G) (ad := ad) hc0 2 (Nat.eq_of_beq_eq_true hb.1)
  refine va_aldq X.1 X.2.1 X.2.2.2.2.2.1 hH.1 a 2 he rfl hin hd ?_
  have ex : va_rf (ev_rv ad (c0.2.2.getD i.toNatClampNeg .null)) = ev_v ad y := by
    rw [hi, List.getD_eq_getElem?_getD, hy]
    rcases hyk with rfl | ⟨x, rfl⟩ <;> rfl
  rw [ex]
  exact kk ls hl'
theorem ok_aln (X : ev_X cc nL own rt p s m args meth c D G ad A z) (hP : ev_PP p l e R s m args below meth c Q nL D G ad A z wE nE P) (hd : decode cc pc = .ok (.arraylength, 1)) (hq : pc + 1 = q) : ev_ok P r pc (ev_aln q) := by
  subst hq
  refine ok_of X hP fun k L S w n h => ?_
  obtain ⟨v, S', rfl, h1⟩ := ev_lc_some h
  obtain ⟨a, rfl, h2⟩ := ev_rc_some (v := v) h1
  obtain ⟨c0, hc0, h3⟩ := ev_oc_some h2
  obtain ⟨hb, h4⟩ := ev_bc_t h3
  rw [ev_at_eq] at hc0
  rw [Nat.blt_eq] at hb
  refine ⟨_, _, _, h4, fun H locs ls hH hl' hS kk => ?_⟩
  have h3 : c0.1 = 0 ∨ c0.1 = 1 ∨ c0.1 = 2 := by omega
  rcases h3 with h3 | h3 | h3
  · exact va_alen X.1 X.2.1 X.2.2.2.2.2.1 hH.1 a 0 (ev_arr_at (G := G) (ad := ad) hc0 0 h3) (ty := .int) rfl rfl hd (kk ls hl')
  · exact va_alen X.1 X.2.1 X.2.2.2.2.2.1 hH.1 a 1 (ev_arr_at (G := G) (ad := ad) hc0 1 h3) (ty := .boolean) rfl rfl hd (kk ls hl')
  · exact va_alen X.1 X.2.1 X.2.2.2.2.2.1 hH.1 a 2 (ev_arr_at (G := G) (ad := ad) hc0 2 h3) (ty := .object "java/lang/Object") rfl rfl hd (kk ls hl')
/-- a store into a row of numbers: what the cell is then -/
theorem ev_upd_eq {vs : List Value} {j : Nat} {x : Int32} (hj : j < vs.length) : upd (fun j => ev_iv (vs.getD j .null)) j x = fun k => ev_iv ((vs.set j (.int x)).getD k .null) := by
  funext k
  unfold upd
  by_cases h : k = j
  · subst h
    rw [if_pos rfl, List.getD_eq_getElem?_getD, List.getElem?_set_self hj]; rfl
  · rw [if_neg h]
    show ev_iv (vs.getD k .null) = _
    rw [List.getD_eq_getElem?_getD, List.getD_eq_getElem?_getD, List.getElem?_set_ne (fun q => h q.symm)]
theorem ev_sti_some {t : Nat} {g : Int32 → Int32} {k : ev_G α} {L S : List Value} {w : ev_W} {n : Nat} (h : ev_sti q t g k L S w n = some r) : ∃ x i a S' c0, S = .int x :: .int i :: .ref a :: S' ∧ w[a]? = some c0 ∧ c0.1 = t ∧ ev_bits i < c0.2.1 ∧ k q L S' (w.set a (c0.1, c0.2.1, c0.2.2.set (ev_bits i) (.int (g x)))) n = some r := by
  obtain ⟨y, S0, rfl, h1⟩ := ev_lc_some h
  obtain ⟨v, S1, rfl, h2⟩ := ev_lc_some (l := S0) h1
  obtain ⟨u, S', rfl, h3⟩ := ev_lc_some (l := S1) h2
  obtain ⟨x, rfl, h4⟩ := ev_ic_some (v := y) h3
  obtain ⟨i, rfl, h5⟩ := ev_ic_some (v := v) h4
  obtain ⟨a, rfl, h6⟩ := ev_rc_some (v := u) h5
  obtain ⟨c0, hc0, h7⟩ := ev_oc_some h6
  obtain ⟨hb, h8⟩ := ev_bc_t h7
  rw [ev_at_eq] at hc0
  rw [ev_set_eq, ev_set_eq] at h8
  rw [Bool.and_eq_true, Nat.blt_eq] at hb
  exact ⟨x, i, a, S', c0, rfl, hc0, Nat.eq_of_beq_eq_true hb.1, hb.2, h8⟩
theorem ok_iastores (X : ev_X cc nL own rt p s m args meth c D G ad A z) (hP : ev_PP p l e R s m args below meth c Q nL D G ad A z wE nE P) (hd : decode cc pc = .ok (.iastore, 1)) (hq : pc + 1 = q) : ev_ok P r pc (ev_sti q 0 (fun x => x)) := by
  subst hq
  refine ok_upd hP fun k L S w n h => ?_
  obtain ⟨x, i, a, S', c0, rfl, hc0, ht, hlt, h8⟩ := ev_sti_some h
  refine ⟨_, _, _, _, h8, fun H locs ls hH hl' hS0 kk => ?_⟩
  have hw := hH.2.2.1 c0 (List.mem_of_getElem? hc0)
  obtain ⟨hin, hi⟩ := ev_vpin hlt hw.2
  have he := ev_arr_at (G := G) (ad := ad) hc0 0 ht
  obtain ⟨hx, hbb, hml, hown, hts, hK, -⟩ := X
  obtain ⟨t, N, vs⟩ := c0
  cases ht
  refine W.iast hx hbb (hH.1 a _ he) ((hK.2 0 _ rfl).1 N (fun j => .int (ev_iv (vs.getD j .null)))) (fun q => by cases q) (by show ¬ (i < 0 ∨ (arrV _ _ _).slots.size ≤ _); rw [arrV_size]; exact hin) rfl rfl hd fun H1 e1 e2 e3 => ?_
  refine kk H1 _ (ev_H_set hH hc0 ?_ e2 e3 ⟨by rw [List.length_set]; exact hw.1, hw.2⟩) (hS0.put e2 e3 (hH.2.1.2 a _ he))
  show H1[ad a]? = some (vp_cell (G 0) (N, .inl (fun j => ev_iv ((vs.set (ev_bits i) (.int x)).getD j .null))))
  rw [e1]
  show some ((vp_cell (G 0) (N, .inl (fun j => ev_iv (vs.getD j .null)))).setSlot _ _) = _
  rw [← ev_upd_eq (by rw [← hw.1]; exact hlt), vp_cell_i, vp_cell_i, arrV_store, hi]
  congr 2
  funext q
  by_cases hq : q = ev_bits i
  · subst hq
    simp [updV, upd]
  · simp [updV, upd, hq]
theorem ok_bastores (X : ev_X cc nL own rt p s m args meth c D G ad A z) (hP : ev_PP p l e R s m args below meth c Q nL D G ad A z wE nE P) (hd : decode cc pc = .ok (.bastore, 1)) (hq : pc + 1 = q) : ev_ok P r pc (ev_sti q 1 (fun x => vp_nar .boolean x)) := by
  subst hq
  refine ok_upd hP fun k L S w n h => ?_
  obtain ⟨x, i, a, S', c0, rfl, hc0, ht, hlt, h8⟩ := ev_sti_some h
  refine ⟨_, _, _, _, h8, fun H locs ls hH hl' hS0 kk => ?_⟩
  have hw := hH.2.2.1 c0 (List.mem_of_getElem? hc0)
  obtain ⟨hin, hi⟩ := ev_vpin hlt hw.2
  have he := ev_arr_at (G := G) (ad := ad) hc0 1 ht
  obtain ⟨hx, hbb, hml, hown, hts, hK, -⟩ := X
  obtain ⟨t, N, vs⟩ := c0
  cases ht
  refine W.zast hx hbb (hH.1 a _ he) ((hK.2 1 _ rfl).1 N (fun j => .int (ev_iv (vs.getD j .null)))) (fun q => by cases q) (by show ¬ (i < 0 ∨ (arrV _ _ _).slots.size ≤ _); rw [arrV_size]; exact hin) rfl rfl hd fun H1 e1 e2 e3 => ?_
  refine kk H1 _ (ev_H_set hH hc0 ?_ e2 e3 ⟨by rw [List.length_set]; exact hw.1, hw.2⟩) (hS0.put e2 e3 (hH.2.1.2 a _ he))
  show H1[ad a]? = some (vp_cell (G 1) (N, .inl (fun j => ev_iv ((vs.set (ev_bits i) (.int (vp_nar .boolean x))).getD j .null))))
  rw [e1]
  show some ((vp_cell (G 1) (N, .inl (fun j => ev_iv (vs.getD j .null)))).setSlot _ _) = _
  rw [← ev_upd_eq (by rw [← hw.1]; exact hlt), vp_cell_i, vp_cell_i, arrV_store, hi]
  congr 2
  funext q
  by_cases hq : q = ev_bits i
  · subst hq
    simp [updV, upd, vp_nar, narrow]
  · simp [updV, upd, hq]
theorem ev_upq_eq {vs : List Value} {j : Nat} {v : Value} (hj : j < vs.length) : va_up (fun j => ev_rv ad (vs.getD j .null)) j (ev_rv ad v) = fun k => ev_rv ad ((vs.set j v).getD k .null) := by
  funext k
  unfold va_up
  by_cases h : k = j
  · subst h
    rw [if_pos rfl, List.getD_eq_getElem?_getD, List.getElem?_set_self hj]; rfl
  · rw [if_neg h]
    show ev_rv ad (vs.getD k .null) = _
    rw [List.getD_eq_getElem?_getD, List.getD_eq_getElem?_getD, List.getElem?_set_ne (fun q => h q.symm)]
theorem ok_aastores (X : ev_X cc nL own rt p s m args meth c D G ad A z) (hP : ev_PP p l e R s m args below meth c Q nL D G ad A z wE nE P) {ci : Nat} {C : vw_C} (hd : decode cc pc = .ok (.aastore, 1)) (hc : vwCl[ci]? = some C) (h1 : Cond.castable C.1 "java/lang/Object" ∈ ev_nw) (h2 : Cond.castable "[I" "java/lang/Object" ∈ ev_nw) (hq : pc + 1 = q) : ev_ok P r pc (ev_stq q (ci + 3)) := by
  subst hq
  refine ok_upd hP fun k L S w n h => ?_
  obtain ⟨y, S0, rfl, g1⟩ := ev_lc_some h
  obtain ⟨v, S1, rfl, g2⟩ := ev_lc_some (l := S0) g1
  obtain ⟨u, S', rfl, g3⟩ := ev_lc_some (l := S1) g2
  obtain ⟨i, rfl, g4⟩ := ev_ic_some (v := v) g3
  obtain ⟨a, rfl, g5⟩ := ev_rc_some (v := u) g4
  obtain ⟨c0, hc0, g6⟩ := ev_oc_some g5
  obtain ⟨hb, g7⟩ := ev_bc_t g6
  rw [ev_at_eq] at hc0
  rw [ev_set_eq, ev_set_eq] at g7
  rw [Bool.and_eq_true, Nat.blt_eq] at hb
  have ht := Nat.eq_of_beq_eq_true hb.1
  have hlt := hb.2
  have hy : (y = .null ∨ ∃ x, y = .ref x ∧ ∃ d0, w[x]? = some d0 ∧ (d0.1 = 0 ∨ d0.1 = ci + 3)) ∧ k (pc + 1) L S' (w.set a (c0.1, c0.2.1, c0.2.2.set (ev_bits i) y)) n = some r := by
    rcases ev_rn_some (v := y) g7 with ⟨rfl, g8⟩ | ⟨x, rfl, g8⟩
    · refine ⟨Or.inl rfl, ?_⟩
      exact g8
    · obtain ⟨d0, hd0, g9⟩ := ev_oc_some (show ev_oc (ev_at w x) _ = some r from g8)
      obtain ⟨hk, g10⟩ := ev_bc_t g9
      rw [ev_at_eq] at hd0
      rw [Bool.or_eq_true] at hk
      refine ⟨Or.inr ⟨x, rfl, d0, hd0, ?_⟩, g10⟩
      rcases hk with hk | hk
      · exact Or.inl (Nat.eq_of_beq_eq_true hk)
      · exact Or.inr (Nat.eq_of_beq_eq_true hk)
  obtain ⟨hy, h8⟩ := hy
  refine ⟨_, _, _, _, h8, fun H locs ls hH hl' hS0 kk => ?_⟩
  have hw := hH.2.2.1 c0 (List.mem_of_getElem? hc0)
  obtain ⟨hin, hi⟩ := ev_vpin hlt hw.2
  have he := ev_arr_at (G := G) (ad := ad) hc0 2 ht
  obtain ⟨hx, hbb, hml, hown, hts, hK, hAO, hNW, -⟩ := X
  have h0 : ¬ i < 0 := fun q => hin (Or.inl q)
  have hlt2 : i.toNatClampNeg < c0.2.1 := by rw [hi]; exact hlt
  obtain ⟨t, N, vs⟩ := c0
  cases ht
  have fin : ∀ (H1 : Heap) (locs1 : List Loc), H1[ad a]? = some ((vp_cell (G 2) (N, .inr (.inr (.inr (.inr (fun j => ev_rv ad (vs.getD j .null))))))).setSlot i.toNatClampNeg (ev_v ad y)) → H1.size = H.size → (∀ q, q ≠ ad a → H1[q]? = H[q]?) → ev_H D G ad A (w.set a (2, N, vs.set (ev_bits i) y)) H1 := by
    intro H1 locs1 e1 e2 e3
    refine ev_H_set hH hc0 ?_ e2 e3 ⟨by rw [List.length_set]; exact hw.1, hw.2⟩
    show H1[ad a]? = some (vp_cell (G 2) (N, .inr (.inr (.inr (.inr (fun j => ev_rv ad ((vs.set (ev_bits i) y).getD j .null)))))))
    rw [e1, ← ev_upq_eq (by rw [← hw.1]; exact hlt), vp_cell_q, vp_cell_q, arrV_store, hi]
    congr 2
    funext q
    by_cases hq : q = ev_bits i
    · subst hq
      rcases hy with rfl | ⟨x, rfl, -⟩ <;> simp [updV, va_up, va_rf, ev_rv, ev_v]
    · simp [updV, va_up, hq]
  obtain ⟨kA, comp, k1, k2, k3, -⟩ := (hK.2 2 _ rfl).2
  rcases hy with rfl | ⟨x, rfl, d0, hd0, hdk⟩
  · refine va_WaastN (C := "java/lang/Object") hx hbb (hH.1 a _ he) ((hK.2 2 _ rfl).1 N (fun j => va_rf (ev_rv ad (vs.getD j .null)))) (fun h => by cases h) (by show ¬ (i < 0 ∨ (arrV _ _ _).slots.size ≤ _); rw [arrV_size]; exact hin) rfl rfl hd fun H1 e1 e2 e3 => ?_
    exact kk H1 _ (fin H1 [] e1 e2 e3) (hS0.put e2 e3 (hH.2.1.2 a _ he))
  · have hr : va_Any "java/lang/Object" s H (ad x) := by
      rcases hdk with hdk | hdk
      · have hv := hH.1 x _ (ev_arr_at (G := G) (ad := ad) hd0 0 hdk)
        obtain ⟨c1, t1, f1, f2, f3⟩ := Cond.castable_spec (va_Nw.use (A := args) rfl (hNW.1 _ h2))
        have hI : s.vm.findClass "[I" = some (G 0) := (hK.2 0 _ rfl).2
        cases hI.symm.trans f1
        obtain ⟨kI, hkI, -⟩ := Vm.findClass_spec hI
        refine ⟨_, hv, rfl, ⟨kI, hkI⟩, fun comp h => ?_⟩
        cases f2.symm.trans h
        exact f3
      · have hv := ev_obj_at (G := G) (ad := ad) hd0 (by rw [hdk]; exact Nat.beq_refl _)
        obtain ⟨c1, t1, f1, f2, f3⟩ := Cond.castable_spec (va_Nw.use (A := args) rfl (hNW.1 _ h1))
        refine va_rAny hK hH.1 hv hc fun comp c2 m1 m2 => ?_
        cases f2.symm.trans m1
        cases f1.symm.trans m2
        exact f3
    obtain ⟨cellV, v1, v3, ⟨kC, hkC⟩, hasg⟩ := hr
    obtain ⟨kE, hkE, -⟩ := Vm.findClass_spec k3
    refine W.aast hx hbb (hH.1 a _ he) (fun q h => by cases h) (fun h => by cases h) k1 k2 rfl hkE ⟨h0, by show _ < (arrV _ _ _).slots.size; rw [arrV_size]; exact hlt2⟩ v1 (fun q h => by rw [h] at v3; cases v3) hkC (hasg _ k3) rfl rfl hd fun H1 e1 e2 e3 => ?_
    exact kk H1 _ (fin H1 [] e1 e2 e3) (hS0.put e2 e3 (hH.2.1.2 a _ he))
/-- a new row of numbers -/
theorem ev_nwa_some {t : Nat} {v0 : Value} {k : ev_G α} {L S : List Value} {w : ev_W} {n : Nat} (h : ev_nwa q t v0 k L S w n = some r) : ∃ i S', S = .int i :: S' ∧ ev_bits i < 100000 ∧ k q L (.ref w.length :: S') (w ++ [(t, ev_bits i, List.replicate (ev_bits i) v0)]) (n + ev_bits i) = some r := by
  obtain ⟨v, S', rfl, h1⟩ := ev_lc_some h
  obtain ⟨i, rfl, h2⟩ := ev_ic_some (v := v) h1
  obtain ⟨hb, h3⟩ := ev_bc_t h2
  rw [Nat.blt_eq] at hb
  rw [ev_len_eq] at h3
  exact ⟨i, S', rfl, hb, h3⟩
theorem ok_newarray (X : ev_X cc nL own rt p s m args meth c D G ad A z) (hP : ev_PP p l e R s m args below meth c Q nL D G ad A z wE nE P) (hR : wE - z ≤ R.cells ∧ nE ≤ R.slots) {t : Nat} {at' : ArrayType} {ty : FieldType} (hd : decode cc pc = .ok (.newarray at', 2)) (hcase : (t = 0 ∧ at' = .int ∧ ty = .int) ∨ (t = 1 ∧ at' = .boolean ∧ ty = .boolean)) (hw : Cond.arrayClass ty ∈ ev_gd) (hq : pc + 2 = q) : ev_ok P r pc (ev_nwa q t (.int 0)) := by
  subst hq
  refine ok_push hP hR fun k L S w n h => ?_
  obtain ⟨i, S', rfl, hb, h3⟩ := ev_nwa_some h
  refine ⟨_, _, _, _, h3, fun H locs ls hz hc1 hs1 hH hl' hS kk => ?_⟩
  obtain ⟨hx, hbb, hml, hown, hts, hK, hAO, hNW, hZ, hA, -, -, had⟩ := X
  obtain ⟨h0, hi⟩ := ev_ix hb (Nat.le_refl _)
  have hAq : A (ad w.length) := hA _ (by rw [← hH.2.2.2]; exact hS.1)
  have hty : newarray.typeOf at' = ty := by rcases hcase with ⟨-, rfl, rfl⟩ | ⟨-, rfl, rfl⟩ <;> rfl
  have hdf : defaultValue ty = .int 0 := by rcases hcase with ⟨-, -, rfl⟩ | ⟨-, -, rfl⟩ <;> rfl
  have hcb : componentBytes ty ≤ 4 := by rcases hcase with ⟨-, -, rfl⟩ | ⟨-, -, rfl⟩ <;> decide
  refine va_newaK hx hbb (atype := at') (by rw [hty]; exact hts _ hw) rfl hd rfl h0 hi (by rw [hty]; have := Nat.mul_le_mul_left (ev_bits i) hcb; omega) hc1 hs1 hH.2.2.2 fun H1 cA e1 z1 o1 hAr hNm => ?_
  rw [hty, hdf] at e1
  have hcA : cA = G t := by
    rw [hty] at hNm
    rcases hcase with ⟨rfl, -, rfl⟩ | ⟨rfl, -, rfl⟩
    · have hI : s.vm.findClass ("[" ++ (FieldType.int).toString) = some (G 0) := (hK.2 0 _ rfl).2
      exact Option.some.inj (hNm.symm.trans hI)
    · have hI : s.vm.findClass ("[" ++ (FieldType.boolean).toString) = some (G 1) := (hK.2 1 _ rfl).2
      exact Option.some.inj (hNm.symm.trans hI)
  subst hcA
  refine kk H1 locs (ev_H_push hH ?_ (by rw [z1, hH.2.2.2]) (fun q hq => o1 q (by rw [← hH.2.2.2]; exact hq)) hAq (had _ hz) ⟨by simp, Nat.le_of_lt hb⟩) ⟨Nat.le_trans hS.1 (by rw [z1, hH.2.2.2]; omega), fun x h1 h2 => (o1 x (by rw [← hH.2.2.2]; exact Nat.lt_of_lt_of_le h1 hS.1)).trans (hS.2.1 x h1 h2), hS.2.2⟩
  have key : ∀ t', H1[ad w.length]? = some (arrV (G t') (ev_bits i) (fun _ => .int 0)) → H1[ad w.length]? = some (vp_cell (G t') (ev_bits i, .inl (fun j => ev_iv ((List.replicate (ev_bits i) (.int 0)).getD j .null)))) := by
    intro t' e2
    rw [e2, vp_cell_i]
    congr 2
    funext j
    rw [List.getD_eq_getElem?_getD, List.getElem?_replicate]
    split <;> rfl
  rcases hcase with ⟨rfl, -, -⟩ | ⟨rfl, -, -⟩
  · exact key 0 e1
  · exact key 1 e1
theorem ok_anewarray (X : ev_X cc nL own rt p s m args meth c D G ad A z) (hP : ev_PP p l e R s m args below meth c Q nL D G ad A z wE nE P) (hR : wE - z ≤ R.cells ∧ nE ≤ R.slots) (hd : decode cc pc = .ok (.anewarray idx, 3)) (hl : Cond.classLink own idx "java/lang/Object" ∈ ev_gd) (hq : pc + 3 = q) : ev_ok P r pc (ev_nwa q 2 .null) := by
  subst hq
  refine ok_push hP hR fun k L S w n h => ?_
  obtain ⟨i, S', rfl, hb, h3⟩ := ev_nwa_some h
  refine ⟨_, _, _, _, h3, fun H locs ls hz hc1 hs1 hH hl' hS kk => ?_⟩
  obtain ⟨hx, hbb, hml, hown, hts, hK, hAO, hNW, hZ, hA, -, -, had⟩ := X
  obtain ⟨h0, hi⟩ := ev_ix hb (Nat.le_refl _)
  have hAq : A (ad w.length) := hA _ (by rw [← hH.2.2.2]; exact hS.1)
  show W p l e R s m args below meth c H locs (w.length - z) n Q (F0 m pc ls (.int i :: S'.map (ev_v ad)))
  refine W.anew hx hbb hown (hts _ hl) (va_AO.use hAO) rfl hd rfl h0 (by rw [hi]; omega) hc1 (by rw [hi]; exact hs1) fun cA kA comp f1 f2 f3 f4 => ?_
  have hcA : cA = G 2 := by
    obtain ⟨kO, co, -, -, -, hO⟩ := (hK.2 2 _ rfl).2
    exact Option.some.inj (f1.symm.trans hO)
  subst hcA
  rw [hi, hH.2.2.2]
  generalize hH1 : H.push ({ cls := G 2, slots := Array.replicate (ev_bits i) .null, vm := .none } : Cell) = H1
  have z1 : H1.size = H.size + 1 := by rw [← hH1, Array.size_push]
  have e1 : H1[H.size]? = some (arrV (G 2) (ev_bits i) (fun _ => .null)) := by rw [← hH1, Array.getElem?_push_size, ← arrV_new]
  have o1 : ∀ q : Nat, q < H.size → H1[q]? = H[q]? := fun q hq => by rw [← hH1, Array.getElem?_push, if_neg (Nat.ne_of_lt hq)]
  refine kk H1 locs (ev_H_push hH ?_ z1 o1 hAq (had _ hz) ⟨by simp, Nat.le_of_lt hb⟩) ⟨Nat.le_trans hS.1 (by omega), fun x h1 h2 => (o1 x (Nat.lt_of_lt_of_le h1 hS.1)).trans (hS.2.1 x h1 h2), hS.2.2⟩
  show H1[ad w.length]? = some (vp_cell (G 2) (ev_bits i, .inr (.inr (.inr (.inr (fun j => ev_rv ad ((List.replicate (ev_bits i) .null).getD j .null)))))))
  rw [← hH.2.2.2, e1, vp_cell_q]
  congr 2
  funext j
  rw [List.getD_eq_getElem?_getD, List.getElem?_replicate]
  split <;> rfl
theorem ok_new (X : ev_X cc nL own rt p s m args meth c D G ad A z) (hP : ev_PP p l e R s m args below meth c Q nL D G ad A z wE nE P) (hR : wE - z ≤ R.cells ∧ nE ≤ R.slots) {ci N : Nat} {C : String} {T : u_T} {dv : List Value} (tyf : Nat → FieldType) (hd : decode cc pc = .ok (.new idx, 3)) (hc : vwCl[ci]? = some (C, T, N)) (hin : ∀ w ∈ u_ws C T N, w ∈ ev_gd) (hty : ∀ k, k < N → parseFieldDescriptor (T k).2.2.1 = some (tyf k)) (hcl : Cond.classLink own idx C ∈ ev_gd) (hinst : Cond.instantiable C N ∈ ev_gd) (hini : Cond.initialized C ∈ ev_gd) (hfs : ∀ j, j < N → defaultValue (tyf j) = vp_V dv j) (hnr : dv.map (ev_v ad) = dv) (hN : N = dv.length ∧ N ≤ 100000) (hq : pc + 3 = q) : ev_ok P r pc (ev_new q ci N dv) := by
  subst hq
  refine ok_push hP hR fun k L S w n h => ?_
  have h3 : k (pc + 3) L (.ref (ev_len w) :: S) (w ++ [(ci + 3, N, dv)]) (n + N) = some r := h
  rw [ev_len_eq] at h3
  refine ⟨_, _, _, _, h3, fun H locs ls hz hc1 hs1 hH hl' hS kk => ?_⟩
  obtain ⟨hx, hbb, hml, hown, hts, hK, hAO, hNW, hZ, hA, -, -, had⟩ := X
  have hAq : A (ad w.length) := hA _ (by rw [← hH.2.2.2]; exact hS.1)
  have hKn := hK.1 ci _ hc
  refine W.newcK hx hbb hown (hts _ hcl) (hts _ hinst) (hts _ hini) rfl hd hc1 hs1 hKn.2.1 rfl fun H1 kC hkC e1 z1 o1 => ?_
  rw [hH.2.2.2]
  refine kk H1 locs (ev_H_push hH ?_ z1 o1 hAq (had _ hz) hN) ⟨Nat.le_trans hS.1 (by omega), fun x h1 h2 => (o1 x (Nat.lt_of_lt_of_le h1 hS.1)).trans (hS.2.1 x h1 h2), hS.2.2⟩
  show va_at D vwCl (ad w.length, .inr (ci, dv.map (ev_v ad))) H1
  rw [hnr, ← hH.2.2.2]
  exact ⟨_, hc, (u_born tyf hts hin hKn hkC e1 hty).to hfs⟩
theorem ok_castA (X : ev_X cc nL own rt p s m args meth c D G ad A z) (hP : ev_PP p l e R s m args below meth c Q nL D G ad A z wE nE P) (hd : decode cc pc = .ok (.checkcast idx, 3)) (hl : Cond.classLink own idx "[I" ∈ ev_gd) (hq : pc + 3 = q) : ev_ok P r pc (ev_cst q 0) := by
  subst hq
  refine ok_of X hP fun k L S w n h => ?_
  obtain ⟨v, S', rfl, h1⟩ := ev_lc_some h
  obtain ⟨a, rfl, h2⟩ := ev_rc_some (v := v) h1
  obtain ⟨c0, hc0, h3⟩ := ev_oc_some h2
  obtain ⟨hb, h4⟩ := ev_bc_t h3
  rw [ev_at_eq] at hc0
  obtain ⟨hx, hbb, hml, hown, hts, hK, -⟩ := X
  exact ⟨_, _, _, h4, fun H locs ls hH hl' hS kk => va_castA hx hbb hown (hts _ hl) hH.1 a (ev_arr_at (G := G) (ad := ad) hc0 0 (Nat.eq_of_beq_eq_true hb)) (hK.2 0 _ rfl).2 hd (kk ls hl')⟩
theorem ok_castS (X : ev_X cc nL own rt p s m args meth c D G ad A z) (hP : ev_PP p l e R s m args below meth c Q nL D G ad A z wE nE P) {ci : Nat} {C : vw_C} (hd : decode cc pc = .ok (.checkcast idx, 3)) (hc : vwCl[ci]? = some C) (hl : Cond.classLink own idx C.1 ∈ ev_gd) (hq : pc + 3 = q) : ev_ok P r pc (ev_cst q (ci + 3)) := by
  subst hq
  refine ok_of X hP fun k L S w n h => ?_
  obtain ⟨v, S', rfl, h1⟩ := ev_lc_some h
  obtain ⟨a, rfl, h2⟩ := ev_rc_some (v := v) h1
  obtain ⟨c0, hc0, h3⟩ := ev_oc_some h2
  obtain ⟨hb, h4⟩ := ev_bc_t h3
  rw [ev_at_eq] at hc0
  obtain ⟨hx, hbb, hml, hown, hts, hK, -⟩ := X
  exact ⟨_, _, _, h4, fun H locs ls hH hl' hS kk => va_castS hx hbb hown (hts _ hl) (hK.1 ci _ hc).2 (va_recv hK hH.1 hc (ev_obj_at (G := G) (ad := ad) hc0 hb)) hd (kk ls hl')⟩
theorem ok_obj (X : ev_X cc nL own rt p s m args meth c D G ad A z) (hP : ev_PP p l e R s m args below meth c Q nL D G ad A z wE nE P) (hfr : 1 ≤ R.frames) (hlo : 21 ≤ R.locals) (hd : decode cc pc = .ok (.invokespecial idx, 3)) (h1 : Cond.methodLink own idx Lib.objectInit ∈ ev_gd) (h2 : Cond.instanceMethod Lib.objectInit ∈ ev_gd) (h3 : Cond.code Lib.objectInit ⟨#[0xb1]⟩ 1 none ∈ ev_gd) (hq : pc + 3 = q) : ev_ok P r pc (ev_obj q) := by
  subst hq
  refine ok_of X hP fun k L S w n h => ?_
  obtain ⟨v, S', rfl, g1⟩ := ev_lc_some h
  obtain ⟨a, rfl, g2⟩ := ev_rc_some (v := v) g1
  obtain ⟨hb, g3⟩ := ev_bc_t g2
  rw [Nat.ble_eq, ev_len_eq] at hb
  obtain ⟨hx, hbb, hml, hown, hts, hK, -⟩ := X
  refine ⟨_, _, _, g3, fun H locs ls hH hl' hS kk => W.objInit hx hbb hown (hts _ h1) (hts _ h2) (hts _ h3) rfl (hl'.1.trans hml.symm) rfl hd hfr ?_ (kk ls hl')⟩
  have := ev_sum (ad := ad) hb
  show 2 * 0 + _ + 12 ≤ _
  omega
/-! returns: what must be so where a call ends -/
theorem ok_ireturn (X : ev_X cc nL own rt p s m args meth c D G ad A z) (hP : ev_PP p l e R s m args below meth c Q nL D G ad A z wE nE P) {Qc : Array Value → State → Outcome → State → Prop} (hQ : Q = MQ below Qc args s (wE - z) nE A) {fin : Option Value → ev_W → Nat → Option α} (hfin : ∀ v w n, fin v w n = some r → w.length = wE ∧ n = nE ∧ ∀ H locs, ev_H D G ad A w H → va_S A s.heap H locs → ∀ t : State, t.heap = H → s.WarmedH t.vm → Qc args s (.returned (v.map (ev_v ad))) t) (hrt : rt = some .int) (hd : decode cc pc = .ok (.ireturn, 1)) : ev_ok P r pc (ev_rti fin) := by
  intro k L S w n hk h
  obtain ⟨v, S', rfl, h1⟩ := ev_lc_some h
  obtain ⟨x, rfl, h2⟩ := ev_ic_some (v := v) h1
  cases S' with
  | cons _ _ => cases h2
  | nil =>
    obtain ⟨e1, e2, h3⟩ := hfin _ _ _ h2
    rw [hP]
    intro hz
    refine ⟨⟨by omega, by omega⟩, fun H locs ls hH hl' hS => ?_⟩
    obtain ⟨hx, hbb, hml, hown, hts, hK, hAO, hNW, hZ, hA, hlk, hr, had⟩ := X
    subst hQ
    subst e1; subst e2
    exact W.iret hx hbb (hr.trans hrt) (h3 H locs hH hS) hS.2.2 hd hlk
theorem ok_zreturn (X : ev_X cc nL own rt p s m args meth c D G ad A z) (hP : ev_PP p l e R s m args below meth c Q nL D G ad A z wE nE P) {Qc : Array Value → State → Outcome → State → Prop} (hQ : Q = MQ below Qc args s (wE - z) nE A) {fin : Option Value → ev_W → Nat → Option α} (hfin : ∀ v w n, fin v w n = some r → w.length = wE ∧ n = nE ∧ ∀ H locs, ev_H D G ad A w H → va_S A s.heap H locs → ∀ t : State, t.heap = H → s.WarmedH t.vm → Qc args s (.returned (v.map (ev_v ad))) t) (hrt : rt = some .boolean) (hd : decode cc pc = .ok (.ireturn, 1)) : ev_ok P r pc (ev_rtz fin) := by
  intro k L S w n hk h
  obtain ⟨v, S', rfl, h1⟩ := ev_lc_some h
  obtain ⟨x, rfl, h2⟩ := ev_ic_some (v := v) h1
  obtain ⟨hb, h2⟩ := ev_bc_t h2
  cases S' with
  | cons _ _ => cases h2
  | nil =>
    obtain ⟨e1, e2, h3⟩ := hfin _ _ _ h2
    rw [hP]
    intro hz
    refine ⟨⟨by omega, by omega⟩, fun H locs ls hH hl' hS => ?_⟩
    obtain ⟨hx, hbb, hml, hown, hts, hK, hAO, hNW, hZ, hA, hlk, hr, had⟩ := X
    subst hQ
    subst e1; subst e2
    have hn : narrow .boolean (.int x) = .int x := by
      rcases ev_bool (by rw [← Nat.blt_eq]; exact hb) with rfl | rfl <;> rfl
    exact W.zret hx hbb (hr.trans hrt) hn (h3 H locs hH hS) hS.2.2 hd hlk
theorem ok_areturn (X : ev_X cc nL own rt p s m args meth c D G ad A z) (hP : ev_PP p l e R s m args below meth c Q nL D G ad A z wE nE P) {Qc : Array Value → State → Outcome → State → Prop} (hQ : Q = MQ below Qc args s (wE - z) nE A) {fin : Option Value → ev_W → Nat → Option α} (hfin : ∀ v w n, fin v w n = some r → w.length = wE ∧ n = nE ∧ ∀ H locs, ev_H D G ad A w H → va_S A s.heap H locs → ∀ t : State, t.heap = H → s.WarmedH t.vm → Qc args s (.returned (v.map (ev_v ad))) t) {ty : FieldType} (hrt : rt = some ty) (hty : (∃ n, ty = .object n) ∨ ∃ t, ty = .array t) (hd : decode cc pc = .ok (.areturn, 1)) : ev_ok P r pc (ev_rta fin) := by
  intro k L S w n hk h
  obtain ⟨v, S', rfl, h1⟩ := ev_lc_some h
  obtain ⟨hv, h2⟩ := ev_pc_some h1
  cases S' with
  | cons _ _ => cases h2
  | nil =>
    obtain ⟨e1, e2, h3⟩ := hfin _ _ _ h2
    rw [hP]
    intro hz
    refine ⟨⟨by omega, by omega⟩, fun H locs ls hH hl' hS => ?_⟩
    obtain ⟨hx, hbb, hml, hown, hts, hK, hAO, hNW, hZ, hA, hlk, hr, had⟩ := X
    subst hQ
    subst e1; subst e2
    exact W.aret hx hbb (hr.trans hrt) hty (v := ev_v ad v) (by rcases hv with rfl | ⟨x, rfl⟩; exact Or.inl rfl; exact Or.inr ⟨_, rfl⟩) (h3 H locs hH hS) hS.2.2 hd hlk
theorem ok_return (X : ev_X cc nL own rt p s m args meth c D G ad A z) (hP : ev_PP p l e R s m args below meth c Q nL D G ad A z wE nE P) {Qc : Array Value → State → Outcome → State → Prop} (hQ : Q = MQ below Qc args s (wE - z) nE A) {fin : Option Value → ev_W → Nat → Option α} (hfin : ∀ v w n, fin v w n = some r → w.length = wE ∧ n = nE ∧ ∀ H locs, ev_H D G ad A w H → va_S A s.heap H locs → ∀ t : State, t.heap = H → s.WarmedH t.vm → Qc args s (.returned (v.map (ev_v ad))) t) (hrt : rt = none) (hd : decode cc pc = .ok (.return_, 1)) : ev_ok P r pc (ev_rtv fin) := by
  intro k L S w n hk h
  cases S with
  | cons _ _ => cases h
  | nil =>
    obtain ⟨e1, e2, h3⟩ := hfin _ _ _ h
    rw [hP]
    intro hz
    refine ⟨⟨by omega, by omega⟩, fun H locs ls hH hl' hS => ?_⟩
    obtain ⟨hx, hbb, hml, hown, hts, hK, hAO, hNW, hZ, hA, hlk, hr, had⟩ := X
    subst hQ
    subst e1; subst e2
    exact W.vret hx hbb (hr.trans hrt) (h3 H locs hH hS) hS.2.2 hd hlk
end AOPS
