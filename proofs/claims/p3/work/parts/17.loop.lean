/-! one turn of the law's loop; the loop; the law -/
section LOOP
variable {p : Program} {l : Launch} {e : Env} {R : Room} {s : State} {m : MethodId} {args : Array Value} {below : List Frame} {meth : Method} {c : Code} {Q : State → Prop}
variable {cc : ByteArray} {nL : Nat} {own : String} {rt : Option FieldType} {D : va_G} {G : Nat → ClassId} {ad : Nat → Nat} {A : Nat → Prop} {z : Nat} {pc idx : Nat}
theorem ev_cV {ys : List (MethodName × List Cond)} {d : Nat} {cf : Nat → List Value → ev_W → Option ev_R} (X : ev_X cc nL own rt p s m args meth c D G ad A z) (hd2 : d + 3 ≤ R.frames ∧ 64 * (d + 3) ≤ R.locals) (hcf : ev_cf l ys d cf) {cal ci : Nat} {y : MethodName} {bytes : ByteArray} {maxL : Nat} {ret : Option FieldType} {C : vw_C} (hy : ys[cal]? = some (y, Cond.code y bytes maxL ret :: ev_gd)) (hc : vwCl[ci]? = some C) (hd : decode cc pc = .ok (.invokevirtual idx, 3)) (h1 : Cond.code y bytes maxL ret ∈ ev_gd) (h2 : Cond.methodLink own idx y ∈ ev_gd) (h3 : Cond.instanceMethod y ∈ ev_gd) (h4 : Cond.selects C.1 y y ∈ ev_gd) (h5 : Cond.initialized C.1 ∈ ev_gd)
    (hdn : y.cls = C.1 ∧ y.cls ≠ "java/lang/invoke/MethodHandle" ∧ y.cls ≠ "java/lang/invoke/VarHandle" ∧ (parseMethodDescriptor y.desc).map (fun d => d.parameters.length) = some 0) (hm : maxL ≤ 45)
    {a : Nat} {c0 : ev_Q} {w w1 : ev_W} {rv : Option Value} {k1 mc : Nat} (hcall : cf cal [.ref a] w = some (rv, w1, k1)) (hz : z ≤ w.length) (hc0 : w[a]? = some c0) (hb : Nat.beq c0.1 (ci + 3) = true) {H : Heap} {locs : List Loc} {cells slots : Nat} {ls : Array Slot} (hH : ev_H D G ad A w H) (hls : ls.size = nL) (hS : va_S A s.heap H locs) (hmc : w1.length - w.length = mc) (hbud : cells + mc ≤ R.cells ∧ slots + k1 ≤ R.slots) {rest : List Value} (hrest : rest.length ≤ 4)
    (kk : ∀ H1 locs1, ev_H D G ad A w1 H1 → va_S A s.heap H1 locs1 → W p l e R s m args below meth c H1 locs1 (cells + mc) (slots + k1) Q (F0 m (pc + 3) ls ((rv.map (ev_v ad)).toList ++ rest.map (ev_v ad)))) : W p l e R s m args below meth c H locs cells slots Q (F0 m pc ls (.ref (ad a) :: rest.map (ev_v ad))) := by
  subst hmc
  obtain ⟨hx, hbb, hml, hown, hts, hK, -⟩ := id X
  have hM := (hcf _ _ _ _ _ _ hcall).2 y _ hy D G ad A z X.2.2.2.2.2.2.2.2.2.2.2.2 hz
  refine ev_callW (va_runV (n := 0) (As := []) (rest := rest.map (ev_v ad)) (b := ad a) ⟨hx, hbb, hml, hown, hts⟩ hM (cwV 0 hts (ev_good fun w hw => ?_) rfl rfl rfl hdn ⟨hd2.1, ?_⟩) ⟨ev_blind, va_recv hK hH.1 hc (ev_obj_at (G := G) (ad := ad) hc0 hb), fun U hU hW => ⟨rfl, ev_Bof X hH hS hU hW⟩⟩ rfl rfl hls rfl (lv_room (ev_sum (S := rest) (ad := ad) hrest)) hd hbud) hS fun H1 locs1 hH1 hS1 => ?_
  · unfold wsV at hw
    rcases List.mem_append.mp hw with hw | hw
    · simp at hw
      rcases hw with rfl | rfl | rfl | rfl
      · exact h2
      · exact h3
      · exact h4
      · exact h5
    · rcases List.mem_cons.mp hw with rfl | hw
      · exact h1
      · exact hw
  · show 8 + (maxL + 11) + 64 * (d + 2) ≤ R.locals
    omega
  · exact kk H1 locs1 hH1 hS1
abbrev ev_LQ (i : Int32) : List Value := [.ref 0, .ref 2, .ref 3, .ref 4, .int i, .int 0, .int 12]
set_option maxRecDepth 100000 in
theorem ev_at0 : ev_wQ[0]? = some (0, 2048, ev_scr) := rfl
set_option maxRecDepth 100000 in
theorem ev_atX : ∃ c0, ev_wQ[2]? = some c0 ∧ Nat.beq c0.1 (15 + 3) = true := ⟨_, rfl, by decide +kernel⟩
set_option maxRecDepth 100000 in
theorem ev_atM : ∃ c0, ev_wQ[3]? = some c0 ∧ Nat.beq c0.1 (18 + 3) = true := ⟨_, rfl, by decide +kernel⟩
/-- the reference's call, with its world -/
theorem ev_run3w : ∃ w1, ev_call 8 42 [.ref 3] ev_wQ = some (some (.int 0), w1, 2094) ∧ w1.take 89 = ev_wQ ∧ w1.length = 89 + 462 := by
  have h := ev_run3
  cases hc : ev_call 8 42 [.ref 3] ev_wQ with
  | none => rw [hc] at h; cases h
  | some q =>
    rw [hc] at h
    obtain ⟨rv, w1, k1⟩ := q
    have h2 : (rv, w1.take 89, w1.length, k1) = (some (.int 0), ev_wQ, 89 + 462, 2094) := Option.some.inj h
    obtain ⟨h3, h4⟩ := Prod.mk.inj h2
    obtain ⟨h5, h6⟩ := Prod.mk.inj h4
    obtain ⟨h7, h8⟩ := Prod.mk.inj h6
    subst h3; subst h8
    exact ⟨w1, rfl, h5, h7⟩
theorem ev_turn (X : ev_X cL_law 7 RL rt p s m args meth c D G ad A 89) (hd2 : 8 + 3 ≤ R.frames ∧ 64 * (8 + 3) ≤ R.locals) {n : Nat} (hn : n + 1 ≤ 481) {H : Heap} {locs : List Loc} {cl sl : Nat} {ls : Array Slot} (hH : ev_H D G ad A ev_wQ H) (hl : lv_has ls 7 (ev_l ad (ev_LQ (ev_i (n + 1))))) (hS : va_S A s.heap H locs) (hbud : cl + 462 ≤ R.cells ∧ sl + 2094 ≤ R.slots)
    (kk : ∀ H1 locs1 ls1, ev_hH D G ad A ev_wQ H1 → H1.size = ad (89 + 462) → lv_has ls1 7 (ev_l ad (ev_LQ (ev_i n))) → va_S A s.heap H1 locs1 → W p l e R s m args below meth c H1 locs1 (cl + 462) (sl + 2094) Q (F0 m 27 ls1 [])) : W p l e R s m args below meth c H locs cl sl Q (F0 m 27 ls []) := by
  obtain ⟨g1, g2, g3, g4⟩ := ev_tc_of hn
  have l0 : ls[0]? = some (.val (.ref (ad 0))) := ev_l_at hl (i := 0) (u := .ref 0) rfl (Or.inr (Or.inl ⟨_, rfl⟩))
  have l1 : ls[1]? = some (.val (.ref (ad 2))) := ev_l_at hl (i := 1) (u := .ref 2) rfl (Or.inr (Or.inl ⟨_, rfl⟩))
  have l2 : ls[2]? = some (.val (.ref (ad 3))) := ev_l_at hl (i := 2) (u := .ref 3) rfl (Or.inr (Or.inl ⟨_, rfl⟩))
  have l4 : ls[4]? = some (.val (.int (ev_i (n + 1)))) := ev_l_at hl (i := 4) (u := .int (ev_i (n + 1))) rfl (Or.inr (Or.inr ⟨_, rfl⟩))
  have hx := X.1
  have hb := X.2.1
  have hK := X.2.2.2.2.2.1
  have he := ev_arr_at (G := G) (ad := ad) ev_at0 0 rfl
  refine lv_iload hx hb (by decide +kernel : decode cL_law 27 = .ok (.iload 4, 2)) l4 ?_
  refine lv_aload_n hx hb (by decide +kernel : decode cL_law 29 = .ok (.aload_n 0, 1)) rfl l0 ?_
  refine va_alen hx hb hK hH.1 0 0 he (ty := .int) rfl rfl (by decide +kernel : decode cL_law 30 = .ok (.arraylength, 1)) ?_
  refine lv_iconst hx hb (by decide +kernel : decode cL_law 31 = .ok (.iconst 4, 1)) rfl ?_
  refine lv_isub hx hb (by decide +kernel : decode cL_law 32 = .ok (.isub, 1)) ?_
  refine lv_icmp_gt hx hb (by decide +kernel : decode cL_law 33 = .ok (.if_icmp .gt 870, 3)) (tgt := 903) (by decide) (fun q => absurd q g1) fun _ => ?_
  refine lv_aload_n hx hb (by decide +kernel : decode cL_law 36 = .ok (.aload_n 0, 1)) rfl l0 ?_
  refine lv_iload hx hb (by decide +kernel : decode cL_law 37 = .ok (.iload 4, 2)) l4 ?_
  obtain ⟨hin, hi⟩ := ev_vpin (i := ev_i (n + 1)) (N := 2048) (by rw [g2]; omega) (by omega)
  refine va_iald hx hb hK hH.1 0 0 he rfl hin (by decide +kernel : decode cL_law 39 = .ok (.iaload, 1)) ?_
  have ex : ev_iv ((2048, ev_scr).2.getD (ev_i (n + 1)).toNatClampNeg .null) = 22 := by
    show ev_iv (ev_scr.getD _ _) = 22
    rw [hi, g2, List.getD_eq_getElem?_getD, g3]; rfl
  rw [ex]
  refine lv_bipush hx hb (by decide +kernel : decode cL_law 40 = .ok (.bipush 31, 2)) rfl ?_
  refine lv_iand hx hb (by decide +kernel : decode cL_law 42 = .ok (.iand, 1)) ?_
  refine lv_tableIn hx hb (by decide +kernel : decode cL_law 43 = .ok (.tableswitch 854 0 25 #[117, 157, 214, 227, 243, 283, 296, 352, 404, 420, 448, 476, 489, 529, 569, 597, 610, 638, 666, 679, 731, 759, 787, 800, 828, 841], 117)) (off := 787) (tgt := 830) (by decide +kernel) (by decide +kernel) (by decide +kernel) (by decide) ?_
  refine lv_aload_n hx hb (by decide +kernel : decode cL_law 830 = .ok (.aload_n 1, 1)) rfl l1 ?_
  obtain ⟨cX, hcX, hbX⟩ := ev_atX
  refine ev_cV X hd2 (ev_main l 8).1 (ci := 15) ev_y25 rfl (by decide +kernel : decode cL_law 831 = .ok (.invokevirtual 173, 3)) ev_w655 ev_w652 ev_w653 ev_w654 ev_w71 ⟨rfl, ev_dn25⟩ (by decide) ev_run2 (by rw [ev_lenQ]; exact Nat.le_refl _) hcX hbX hH hl.1 hS (Nat.sub_self _) ⟨by omega, by omega⟩ (rest := []) (by decide) fun H1 locs1 hH1 hS1 => ?_
  refine lv_pop hx hb (by decide +kernel : decode cL_law 834 = .ok (.pop, 1)) rfl ?_
  refine lv_aload_n hx hb (by decide +kernel : decode cL_law 835 = .ok (.aload_n 2, 1)) rfl l2 ?_
  obtain ⟨cM, hcM, hbM⟩ := ev_atM
  obtain ⟨w1, hcall, htake, hw1⟩ := ev_run3w
  refine ev_cV X hd2 (ev_main l 8).1 (ci := 18) ev_y42 rfl (by decide +kernel : decode cL_law 836 = .ok (.invokevirtual 176, 3)) ev_w1867 ev_w1864 ev_w1865 ev_w1866 ev_w82 ⟨rfl, ev_dn42⟩ (by decide) hcall (by rw [ev_lenQ]; exact Nat.le_refl _) hcM hbM hH1 hl.1 hS1 (mc := 462) (by rw [hw1, ev_lenQ]) ⟨by omega, by omega⟩ (rest := []) (by decide) fun H2 locs2 hH2 hS2 => ?_
  refine lv_pop hx hb (by decide +kernel : decode cL_law 839 = .ok (.pop, 1)) rfl ?_
  refine lv_goto hx hb (by decide +kernel : decode cL_law 840 = .ok (.goto 57, 3)) (tgt := 897) (by decide) ?_
  obtain ⟨j, hj⟩ := List.getElem?_of_mem (ev_l_mem.mpr ⟨.int (ev_i (n + 1)), rfl, rfl, rfl⟩ : (4, ev_v ad (.int (ev_i (n + 1)))) ∈ ev_l ad (ev_LQ (ev_i (n + 1))))
  refine lv_iinc hx hb (by decide +kernel : decode cL_law 897 = .ok (.iinc 4 4, 3)) hl (k := j) hj g4 (by decide) rfl fun ls' h' => ?_
  refine lv_goto hx hb (by decide +kernel : decode cL_law 900 = .ok (.goto (-873), 3)) (tgt := 27) (by decide) ?_
  exact kk H2 locs2 ls' (ev_hH_take htake ⟨hH2.1, hH2.2.1, hH2.2.2.1⟩ ev_wfQ) (by rw [← hw1]; exact hH2.2.2.2) (ev_l_put (u := .int (ev_i n)) h') hS2
/-- the law's end: true, and so many new cells -/
def ev_Qt (TC : Nat) : Array Value → State → Outcome → State → Prop := fun _ st o t => o = .returned (some (.int 1)) ∧ t.heap.size = st.heap.size + TC
theorem ev_X_ad {ad' : Nat → Nat} {z' : Nat} (X : ev_X cc nL own rt p s m args meth c D G ad A z) (h1 : ad' 1 = ad 1) (h : ∀ k, z' ≤ k → ad' (k + 1) = ad' k + 1) : ev_X cc nL own rt p s m args meth c D G ad' A z' := by
  obtain ⟨a1, a2, a3, a4, a5, a6, a7, a8, a9, a10, a11, a12, -⟩ := X
  exact ⟨a1, a2, a3, a4, a5, a6, a7, a8, by rw [h1]; exact a9, a10, a11, a12, h⟩
theorem ev_loop (X : ev_X cL_law 7 RL (some FieldType.boolean) p s m args meth c D G ad A z) (hd2 : 8 + 3 ≤ R.frames ∧ 64 * (8 + 3) ≤ R.locals) {TC TS : Nat} (hR : TC ≤ R.cells ∧ TS ≤ R.slots) : ∀ n : Nat, n ≤ 481 → ∀ (H : Heap) (locs : List Loc) (cl sl : Nat) (ls : Array Slot), ev_hH D G ad A ev_wQ H → lv_has ls 7 (ev_l ad (ev_LQ (ev_i n))) → va_S A s.heap H locs → cl + 462 * n = TC → sl + 2094 * n = TS → H.size = s.heap.size + cl → W p l e R s m args below meth c H locs cl sl (MQ below (ev_Qt TC) args s TC TS A) (F0 m 27 ls []) := by
  intro n
  induction n with
  | zero =>
    intro _ H locs cl sl ls hH hl hS e1 e2 hsz
    have l0 : ls[0]? = some (.val (.ref (ad 0))) := ev_l_at hl (i := 0) (u := .ref 0) rfl (Or.inr (Or.inl ⟨_, rfl⟩))
    have l4 : ls[4]? = some (.val (.int (ev_i 0))) := ev_l_at hl (i := 4) (u := .int (ev_i 0)) rfl (Or.inr (Or.inr ⟨_, rfl⟩))
    have hx := X.1
    have hb := X.2.1
    have hK := X.2.2.2.2.2.1
    have he := ev_arr_at (G := G) (ad := ad) ev_at0 0 rfl
    rw [Nat.mul_zero, Nat.add_zero] at e1 e2
    subst e1; subst e2
    refine lv_iload hx hb (by decide +kernel : decode cL_law 27 = .ok (.iload 4, 2)) l4 ?_
    refine lv_aload_n hx hb (by decide +kernel : decode cL_law 29 = .ok (.aload_n 0, 1)) rfl l0 ?_
    refine va_alen hx hb hK hH.1 0 0 he (ty := .int) rfl rfl (by decide +kernel : decode cL_law 30 = .ok (.arraylength, 1)) ?_
    refine lv_iconst hx hb (by decide +kernel : decode cL_law 31 = .ok (.iconst 4, 1)) rfl ?_
    refine lv_isub hx hb (by decide +kernel : decode cL_law 32 = .ok (.isub, 1)) ?_
    refine lv_icmp_gt hx hb (by decide +kernel : decode cL_law 33 = .ok (.if_icmp .gt 870, 3)) (tgt := 903) (by decide) (fun _ => ?_) (fun q => absurd (by decide +kernel) q)
    refine lv_iconst hx hb (by decide +kernel : decode cL_law 903 = .ok (.iconst 1, 1)) (v := 1) rfl ?_
    exact W.zret hx hb X.2.2.2.2.2.2.2.2.2.2.2.1 rfl (fun t ht _ => ⟨rfl, by rw [ht]; exact hsz⟩) hS.2.2 (by decide +kernel : decode cL_law 904 = .ok (.ireturn, 1)) X.2.2.2.2.2.2.2.2.2.2.1
  | succ n ih =>
    intro hn H locs cl sl ls hH hl hS e1 e2 hsz
    have e1' : cl + 462 + 462 * n = TC := by rw [← e1]; omega
    have e2' : sl + 2094 + 2094 * n = TS := by rw [← e2]; omega
    have a1 : ∀ k, k < 89 → ad k = ev_ad ad 89 H.size k := fun k hk => (ev_ad_lt hk).symm
    have X' : ev_X cL_law 7 RL (some FieldType.boolean) p s m args meth c D G (ev_ad ad 89 H.size) A 89 := ev_X_ad X (a1 1 (by omega)).symm fun k hk => ev_ad_s hk
    have ew := ev_w_cong (G := G) (ad := ad) (ad' := ev_ad ad 89 H.size) (w := ev_wQ) (z := 89) (by rw [ev_lenQ]; exact Nat.le_refl _) ev_rokQ a1
    have el : ∀ i, ev_l (ev_ad ad 89 H.size) (ev_LQ i) = ev_l ad (ev_LQ i) := fun i => ev_l_cong (by
      show [Value.ref (ev_ad ad 89 H.size 0), .ref (ev_ad ad 89 H.size 2), .ref (ev_ad ad 89 H.size 3), .ref (ev_ad ad 89 H.size 4), _, _, _] = _
      rw [← a1 0 (by omega), ← a1 2 (by omega), ← a1 3 (by omega), ← a1 4 (by omega)]
      rfl)
    have hH' : ev_H D G (ev_ad ad 89 H.size) A ev_wQ H := ⟨by rw [← ew]; exact hH.1, by rw [← ew]; exact hH.2.1, hH.2.2, by rw [ev_lenQ, ev_ad_ge (Nat.le_refl _)]; omega⟩
    refine ev_turn X' hd2 hn hH' (by rw [el]; exact hl) hS ⟨by omega, by omega⟩ fun H1 locs1 ls1 hH1 hs1 hl1 hS1 => ?_
    rw [el] at hl1
    refine ih (by omega) H1 locs1 _ _ ls1 ⟨by rw [ew]; exact hH1.1, by rw [ew]; exact hH1.2.1, hH1.2.2⟩ hl1 hS1 e1' e2' ?_
    rw [hs1, ev_ad_ge (Nat.le_add_right _ _), Nat.add_sub_cancel_left, hsz, Nat.add_assoc]
end LOOP
/-- the room of this run -/
def ev_R0 : Room := { frames := 11, cells := 222399, slots := 1015831, locals := 704 }
theorem ev_law (l : Launch) (D : va_G) (G : Nat → ClassId) (ad : Nat → Nat) (A : Nat → Prop) (had : ∀ k, 2 ≤ k → ad (k + 1) = ad k + 1) : Met l x (Cond.code x code maxLocals ret :: tables_1) ev_R0 (ev_Pc D G ad A [.ref 0] ev_w0) (ev_Qt 222399) 222399 1015831 A := by
  refine Met.ofW (cc := code) (maxL := maxLocals) (ret := ret) (by decide) rfl ?_
  intro p e s m args below meth c s₁ B hml hv
  obtain ⟨rfl, hH, hK, hAO, hNW, hZ, hA⟩ := hv
  have hts0 : ∀ c ∈ (Cond.code x code maxLocals ret :: tables_1), c.before #[Value.ref (ad 0)] s = true := atoms_spec (ws := Cond.code x code maxLocals ret :: tables_1) B.pre
  have hts : ∀ w ∈ lw_tbl, w.before #[Value.ref (ad 0)] s = true := k2_hts_sels lw_privs (fun w hw => hts0 w (List.mem_cons_of_mem _ hw)) lw_privs_ok
  have hown : s.vm.findClass RL = some m.cls := findClass_of_methodNamed B.named
  have X : ev_X cL_law 7 RL (some FieldType.boolean) p s m #[Value.ref (ad 0)] meth c D G ad A 2 := ⟨B.exec, B.bytes, hml, hown, fun w hw => hts w (List.mem_filter.mp hw).1, hK, hAO, hNW, hZ, hA, B.notSynchronized, B.returns, had⟩
  let P : Nat → List Value → List Value → ev_W → Nat → Prop := fun pc L S w' n => 2 ≤ w'.length → (w'.length ≤ 222399 + 2 ∧ n ≤ 1015831) ∧ ∀ (H : Heap) (locs : List Loc) (ls : Array Slot), ev_H D G ad A w' H → lv_has ls 7 (ev_l ad L) → va_S A s.heap H locs → W p l e (headSpec (Cond.code x code maxLocals ret :: tables_1) ev_R0).room s m #[Value.ref (ad 0)] below meth c H locs (w'.length - 2) n (MQ below (ev_Qt 222399) #[Value.ref (ad 0)] s 222399 1015831 A) (F0 m pc ls (S.map (ev_v ad)))
  have htb := ev_s18 (R := (headSpec (Cond.code x code maxLocals ret :: tables_1) ev_R0).room) (below := below) (wE := 222399 + 2) (nE := 1015831) (P := P) (r := ((27, [.ref 0, .ref 2, .ref 51, .ref 57, .int 124, .int 0, .int 12], [], ev_wP, 8617) : ev_St)) (fin := fun _ _ _ => none) X (fun _ _ _ _ _ => Iff.rfl) ⟨Nat.le_refl _, Nat.le_refl _⟩ (d := 8) ⟨Nat.le_refl _, Nat.le_refl _⟩ (by decide) (by decide) (ev_main l 8).1 (Qc := ev_Qt 222399) rfl (fun v w n h => by cases h)
  have h := ev_run_ok htb (stop := fun pc L S w n => (some (pc, L, S, w, n) : Option ev_St)) (fun pc L S w n h => ?_) 1300 0 _ [] ev_w0 0 ev_run1 (by decide)
  · have h2 := h.2 s.heap [] _ hH (ev_l_entry (vs := [.ref 0]) (pad := [.retAddr 0, .retAddr 0, .retAddr 0, .retAddr 0, .retAddr 0, .retAddr 0]) (nL := 7) (fun v hv => by simp at hv; subst hv; rfl) (fun v hv => by simpa using hv) (by decide)) va_S.rf
    rw [lg_entry_eq]
    exact h2
  · cases h
    intro _
    refine ⟨⟨by rw [ev_lenP]; omega, by omega⟩, fun H locs ls hH' hl hS => ?_⟩
    have hsz0 : s.heap.size = ad 2 := hH.2.2.2
    have hadn : ∀ k, ad (2 + k) = ad 2 + k := fun k => by
      induction k with
      | zero => rfl
      | succ k ih => rw [← Nat.add_assoc, had _ (by omega), ih]; omega
    have hszP : H.size = s.heap.size + (179 - 2) := by rw [hsz0, ← hadn, hH'.2.2.2, ev_lenP]
    have hlt : ∀ k, k < 89 → ev_ad (fun k => ad (ev_sg0.getD k 0)) 89 0 k = ad (ev_sg0.getD k 0) := fun k hk => ev_ad_lt hk
    have hq := ev_hH_ren (ad' := ev_ad (fun k => ad (ev_sg0.getD k 0)) 89 0) ev_renPQ (by rw [ev_lensg]; exact ev_rokQ) ev_ndsg (fun k hk => hlt k (by rw [ev_lensg] at hk; exact hk)) ⟨hH'.1, hH'.2.1, hH'.2.2.1⟩ ev_wfQ
    rw [ev_lenP]
    refine ev_loop (ad := ev_ad (fun k => ad (ev_sg0.getD k 0)) 89 0) (z := 89) (ev_X_ad X (hlt 1 (by omega)) fun k hk => ev_ad_s hk) ⟨Nat.le_refl _, Nat.le_refl _⟩ ⟨Nat.le_refl _, Nat.le_refl _⟩ 481 (Nat.le_refl _) H locs (179 - 2) 8617 ls hq ?_ hS rfl rfl hszP
    have e : ev_l (ev_ad (fun k => ad (ev_sg0.getD k 0)) 89 0) (ev_LQ (ev_i 481)) = ev_l ad [.ref 0, .ref 2, .ref 51, .ref 57, .int 124, .int 0, .int 12] := ev_l_cong (by
      show [Value.ref (ev_ad (fun k => ad (ev_sg0.getD k 0)) 89 0 0), .ref (ev_ad (fun k => ad (ev_sg0.getD k 0)) 89 0 2), .ref (ev_ad (fun k => ad (ev_sg0.getD k 0)) 89 0 3), .ref (ev_ad (fun k => ad (ev_sg0.getD k 0)) 89 0 4), _, _, _] = _
      rw [hlt 0 (by omega), hlt 2 (by omega), hlt 3 (by omega), hlt 4 (by omega)]
      rfl)
    rw [e]
    exact hl
