/-! Arrays.copyOf of an Object[], as one operation -/
abbrev ev_gc : MethodName := ⟨"java/lang/Object", "getClass", "()Ljava/lang/Class;"⟩
abbrev ev_oa : FieldType := .array (.object "java/lang/Object")
/-- the words that it asks; C: the class of the objects that a list may hold -/
def ev_cw (C : String) : Prop := (Cond.methodLink "java/util/Arrays" 86 ev_gc ∈ ev_gd ∧ Cond.selects "[Ljava/lang/Object;" ev_gc ev_gc ∈ ev_gd ∧ Cond.instanceMethod ev_gc ∈ ev_gd ∧ Cond.native ev_gc ∈ ev_gd) ∧
  (Cond.methodLink "java/util/Arrays" 300 yJ7_copyOf_6403c ∈ ev_gd ∧ Cond.static yJ7_copyOf_6403c ∈ ev_gd ∧ Cond.initialized "java/util/Arrays" ∈ ev_gd ∧ Cond.code yJ7_copyOf_6403c cJ7_copyOf_6403c 4 (some ev_oa) ∈ ev_gd) ∧
  (Cond.classLink "java/util/Arrays" 110 "[Ljava/lang/Object;" ∈ ev_gd ∧ Cond.classLink "java/util/Arrays" 2 "java/lang/Object" ∈ ev_gd) ∧
  (Cond.methodLink "java/util/Arrays" 304 Lib.Math.min.name ∈ ev_gd ∧ Cond.static Lib.Math.min.name ∈ ev_gd ∧ Cond.initialized "java/lang/Math" ∈ ev_gd ∧ Cond.code Lib.Math.min.name Lib.Math.min.code 2 (some .int) ∈ ev_gd) ∧
  (Cond.methodLink "java/util/Arrays" 150 arraycopyName ∈ ev_gd ∧ Cond.native arraycopyName ∈ ev_gd ∧ Cond.static arraycopyName ∈ ev_gd ∧ Cond.initialized "java/lang/System" ∈ ev_gd) ∧
  Cond.castable C "java/lang/Object" ∈ ev_nw ∧ Cond.castable "[I" "java/lang/Object" ∈ ev_nw
theorem ev_el_some {α : Type} {w : ev_W} {rt : Nat} {y : Option α} {r : α} : ∀ vs : List Value, ev_el w rt vs y = some r → (∀ v ∈ vs, v = .null ∨ ∃ x, v = .ref x ∧ ∃ d0, w[x]? = some d0 ∧ (d0.1 = 0 ∨ d0.1 = rt)) ∧ y = some r := by
  intro vs
  induction vs with
  | nil => intro h; exact ⟨(fun v hv => by cases hv), h⟩
  | cons v vs ih =>
    intro h
    have h0 : ev_rn v (fun b => Nat.rec (ev_el w rt vs y) (fun b _ => ev_oc (ev_at w b) fun d => ev_bc (Nat.beq d.1 0 || Nat.beq d.1 rt) (ev_el w rt vs y) none) b) = some r := h
    rcases ev_rn_some h0 with ⟨rfl, h1⟩ | ⟨x, rfl, h1⟩
    · obtain ⟨h2, h3⟩ := ih h1
      refine ⟨fun u hu => ?_, h3⟩
      rcases List.mem_cons.mp hu with rfl | hu
      · exact Or.inl rfl
      · exact h2 u hu
    · obtain ⟨d0, hd0, h2⟩ := ev_oc_some (show ev_oc (ev_at w x) (fun d => ev_bc (Nat.beq d.1 0 || Nat.beq d.1 rt) (ev_el w rt vs y) none) = some r from h1)
      obtain ⟨hk, h3⟩ := ev_bc_t h2
      obtain ⟨h4, h5⟩ := ih h3
      rw [ev_at_eq] at hd0
      rw [Bool.or_eq_true] at hk
      refine ⟨fun u hu => ?_, h5⟩
      rcases List.mem_cons.mp hu with rfl | hu
      · refine Or.inr ⟨x, rfl, d0, hd0, ?_⟩
        rcases hk with hk | hk
        · exact Or.inl (Nat.eq_of_beq_eq_true hk)
        · exact Or.inr (Nat.eq_of_beq_eq_true hk)
      · exact h4 u hu
/-- the new list -/
def ev_cl (i N : Nat) (vs : List Value) : List Value := vs ++ List.replicate (i - N) .null
theorem ev_cpy_some {α : Type} {fin : Option Value → ev_W → Nat → Option α} {rt : Nat} {k : ev_G α} {L S : List Value} {w : ev_W} {n : Nat} {r : α} (h : ev_cpy fin rt k L S w n = some r) : ∃ a i vs N, L[0]? = some (.ref a) ∧ L[1]? = some (.int i) ∧ S = [] ∧ w[a]? = some (2, N, vs) ∧ N ≤ ev_bits i ∧ ev_bits i < 100000 ∧ (∀ v ∈ vs, v = .null ∨ ∃ x, v = .ref x ∧ ∃ d0, w[x]? = some d0 ∧ (d0.1 = 0 ∨ d0.1 = rt)) ∧ fin (some (.ref w.length)) (w ++ [(2, ev_bits i, ev_cl (ev_bits i) N vs)]) (n + ev_bits i) = some r := by
  obtain ⟨u, hu, h1⟩ := ev_oc_some h
  obtain ⟨v, hv, h2⟩ := ev_oc_some h1
  obtain ⟨a, rfl, h3⟩ := ev_rc_some (v := u) h2
  obtain ⟨i, rfl, h4⟩ := ev_ic_some (v := v) h3
  obtain ⟨c0, hc0, h5⟩ := ev_oc_some h4
  obtain ⟨hb, h6⟩ := ev_bc_t h5
  obtain ⟨hel, h7⟩ := ev_el_some _ h6
  rw [ev_at_eq] at hu hv hc0
  rw [Bool.and_eq_true, Bool.and_eq_true, Nat.ble_eq, Nat.blt_eq] at hb
  cases S with
  | cons _ _ => cases h7
  | nil =>
    have h8 : fin (some (.ref (ev_len w))) (w ++ [(2, ev_bits i, c0.2.2 ++ List.replicate (ev_bits i - c0.2.1) .null)]) (n + ev_bits i) = some r := h7
    rw [ev_len_eq] at h8
    obtain ⟨t, N, vs⟩ := c0
    have ht : t = 2 := Nat.eq_of_beq_eq_true hb.1
    subst ht
    exact ⟨a, i, vs, N, hu, hv, rfl, hc0, hb.2.1, hb.2.2, hel, h8⟩
theorem mo_cpy {α : Type} {r : α} {wE nE pc rt : Nat} {fin : Option Value → ev_W → Nat → Option α} (hfin : ∀ v w n, fin v w n = some r → w.length = wE ∧ n = nE) : ev_ok (ev_Pm wE nE) r pc (ev_cpy fin rt) := fun k L S w n hk h => by
  obtain ⟨a, i, vs, N, -, -, -, -, -, -, -, h1⟩ := ev_cpy_some h
  obtain ⟨h2, h3⟩ := hfin _ _ _ h1
  rw [List.length_append, List.length_singleton] at h2
  exact ⟨by omega, by omega⟩
def ev_r3 (ms : Nat) : Room := { frames := 1, cells := 1, slots := ms, locals := 64 }
def ev_P3 (D : va_G) (G : Nat → ClassId) (ad : Nat → Nat) (A : Nat → Prop) (a mi : Nat) (i : Int32) (w : ev_W) : Array Value → State → Prop := fun aa U => aa = ([.ref (ad a), .int i, .ref mi] : List Value).toArray ∧ ev_B D G ad A w U ∧ va_Mi "[Ljava/lang/Object;" mi U
theorem ev_blind3 {D : va_G} {G : Nat → ClassId} {ad : Nat → Nat} {A : Nat → Prop} {a mi : Nat} {i : Int32} {w : ev_W} : FrameBlind (ev_P3 D G ad A a mi i w) := by
  intro a U g mk h
  obtain ⟨ha, ⟨hH, hK, hAO, hNW, hZ, hA⟩, hM⟩ := h
  exact ⟨ha, ⟨hH, va_K.moved (u := U) (U := U.calling g mk a) (Vm.Alike.refl U.vm) hK, va_AO.moved (u := U) (U := U.calling g mk a) (Vm.Alike.refl U.vm) hAO, ev_NW.warm (s := U) (U := U.calling g mk a) (State.WarmedH.refl U) hNW, va_Z.moved (u := U) (U := U.calling g mk a) (Vm.Alike.refl U.vm) hZ, hA⟩, va_Mi.moved (u := U) (U := U.calling g mk a) (Vm.Alike.refl U.vm) hM⟩
theorem ev_cpyf {ad : Nat → Nat} {i N : Nat} {vs : List Value} (hN : N = vs.length) : va_cpy (fun j => ev_rv ad (vs.getD j .null)) (fun j => ev_rv ad ((List.replicate i (.null : Value)).getD j .null)) 0 0 N = fun j => ev_rv ad ((ev_cl i N vs).getD j .null) := by
  subst hN
  funext j
  unfold va_cpy ev_cl
  show (if 0 ≤ j ∧ j < 0 + vs.length then ev_rv ad (vs.getD (0 + (j - 0)) .null) else ev_rv ad ((List.replicate i (.null : Value)).getD j .null)) = _
  rw [List.getD_eq_getElem?_getD, List.getD_eq_getElem?_getD, List.getD_eq_getElem?_getD, List.getElem?_replicate]
  by_cases h : j < vs.length
  · rw [if_pos ⟨Nat.zero_le _, by omega⟩, List.getElem?_append_left h]
    simp
  · rw [if_neg (by omega), List.getElem?_append_right (by omega), List.getElem?_replicate]
    split <;> split <;> rfl
theorem ev_any {D : va_G} {G : Nat → ClassId} {ad : Nat → Nat} {w : ev_W} {H : Heap} {s : State} {args : Array Value} {ci x : Nat} {C : vw_C} {d0 : ev_Q} (hc : vwCl[ci]? = some C) (h1 : Cond.castable C.1 "java/lang/Object" ∈ ev_nw) (h2 : Cond.castable "[I" "java/lang/Object" ∈ ev_nw) (hK : va_K D vwCl (ev_ty G) s) (hNW : ev_NW s) (hP : va_P D vwCl (ev_w G ad w) H) (hd0 : w[x]? = some d0) (hdk : d0.1 = 0 ∨ d0.1 = ci + 3) : va_Any "java/lang/Object" s H (ad x) := by
  rcases hdk with hdk | hdk
  · have hv := hP x _ (ev_arr_at (G := G) (ad := ad) hd0 0 hdk)
    obtain ⟨c1, t1, f1, f2, f3⟩ := Cond.castable_spec (va_Nw.use (A := args) rfl (hNW.1 _ h2))
    have hI : s.vm.findClass "[I" = some (G 0) := (hK.2 0 _ rfl).2
    cases hI.symm.trans f1
    obtain ⟨kI, hkI, -⟩ := Vm.findClass_spec hI
    refine ⟨_, hv, rfl, ⟨kI, hkI⟩, fun comp h => ?_⟩
    cases f2.symm.trans h
    exact f3
  · have hv := ev_obj_at (G := G) (ad := ad) hd0 (by rw [hdk]; exact Nat.beq_refl _)
    obtain ⟨c1, t1, f1, f2, f3⟩ := Cond.castable_spec (va_Nw.use (A := args) rfl (hNW.1 _ h1))
    refine va_rAny hK hP hv hc fun comp c2 m1 m2 => ?_
    cases f2.symm.trans m1
    cases f1.symm.trans m2
    exact f3
theorem ev_copy3 {l : Launch} {ci : Nat} {C : vw_C} (hC : vwCl[ci]? = some C) (hcw : ev_cw C.1) {D : va_G} {G : Nat → ClassId} {ad : Nat → Nat} {A : Nat → Prop} {w : ev_W} (had : ad (w.length + 1) = ad w.length + 1) {a mi : Nat} {i : Int32} {vs : List Value} {N : Nat} (hc : w[a]? = some (2, N, vs)) (hN : N ≤ ev_bits i) (hi : ev_bits i < 100000) (hel : ∀ v ∈ vs, v = .null ∨ ∃ x, v = .ref x ∧ ∃ d0, w[x]? = some d0 ∧ (d0.1 = 0 ∨ d0.1 = ci + 3)) :
    Met l yJ7_copyOf_6403c (Cond.code yJ7_copyOf_6403c cJ7_copyOf_6403c 4 (some ev_oa) :: ev_gd) (ev_r3 (ev_bits i)) (ev_P3 D G ad A a mi i w) (ev_Qc D G ad A (some (.ref w.length)) (w ++ [(2, ev_bits i, ev_cl (ev_bits i) N vs)])) 1 (ev_bits i) A := by
  refine Met.ofW (cc := cJ7_copyOf_6403c) (maxL := 4) (ret := some ev_oa) (by decide +kernel) rfl ?_
  intro p e s m args below meth c s₁ B hml hv
  obtain ⟨rfl, ⟨hH, hK, hAO, hNW, hZ, hA⟩, hM⟩ := hv
  have hts0 := atoms_spec (ws := Cond.code yJ7_copyOf_6403c cJ7_copyOf_6403c 4 (some ev_oa) :: ev_gd) B.pre
  have hts : ∀ w ∈ ev_gd, w.before ([.ref (ad a), .int i, .ref mi] : List Value).toArray s = true := fun w hw => hts0 w (List.mem_cons_of_mem _ hw)
  have hown : s.vm.findClass "java/util/Arrays" = some m.cls := findClass_of_methodNamed B.named
  obtain ⟨-, ⟨-, -, -, -⟩, ⟨k1, k2⟩, ⟨n1, n2, n3, n4⟩, ⟨a1, a2, a3, a4⟩, b1, b2⟩ := hcw
  have hx := B.exec
  have hb := B.bytes
  have hlk := B.notSynchronized
  have hr := B.returns
  rw [lg_entry_eq]
  have hl : lv_has ((lg_sl ([.ref (ad a), .int i, .ref mi] : List Value) ++ List.replicate (4 - (lg_sl ([.ref (ad a), .int i, .ref mi] : List Value)).length) Slot.unset).toArray) 4 [(0, .ref (ad a)), (1, .int i), (2, .ref mi)] := lv_entry ([.ref (ad a), .int i, .ref mi] : List Value) (n := 4) (show 3 ≤ 4 by decide)
  generalize (lg_sl ([.ref (ad a), .int i, .ref mi] : List Value) ++ List.replicate (4 - (lg_sl ([.ref (ad a), .int i, .ref mi] : List Value)).length) Slot.unset).toArray = ls at hl ⊢
  have l0 : ls[0]? = some (.val (.ref (ad a))) := hl.2.2 (0, _) (by simp)
  have l1 : ls[1]? = some (.val (.int i)) := hl.2.2 (1, _) (by simp)
  have l2 : ls[2]? = some (.val (.ref mi)) := hl.2.2 (2, _) (by simp)
  refine lv_aload_n hx hb (by decide +kernel : decode cJ7_copyOf_6403c 0 = .ok (.aload_n 2, 1)) rfl l2 ?_
  refine va_ldcM hx hb hown (hts _ k1) hM (by decide +kernel : decode cJ7_copyOf_6403c 1 = .ok (.ldc 110, 2)) ?_
  refine lv_acmp_ne (rx := some mi) (ry := some mi) hx hb (by decide +kernel : decode cJ7_copyOf_6403c 3 = .ok (.if_acmp .ne 10, 3)) (tgt := 13) (by exact (show ((3 : Nat) : Int) + 10 = ((13 : Nat) : Int) by decide)) (fun q => absurd rfl q) (fun _ => ?_)
  refine lv_iload_n hx hb (by decide +kernel : decode cJ7_copyOf_6403c 6 = .ok (.iload_n 1, 1)) rfl l1 ?_
  obtain ⟨h0, hii⟩ := ev_ix hi (Nat.le_refl _)
  have hAq : A (ad w.length) := hA _ (by rw [← hH.2.2.2]; exact Nat.le_refl _)
  refine W.anew hx hb hown (hts _ k2) (va_AO.use hAO) rfl (by decide +kernel : decode cJ7_copyOf_6403c 7 = .ok (.anewarray 2, 3)) rfl h0 (by rw [hii]; omega) (Nat.le_refl _) (by rw [hii]; exact Nat.le_of_eq (Nat.zero_add _)) fun cA kA comp f1 f2 f3 f4 => ?_
  have hcA : cA = G 2 := by
    obtain ⟨kO, co, -, -, -, hO⟩ := (hK.2 2 _ rfl).2
    exact Option.some.inj (f1.symm.trans hO)
  subst hcA
  rw [hii, Nat.zero_add, Nat.zero_add]
  generalize hH1 : s.heap.push ({ cls := G 2, slots := Array.replicate (ev_bits i) .null, vm := .none } : Cell) = H1
  have z1 : H1.size = s.heap.size + 1 := by rw [← hH1, Array.size_push]
  have e1 : H1[s.heap.size]? = some (arrV (G 2) (ev_bits i) (fun _ => .null)) := by rw [← hH1, Array.getElem?_push_size, ← arrV_new]
  have o1 : ∀ q : Nat, q < s.heap.size → H1[q]? = s.heap[q]? := fun q hq => by rw [← hH1, Array.getElem?_push, if_neg (Nat.ne_of_lt hq)]
  have hw2 : ev_H D G ad A (w ++ [(2, ev_bits i, List.replicate (ev_bits i) .null)]) H1 := by
    refine ev_H_push hH ?_ z1 o1 hAq had ⟨by simp, Nat.le_of_lt hi⟩
    show H1[ad w.length]? = some (vp_cell (G 2) (ev_bits i, .inr (.inr (.inr (.inr (fun j => ev_rv ad ((List.replicate (ev_bits i) .null).getD j .null)))))))
    rw [← hH.2.2.2, e1, vp_cell_q]
    congr 2
    funext j
    rw [List.getD_eq_getElem?_getD, List.getElem?_replicate]
    split <;> rfl
  have hS1 : va_S A s.heap H1 [] := ⟨by omega, fun x h1 h2 => o1 x h1, fun _ h => by cases h⟩
  rw [hH.2.2.2]
  refine lv_goto hx hb (by decide +kernel : decode cJ7_copyOf_6403c 10 = .ok (.goto 14, 3)) (tgt := 24) (by exact (show ((10 : Nat) : Int) + 14 = ((24 : Nat) : Int) by decide)) ?_
  refine lv_astore_n hx hb (by decide +kernel : decode cJ7_copyOf_6403c 24 = .ok (.astore_n 3, 1)) rfl hl (by decide) (lv' := [(3, .ref (ad w.length)), (0, .ref (ad a)), (1, .int i), (2, .ref mi)]) rfl fun ls' hl' => ?_
  have l0' : ls'[0]? = some (.val (.ref (ad a))) := hl'.2.2 (0, _) (by simp)
  have l1' : ls'[1]? = some (.val (.int i)) := hl'.2.2 (1, _) (by simp)
  have l3' : ls'[3]? = some (.val (.ref (ad w.length))) := hl'.2.2 (3, _) (by simp)
  have hwf := hH.2.2.1 _ (List.mem_of_getElem? hc)
  have hNl : N = vs.length := hwf.1
  have hlt : a < w.length := (List.getElem?_eq_some_iff.mp hc).1
  have hca : (w ++ [(2, ev_bits i, List.replicate (ev_bits i) .null)])[a]? = some (2, N, vs) := by rw [List.getElem?_append_left hlt]; exact hc
  have hcb : (w ++ [(2, ev_bits i, List.replicate (ev_bits i) .null)])[w.length]? = some (2, ev_bits i, List.replicate (ev_bits i) .null) := by simp
  have ha0 := ev_arr_at (G := G) (ad := ad) hca 2 rfl
  have ha1 := ev_arr_at (G := G) (ad := ad) hcb 2 rfl
  refine lv_aload_n hx hb (by decide +kernel : decode cJ7_copyOf_6403c 25 = .ok (.aload_n 0, 1)) rfl l0' ?_
  refine lv_iconst hx hb (by decide +kernel : decode cJ7_copyOf_6403c 26 = .ok (.iconst 0, 1)) (v := 0) (by decide) ?_
  refine lv_aload_n hx hb (by decide +kernel : decode cJ7_copyOf_6403c 27 = .ok (.aload_n 3, 1)) rfl l3' ?_
  refine lv_iconst hx hb (by decide +kernel : decode cJ7_copyOf_6403c 28 = .ok (.iconst 0, 1)) (v := 0) (by decide) ?_
  refine lv_aload_n hx hb (by decide +kernel : decode cJ7_copyOf_6403c 29 = .ok (.aload_n 0, 1)) rfl l0' ?_
  refine va_alen hx hb hK hw2.1 a 2 ha0 (ty := .object "java/lang/Object") rfl (v := Int32.ofNat N) rfl (by decide +kernel : decode cJ7_copyOf_6403c 30 = .ok (.arraylength, 1)) ?_
  refine lv_iload_n hx hb (by decide +kernel : decode cJ7_copyOf_6403c 31 = .ok (.iload_n 1, 1)) rfl l1' ?_
  refine va_mmin hx hb (hml.trans hl'.1.symm) hown (hts _ n1) (hts _ n2) (hts _ n3) (hts _ n4) (Nat.le_refl 1) (by exact (show (1 + (1 + (1 + (1 + 0)))) + 13 ≤ 64 by decide)) (Nat.le_refl _) (Nat.le_refl _) (by decide +kernel : decode cJ7_copyOf_6403c 32 = .ok (.invokestatic 304, 3)) ?_
  have hbN : ev_bits (Int32.ofNat N) = N := by
    show (BitVec.ofNat 32 N).toNat = N
    rw [BitVec.toNat_ofNat]
    exact Nat.mod_eq_of_lt (by omega)
  obtain ⟨g0, gN⟩ := ev_ix (i := Int32.ofNat N) (N := 100000) (by rw [hbN]; omega) (Nat.le_refl _)
  rw [hbN] at gN
  have hmin : (if i < Int32.ofNat N then i else Int32.ofNat N) = Int32.ofNat N := by
    refine if_neg fun q => ?_
    rw [Int32.lt_iff_toInt_lt, ev_bits_toInt, ev_bits_toInt, hbN, if_pos (by omega), if_pos (by omega)] at q
    omega
  rw [hmin]
  have hz0 : (0 : Int32).toNatClampNeg = 0 := by decide
  refine va_copyM (H0 := H1) (A := A) hx hb (hml.trans hl'.1.symm) hown (hts _ a1) (hts _ a2) (hts _ a3) (hts _ a4) hK hw2.1 hw2.2.1 va_S.rf a w.length 2 2 ha0 ha1 (E0 := "java/lang/Object") (E1 := "java/lang/Object") rfl rfl (sp := 0) (dp := 0) (n := Int32.ofNat N) (by decide) (by decide) g0 (by rw [hz0, gN, Nat.zero_add]; exact Nat.le_refl _) (by rw [hz0, gN, Nat.zero_add]; exact hN) (fun j hj y hy => ?_) (Nat.le_refl 1) (by exact (show 0 + (nativeFrameWords "java/lang/System" "arraycopy" 5 + 11) ≤ 64 by decide)) (by decide +kernel : decode cJ7_copyOf_6403c 35 = .ok (.invokestatic 150, 3)) (fun H2 locs2 hP2 hD2 hS2 => ?_)
  · rw [hz0, Nat.zero_add, List.getD_eq_getElem?_getD] at hy
    cases hj2 : vs[j]? with
    | none => rw [hj2] at hy; cases hy
    | some v =>
      rw [hj2] at hy
      rcases hel v (List.mem_of_getElem? hj2) with rfl | ⟨x, rfl, d0, hd0, hdk⟩
      · cases hy
      · cases hy
        have hxl : x < w.length := (List.getElem?_eq_some_iff.mp hd0).1
        exact ev_any (args := #[]) hC b1 b2 hK hNW hw2.1 (by rw [List.getElem?_append_left hxl]; exact hd0) hdk
  · rw [hz0, gN, ev_cpyf hNl] at hP2 hD2
    have hset : (w ++ [(2, ev_bits i, List.replicate (ev_bits i) (.null : Value))]).set w.length (2, ev_bits i, ev_cl (ev_bits i) N vs) = w ++ [(2, ev_bits i, ev_cl (ev_bits i) N vs)] := by
      rw [List.set_append_right _ _ (Nat.le_refl _), Nat.sub_self]
      rfl
    have hset2 : (ev_w G ad (w ++ [(2, ev_bits i, List.replicate (ev_bits i) .null)])).set w.length (ad w.length, .inl (G 2, ev_bits i, .inr (.inr (.inr (.inr (fun j => ev_rv ad ((ev_cl (ev_bits i) N vs).getD j .null))))))) = ev_w G ad (w ++ [(2, ev_bits i, ev_cl (ev_bits i) N vs)]) := by
      rw [← hset, ev_w_set]
      rfl
    rw [hset2] at hP2 hD2
    intro T hT X
    have hz2 : H2.size = s.heap.size + 1 := by
      have q1 : T.heap.size ≤ s.heap.size + 1 := X.same.2.2.1
      rw [hT] at q1
      have q2 := hS2.1
      omega
    have hwq : ev_wf (w ++ [(2, ev_bits i, ev_cl (ev_bits i) N vs)]) := by
      rw [← hset]
      refine ev_wf_set hw2.2.2.1 ⟨?_, Nat.le_of_lt hi⟩
      show ev_bits i = (vs ++ List.replicate (ev_bits i - N) (.null : Value)).length
      rw [List.length_append, List.length_replicate]
      omega
    have hH2 : ev_H D G ad A (w ++ [(2, ev_bits i, ev_cl (ev_bits i) N vs)]) H2 := ⟨hP2, hD2, hwq, by rw [hz2, hH.2.2.2, List.length_append, List.length_singleton, had]⟩
    have hS3 : va_S A s.heap H2 locs2 := ⟨by omega, fun q h1 h2 => (hS2.2.1 q (by omega) h2).trans (hS1.2.1 q h1 h2), hS2.2.2⟩
    refine lv_aload_n hx hb (by decide +kernel : decode cJ7_copyOf_6403c 38 = .ok (.aload_n 3, 1)) rfl l3' ?_ T hT X
    exact W.aret hx hb hr (Or.inr ⟨_, rfl⟩) (v := .ref (ad w.length)) (Or.inr ⟨_, rfl⟩) (fun t ht hW => ⟨rfl, by rw [ht]; exact hH2, hS3.F ht⟩) hS3.2.2 (by decide +kernel : decode cJ7_copyOf_6403c 39 = .ok (.areturn, 1)) hlk
theorem ok_cpy {p : Program} {l : Launch} {d : Nat} {e : Env} {R : Room} {s : State} {m : MethodId} {args : Array Value} {below : List Frame} {meth : Method} {c : Code} {Q : State → Prop} {nL : Nat} {D : va_G} {G : Nat → ClassId} {ad : Nat → Nat} {A : Nat → Prop} {z wE nE : Nat} {α : Type} {r : α} {P : Nat → List Value → List Value → ev_W → Nat → Prop} {rt : Option FieldType}
    (X : ev_X cJ7_copyOf_1904c nL yJ7_copyOf_1904c.cls rt p s m args meth c D G ad A z) (hP : ev_PP p l e R s m args below meth c Q nL D G ad A z wE nE P) (hR : wE - z ≤ R.cells ∧ nE ≤ R.slots) (hd2 : d + 3 ≤ R.frames ∧ 64 * (d + 3) ≤ R.locals) {ci : Nat} {C : vw_C} (hC : vwCl[ci]? = some C) (hcw : ev_cw C.1)
    (hdn : yJ7_copyOf_6403c.cls ≠ "java/lang/invoke/MethodHandle" ∧ yJ7_copyOf_6403c.cls ≠ "java/lang/invoke/VarHandle" ∧ (parseMethodDescriptor yJ7_copyOf_6403c.desc).map (fun d => d.parameters.length) = some 3)
    {Qc : Array Value → State → Outcome → State → Prop} (hQ : Q = MQ below Qc args s (wE - z) nE A) {fin : Option Value → ev_W → Nat → Option α} (hfin : ∀ v w n, fin v w n = some r → w.length = wE ∧ n = nE ∧ ∀ H locs, ev_H D G ad A w H → va_S A s.heap H locs → ∀ t : State, t.heap = H → s.WarmedH t.vm → Qc args s (.returned (v.map (ev_v ad))) t) {ty : FieldType} (hrt : rt = some ty) (hty : (∃ n, ty = .object n) ∨ ∃ t, ty = .array t) : ev_ok P r 0 (ev_cpy fin (ci + 3)) := by
  intro k L S w n hk h
  obtain ⟨a, i, vs, N, hu, hv, rfl, hc0, hN, hi, hel, h1⟩ := ev_cpy_some h
  obtain ⟨e1, e2, h3⟩ := hfin _ _ _ h1
  rw [List.length_append, List.length_singleton] at e1
  rw [hP]
  intro hz
  refine ⟨⟨by omega, by omega⟩, fun H locs ls hH hl hS => ?_⟩
  obtain ⟨hx, hbb, hml, hown, hts, hK, hAO, hNW, hZ, hA, hlk, hr, had⟩ := id X
  have l0 := ev_l_at hl hu (Or.inr (Or.inl ⟨_, rfl⟩))
  have l1 := ev_l_at hl hv (Or.inr (Or.inr ⟨_, rfl⟩))
  obtain ⟨mi, hM⟩ := hNW.2.2.1
  obtain ⟨⟨g1, g2, g3, g4⟩, ⟨c1, c2, c3, c4⟩, -⟩ := id hcw
  have he := ev_arr_at (G := G) (ad := ad) hc0 2 rfl
  refine lv_aload_n hx hbb (by decide +kernel : decode cJ7_copyOf_1904c 0 = .ok (.aload_n 0, 1)) rfl l0 ?_
  refine lv_iload_n hx hbb (by decide +kernel : decode cJ7_copyOf_1904c 1 = .ok (.iload_n 1, 1)) rfl l1 ?_
  refine lv_aload_n hx hbb (by decide +kernel : decode cJ7_copyOf_1904c 2 = .ok (.aload_n 0, 1)) rfl l0 ?_
  refine va_getC hx hbb (hml.trans hl.1.symm) hown (hts _ g1) (va_Dc.use hNW.2.2.2) (hts _ g2) (hts _ g3) (hts _ g4) hM ⟨_, hH.1 a _ he, rfl, va_nmO (hK.2 2 _ rfl).2 rfl⟩ (by omega) (by show (1 + (1 + 0)) + 14 ≤ _; omega) (by decide +kernel : decode cJ7_copyOf_1904c 3 = .ok (.invokevirtual 86, 3)) ?_
  have hM3 := ev_copy3 (l := l) (D := D) (G := G) (ad := ad) (A := A) (mi := mi) hC hcw (had _ hz) hc0 hN hi hel
  refine ev_callW (w1 := w ++ [(2, ev_bits i, ev_cl (ev_bits i) N vs)]) (rv := some (.ref w.length)) (rest := []) (va_runS (As := [.ref (ad a), .int i, .ref mi]) (rest := []) ⟨hx, hbb, hml, hown, hts⟩ hM3 (va_cwS 3 hts (ev_good fun w hw => ?_) rfl rfl rfl hdn ⟨?_, ?_⟩) ⟨ev_blind3, fun U hU hW => ⟨rfl, ev_Bof X hH hS hU hW, hM.moved hW.alike⟩⟩ rfl rfl hl.1 rfl (lv_room (ev_sum (S := []) (ad := ad) (by simp))) (by decide +kernel : decode cJ7_copyOf_1904c 6 = .ok (.invokestatic 300, 3)) ⟨by omega, by omega⟩) hS fun H1 locs1 hH1 hS1 => ?_
  · unfold va_wsS at hw
    rcases List.mem_append.mp hw with hw | hw
    · simp at hw
      rcases hw with rfl | rfl | rfl
      · exact c1
      · exact c2
      · exact c3
    · rcases List.mem_cons.mp hw with rfl | hw
      · exact c4
      · exact hw
  · show 1 + 1 ≤ R.frames
    omega
  · show 8 + (4 + 11) + 64 ≤ R.locals
    omega
  · subst hQ
    have q : wE - z = w.length - z + 1 := by omega
    rw [q, ← e2]
    exact W.aret hx hbb (hr.trans hrt) hty (v := .ref (ad w.length)) (Or.inr ⟨_, rfl⟩) (h3 H1 locs1 hH1 hS1) hS1.2.2 (by decide +kernel : decode cJ7_copyOf_1904c 9 = .ok (.areturn, 1)) hlk
