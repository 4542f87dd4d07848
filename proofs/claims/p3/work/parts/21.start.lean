/-! the start: 21.start -/
theorem evs1.scr_len : ev_scr.length = 2048 := by decide +kernel
theorem evs1.scr_all : ev_scr.all (fun v => match v with | .int _ => true | _ => false) = true := by decide +kernel
theorem evs1.scr_int {v : Value} (h : v ∈ ev_scr) : ∃ y, v = .int y := by
  have := List.all_eq_true.mp evs1.scr_all v h
  cases v with
  | int y => exact ⟨y, rfl⟩
  | _ => cases this
def evs1.cell : Cell := { cls := 54, slots := ev_scr.toArray, vm := .none }
def evs1.cellOf (a : Array Value) : Cell := { cls := 54, slots := a, vm := .none }
set_option maxRecDepth 100000 in
theorem evs1.at0g (a : Array Value) : (start1.aboutOf a).heap[0]? = some (evs1.cellOf a) := rfl
set_option maxRecDepth 100000 in
theorem evs1.at10g (a : Array Value) : (start1.aboutOf a).heap[10]? = some { cls := 61, slots := #[], vm := .none } := rfl
set_option maxRecDepth 100000 in
theorem evs1.szg (a : Array Value) : (start1.aboutOf a).heap.size = 321 := rfl
set_option maxRecDepth 100000 in
theorem evs1.arr0g (a : Array Value) : (start1.aboutOf a).arrayAt? 0 = some (evs1.cellOf a) := rfl
def evs1.tl (a : Array Value) : List Cell := (start1.aboutOf a).heap.toList.drop 1
set_option maxRecDepth 100000 in
theorem evs1.heap_eqg (a : Array Value) : (start1.aboutOf a).heap.toList = evs1.cellOf a :: evs1.tl a := rfl
set_option maxRecDepth 100000 in
theorem evs1.fits0g (a : Array Value) (i : Nat) (y : Int32) : (start1.aboutOf a).fitsSlot 54 .none i (.int y) = true := rfl
theorem evs1.at0 : about.heap[0]? = some cell := at0g ev_scr.toArray
theorem evs1.at10 : about.heap[10]? = some { cls := 61, slots := #[], vm := .none } := at10g ev_scr.toArray
theorem evs1.arr0 : about.arrayAt? 0 = some cell := arr0g ev_scr.toArray
set_option maxRecDepth 100000 in
theorem evs1.fits_tl : (tl ev_scr.toArray).all (cellFits about) = true := by decide +kernel
theorem ev_cfits {s : State} {l : List Value} (h : ∀ v ∈ l, ∃ y, v = .int y) (hf : ∀ (i : Nat) (y : Int32), s.fitsSlot 54 .none i (.int y) = true) : cellFits s (evs1.cellOf l.toArray) = true := by
  unfold cellFits
  refine List.all_eq_true.mpr fun i hi => ?_
  cases h1 : (evs1.cellOf l.toArray).slots[i]? with
  | none => rfl
  | some v =>
    have h2 : (l.toArray)[i]? = some v := h1
    rw [List.getElem?_toArray] at h2
    obtain ⟨y, rfl⟩ := h v (List.mem_of_getElem? h2)
    exact hf i y
theorem ev_hfits {s : State} {c : Cell} {t : List Cell} (h : s.heap.toList = c :: t) (h1 : cellFits s c = true) (h2 : t.all (cellFits s) = true) : heapFits s = true := by
  unfold heapFits
  rw [← Array.all_toList, h, List.all_cons, h1, h2]
  rfl
theorem evs1.fits : heapFits about = true := ev_hfits (heap_eqg ev_scr.toArray) (ev_cfits (fun v hv => scr_int hv) (fits0g ev_scr.toArray)) fits_tl
theorem ev_clamp {n : Nat} (h : n < 2 ^ 31) : (Int32.ofNat n).toNatClampNeg = n := by
  have e : ev_bits (Int32.ofNat n) = n := by
    show (BitVec.ofNat 32 n).toNat = n
    rw [BitVec.toNat_ofNat]
    exact Nat.mod_eq_of_lt (by omega)
  show (Int32.ofNat n).toInt.toNat = n
  rw [ev_bits_toInt, e, if_pos (by omega)]
  rfl
theorem ev_rest {s : State} {b : Addr} {cell : Cell} (harr : s.arrayAt? b = some cell) (hsm : cell.slots.size < 2 ^ 31) (hall : ∀ i, i < cell.slots.size → ∃ y, cell.slots[i]? = some (.int y)) : (Cond.all (.arg 0) (.isInt (.elem (.arg 0) (.index 0)))).before #[.ref b] s = true := by
  refine Cond.before_iff.mpr (Cond.all_intro (a := b) (cell := cell) rfl harr fun i hi => ?_)
  obtain ⟨y, hy⟩ := hall i hi
  have hi' : i < 2 ^ 31 := Nat.lt_trans hi hsm
  have hneg : ¬ (Int32.ofNat i < 0) := Int32.ofNat_not_neg hi'
  simp [Cond.value, Term.eval, Nat.toInt32, hneg, ev_clamp hi', harr, hy]
theorem evs1.size0 : cell.slots.size = 2048 := by
  show ev_scr.toArray.size = 2048
  rw [List.size_toArray]; exact scr_len
theorem evs1.rest : rest_1_c.before args0 about = true := by
  rw [show rest_1_c = Cond.and (Cond.isInt (.length (.arg 0))) (Cond.all (.arg 0) (.isInt (.elem (.arg 0) (.index 0)))) from rfl, Cond.before_and, Bool.and_eq_true]
  refine ⟨by decide +kernel, ev_rest arr0 (by rw [size0]; decide) fun i hi => ?_⟩
  have hl : i < ev_scr.length := by rw [scr_len]; rw [size0] at hi; exact hi
  obtain ⟨y, hy⟩ := scr_int (List.getElem_mem hl)
  refine ⟨y, ?_⟩
  show (ev_scr.toArray)[i]? = _
  rw [List.getElem?_toArray, List.getElem?_eq_getElem hl, hy]
theorem evs1.given : (Cond.and given_1 narrow_1).before args0 about = true := by decide +kernel
set_option maxRecDepth 16384 in
theorem evs1.atStart : AtStart classFile x code maxLocals ret World_1 tables_1 room_1 Calls_1 rest_1 Pre_1 launch0 p0 e0 about ⟨0, 0⟩ args0 Lib.HandBits.below0 :=
  ⟨lists_1, trivial, launch0.admits_env _ _ _, launch0.least_env, fairChoices_fair.cas, fairChoices_fair.clock, rfl, by decide +kernel, fits,
    (Spec.applies_iff rfl).mpr ⟨rfl, rfl, rfl, by decide +kernel, by decide +kernel, by decide +kernel, launch0.hasRoom_least _ room_1 (by decide +kernel) (by decide +kernel) (by decide +kernel) (by decide +kernel) (by decide +kernel) (by decide +kernel), atoms_intro words⟩,
    trivial, rest, given⟩
set_option maxRecDepth 16384 in
theorem evs1.applies0 : (headSpec (Cond.code x code maxLocals ret :: tables_1) ev_R0).applies x e0.platform about = true :=
    (Spec.applies_iff rfl).mpr ⟨rfl, rfl, rfl, by decide +kernel, by decide +kernel, by decide +kernel, launch0.hasRoom_least _ ev_R0 (by decide +kernel) (by decide +kernel) (by decide +kernel) (by decide +kernel) (by decide +kernel) (by decide +kernel), atoms_intro words⟩
/-! what the law's walk asks of the start -/
theorem evs1.hts : ∀ w ∈ lw_tbl, w.before args0 about = true := k2_hts_sels lw_privs (fun w hw => words w (List.mem_cons_of_mem _ hw)) lw_privs_ok
theorem evs1.kn : ∀ (c : Nat) (q : vw_C), vwCl[c]? = some q → ∃ (cC : ClassId) (iS : Nat → Nat), u_Kn about q.1 q.2.1 q.2.2 cC iS
  | 0, q, h => by
    cases h
    exact u_known evs1.hts (fun w hw => (List.mem_filter.mp (ev_in0 w hw)).1) (n := 4) (evs1.hts _ (by decide +kernel))
  | 1, q, h => by
    cases h
    exact u_known evs1.hts (fun w hw => (List.mem_filter.mp (ev_in1 w hw)).1) (n := 4) (evs1.hts _ (by decide +kernel))
  | 2, q, h => by
    cases h
    exact u_known evs1.hts (fun w hw => (List.mem_filter.mp (ev_in2 w hw)).1) (n := 1) (evs1.hts _ (by decide +kernel))
  | 3, q, h => by
    cases h
    exact u_known evs1.hts (fun w hw => (List.mem_filter.mp (ev_in3 w hw)).1) (n := 4) (evs1.hts _ (by decide +kernel))
  | 4, q, h => by
    cases h
    exact u_known evs1.hts (fun w hw => (List.mem_filter.mp (ev_in4 w hw)).1) (n := 3) (evs1.hts _ (by decide +kernel))
  | 5, q, h => by
    cases h
    exact u_known evs1.hts (fun w hw => (List.mem_filter.mp (ev_in5 w hw)).1) (n := 3) (evs1.hts _ (by decide +kernel))
  | 6, q, h => by
    cases h
    exact u_known evs1.hts (fun w hw => (List.mem_filter.mp (ev_in6 w hw)).1) (n := 2) (evs1.hts _ (by decide +kernel))
  | 7, q, h => by
    cases h
    exact u_known evs1.hts (fun w hw => (List.mem_filter.mp (ev_in7 w hw)).1) (n := 3) (evs1.hts _ (by decide +kernel))
  | 8, q, h => by
    cases h
    exact u_known evs1.hts (fun w hw => (List.mem_filter.mp (ev_in8 w hw)).1) (n := 6) (evs1.hts _ (by decide +kernel))
  | 9, q, h => by
    cases h
    exact u_known evs1.hts (fun w hw => (List.mem_filter.mp (ev_in9 w hw)).1) (n := 2) (evs1.hts _ (by decide +kernel))
  | 10, q, h => by
    cases h
    exact u_known evs1.hts (fun w hw => (List.mem_filter.mp (ev_in10 w hw)).1) (n := 3) (evs1.hts _ (by decide +kernel))
  | 11, q, h => by
    cases h
    exact u_known evs1.hts (fun w hw => (List.mem_filter.mp (ev_in11 w hw)).1) (n := 9) (evs1.hts _ (by decide +kernel))
  | 12, q, h => by
    cases h
    exact u_known evs1.hts (fun w hw => (List.mem_filter.mp (ev_in12 w hw)).1) (n := 6) (evs1.hts _ (by decide +kernel))
  | 13, q, h => by
    cases h
    exact u_known evs1.hts (fun w hw => (List.mem_filter.mp (ev_in13 w hw)).1) (n := 4) (evs1.hts _ (by decide +kernel))
  | 14, q, h => by
    cases h
    exact u_known evs1.hts (fun w hw => (List.mem_filter.mp (ev_in14 w hw)).1) (n := 1) (evs1.hts _ (by decide +kernel))
  | 15, q, h => by
    cases h
    exact u_known evs1.hts (fun w hw => (List.mem_filter.mp (ev_in15 w hw)).1) (n := 16) (evs1.hts _ (by decide +kernel))
  | 16, q, h => by
    cases h
    exact u_known evs1.hts (fun w hw => (List.mem_filter.mp (ev_in16 w hw)).1) (n := 2) (evs1.hts _ (by decide +kernel))
  | 17, q, h => by
    cases h
    exact u_known evs1.hts (fun w hw => (List.mem_filter.mp (ev_in17 w hw)).1) (n := 4) (evs1.hts _ (by decide +kernel))
  | 18, q, h => by
    cases h
    exact u_known evs1.hts (fun w hw => (List.mem_filter.mp (ev_in18 w hw)).1) (n := 12) (evs1.hts _ (by decide +kernel))
  | n + 19, q, h => by cases h
theorem evs1.exD : ∃ D : va_G, ∀ (c : Nat) (q : vw_C), vwCl[c]? = some q → u_Kn about q.1 q.2.1 q.2.2 (D.1 c) (D.2 c) := by
  have h : ∀ c : Nat, ∃ r : ClassId × (Nat → Nat), ∀ q : vw_C, vwCl[c]? = some q → u_Kn about q.1 q.2.1 q.2.2 r.1 r.2 := by
    intro c
    cases hq : vwCl[c]? with
    | none => exact ⟨(0, fun _ => 0), fun q h => by cases h⟩
    | some q =>
      obtain ⟨cC, iS, hk⟩ := kn c q hq
      exact ⟨(cC, iS), fun q' h => by cases h; exact hk⟩
  obtain ⟨f, hf⟩ := Classical.axiomOfChoice h
  exact ⟨(fun c => (f c).1, fun c => (f c).2), hf⟩
def evs1.G : Nat → ClassId := fun t => match t with | 0 => 54 | 1 => 58 | _ => 61
def evs1.sz : Nat := 321
def evs1.ad (k : Nat) : Nat := match k with | 0 => 0 | 1 => 10 | k + 2 => sz + k
def evs1.A (q : Nat) : Prop := q = 0 ∨ q = 10 ∨ sz ≤ q
theorem evs1.had : ∀ k, 2 ≤ k → ad (k + 1) = ad k + 1 := by
  intro k hk
  match k, hk with
  | k + 2, _ => exact (Nat.add_assoc sz k 1).symm
theorem evs1.sz_eq : about.heap.size = sz := szg ev_scr.toArray
theorem evs1.arrK : ∀ (k : Nat) (q : ClassId × FieldType), (ev_ty G)[k]? = some q → ArrOfT about q.1 q.2 ∧ va_RA about q.1 q.2
  | 0, q, h => by
    cases h
    exact ⟨fun n z => ⟨(fun k h => by cases h), _, rfl, _, rfl⟩, (show about.vm.findClass "[I" = some 54 by decide +kernel)⟩
  | 1, q, h => by
    cases h
    exact ⟨fun n z => ⟨(fun k h => by cases h), _, rfl, _, rfl⟩, (show about.vm.findClass "[Z" = some 58 by decide +kernel)⟩
  | 2, q, h => by
    cases h
    exact ⟨fun n z => ⟨(fun k h => by cases h), _, rfl, _, rfl⟩, _, _, rfl, rfl, (show about.vm.findClass "java/lang/Object" = some 1 by decide +kernel), (show about.vm.findClass "[Ljava/lang/Object;" = some 61 by decide +kernel)⟩
  | n + 3, q, h => by cases h
theorem ev_ofn {l : List Value} {n : Nat} (hn : n = l.length) (h : ∀ v ∈ l, ∃ y, v = .int y) : (Array.ofFn (n := n) fun j => Value.int (ev_iv (l.getD j.val .null))) = l.toArray := by
  subst hn
  apply Array.ext
  · simp
  · intro i h1 h2
    have hl : i < l.length := by simpa using h2
    rw [Array.getElem_ofFn, List.getElem_toArray]
    obtain ⟨y, hy⟩ := h _ (List.getElem_mem hl)
    show Value.int (ev_iv (l.getD i .null)) = _
    rw [List.getD_eq_getElem?_getD, List.getElem?_eq_getElem hl, hy]
    rfl
theorem evs1.c0 : (arrV 54 2048 fun j => .int (ev_iv (ev_scr.getD j .null))) = cell := congrArg (fun q => ({ cls := 54, slots := q, vm := .none } : Cell)) (ev_ofn (l := ev_scr) (n := 2048) scr_len.symm (fun v hv => scr_int hv))
theorem evs1.c10 {f : Nat → Value} : arrV 61 0 f = { cls := 61, slots := #[], vm := .none } := by
  unfold arrV
  rw [Array.ofFn_zero]
theorem evs1.hP0 (D : va_G) : va_at D vwCl (ad 0, ev_e G ad (0, 2048, ev_scr)) about.heap := at0.trans (congrArg some c0.symm)
theorem evs1.hP1 (D : va_G) : va_at D vwCl (ad 1, ev_e G ad (2, 0, [])) about.heap := by
  refine at10.trans (congrArg some ?_)
  simp only [vp_cell]
  exact c10.symm
theorem evs1.hP (D : va_G) : va_P D vwCl (ev_w G ad ev_w0) about.heap
  | 0, q, h => by
    rw [ev_w_at (k := 0) (c := (0, 2048, ev_scr)) rfl] at h
    cases h
    exact hP0 D
  | 1, q, h => by
    rw [ev_w_at (k := 1) (c := (2, 0, [])) rfl] at h
    cases h
    exact hP1 D
  | n + 2, q, h => by cases h
theorem evs1.hD : va_D A (ev_w G ad ev_w0) := by
  have key : ∀ (k : Nat) (q : Nat × va_E), (ev_w G ad ev_w0)[k]? = some q → (k = 0 ∧ q.1 = 0) ∨ (k = 1 ∧ q.1 = 10)
    | 0, q, h => by rw [ev_w_at (k := 0) (c := (0, 2048, ev_scr)) rfl] at h; cases h; exact Or.inl ⟨rfl, rfl⟩
    | 1, q, h => by rw [ev_w_at (k := 1) (c := (2, 0, [])) rfl] at h; cases h; exact Or.inr ⟨rfl, rfl⟩
    | n + 2, q, h => by cases h
  refine ⟨fun i j p q hi hj e => ?_, fun k q hk => ?_⟩
  · rcases key i p hi with ⟨a, b⟩ | ⟨a, b⟩ <;> rcases key j q hj with ⟨c, d⟩ | ⟨c, d⟩ <;> omega
  · rcases key k q hk with ⟨a, b⟩ | ⟨a, b⟩
    · exact Or.inl b
    · exact Or.inr (Or.inl b)
theorem evs1.hMi : ∃ mi : Nat, va_Mi "[Ljava/lang/Object;" mi about := ⟨_, 61, _, (show about.vm.findClass "[Ljava/lang/Object;" = some 61 by decide +kernel), rfl, rfl⟩
theorem evs1.hNW : ev_NW about := by
  refine ⟨fun w hw => ?_, fun q hq => ?_, hMi, va_Dc.of (A := args0) (hts _ (by decide +kernel))⟩
  · obtain ⟨h1, h2⟩ := List.mem_filter.mp hw
    refine va_Nw.of (A := args0) ?_ (hts w h1)
    cases w <;> first | rfl | exact absurd h2 (by simp [ev_nk])
  · unfold ev_fw at hq
    rcases List.mem_cons.mp hq with rfl | hq
    · exact va_Fw.of (A := args0) (hts _ (by decide +kernel)) (hts _ (by decide +kernel)) (hts _ (by decide +kernel)) (hts _ (by decide +kernel)) (hts _ (by decide +kernel))
    · rcases List.mem_cons.mp hq with rfl | hq
      · exact va_Fw.of (A := args0) (hts _ (by decide +kernel)) (hts _ (by decide +kernel)) (hts _ (by decide +kernel)) (hts _ (by decide +kernel)) (hts _ (by decide +kernel))
      · cases hq
theorem evs1.hZ : va_Z "java/util/ArrayList" "DEFAULTCAPACITY_EMPTY_ELEMENTDATA" "[Ljava/lang/Object;" (.ref (ad 1)) A about about.heap := by
  obtain ⟨cf, kf, fi, f, a, cl, h1, h2, h3, h4, h5, h6, h7, h8⟩ := va_Zof (args := args0) (s := about) (C := "java/util/ArrayList") (n := "DEFAULTCAPACITY_EMPTY_ELEMENTDATA") (d := "[Ljava/lang/Object;") (v := .ref 10) (A := fun a => about.heap.size ≤ a) (hts _ (by decide +kernel)) (hts _ (by decide +kernel)) (by decide +kernel) (fun a h => Nat.not_le.mpr h)
  refine ⟨cf, kf, fi, f, a, cl, h1, h2, h3, h4, h5, h6, h7, fun hA => ?_⟩
  rcases hA with rfl | rfl | hA
  · rw [at0] at h5; cases h5; cases h6
  · rw [at10] at h5; cases h5; cases h6
  · exact h8 (show about.heap.size ≤ a by rw [sz_eq]; exact hA)
theorem evs1.hAO : va_AO "java/lang/Object" about := va_AO.of (hts _ (by decide +kernel))

