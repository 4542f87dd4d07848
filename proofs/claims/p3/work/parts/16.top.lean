/-! the law's loop over the live world; the law from its start to its end -/
/-! the same cells by other places -/
def ev_rn1 (sg : List Nat) : Value → Value
  | .ref k => .ref (sg.getD k 0)
  | v => v
def ev_rok (n : Nat) : Value → Bool
  | .ref k => Nat.blt k n
  | _ => true
theorem ev_iv_v {ad : Nat → Nat} {v : Value} : ev_iv (ev_v ad v) = ev_iv v := by cases v <;> rfl
theorem ev_rv_v {ad ad' : Nat → Nat} {u v : Value} (h : ev_v ad u = ev_v ad' v) : ev_rv ad u = ev_rv ad' v := by
  cases u with
  | ref a =>
    cases v with
    | ref b =>
      have e : ad a = ad' b := by
        injection h
      exact congrArg some e
    | _ => cases h
  | _ =>
    cases v with
    | ref b => cases h
    | _ => rfl
theorem ev_getD_map {ad ad' : Nat → Nat} {f : Value → Value} (vs : List Value) (hf : ∀ v ∈ vs, ev_v ad (f v) = ev_v ad' v) (j : Nat) : ev_v ad ((vs.map f).getD j .null) = ev_v ad' (vs.getD j .null) := by
  rw [List.getD_eq_getElem?_getD, List.getD_eq_getElem?_getD, List.getElem?_map]
  cases h : vs[j]? with
  | none => rfl
  | some v => exact hf v (List.mem_of_getElem? h)
theorem ev_e_ren {G : Nat → ClassId} {ad ad' : Nat → Nat} {f : Value → Value} {t n : Nat} {vs : List Value} (hf : ∀ v ∈ vs, ev_v ad (f v) = ev_v ad' v) : ev_e G ad (t, n, vs.map f) = ev_e G ad' (t, n, vs) := by
  have h0 := ev_getD_map vs hf
  have h1 : (fun j => ev_iv ((vs.map f).getD j .null)) = fun j => ev_iv (vs.getD j .null) := by
    funext j
    rw [← ev_iv_v (ad := ad), h0 j, ev_iv_v]
  have h2 : (fun j => ev_rv ad ((vs.map f).getD j .null)) = fun j => ev_rv ad' (vs.getD j .null) := by
    funext j
    exact ev_rv_v (h0 j)
  match t with
  | 0 => show (Sum.inl (G 0, n, Sum.inl _) : va_E) = Sum.inl (G 0, n, Sum.inl _); exact congrArg (fun q => (Sum.inl (G 0, n, Sum.inl q) : va_E)) h1
  | 1 => exact congrArg (fun q => (Sum.inl (G 1, n, Sum.inl q) : va_E)) h1
  | 2 => exact congrArg (fun q => (Sum.inl (G 2, n, Sum.inr (Sum.inr (Sum.inr (Sum.inr q)))) : va_E)) h2
  | t + 3 =>
    have h3 : (vs.map f).map (ev_v ad) = vs.map (ev_v ad') := by
      rw [List.map_map]
      exact List.map_congr_left hf
    exact congrArg (fun q => (Sum.inr (t, q) : va_E)) h3
theorem ev_w_ren {G : Nat → ClassId} {ad ad' : Nat → Nat} {wP wQ : ev_W} {sg : List Nat} (h : sg.map (fun i => wP[i]?) = wQ.map (fun c => some (c.1, c.2.1, c.2.2.map (ev_rn1 sg)))) (hr : ∀ c ∈ wQ, ∀ v ∈ c.2.2, ev_rok sg.length v = true) (had : ∀ k, k < sg.length → ad' k = ad (sg.getD k 0)) : sg.map (fun i => (ev_w G ad wP)[i]?) = (ev_w G ad' wQ).map some := by
  have hlen : sg.length = wQ.length := by simpa using congrArg List.length h
  apply List.ext_getElem?
  intro j
  rw [List.getElem?_map, List.getElem?_map]
  have hj := congrArg (fun l => l[j]?) h
  simp only [List.getElem?_map] at hj
  cases hs : sg[j]? with
  | none =>
    have : wQ[j]? = none := List.getElem?_eq_none (by have := List.getElem?_eq_none_iff.mp hs; omega)
    unfold ev_w
    rw [List.getElem?_mapIdx, this]
    rfl
  | some i =>
    rw [hs] at hj
    have hjl : j < sg.length := (List.getElem?_eq_some_iff.mp hs).1
    cases hc : wQ[j]? with
    | none => rw [hc] at hj; cases hj
    | some c =>
      rw [hc] at hj
      have hP : wP[i]? = some (c.1, c.2.1, c.2.2.map (ev_rn1 sg)) := by simpa using hj
      rw [ev_w_at hc]
      show some ((ev_w G ad wP)[i]?) = some (some _)
      rw [ev_w_at hP]
      have e1 : ad' j = ad i := by rw [had j hjl, List.getD_eq_getElem?_getD, hs]; rfl
      have e2 : ev_e G ad (c.1, c.2.1, c.2.2.map (ev_rn1 sg)) = ev_e G ad' c := by
        refine ev_e_ren (t := c.1) (n := c.2.1) fun v hv => ?_
        have := hr c (List.mem_of_getElem? hc) v hv
        cases v with
        | ref k =>
          have hk : k < sg.length := by simpa [ev_rok] using this
          show Value.ref (ad (sg.getD k 0)) = .ref (ad' k)
          rw [had k hk]
        | _ => rfl
      rw [e1, e2]
/-- the world, without the heap's size -/
def ev_hH (D : va_G) (G : Nat → ClassId) (ad : Nat → Nat) (A : Nat → Prop) (w : ev_W) (H : Heap) : Prop := va_P D vwCl (ev_w G ad w) H ∧ va_D A (ev_w G ad w) ∧ ev_wf w
theorem ev_hH_ren {D : va_G} {G : Nat → ClassId} {ad ad' : Nat → Nat} {A : Nat → Prop} {wP wQ : ev_W} {H : Heap} {sg : List Nat} (h : sg.map (fun i => wP[i]?) = wQ.map (fun c => some (c.1, c.2.1, c.2.2.map (ev_rn1 sg)))) (hr : ∀ c ∈ wQ, ∀ v ∈ c.2.2, ev_rok sg.length v = true) (hn : va_nd sg = true) (had : ∀ k, k < sg.length → ad' k = ad (sg.getD k 0)) (hH : ev_hH D G ad A wP H) (hw : ev_wf wQ) : ev_hH D G ad' A wQ H := by
  have e := ev_w_ren (G := G) h hr had
  refine ⟨?_, hH.2.1.sub sg hn e, hw⟩
  intro k q hk
  have h1 : ((ev_w G ad' wQ).map some)[k]? = some (some q) := by rw [List.getElem?_map, hk]; rfl
  rw [← e, List.getElem?_map] at h1
  cases hi : sg[k]? with
  | none => rw [hi] at h1; cases h1
  | some i =>
    rw [hi] at h1
    exact hH.1 i q (by simpa using h1)
theorem ev_hH_take {D : va_G} {G : Nat → ClassId} {ad : Nat → Nat} {A : Nat → Prop} {w w1 : ev_W} {H : Heap} {n : Nat} (h : w1.take n = w) (hH : ev_hH D G ad A w1 H) (hw : ev_wf w) : ev_hH D G ad A w H := by
  have key : ∀ (k : Nat) (q : Nat × va_E), (ev_w G ad w)[k]? = some q → (ev_w G ad w1)[k]? = some q := by
    intro k q hk
    have hk2 := hk
    unfold ev_w at hk
    rw [List.getElem?_mapIdx] at hk
    cases hc : w[k]? with
    | none => rw [hc] at hk; cases hk
    | some c =>
      have h1 : w1[k]? = some c := by
        rw [← h, List.getElem?_take] at hc
        split at hc
        · exact hc
        · cases hc
      rw [ev_w_at hc] at hk2
      rw [ev_w_at h1]
      exact hk2
  exact ⟨fun k q hk => hH.1 k q (key k q hk), ⟨fun i j p q hi hj e => hH.2.1.1 i j p q (key i p hi) (key j q hj) e, fun k q hk => hH.2.1.2 k q (key k q hk)⟩, hw⟩
/-- the places from z on are the cells from sz on -/
def ev_ad (ad : Nat → Nat) (z sz k : Nat) : Nat := if k < z then ad k else sz + (k - z)
theorem ev_ad_lt {ad : Nat → Nat} {z sz k : Nat} (h : k < z) : ev_ad ad z sz k = ad k := if_pos h
theorem ev_ad_ge {ad : Nat → Nat} {z sz k : Nat} (h : z ≤ k) : ev_ad ad z sz k = sz + (k - z) := if_neg (Nat.not_lt.mpr h)
theorem ev_ad_s {ad : Nat → Nat} {z sz k : Nat} (h : z ≤ k) : ev_ad ad z sz (k + 1) = ev_ad ad z sz k + 1 := by
  rw [ev_ad_ge h, ev_ad_ge (by omega)]; omega
theorem ev_w_cong {G : Nat → ClassId} {ad ad' : Nat → Nat} {w : ev_W} {z : Nat} (hz : w.length ≤ z) (hr : ∀ c ∈ w, ∀ v ∈ c.2.2, ev_rok z v = true) (had : ∀ k, k < z → ad k = ad' k) : ev_w G ad w = ev_w G ad' w := by
  apply List.ext_getElem?
  intro j
  cases hc : w[j]? with
  | none =>
    unfold ev_w
    rw [List.getElem?_mapIdx, List.getElem?_mapIdx, hc]
    rfl
  | some c =>
    rw [ev_w_at hc, ev_w_at hc]
    have e1 : ad j = ad' j := had j (by have := (List.getElem?_eq_some_iff.mp hc).1; omega)
    have e2 : ev_e G ad c = ev_e G ad' c := by
      have := ev_e_ren (G := G) (ad := ad) (ad' := ad') (f := id) (t := c.1) (n := c.2.1) (vs := c.2.2) fun v hv => by
        have := hr c (List.mem_of_getElem? hc) v hv
        cases v with
        | ref k => show Value.ref (ad k) = .ref (ad' k); rw [had k (by simpa [ev_rok] using this)]
        | _ => rfl
      rw [List.map_id] at this
      exact this
    rw [e1, e2]
theorem ev_l_cong {ad ad' : Nat → Nat} {L L' : List Value} (h : L.map (ev_v ad) = L'.map (ev_v ad')) : ev_l ad L = ev_l ad' L' := by
  unfold ev_l
  refine congrArg (List.filter _) ?_
  have e : ∀ (ad : Nat → Nat) (L : List Value), L.mapIdx (fun k v => (k, ev_v ad v)) = (L.map (ev_v ad)).mapIdx (fun k v => (k, v)) := by
    intro ad L
    apply List.ext_getElem?
    intro j
    rw [List.getElem?_mapIdx, List.getElem?_mapIdx, List.getElem?_map]
    cases L[j]? <;> rfl
  rw [e, e, h]
/-! what the kernel checks of the runs' worlds -/
set_option maxRecDepth 100000 in
theorem ev_okQ : ev_wQ.all (fun c => Nat.beq c.2.1 c.2.2.length && Nat.ble c.2.1 100000 && c.2.2.all (ev_rok 89)) = true := by decide +kernel
set_option maxRecDepth 100000 in
theorem ev_okP : ev_wP.all (fun c => Nat.beq c.2.1 c.2.2.length && Nat.ble c.2.1 100000) = true := by decide +kernel
set_option maxRecDepth 100000 in
theorem ev_ok0 : ev_w0.all (fun c => Nat.beq c.2.1 c.2.2.length && Nat.ble c.2.1 100000) = true := by decide +kernel
def ev_dL : DecidableEq (List (Option ev_Q)) := letI := ev_dW; inferInstance
set_option maxRecDepth 100000 in
theorem ev_renPQ : ev_sg0.map (fun i => ev_wP[i]?) = ev_wQ.map (fun c => some (c.1, c.2.1, c.2.2.map (ev_rn1 ev_sg0))) := @of_decide_eq_true _ (ev_dL _ _) (by decide +kernel)
theorem ev_wfQ : ev_wf ev_wQ := fun c hc => by
  have := List.all_eq_true.mp ev_okQ c hc
  rw [Bool.and_eq_true, Bool.and_eq_true, Nat.beq_eq, Nat.ble_eq] at this
  exact this.1
theorem ev_wf0 : ev_wf ev_w0 := fun c hc => by
  have := List.all_eq_true.mp ev_ok0 c hc
  rw [Bool.and_eq_true, Nat.beq_eq, Nat.ble_eq] at this
  exact this
theorem ev_rokQ : ∀ c ∈ ev_wQ, ∀ v ∈ c.2.2, ev_rok 89 v = true := fun c hc v hv => by
  have := List.all_eq_true.mp ev_okQ c hc
  rw [Bool.and_eq_true] at this
  exact List.all_eq_true.mp this.2 v hv
theorem ev_lenQ : ev_wQ.length = 89 := by decide +kernel
theorem ev_lenP : ev_wP.length = 179 := by decide +kernel
theorem ev_lensg : ev_sg0.length = 89 := by decide +kernel
theorem ev_ndsg : va_nd ev_sg0 = true := by decide +kernel
/-- the loop's counter where n turns are left -/
def ev_i (n : Nat) : Int32 := Int32.ofNat (2048 - 4 * n)
def ev_tc (n : Nat) : Bool := Nat.beq n 0 || ((!Nat.blt (ev_sg (Int32.ofNat 2048 - Int32.ofInt 4)) (ev_sg (ev_i n))) && Nat.beq (ev_bits (ev_i n)) (2048 - 4 * n) && (match ev_scr[2048 - 4 * n]? with | some (.int x) => Nat.beq (ev_bits x) 22 | _ => false) && Nat.beq (ev_bits (ev_i n + Int32.ofInt 4)) (ev_bits (ev_i (n - 1))))
set_option maxRecDepth 100000 in
theorem ev_tcs : (List.range (481 + 1)).all ev_tc = true := by decide +kernel
theorem ev_tc_of {n : Nat} (h : n + 1 ≤ 481) : ¬ (Int32.ofNat 2048 - Int32.ofInt 4 < ev_i (n + 1)) ∧ ev_bits (ev_i (n + 1)) = 2048 - 4 * (n + 1) ∧ ev_scr[2048 - 4 * (n + 1)]? = some (.int 22) ∧ ev_i (n + 1) + Int32.ofInt 4 = ev_i n := by
  have h1 := List.all_eq_true.mp ev_tcs (n + 1) (List.mem_range.mpr (by omega))
  unfold ev_tc at h1
  rw [Bool.or_eq_true] at h1
  rcases h1 with h1 | h1
  · exact absurd (Nat.eq_of_beq_eq_true h1) (Nat.succ_ne_zero n)
  · rw [Bool.and_eq_true, Bool.and_eq_true, Bool.and_eq_true] at h1
    obtain ⟨⟨⟨a1, a2⟩, a3⟩, a4⟩ := h1
    refine ⟨fun q => ?_, Nat.eq_of_beq_eq_true a2, ?_, ev_eq_iff.mp a4⟩
    · rw [ev_lt_iff.mpr q] at a1; cases a1
    · cases hs : ev_scr[2048 - 4 * (n + 1)]? with
      | none => rw [hs] at a3; cases a3
      | some v =>
        rw [hs] at a3
        cases v with
        | int x =>
          have : x = 22 := ev_bits_inj.mp (Nat.eq_of_beq_eq_true a3)
          rw [this]
        | _ => cases a3
