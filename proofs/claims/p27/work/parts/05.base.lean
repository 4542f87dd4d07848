/-! what the evaluator's words mean over the machine: numbers, lists, the world -/
theorem ev_at_eq {α : Type} (l : List α) : ∀ k : Nat, ev_at l k = l[k]? := by
  induction l with
  | nil => intro k; rfl
  | cons a l ih =>
    intro k
    cases k with
    | zero => rfl
    | succ k => exact (ih k).trans (by simp)
theorem ev_set_eq {α : Type} (l : List α) : ∀ (k : Nat) (v : α), ev_set l k v = l.set k v := by
  induction l with
  | nil => intro k v; rfl
  | cons a l ih =>
    intro k v
    cases k with
    | zero => rfl
    | succ k => exact congrArg (a :: ·) (ih k v)
theorem ev_len_eq {α : Type} (l : List α) : ev_len l = l.length := by
  induction l with
  | nil => rfl
  | cons a l ih => exact congrArg Nat.succ ih
theorem ev_oc_some {α β : Type} {o : Option β} {f : β → Option α} {r : α} (h : ev_oc o f = some r) : ∃ v, o = some v ∧ f v = some r := by
  cases o with
  | none => cases h
  | some v => exact ⟨v, rfl, h⟩
theorem ev_bc_some {α : Type} {b : Bool} {x y : Option α} {r : α} (h : ev_bc b x y = some r) : (b = true ∧ x = some r) ∨ (b = false ∧ y = some r) := by
  cases b with
  | true => exact Or.inl ⟨rfl, h⟩
  | false => exact Or.inr ⟨rfl, h⟩
theorem ev_bc_t {α : Type} {b : Bool} {x : Option α} {r : α} (h : ev_bc b x none = some r) : b = true ∧ x = some r := by
  cases b with
  | true => exact ⟨rfl, h⟩
  | false => cases h
theorem ev_lc_some {α β : Type} {l : List β} {f : β → List β → Option α} {r : α} (h : ev_lc l f = some r) : ∃ a t, l = a :: t ∧ f a t = some r := by
  cases l with
  | nil => cases h
  | cons a t => exact ⟨a, t, rfl, h⟩
theorem ev_ic_some {α : Type} {v : Value} {f : Int32 → Option α} {r : α} (h : ev_ic v f = some r) : ∃ x, v = .int x ∧ f x = some r := by
  cases v <;> first | exact ⟨_, rfl, h⟩ | cases h
theorem ev_jc_some {α : Type} {v : Value} {f : Int64 → Option α} {r : α} (h : ev_jc v f = some r) : ∃ x, v = .long x ∧ f x = some r := by
  cases v <;> first | exact ⟨_, rfl, h⟩ | cases h
theorem ev_rc_some {α : Type} {v : Value} {f : Nat → Option α} {r : α} (h : ev_rc v f = some r) : ∃ x, v = .ref x ∧ f x = some r := by
  cases v <;> first | exact ⟨_, rfl, h⟩ | cases h
theorem ev_pc_some {α : Type} {v : Value} {y : Option α} {r : α} (h : ev_pc v y = some r) : (v = .null ∨ ∃ x, v = .ref x) ∧ y = some r := by
  cases v <;> first | exact ⟨Or.inl rfl, h⟩ | exact ⟨Or.inr ⟨_, rfl⟩, h⟩ | cases h
theorem ev_c1_some {α : Type} {v : Value} {y : Option α} {r : α} (h : ev_c1 v y = some r) : v.category = 1 ∧ y = some r := by
  cases v <;> first | exact ⟨rfl, h⟩ | cases h
theorem ev_rn_some {α : Type} {v : Value} {f : Nat → Option α} {r : α} (h : ev_rn v f = some r) : (v = .null ∧ f 0 = some r) ∨ ∃ x, v = .ref x ∧ f (x + 1) = some r := by
  cases v <;> first | exact Or.inl ⟨rfl, h⟩ | exact Or.inr ⟨_, rfl, h⟩ | cases h
theorem ev_pop_some {α : Type} {r : α} : ∀ (k : Nat) (S acc : List Value) (f : List Value → List Value → Option α), ev_pop k S acc f = some r → ∃ as S', S = as.reverse ++ S' ∧ as.length = k ∧ f (as ++ acc) S' = some r := by
  intro k
  induction k with
  | zero => intro S acc f h; exact ⟨[], S, rfl, rfl, h⟩
  | succ k ih =>
    intro S acc f h
    obtain ⟨v, S', rfl, h⟩ := ev_lc_some (show ev_lc S (fun v S' => ev_pop k S' (v :: acc) f) = some r from h)
    obtain ⟨as, S2, rfl, h1, h2⟩ := ih S' (v :: acc) f h
    exact ⟨as ++ [v], S2, by simp, by simp [h1], by simpa using h2⟩
/-! numbers -/
theorem ev_bits_inj {x y : Int32} : ev_bits x = ev_bits y ↔ x = y := by
  constructor
  · intro h
    exact Int32.toBitVec_inj.mp (BitVec.eq_of_toNat_eq h)
  · rintro rfl; rfl
theorem ev_bits_lt (x : Int32) : ev_bits x < 4294967296 := x.toBitVec.isLt
theorem ev_bits_toInt (x : Int32) : x.toInt = if ev_bits x < 2147483648 then (ev_bits x : Int) else (ev_bits x : Int) - 4294967296 := by
  show x.toBitVec.toInt = _
  rw [BitVec.toInt_eq_toNat_cond]
  have e : (2 * x.toBitVec.toNat < 2 ^ 32) ↔ ev_bits x < 2147483648 := by
    show _ ↔ x.toBitVec.toNat < _
    omega
  by_cases h : ev_bits x < 2147483648
  · rw [if_pos (e.mpr h), if_pos h]; rfl
  · rw [if_neg (fun q => h (e.mp q)), if_neg h]; rfl
theorem ev_sg_toInt (x : Int32) : (ev_sg x : Int) = x.toInt + 2147483648 := by
  have h := ev_bits_lt x
  rw [ev_bits_toInt]
  unfold ev_sg
  split <;> omega
theorem ev_lt_iff {x y : Int32} : Nat.blt (ev_sg x) (ev_sg y) = true ↔ x < y := by
  rw [Int32.lt_iff_toInt_lt]
  have hx := ev_sg_toInt x
  have hy := ev_sg_toInt y
  rw [Nat.blt_eq]
  omega
theorem ev_le_iff {x y : Int32} : Nat.ble (ev_sg x) (ev_sg y) = true ↔ x ≤ y := by
  rw [Int32.le_iff_toInt_le]
  have hx := ev_sg_toInt x
  have hy := ev_sg_toInt y
  rw [Nat.ble_eq]
  omega
theorem ev_eq_iff {x y : Int32} : Nat.beq (ev_bits x) (ev_bits y) = true ↔ x = y := by
  rw [Nat.beq_eq]
  exact ev_bits_inj
theorem ev_zero_iff {y : Int32} : Nat.beq (ev_bits y) 0 = true ↔ y = 0 := ev_eq_iff (y := 0)
theorem ev_ix {i : Int32} {N : Nat} (h : ev_bits i < N) (hN : N ≤ 100000) : ¬ i < 0 ∧ i.toNatClampNeg = ev_bits i := by
  have e : i.toInt = (ev_bits i : Int) := by rw [ev_bits_toInt, if_pos (by omega)]
  constructor
  · rw [Int32.lt_iff_toInt_lt, e]
    show ¬ _ < (0 : Int32).toInt
    rw [Int32.toInt_zero]
    omega
  · show i.toInt.toNat = _
    rw [e]; rfl
theorem ev_vpin {i : Int32} {N : Nat} (h : ev_bits i < N) (hN : N ≤ 100000) : vp_in i N ∧ i.toNatClampNeg = ev_bits i := by
  obtain ⟨h1, h2⟩ := ev_ix h hN
  refine ⟨fun q => ?_, h2⟩
  rcases q with q | q
  · exact h1 q
  · omega
theorem ev_bool {x : Int32} (h : ev_bits x < 2) : x = 0 ∨ x = 1 := by
  rcases Nat.lt_or_ge (ev_bits x) 1 with q | q
  · exact Or.inl (ev_bits_inj.mp (show ev_bits x = 0 by omega))
  · exact Or.inr (ev_bits_inj.mp (show ev_bits x = 1 by omega))
/-! the world -/
def ev_v (ad : Nat → Nat) : Value → Value
  | .ref k => .ref (ad k)
  | v => v
def ev_iv : Value → Int32
  | .int x => x
  | _ => 0
def ev_rv (ad : Nat → Nat) : Value → Option Nat
  | .ref k => some (ad k)
  | _ => none
/-- G: the classes of the arrays by their kinds -/
def ev_e (G : Nat → ClassId) (ad : Nat → Nat) (c : ev_Q) : va_E := match c.1 with
  | 0 => .inl (G 0, c.2.1, .inl (fun j => ev_iv (c.2.2.getD j .null)))
  | 1 => .inl (G 1, c.2.1, .inl (fun j => ev_iv (c.2.2.getD j .null)))
  | 2 => .inl (G 2, c.2.1, .inr (.inr (.inr (.inr (fun j => ev_rv ad (c.2.2.getD j .null))))))
  | t + 3 => .inr (t, c.2.2.map (ev_v ad))
def ev_w (G : Nat → ClassId) (ad : Nat → Nat) (w : ev_W) : va_W := w.mapIdx (fun k c => (ad k, ev_e G ad c))
def ev_wf (w : ev_W) : Prop := ∀ c ∈ w, c.2.1 = c.2.2.length ∧ c.2.1 ≤ 100000
def ev_ty (G : Nat → ClassId) : List (ClassId × FieldType) := [(G 0, .int), (G 1, .boolean), (G 2, .object "java/lang/Object")]
theorem ev_w_at {G : Nat → ClassId} {ad : Nat → Nat} {w : ev_W} {k : Nat} {c : ev_Q} (h : w[k]? = some c) : (ev_w G ad w)[k]? = some (ad k, ev_e G ad c) := by
  unfold ev_w
  rw [List.getElem?_mapIdx, h]
  rfl
theorem ev_w_set {G : Nat → ClassId} {ad : Nat → Nat} {w : ev_W} {k : Nat} {c : ev_Q} : ev_w G ad (w.set k c) = (ev_w G ad w).set k (ad k, ev_e G ad c) := by
  apply List.ext_getElem?
  intro j
  unfold ev_w
  rw [List.getElem?_mapIdx, List.getElem?_set, List.getElem?_set, List.getElem?_mapIdx, List.length_mapIdx]
  by_cases h : k = j
  · subst h
    by_cases h2 : k < w.length <;> simp [h2]
  · simp [h]
theorem ev_w_push {G : Nat → ClassId} {ad : Nat → Nat} {w : ev_W} {c : ev_Q} : ev_w G ad (w ++ [c]) = ev_w G ad w ++ [(ad w.length, ev_e G ad c)] := by
  apply List.ext_getElem?
  intro j
  unfold ev_w
  rw [List.getElem?_mapIdx, List.getElem?_append, List.getElem?_append, List.getElem?_mapIdx, List.length_mapIdx]
  by_cases h : j < w.length
  · simp [h]
  · rcases Nat.lt_or_ge j (w.length + 1) with h2 | h2
    · rw [show j = w.length by omega]; simp
    · have e : j - w.length = (j - w.length - 1) + 1 := by omega
      rw [if_neg h, if_neg h, e]; simp
theorem ev_wf_set {w : ev_W} {k : Nat} {c : ev_Q} (h : ev_wf w) (hc : c.2.1 = c.2.2.length ∧ c.2.1 ≤ 100000) : ev_wf (w.set k c) := by
  intro q hq
  rcases List.mem_or_eq_of_mem_set hq with h1 | rfl
  · exact h q h1
  · exact hc
theorem ev_wf_push {w : ev_W} {c : ev_Q} (h : ev_wf w) (hc : c.2.1 = c.2.2.length ∧ c.2.1 ≤ 100000) : ev_wf (w ++ [c]) := by
  intro q hq
  rcases List.mem_append.mp hq with h1 | h1
  · exact h q h1
  · rw [List.mem_singleton.mp h1]; exact hc
/-- the heap holds the world; its next cell is the world's next place -/
def ev_H (D : va_G) (G : Nat → ClassId) (ad : Nat → Nat) (A : Nat → Prop) (w : ev_W) (H : Heap) : Prop := va_P D vwCl (ev_w G ad w) H ∧ va_D A (ev_w G ad w) ∧ ev_wf w ∧ H.size = ad w.length
/-- locals: the words that are one wide, by their places -/
def ev_l (ad : Nat → Nat) (L : List Value) : List (Nat × Value) := (L.mapIdx (fun k v => (k, ev_v ad v))).filter (fun q => match q.2 with | .int _ => true | .ref _ => true | .null => true | _ => false)
theorem ev_l_mem {ad : Nat → Nat} {L : List Value} {i : Nat} {v : Value} : (i, v) ∈ ev_l ad L ↔ ∃ u, L[i]? = some u ∧ v = ev_v ad u ∧ (match v with | .int _ => true | .ref _ => true | .null => true | _ => false) = true := by
  unfold ev_l
  rw [List.mem_filter, List.mem_mapIdx]
  constructor
  · rintro ⟨⟨j, hj, e⟩, h2⟩
    cases e
    exact ⟨L[i], by simp [hj], rfl, h2⟩
  · rintro ⟨u, h1, rfl, h2⟩
    obtain ⟨hj, e⟩ := List.getElem?_eq_some_iff.mp h1
    exact ⟨⟨i, hj, by rw [e]⟩, h2⟩
theorem ev_l_at {ad : Nat → Nat} {L : List Value} {ls : Array Slot} {nL i : Nat} {u : Value} (h : lv_has ls nL (ev_l ad L)) (hu : L[i]? = some u) (hk : u = .null ∨ (∃ x, u = .ref x) ∨ ∃ x, u = .int x) : ls[i]? = some (.val (ev_v ad u)) := by
  refine h.2.2 (i, ev_v ad u) (ev_l_mem.mpr ⟨u, hu, rfl, ?_⟩)
  rcases hk with rfl | ⟨x, rfl⟩ | ⟨x, rfl⟩ <;> rfl
/-- a store of a word one wide -/
theorem ev_l_put {ad : Nat → Nat} {L : List Value} {ls : Array Slot} {nL i : Nat} {u : Value} (h : lv_has ls nL ((i, ev_v ad u) :: (ev_l ad L).filter (fun q => !(q.1 == i) && !(q.1 + 1 == i && q.2.category == 2)))) : lv_has ls nL (ev_l ad (L.set i u)) := by
  refine ⟨h.1, h.2.1, fun q hq => ?_⟩
  obtain ⟨j, v⟩ := q
  obtain ⟨u', h1, h2, h3⟩ := ev_l_mem.mp hq
  by_cases hj : j = i
  · subst hj
    have hlt : j < L.length := by
      have := (List.getElem?_eq_some_iff.mp h1).1
      simpa using this
    rw [List.getElem?_set_self hlt] at h1
    cases h1
    subst h2
    exact h.2.2 _ List.mem_cons_self
  · rw [List.getElem?_set_ne (fun q => hj q.symm)] at h1
    refine h.2.2 _ (List.mem_cons_of_mem _ (List.mem_filter.mpr ⟨ev_l_mem.mpr ⟨u', h1, h2, h3⟩, ?_⟩))
    have hc : v.category = 1 := by
      cases v <;> first | rfl | cases h3
    simp [hj, hc]
theorem ev_v_cat {ad : Nat → Nat} {v : Value} : (ev_v ad v).category = v.category := by cases v <;> rfl
theorem ev_sum {ad : Nat → Nat} {S : List Value} (h : S.length ≤ 4) : ((S.map (ev_v ad)).map fun v => v.category).sum ≤ 8 := by
  have key : ∀ S : List Value, ((S.map (ev_v ad)).map fun v => v.category).sum ≤ 2 * S.length := by
    intro S
    induction S with
    | nil => simp
    | cons v S ih =>
      have : (ev_v ad v).category ≤ 2 := by rw [ev_v_cat]; cases v <;> simp [Value.category]
      simp only [List.map_cons, List.sum_cons, List.length_cons]
      omega
  have := key S
  omega
