/-! the evaluator's worlds only grow -/
abbrev ev_Pm (wE nE : Nat) : Nat → List Value → List Value → ev_W → Nat → Prop := fun _ _ _ w n => w.length ≤ wE ∧ n ≤ nE
section MO
variable {α : Type} {r : α} {wE nE pc p q i t ci kf tq : Nat}
theorem mo_use {k : ev_G α} (hk : ∀ pc' L' S' w' n', k pc' L' S' w' n' = some r → ev_Pm wE nE pc' L' S' w' n') {pc' : Nat} {L' S' : List Value} {w' : ev_W} {n' : Nat} (h : k pc' L' S' w' n' = some r) : w'.length ≤ wE ∧ n' ≤ nE := hk _ _ _ _ _ h
theorem mo_no : ev_ok (ev_Pm wE nE) r pc (ev_no : ev_O α) := fun k L S w n _ h => by cases h
theorem mo_psh {v : Value} : ev_ok (ev_Pm wE nE) r pc (ev_psh p v) := fun k L S w n hk h => mo_use hk h
theorem mo_ild : ev_ok (ev_Pm wE nE) r pc (ev_ild p i) := fun k L S w n hk h => by
  obtain ⟨v, -, h⟩ := ev_oc_some h
  obtain ⟨x, -, h⟩ := ev_ic_some h
  exact mo_use hk h
theorem mo_ald : ev_ok (ev_Pm wE nE) r pc (ev_ald p i) := fun k L S w n hk h => by
  obtain ⟨v, -, h⟩ := ev_oc_some h
  exact mo_use hk (ev_pc_some h).2
theorem mo_ist : ev_ok (ev_Pm wE nE) r pc (ev_ist p i) := fun k L S w n hk h => by
  obtain ⟨v, S', -, h⟩ := ev_lc_some h
  obtain ⟨x, -, h⟩ := ev_ic_some h
  exact mo_use hk h
theorem mo_ast : ev_ok (ev_Pm wE nE) r pc (ev_ast p i) := fun k L S w n hk h => by
  obtain ⟨v, S', -, h⟩ := ev_lc_some h
  exact mo_use hk (ev_pc_some h).2
theorem mo_inc {c : Int32} : ev_ok (ev_Pm wE nE) r pc (ev_inc p i c) := fun k L S w n hk h => by
  obtain ⟨v, -, h⟩ := ev_oc_some h
  obtain ⟨x, -, h⟩ := ev_ic_some h
  exact mo_use hk h
theorem mo_dup : ev_ok (ev_Pm wE nE) r pc (ev_dup p) := fun k L S w n hk h => by
  obtain ⟨v, S', -, h⟩ := ev_lc_some h
  exact mo_use hk (ev_c1_some h).2
theorem mo_dx1 : ev_ok (ev_Pm wE nE) r pc (ev_dx1 p) := fun k L S w n hk h => by
  obtain ⟨v, S1, -, h⟩ := ev_lc_some h
  obtain ⟨u, S', -, h⟩ := ev_lc_some (l := S1) h
  exact mo_use hk (ev_c1_some (ev_c1_some h).2).2
theorem mo_drop : ev_ok (ev_Pm wE nE) r pc (ev_drop p) := fun k L S w n hk h => by
  obtain ⟨v, S', -, h⟩ := ev_lc_some h
  exact mo_use hk (ev_c1_some h).2
theorem mo_bin {f : Int32 → Int32 → Int32} : ev_ok (ev_Pm wE nE) r pc (ev_bin p f) := fun k L S w n hk h => by
  obtain ⟨v, S1, -, h⟩ := ev_lc_some h
  obtain ⟨u, S', -, h⟩ := ev_lc_some (l := S1) h
  obtain ⟨y, -, h⟩ := ev_ic_some (v := v) h
  obtain ⟨x, -, h⟩ := ev_ic_some (v := u) h
  exact mo_use hk h
theorem mo_div {f : Int32 → Int32 → Int32} : ev_ok (ev_Pm wE nE) r pc (ev_div p f) := fun k L S w n hk h => by
  obtain ⟨v, S1, -, h⟩ := ev_lc_some h
  obtain ⟨u, S', -, h⟩ := ev_lc_some (l := S1) h
  obtain ⟨y, -, h⟩ := ev_ic_some (v := v) h
  obtain ⟨x, -, h⟩ := ev_ic_some (v := u) h
  rcases ev_bc_some h with ⟨-, h⟩ | ⟨-, h⟩
  · cases h
  · exact mo_use hk h
theorem mo_mx : ev_ok (ev_Pm wE nE) r pc (ev_mx p) := fun k L S w n hk h => by
  obtain ⟨v, S1, -, h⟩ := ev_lc_some h
  obtain ⟨u, S', -, h⟩ := ev_lc_some (l := S1) h
  obtain ⟨y, -, h⟩ := ev_ic_some (v := v) h
  obtain ⟨x, -, h⟩ := ev_ic_some (v := u) h
  exact mo_use hk (ev_bc_t h).2
theorem mo_cmp {f : Int32 → Int32 → Bool} : ev_ok (ev_Pm wE nE) r pc (ev_cmp p t f) := fun k L S w n hk h => by
  obtain ⟨v, S1, -, h⟩ := ev_lc_some h
  obtain ⟨u, S', -, h⟩ := ev_lc_some (l := S1) h
  obtain ⟨y, -, h⟩ := ev_ic_some (v := v) h
  obtain ⟨x, -, h⟩ := ev_ic_some (v := u) h
  rcases ev_bc_some h with ⟨-, h⟩ | ⟨-, h⟩ <;> exact mo_use hk h
theorem mo_cm0 {f : Int32 → Bool} : ev_ok (ev_Pm wE nE) r pc (ev_cm0 p t f) := fun k L S w n hk h => by
  obtain ⟨v, S', -, h⟩ := ev_lc_some h
  obtain ⟨x, -, h⟩ := ev_ic_some (v := v) h
  rcases ev_bc_some h with ⟨-, h⟩ | ⟨-, h⟩ <;> exact mo_use hk h
theorem mo_acm : ev_ok (ev_Pm wE nE) r pc (ev_acm p q) := fun k L S w n hk h => by
  obtain ⟨v, S1, -, h⟩ := ev_lc_some h
  obtain ⟨u, S', -, h⟩ := ev_lc_some (l := S1) h
  have h2 : ∃ a, ev_rn u (fun b => ev_bc (Nat.beq b a) (k p L S' w n) (ev_pl w a (ev_pl w b (k q L S' w n)))) = some r := by
    rcases ev_rn_some (v := v) h with ⟨-, h⟩ | ⟨x, -, h⟩ <;> exact ⟨_, h⟩
  obtain ⟨a, h2⟩ := h2
  have h3 : ∃ b, ev_bc (Nat.beq b a) (k p L S' w n) (ev_pl w a (ev_pl w b (k q L S' w n))) = some r := by
    rcases ev_rn_some (v := u) h2 with ⟨-, h⟩ | ⟨x, -, h⟩ <;> exact ⟨_, h⟩
  obtain ⟨b, h3⟩ := h3
  rcases ev_bc_some h3 with ⟨-, h⟩ | ⟨-, h⟩
  · exact mo_use hk h
  · exact mo_use hk (ev_pl_some (ev_pl_some h).1).1
theorem mo_jmp : ev_ok (ev_Pm wE nE) r pc (ev_jmp t) := fun k L S w n hk h => mo_use hk h
theorem mo_aln : ev_ok (ev_Pm wE nE) r pc (ev_aln p) := fun k L S w n hk h => by
  obtain ⟨v, S', -, h⟩ := ev_lc_some h
  obtain ⟨a, -, h⟩ := ev_rc_some (v := v) h
  obtain ⟨c, -, h⟩ := ev_oc_some h
  exact mo_use hk (ev_bc_t h).2
theorem mo_get : ev_ok (ev_Pm wE nE) r pc (ev_get p ci kf) := fun k L S w n hk h => by
  obtain ⟨v, S', -, h⟩ := ev_lc_some h
  obtain ⟨a, -, h⟩ := ev_rc_some (v := v) h
  obtain ⟨c, -, h⟩ := ev_oc_some h
  obtain ⟨u, -, h⟩ := ev_oc_some (ev_bc_t h).2
  exact mo_use hk h
theorem mo_ldi : ev_ok (ev_Pm wE nE) r pc (ev_ldi p t) := fun k L S w n hk h => by
  obtain ⟨v, S1, -, h⟩ := ev_lc_some h
  obtain ⟨u, S', -, h⟩ := ev_lc_some (l := S1) h
  obtain ⟨y, -, h⟩ := ev_ic_some (v := v) h
  obtain ⟨a, -, h⟩ := ev_rc_some (v := u) h
  obtain ⟨c, -, h⟩ := ev_oc_some h
  obtain ⟨u, -, h⟩ := ev_oc_some (ev_bc_t h).2
  obtain ⟨x, -, h⟩ := ev_ic_some (v := u) h
  exact mo_use hk h
theorem mo_ldq : ev_ok (ev_Pm wE nE) r pc (ev_ldq p) := fun k L S w n hk h => by
  obtain ⟨v, S1, -, h⟩ := ev_lc_some h
  obtain ⟨u, S', -, h⟩ := ev_lc_some (l := S1) h
  obtain ⟨y, -, h⟩ := ev_ic_some (v := v) h
  obtain ⟨a, -, h⟩ := ev_rc_some (v := u) h
  obtain ⟨c, -, h⟩ := ev_oc_some h
  obtain ⟨u, -, h⟩ := ev_oc_some (ev_bc_t h).2
  exact mo_use hk (ev_pc_some h).2
theorem mo_sti {g : Int32 → Int32} : ev_ok (ev_Pm wE nE) r pc (ev_sti p t g) := fun k L S w n hk h => by
  obtain ⟨x, i, a, S', c0, -, -, -, -, h⟩ := ev_sti_some h
  have := mo_use hk h
  rw [List.length_set] at this
  exact this
theorem mo_stq : ev_ok (ev_Pm wE nE) r pc (ev_stq p t) := fun k L S w n hk h => by
  obtain ⟨y, S0, -, h⟩ := ev_lc_some h
  obtain ⟨v, S1, -, h⟩ := ev_lc_some (l := S0) h
  obtain ⟨u, S', -, h⟩ := ev_lc_some (l := S1) h
  obtain ⟨i, -, h⟩ := ev_ic_some (v := v) h
  obtain ⟨a, -, h⟩ := ev_rc_some (v := u) h
  obtain ⟨c, -, h⟩ := ev_oc_some h
  obtain ⟨-, h⟩ := ev_bc_t h
  have h2 : k p L S' (ev_set w a (c.1, c.2.1, ev_set c.2.2 (ev_bits i) y)) n = some r := by
    rcases ev_rn_some (v := y) h with ⟨-, h⟩ | ⟨x, -, h⟩
    · exact h
    · obtain ⟨d, -, h⟩ := ev_oc_some (show ev_oc (ev_at w x) _ = some r from h)
      exact (ev_bc_t h).2
  have := mo_use hk h2
  rw [ev_set_eq, List.length_set] at this
  exact this
theorem mo_fit {q : Nat} {v : Value} {y : Option α} (h : ev_fit q v y = some r) : y = some r := by
  match q, h with
  | 0, h =>
    obtain ⟨x, -, h⟩ := ev_ic_some (v := v) h
    exact h
  | 1, h => exact (ev_pc_some (v := v) h).2
  | 2, h =>
    obtain ⟨x, -, h⟩ := ev_ic_some (v := v) h
    exact (ev_bc_t h).2
  | q + 3, h =>
    obtain ⟨x, -, h⟩ := ev_jc_some (v := v) h
    exact h
theorem mo_ptf : ev_ok (ev_Pm wE nE) r pc (ev_ptf p ci kf tq) := fun k L S w n hk h => by
  obtain ⟨v, S1, -, h⟩ := ev_lc_some h
  obtain ⟨u, S', -, h⟩ := ev_lc_some (l := S1) h
  obtain ⟨a, -, h⟩ := ev_rc_some (v := u) h
  obtain ⟨c, -, h⟩ := ev_oc_some h
  have := mo_use hk (mo_fit (ev_bc_t h).2)
  rw [ev_set_eq, List.length_set] at this
  exact this
theorem mo_nwa {v0 : Value} : ev_ok (ev_Pm wE nE) r pc (ev_nwa p t v0) := fun k L S w n hk h => by
  obtain ⟨i, S', -, -, h⟩ := ev_nwa_some h
  have := mo_use hk h
  rw [List.length_append, List.length_singleton] at this
  exact ⟨by omega, by omega⟩
theorem mo_new {N : Nat} {dv : List Value} : ev_ok (ev_Pm wE nE) r pc (ev_new p ci N dv) := fun k L S w n hk h => by
  have := mo_use hk h
  rw [List.length_append, List.length_singleton] at this
  exact ⟨by omega, by omega⟩
theorem mo_gst {a : Nat} : ev_ok (ev_Pm wE nE) r pc (ev_gst p a) := fun k L S w n hk h => mo_use hk h
theorem mo_cst : ev_ok (ev_Pm wE nE) r pc (ev_cst p t) := fun k L S w n hk h => by
  obtain ⟨v, S', -, h⟩ := ev_lc_some h
  obtain ⟨a, -, h⟩ := ev_rc_some (v := v) h
  obtain ⟨c, -, h⟩ := ev_oc_some h
  exact mo_use hk (ev_bc_t h).2
theorem mo_i2l : ev_ok (ev_Pm wE nE) r pc (ev_i2l p) := fun k L S w n hk h => by
  obtain ⟨v, S', -, h⟩ := ev_lc_some h
  obtain ⟨x, -, h⟩ := ev_ic_some (v := v) h
  exact mo_use hk h
theorem mo_lcm : ev_ok (ev_Pm wE nE) r pc (ev_lcm p) := fun k L S w n hk h => by
  obtain ⟨v, S1, -, h⟩ := ev_lc_some h
  obtain ⟨u, S', -, h⟩ := ev_lc_some (l := S1) h
  obtain ⟨y, -, h⟩ := ev_jc_some (v := v) h
  obtain ⟨x, -, h⟩ := ev_jc_some (v := u) h
  exact mo_use hk h
theorem mo_tsw {ts : List Nat} : ev_ok (ev_Pm wE nE) r pc (ev_tsw ts) := fun k L S w n hk h => by
  obtain ⟨v, S', -, h⟩ := ev_lc_some h
  obtain ⟨x, -, h⟩ := ev_ic_some (v := v) h
  obtain ⟨t, -, h⟩ := ev_oc_some (ev_bc_t h).2
  exact mo_use hk h
theorem mo_obj : ev_ok (ev_Pm wE nE) r pc (ev_obj p) := fun k L S w n hk h => by
  obtain ⟨v, S', -, h⟩ := ev_lc_some h
  obtain ⟨x, -, h⟩ := ev_rc_some (v := v) h
  exact mo_use hk (ev_bc_t h).2
def ev_cm (cf : Nat → List Value → ev_W → Option ev_R) : Prop := ∀ (y : Nat) (vs : List Value) (w w1 : ev_W) (rv : Option Value) (k1 : Nat), cf y vs w = some (rv, w1, k1) → w.length ≤ w1.length
theorem mo_inv {cf : Nat → List Value → ev_W → Option ev_R} (hcm : ev_cm cf) {cal na : Nat} : ev_ok (ev_Pm wE nE) r pc (ev_inv cf p cal na : ev_O α) := fun k L S w n hk h => by
  obtain ⟨as, S', -, -, h⟩ := ev_pop_some _ _ _ _ h
  obtain ⟨⟨rv, w1, k1⟩, hc, h⟩ := ev_oc_some (ev_bc_t h).2
  have h1 := mo_use hk h
  have h2 := hcm _ _ _ _ _ _ hc
  exact ⟨Nat.le_trans h2 h1.1, Nat.le_trans (Nat.le_add_right _ _) h1.2⟩
theorem mo_ini {cf : Nat → List Value → ev_W → Option ev_R} (hcm : ev_cm cf) {cal na : Nat} : ev_ok (ev_Pm wE nE) r pc (ev_ini cf p cal na : ev_O α) := fun k L S w n hk h => by
  obtain ⟨as, S', -, -, h⟩ := ev_pop_some _ _ _ _ h
  obtain ⟨v, t, -, h⟩ := ev_lc_some h
  obtain ⟨a, -, h⟩ := ev_rc_some (v := v) h
  obtain ⟨⟨rv, w1, k1⟩, hc, h⟩ := ev_oc_some (ev_bc_t h).2
  have h1 := mo_use hk h
  have h2 := hcm _ _ _ _ _ _ hc
  exact ⟨Nat.le_trans h2 h1.1, Nat.le_trans (Nat.le_add_right _ _) h1.2⟩
theorem mo_inr {cf : Nat → List Value → ev_W → Option ev_R} (hcm : ev_cm cf) {cal na : Nat} : ev_ok (ev_Pm wE nE) r pc (ev_inr cf p cal na ci : ev_O α) := fun k L S w n hk h => by
  obtain ⟨as, S', -, -, h⟩ := ev_pop_some _ _ _ _ h
  obtain ⟨v, t, -, h⟩ := ev_lc_some h
  obtain ⟨a, -, h⟩ := ev_rc_some (v := v) h
  obtain ⟨c, -, h⟩ := ev_oc_some h
  obtain ⟨⟨rv, w1, k1⟩, hc, h⟩ := ev_oc_some (ev_bc_t h).2
  have h1 := mo_use hk h
  have h2 := hcm _ _ _ _ _ _ hc
  exact ⟨Nat.le_trans h2 h1.1, Nat.le_trans (Nat.le_add_right _ _) h1.2⟩
variable {fin : Option Value → ev_W → Nat → Option α}
theorem mo_rti (hfin : ∀ v w n, fin v w n = some r → w.length = wE ∧ n = nE) : ev_ok (ev_Pm wE nE) r pc (ev_rti fin) := fun k L S w n hk h => by
  obtain ⟨v, S', -, h⟩ := ev_lc_some h
  obtain ⟨x, -, h⟩ := ev_ic_some (v := v) h
  cases S' with
  | cons _ _ => cases h
  | nil => have := hfin _ _ _ h; exact ⟨by omega, by omega⟩
theorem mo_rtz (hfin : ∀ v w n, fin v w n = some r → w.length = wE ∧ n = nE) : ev_ok (ev_Pm wE nE) r pc (ev_rtz fin) := fun k L S w n hk h => by
  obtain ⟨v, S', -, h⟩ := ev_lc_some h
  obtain ⟨x, -, h⟩ := ev_ic_some (v := v) h
  obtain ⟨-, h⟩ := ev_bc_t h
  cases S' with
  | cons _ _ => cases h
  | nil => have := hfin _ _ _ h; exact ⟨by omega, by omega⟩
theorem mo_rta (hfin : ∀ v w n, fin v w n = some r → w.length = wE ∧ n = nE) : ev_ok (ev_Pm wE nE) r pc (ev_rta fin) := fun k L S w n hk h => by
  obtain ⟨v, S', -, h⟩ := ev_lc_some h
  obtain ⟨-, h⟩ := ev_pc_some h
  cases S' with
  | cons _ _ => cases h
  | nil => have := hfin _ _ _ h; exact ⟨by omega, by omega⟩
theorem mo_rtv (hfin : ∀ v w n, fin v w n = some r → w.length = wE ∧ n = nE) : ev_ok (ev_Pm wE nE) r pc (ev_rtv fin) := fun k L S w n hk h => by
  cases S with
  | cons _ _ => cases h
  | nil => have := hfin _ _ _ h; exact ⟨by omega, by omega⟩
end MO
/-! tables of operations; runs -/
def ev_all {α : Type} (Pk : Nat → ev_O α → Prop) : Nat → List (ev_O α) → Prop
  | _, [] => True
  | b, o :: t => Pk b o ∧ ev_all Pk (b + 1) t
def ev_all2 {α : Type} (Pk : Nat → ev_O α → Prop) : Nat → List (List (ev_O α)) → Prop
  | _, [] => True
  | b, o :: t => ev_all Pk (16 * b) o ∧ ev_all2 Pk (b + 1) t
theorem ev_a0 {α : Type} {Pk : Nat → ev_O α → Prop} {b : Nat} : ev_all Pk b [] := trivial
theorem ev_a {α : Type} {Pk : Nat → ev_O α → Prop} {b : Nat} {o : ev_O α} {t : List (ev_O α)} (h : Pk b o) (ht : ev_all Pk (b + 1) t) : ev_all Pk b (o :: t) := ⟨h, ht⟩
theorem ev_b0 {α : Type} {Pk : Nat → ev_O α → Prop} {b : Nat} : ev_all2 Pk b [] := trivial
theorem ev_b {α : Type} {Pk : Nat → ev_O α → Prop} {b : Nat} {o : List (ev_O α)} {t : List (List (ev_O α))} (h : ev_all Pk (16 * b) o) (ht : ev_all2 Pk (b + 1) t) : ev_all2 Pk b (o :: t) := ⟨h, ht⟩
theorem ev_all_at {α : Type} {Pk : Nat → ev_O α → Prop} : ∀ (l : List (ev_O α)) (b j : Nat) (o : ev_O α), ev_all Pk b l → l[j]? = some o → Pk (b + j) o := by
  intro l
  induction l with
  | nil => intro b j o _ h; cases h
  | cons a l ih =>
    intro b j o h hj
    cases j with
    | zero => cases hj; exact h.1
    | succ j => rw [show b + (j + 1) = (b + 1) + j by omega]; exact ih _ _ _ h.2 (by simpa using hj)
theorem ev_all2_at {α : Type} {Pk : Nat → ev_O α → Prop} : ∀ (l : List (List (ev_O α))) (b j : Nat) (c : List (ev_O α)), ev_all2 Pk b l → l[j]? = some c → ev_all Pk (16 * (b + j)) c := by
  intro l
  induction l with
  | nil => intro b j o _ h; cases h
  | cons a l ih =>
    intro b j o h hj
    cases j with
    | zero => cases hj; exact h.1
    | succ j => rw [show b + (j + 1) = (b + 1) + j by omega]; exact ih _ _ _ h.2 (by simpa using hj)
theorem ev_run_ok {α : Type} {P : Nat → List Value → List Value → ev_W → Nat → Prop} {r : α} {tb : List (List (ev_O α))} {stop : ev_G α} (htb : ev_all2 (ev_ok P r) 0 tb) (hstop : ∀ pc L S w n, stop pc L S w n = some r → P pc L S w n) : ∀ (f pc : Nat) (L S : List Value) (w : ev_W) (n : Nat), ev_run tb stop f pc L S w n = some r → P pc L S w n := by
  intro f
  induction f with
  | zero => intro pc L S w n h; exact hstop pc L S w n h
  | succ f ih =>
    intro pc L S w n h
    obtain ⟨o, ho, h1⟩ := ev_oc_some (show ev_oc (ev_oc (ev_at tb (pc / 16)) fun c => ev_at c (pc % 16)) (fun o => o (ev_run tb stop f) L S w n) = some r from h)
    obtain ⟨c, hc, hoc⟩ := ev_oc_some ho
    rw [ev_at_eq] at hc hoc
    have h2 := ev_all_at c _ _ o (ev_all2_at tb 0 _ c htb hc) hoc
    rw [Nat.zero_add, Nat.div_add_mod] at h2
    exact h2 _ L S w n (fun pc' L' S' w' n' hk => ih pc' L' S' w' n' hk) h1
theorem ev_all_map {α : Type} {Pk Pl : Nat → ev_O α → Prop} (h : ∀ b o, Pk b o → Pl b o) : ∀ (l : List (ev_O α)) (b : Nat), ev_all Pk b l → ev_all Pl b l
  | [], _, _ => trivial
  | _ :: t, _, hl => ⟨h _ _ hl.1, ev_all_map h t _ hl.2⟩
/-- the locals that a method begins with -/
theorem ev_l_entry {ad : Nat → Nat} {vs pad : List Value} {nL : Nat} (hv : ∀ v ∈ vs, v.category = 1) (hp : ∀ v ∈ pad, v = .retAddr 0) (hn : vs.length ≤ nL) : lv_has ((lg_sl (vs.map (ev_v ad)) ++ List.replicate (nL - (lg_sl (vs.map (ev_v ad))).length) Slot.unset).toArray) nL (ev_l ad (vs ++ pad)) := by
  have hsl : ∀ us : List Value, (∀ v ∈ us, v.category = 1) → lg_sl (us.map (ev_v ad)) = us.map (fun v => Slot.val (ev_v ad v)) := by
    intro us
    induction us with
    | nil => intro _; rfl
    | cons v us ih =>
      intro h
      have h1 : (ev_v ad v).category = 1 := ev_v_cat.trans (h v List.mem_cons_self)
      have h2 := ih fun u hu => h u (List.mem_cons_of_mem _ hu)
      unfold lg_sl at h2 ⊢
      simp only [List.map_cons, List.flatMap_cons, h1]
      rw [h2]
      rfl
  have hlen : (lg_sl (vs.map (ev_v ad))).length = vs.length := by rw [hsl vs hv, List.length_map]
  have h0 := lv_entry (vs.map (ev_v ad)) (n := nL) (by rw [hlen]; exact hn)
  refine ⟨h0.1, h0.2.1, fun q hq => ?_⟩
  obtain ⟨i, v⟩ := q
  obtain ⟨u, h1, rfl, h3⟩ := ev_l_mem.mp hq
  by_cases hi : i < vs.length
  · rw [List.getElem?_append_left hi] at h1
    rw [List.getElem?_toArray, List.getElem?_append_left (by rw [hlen]; exact hi), hsl vs hv, List.getElem?_map, h1]
    rfl
  · rw [List.getElem?_append_right (by omega)] at h1
    have := hp u (List.mem_of_getElem? h1)
    subst this
    cases h3
