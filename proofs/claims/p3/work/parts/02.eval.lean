/-! THE EVALUATOR: runs bytecode over a world that is a list of cells; an address is a place in that list. Its answers are tied to the machine in a later part.
It is written with recursors and with operations whose next places are numbers, for the kernel's sake. -/
/-- a cell: its kind (0 an int[], 1 a boolean[], 2 an Object[], k + 3 an object of the class k of vwCl), its length, what it holds -/
abbrev ev_Q : Type := Nat × Nat × List Value
abbrev ev_W : Type := List ev_Q
abbrev ev_R : Type := Option Value × ev_W × Nat
/-- an instruction: its place, group, place in the group, a number, an offset -/
abbrev ev_I : Type := Nat × Nat × Nat × Int
abbrev ev_K : Type := Nat × Nat × Nat × Nat
abbrev ev_T : Type := Int × Int × Int × List Int
/-- what goes on behind an instruction: at a place, with locals, stack, world, slots made -/
abbrev ev_G (α : Type) : Type := Nat → List Value → List Value → ev_W → Nat → Option α
abbrev ev_O (α : Type) : Type := ev_G α → List Value → List Value → ev_W → Nat → Option α
noncomputable def ev_at {α : Type} (l : List α) : Nat → Option α := List.rec (motive := fun _ => Nat → Option α) (fun _ => none) (fun a _ ih k => Nat.rec (some a) (fun j _ => ih j) k) l
noncomputable def ev_set {α : Type} (l : List α) : Nat → α → List α := List.rec (motive := fun _ => Nat → α → List α) (fun _ _ => []) (fun a t ih k v => Nat.rec (v :: t) (fun j _ => a :: ih j v) k) l
noncomputable def ev_len {α : Type} (l : List α) : Nat := List.rec (motive := fun _ => Nat) 0 (fun _ _ ih => Nat.succ ih) l
def ev_bits (x : Int32) : Nat := x.toBitVec.toNat
def ev_sg (x : Int32) : Nat := (ev_bits x + 2147483648) % 4294967296
noncomputable def ev_oc {α β : Type} (o : Option β) (f : β → Option α) : Option α := Option.rec none f o
noncomputable def ev_bc {α : Type} (b : Bool) (x y : Option α) : Option α := Bool.rec y x b
noncomputable def ev_lc {α β : Type} (l : List β) (f : β → List β → Option α) : Option α := List.rec none (fun a t _ => f a t) l
noncomputable def ev_ic {α : Type} (v : Value) (f : Int32 → Option α) : Option α := Value.rec f (fun _ => none) (fun _ => none) (fun _ => none) none (fun _ => none) (fun _ => none) v
noncomputable def ev_jc {α : Type} (v : Value) (f : Int64 → Option α) : Option α := Value.rec (fun _ => none) f (fun _ => none) (fun _ => none) none (fun _ => none) (fun _ => none) v
noncomputable def ev_rc {α : Type} (v : Value) (f : Nat → Option α) : Option α := Value.rec (fun _ => none) (fun _ => none) (fun _ => none) (fun _ => none) none f (fun _ => none) v
/-- a reference or null -/
noncomputable def ev_pc {α : Type} (v : Value) (y : Option α) : Option α := Value.rec (fun _ => none) (fun _ => none) (fun _ => none) (fun _ => none) y (fun _ => y) (fun _ => none) v
/-- one word wide: a whole number, a reference, null -/
noncomputable def ev_c1 {α : Type} (v : Value) (y : Option α) : Option α := Value.rec (fun _ => y) (fun _ => none) (fun _ => none) (fun _ => none) y (fun _ => y) (fun _ => none) v
/-- null 0, the place a a + 1 -/
noncomputable def ev_rn {α : Type} (v : Value) (f : Nat → Option α) : Option α := Value.rec (fun _ => none) (fun _ => none) (fun _ => none) (fun _ => none) (f 0) (fun a => f (Nat.succ a)) (fun _ => none) v
/-- the last k values of a stack, in their order, and the rest -/
noncomputable def ev_pop {α : Type} (k : Nat) : List Value → List Value → (List Value → List Value → Option α) → Option α := Nat.rec (motive := fun _ => List Value → List Value → (List Value → List Value → Option α) → Option α) (fun S acc f => f acc S) (fun _ ih S acc f => ev_lc S fun v S' => ih S' (v :: acc) f) k
noncomputable def ev_push (r : Option Value) (S : List Value) : List Value := Option.rec S (fun v => v :: S) r
noncomputable def ev_find (l : List (Nat × ev_K)) (i : Nat) : Option ev_K := List.rec (motive := fun _ => Option ev_K) none (fun q _ ih => Bool.rec ih (some q.2) (Nat.beq q.1 i)) l
section EV
variable {α : Type}
/-- no operation -/
noncomputable def ev_no : ev_O α := fun _ _ _ _ _ => none
noncomputable def ev_ild (p i : Nat) : ev_O α := fun k L S w n => ev_oc (ev_at L i) fun v => ev_ic v fun x => k p L (.int x :: S) w n
noncomputable def ev_ald (p i : Nat) : ev_O α := fun k L S w n => ev_oc (ev_at L i) fun v => ev_pc v (k p L (v :: S) w n)
noncomputable def ev_ist (p i : Nat) : ev_O α := fun k L S w n => ev_lc S fun v S' => ev_ic v fun x => k p (ev_set L i (.int x)) S' w n
noncomputable def ev_ast (p i : Nat) : ev_O α := fun k L S w n => ev_lc S fun v S' => ev_pc v (k p (ev_set L i v) S' w n)
noncomputable def ev_inc (p i : Nat) (c : Int32) : ev_O α := fun k L S w n => ev_oc (ev_at L i) fun v => ev_ic v fun x => k p (ev_set L i (.int (x + c))) S w n
noncomputable def ev_psh (p : Nat) (v : Value) : ev_O α := fun k L S w n => k p L (v :: S) w n
noncomputable def ev_dup (p : Nat) : ev_O α := fun k L S w n => ev_lc S fun v S' => ev_c1 v (k p L (v :: v :: S') w n)
noncomputable def ev_dx1 (p : Nat) : ev_O α := fun k L S w n => ev_lc S fun va S1 => ev_lc S1 fun vb S' => ev_c1 va (ev_c1 vb (k p L (va :: vb :: va :: S') w n))
noncomputable def ev_drop (p : Nat) : ev_O α := fun k L S w n => ev_lc S fun v S' => ev_c1 v (k p L S' w n)
noncomputable def ev_bin (p : Nat) (f : Int32 → Int32 → Int32) : ev_O α := fun k L S w n => ev_lc S fun v S1 => ev_lc S1 fun u S' => ev_ic v fun y => ev_ic u fun x => k p L (.int (f x y) :: S') w n
/-- as ev_bin, the second number not 0 -/
noncomputable def ev_div (p : Nat) (f : Int32 → Int32 → Int32) : ev_O α := fun k L S w n => ev_lc S fun v S1 => ev_lc S1 fun u S' => ev_ic v fun y => ev_ic u fun x => ev_bc (Nat.beq (ev_bits y) 0) none (k p L (.int (f x y) :: S') w n)
/-- Math.max -/
noncomputable def ev_mx (p : Nat) : ev_O α := fun k L S w n => ev_lc S fun v S1 => ev_lc S1 fun u S' => ev_ic v fun y => ev_ic u fun x => ev_bc (Nat.ble (ev_len S') 4) (k p L (.int (cond (Nat.blt (ev_sg x) (ev_sg y)) y x) :: S') w n) none
noncomputable def ev_cmp (p t : Nat) (f : Int32 → Int32 → Bool) : ev_O α := fun k L S w n => ev_lc S fun v S1 => ev_lc S1 fun u S' => ev_ic v fun y => ev_ic u fun x => ev_bc (f x y) (k t L S' w n) (k p L S' w n)
noncomputable def ev_cm0 (p t : Nat) (f : Int32 → Bool) : ev_O α := fun k L S w n => ev_lc S fun v S' => ev_ic v fun x => ev_bc (f x) (k t L S' w n) (k p L S' w n)
/-- null, or a place of the world -/
noncomputable def ev_pl (w : ev_W) (a : Nat) (y : Option α) : Option α := Nat.rec y (fun j _ => ev_oc (ev_at w j) fun _ => y) a
noncomputable def ev_acm (pe pn : Nat) : ev_O α := fun k L S w n => ev_lc S fun v S1 => ev_lc S1 fun u S' => ev_rn v fun a => ev_rn u fun b => ev_bc (Nat.beq b a) (k pe L S' w n) (ev_pl w a (ev_pl w b (k pn L S' w n)))
noncomputable def ev_jmp (t : Nat) : ev_O α := fun k L S w n => k t L S w n
noncomputable def ev_aln (p : Nat) : ev_O α := fun k L S w n => ev_lc S fun v S' => ev_rc v fun a => ev_oc (ev_at w a) fun c => ev_bc (Nat.blt c.1 3) (k p L (.int (Int32.ofNat c.2.1) :: S') w n) none
noncomputable def ev_get (p ci kf : Nat) : ev_O α := fun k L S w n => ev_lc S fun v S' => ev_rc v fun a => ev_oc (ev_at w a) fun c => ev_bc (Nat.beq c.1 (ci + 3)) (ev_oc (ev_at c.2.2 kf) fun u => k p L (u :: S') w n) none
noncomputable def ev_ldi (p t : Nat) : ev_O α := fun k L S w n => ev_lc S fun v S1 => ev_lc S1 fun u S' => ev_ic v fun i => ev_rc u fun a => ev_oc (ev_at w a) fun c => ev_bc (Nat.beq c.1 t && Nat.blt (ev_bits i) c.2.1) (ev_oc (ev_at c.2.2 (ev_bits i)) fun z => ev_ic z fun x => k p L (.int x :: S') w n) none
noncomputable def ev_ldq (p : Nat) : ev_O α := fun k L S w n => ev_lc S fun v S1 => ev_lc S1 fun u S' => ev_ic v fun i => ev_rc u fun a => ev_oc (ev_at w a) fun c => ev_bc (Nat.beq c.1 2 && Nat.blt (ev_bits i) c.2.1) (ev_oc (ev_at c.2.2 (ev_bits i)) fun z => ev_pc z (k p L (z :: S') w n)) none
noncomputable def ev_sti (p t : Nat) (g : Int32 → Int32) : ev_O α := fun k L S w n => ev_lc S fun z S0 => ev_lc S0 fun v S1 => ev_lc S1 fun u S' => ev_ic z fun x => ev_ic v fun i => ev_rc u fun a => ev_oc (ev_at w a) fun c => ev_bc (Nat.beq c.1 t && Nat.blt (ev_bits i) c.2.1) (k p L S' (ev_set w a (c.1, c.2.1, ev_set c.2.2 (ev_bits i) (.int (g x)))) n) none
/-- an int[], an object of the kind rt, or null, into an Object[] -/
noncomputable def ev_stq (p rt : Nat) : ev_O α := fun k L S w n => ev_lc S fun z S0 => ev_lc S0 fun v S1 => ev_lc S1 fun u S' => ev_ic v fun i => ev_rc u fun a => ev_oc (ev_at w a) fun c => ev_bc (Nat.beq c.1 2 && Nat.blt (ev_bits i) c.2.1) (ev_rn z fun b => Nat.rec (k p L S' (ev_set w a (c.1, c.2.1, ev_set c.2.2 (ev_bits i) z)) n) (fun b _ => ev_oc (ev_at w b) fun d => ev_bc (Nat.beq d.1 0 || Nat.beq d.1 rt) (k p L S' (ev_set w a (c.1, c.2.1, ev_set c.2.2 (ev_bits i) z)) n) none) b) none
/-- what a field may take: 0 an int, 1 a reference or null, 2 a boolean, 3 a long -/
noncomputable def ev_fit (q : Nat) (v : Value) (y : Option α) : Option α := Nat.rec (ev_ic v fun _ => y) (fun q _ => Nat.rec (ev_pc v y) (fun q _ => Nat.rec (ev_ic v fun x => ev_bc (Nat.blt (ev_bits x) 2) y none) (fun _ _ => ev_jc v fun _ => y) q) q) q
noncomputable def ev_ptf (p ci kf q : Nat) : ev_O α := fun k L S w n => ev_lc S fun v S1 => ev_lc S1 fun u S' => ev_rc u fun a => ev_oc (ev_at w a) fun c => ev_bc (Nat.beq c.1 (ci + 3) && Nat.blt kf c.2.1) (ev_fit q v (k p L S' (ev_set w a (c.1, c.2.1, ev_set c.2.2 kf v)) n)) none
noncomputable def ev_nwa (p t : Nat) (v0 : Value) : ev_O α := fun k L S w n => ev_lc S fun v S' => ev_ic v fun i => ev_bc (Nat.blt (ev_bits i) 100000) (k p L (.ref (ev_len w) :: S') (w ++ [(t, ev_bits i, List.replicate (ev_bits i) v0)]) (n + ev_bits i)) none
noncomputable def ev_new (p ci N : Nat) (dv : List Value) : ev_O α := fun k L S w n => k p L (.ref (ev_len w) :: S) (w ++ [(ci + 3, N, dv)]) (n + N)
noncomputable def ev_gst (p a : Nat) : ev_O α := fun k L S w n => k p L (.ref a :: S) w n
noncomputable def ev_cst (p t : Nat) : ev_O α := fun k L S w n => ev_lc S fun v S' => ev_rc v fun a => ev_oc (ev_at w a) fun c => ev_bc (Nat.beq c.1 t) (k p L (v :: S') w n) none
noncomputable def ev_i2l (p : Nat) : ev_O α := fun k L S w n => ev_lc S fun v S' => ev_ic v fun x => k p L (.long x.toInt64 :: S') w n
noncomputable def ev_lcm (p : Nat) : ev_O α := fun k L S w n => ev_lc S fun v S1 => ev_lc S1 fun u S' => ev_jc v fun y => ev_jc u fun x => k p L (.int (lg_cmp x y) :: S') w n
/-- a switch from 0 on, within -/
noncomputable def ev_tsw (ts : List Nat) : ev_O α := fun k L S w n => ev_lc S fun v S' => ev_ic v fun x => ev_bc (Nat.blt (ev_bits x) 100) (ev_oc (ev_at ts (ev_bits x)) fun t => k t L S' w n) none
noncomputable def ev_obj (p : Nat) : ev_O α := fun k L S w n => ev_lc S fun v S' => ev_rc v fun _ => ev_bc (Nat.ble (ev_len S') 4) (k p L S' w n) none
variable (cf : Nat → List Value → ev_W → Option ev_R)
noncomputable def ev_inv (p cal na : Nat) : ev_O α := fun k L S w n => ev_pop na S [] fun as S' => ev_bc (Nat.ble (ev_len S') 4) (ev_oc (cf cal as w) fun q => k p L (ev_push q.1 S') q.2.1 (n + q.2.2)) none
/-- as ev_inv, the deepest argument a cell -/
noncomputable def ev_ini (p cal na : Nat) : ev_O α := fun k L S w n => ev_pop na S [] fun as S' => ev_lc as fun v _ => ev_rc v fun _ => ev_bc (Nat.ble (ev_len S') 4) (ev_oc (cf cal as w) fun q => k p L (ev_push q.1 S') q.2.1 (n + q.2.2)) none
/-- a call of a receiver of the class ci -/
noncomputable def ev_inr (p cal na ci : Nat) : ev_O α := fun k L S w n => ev_pop na S [] fun as S' => ev_lc as fun v _ => ev_rc v fun a => ev_oc (ev_at w a) fun c => ev_bc (Nat.beq c.1 (ci + 3) && Nat.ble (ev_len S') 4) (ev_oc (cf cal as w) fun q => k p L (ev_push q.1 S') q.2.1 (n + q.2.2)) none
variable (fin : Option Value → ev_W → Nat → Option α)
/-- the returns: of an int; of a boolean; of a reference or null; of nothing -/
noncomputable def ev_rti : ev_O α := fun _ _ S w n => ev_lc S fun v S' => ev_ic v fun x => List.rec (fin (some (.int x)) w n) (fun _ _ _ => none) S'
noncomputable def ev_rtz : ev_O α := fun _ _ S w n => ev_lc S fun v S' => ev_ic v fun x => ev_bc (Nat.blt (ev_bits x) 2) (List.rec (fin (some (.int x)) w n) (fun _ _ _ => none) S') none
noncomputable def ev_rta : ev_O α := fun _ _ S w n => ev_lc S fun v S' => ev_pc v (List.rec (fin (some v) w n) (fun _ _ _ => none) S')
noncomputable def ev_rtv : ev_O α := fun _ _ S w n => List.rec (fin none w n) (fun _ _ _ => none) S
/-- each value null, or a cell that is an int[] or of the kind rt -/
noncomputable def ev_el (w : ev_W) (rt : Nat) (vs : List Value) (y : Option α) : Option α := List.rec y (fun v _ ih => ev_rn v fun b => Nat.rec ih (fun b _ => ev_oc (ev_at w b) fun d => ev_bc (Nat.beq d.1 0 || Nat.beq d.1 rt) ih none) b) vs
/-- Arrays.copyOf of an Object[], to no smaller length: the whole method -/
noncomputable def ev_cpy (rt : Nat) : ev_O α := fun _ L S w n => ev_oc (ev_at L 0) fun u => ev_oc (ev_at L 1) fun v => ev_rc u fun a => ev_ic v fun i => ev_oc (ev_at w a) fun c => ev_bc (Nat.beq c.1 2 && (Nat.ble c.2.1 (ev_bits i) && Nat.blt (ev_bits i) 100000)) (ev_el w rt c.2.2 (List.rec (fin (some (.ref (ev_len w))) (w ++ [(2, ev_bits i, c.2.2 ++ List.replicate (ev_bits i - c.2.1) .null)]) (n + ev_bits i)) (fun _ _ _ => none) S)) none
end EV
/-- f steps at most -/
noncomputable def ev_run {α : Type} (tb : List (List (ev_O α))) (stop : ev_G α) (f : Nat) : ev_G α :=
  Nat.rec (motive := fun _ => ev_G α) stop (fun _ ih pc L S w n => ev_oc (ev_oc (ev_at tb (pc / 16)) fun c => ev_at c (pc % 16)) fun o => o ih L S w n) f
/-- every word is one wide -/
noncomputable def ev_cat {α : Type} (vs : List Value) (y : Option α) : Option α := List.rec y (fun v _ ih => ev_c1 v ih) vs
/-- a method's row of the table: how many arguments, the other locals, its operations -/
abbrev ev_Y : Type := Nat × List Value × List (List (ev_O ev_R))
noncomputable def ev_go (M : ev_Y) (vs : List Value) (w : ev_W) : Option ev_R := ev_bc (Nat.beq (ev_len vs) M.1) (ev_cat vs (ev_run M.2.2 (fun _ _ _ _ _ => none) 100000 0 (vs ++ M.2.1) [] w 0)) none
