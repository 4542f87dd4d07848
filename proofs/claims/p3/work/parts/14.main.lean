theorem ev_mo1 {cf : Nat → List Value → ev_W → Option ev_R} {α : Type} {r : α} {fin : Option Value → ev_W → Nat → Option α} {wE nE : Nat} (hcm : ev_cm cf) (hfm : ∀ v w n, fin v w n = some r → w.length = wE ∧ n = nE) : ev_all2 (ev_ok (ev_Pm wE nE) r) 0 (ev_o1 cf fin) :=
  ev_b (
   ev_a (mo_cpy hfm) <|
   ev_a (mo_no) <|
   ev_a (mo_no) <|
   ev_a (mo_no) <|
   ev_a (mo_no) <|
   ev_a (mo_no) <|
   ev_a (mo_no) <|
   ev_a (mo_no) <|
   ev_a (mo_no) <|
   ev_a (mo_no) <| ev_a0) <|
  ev_b0
theorem ev_mo2 {cf : Nat → List Value → ev_W → Option ev_R} {α : Type} {r : α} {fin : Option Value → ev_W → Nat → Option α} {wE nE : Nat} (hcm : ev_cm cf) (hfm : ∀ v w n, fin v w n = some r → w.length = wE ∧ n = nE) : ev_all2 (ev_ok (ev_Pm wE nE) r) 0 (ev_o2 cf fin) :=
  ev_b (
   ev_a (mo_ild) <|
   ev_a (mo_ild) <|
   ev_a (mo_ild) <|
   ev_a (mo_mx) <|
   ev_a (mo_no) <|
   ev_a (mo_no) <|
   ev_a (mo_bin) <|
   ev_a (mo_ist) <|
   ev_a (mo_psh) <|
   ev_a (mo_ild) <|
   ev_a (mo_cmp) <|
   ev_a (mo_no) <|
   ev_a (mo_no) <|
   ev_a (mo_ild) <|
   ev_a (mo_psh) <|
   ev_a (mo_no) <| ev_a0) <|
  ev_b (
   ev_a (mo_cmp) <|
   ev_a (mo_no) <|
   ev_a (mo_no) <|
   ev_a (mo_ild) <|
   ev_a (mo_rti hfm) <|
   ev_a (mo_ild) <|
   ev_a (mo_ild) <|
   ev_a (mo_no) <|
   ev_a (mo_no) <|
   ev_a (mo_no) <|
   ev_a (mo_rti hfm) <| ev_a0) <|
  ev_b0
theorem ev_mo3 {cf : Nat → List Value → ev_W → Option ev_R} {α : Type} {r : α} {fin : Option Value → ev_W → Nat → Option α} {wE nE : Nat} (hcm : ev_cm cf) (hfm : ∀ v w n, fin v w n = some r → w.length = wE ∧ n = nE) : ev_all2 (ev_ok (ev_Pm wE nE) r) 0 (ev_o3 cf fin) :=
  ev_b (
   ev_a (mo_ald) <|
   ev_a (mo_get) <|
   ev_a (mo_no) <|
   ev_a (mo_no) <|
   ev_a (mo_get) <|
   ev_a (mo_no) <|
   ev_a (mo_no) <|
   ev_a (mo_ald) <|
   ev_a (mo_get) <|
   ev_a (mo_no) <|
   ev_a (mo_no) <|
   ev_a (mo_cmp) <|
   ev_a (mo_no) <|
   ev_a (mo_no) <|
   ev_a (mo_no) <|
   ev_a (mo_no) <| ev_a0) <|
  ev_b (
   ev_a (mo_no) <|
   ev_a (mo_dup) <|
   ev_a (mo_no) <|
   ev_a (mo_no) <|
   ev_a (mo_no) <|
   ev_a (mo_no) <|
   ev_a (mo_rtv hfm) <| ev_a0) <|
  ev_b0
theorem ev_mo4 {cf : Nat → List Value → ev_W → Option ev_R} {α : Type} {r : α} {fin : Option Value → ev_W → Nat → Option α} {wE nE : Nat} (hcm : ev_cm cf) (hfm : ∀ v w n, fin v w n = some r → w.length = wE ∧ n = nE) : ev_all2 (ev_ok (ev_Pm wE nE) r) 0 (ev_o4 cf fin) :=
  ev_b (
   ev_a (mo_ald) <|
   ev_a (mo_get) <|
   ev_a (mo_no) <|
   ev_a (mo_no) <|
   ev_a (mo_ald) <|
   ev_a (mo_get) <|
   ev_a (mo_no) <|
   ev_a (mo_no) <|
   ev_a (mo_get) <|
   ev_a (mo_no) <|
   ev_a (mo_no) <|
   ev_a (mo_cmp) <|
   ev_a (mo_no) <|
   ev_a (mo_no) <|
   ev_a (mo_psh) <|
   ev_a (mo_jmp) <| ev_a0) <|
  ev_b (
   ev_a (mo_no) <|
   ev_a (mo_no) <|
   ev_a (mo_psh) <|
   ev_a (mo_rtz hfm) <| ev_a0) <|
  ev_b0
theorem ev_mo5 {cf : Nat → List Value → ev_W → Option ev_R} {α : Type} {r : α} {fin : Option Value → ev_W → Nat → Option α} {wE nE : Nat} (hcm : ev_cm cf) (hfm : ∀ v w n, fin v w n = some r → w.length = wE ∧ n = nE) : ev_all2 (ev_ok (ev_Pm wE nE) r) 0 (ev_o5 cf fin) :=
  ev_b (
   ev_a (mo_ald) <|
   ev_a (mo_ald) <|
   ev_a (mo_ptf) <|
   ev_a (mo_no) <|
   ev_a (mo_no) <|
   ev_a (mo_ald) <|
   ev_a (mo_obj) <|
   ev_a (mo_no) <|
   ev_a (mo_no) <|
   ev_a (mo_ald) <|
   ev_a (mo_psh) <|
   ev_a (mo_ptf) <|
   ev_a (mo_no) <|
   ev_a (mo_no) <|
   ev_a (mo_ald) <|
   ev_a (mo_ald) <| ev_a0) <|
  ev_b (
   ev_a (mo_get) <|
   ev_a (mo_no) <|
   ev_a (mo_no) <|
   ev_a (mo_get) <|
   ev_a (mo_no) <|
   ev_a (mo_no) <|
   ev_a (mo_ptf) <|
   ev_a (mo_no) <|
   ev_a (mo_no) <|
   ev_a (mo_rtv hfm) <| ev_a0) <|
  ev_b0
theorem ev_mo6 {cf : Nat → List Value → ev_W → Option ev_R} {α : Type} {r : α} {fin : Option Value → ev_W → Nat → Option α} {wE nE : Nat} (hcm : ev_cm cf) (hfm : ∀ v w n, fin v w n = some r → w.length = wE ∧ n = nE) : ev_all2 (ev_ok (ev_Pm wE nE) r) 0 (ev_o6 cf fin) :=
  ev_b (
   ev_a (mo_ald) <|
   ev_a (mo_inr hcm) <|
   ev_a (mo_no) <|
   ev_a (mo_no) <|
   ev_a (mo_ald) <|
   ev_a (mo_get) <|
   ev_a (mo_no) <|
   ev_a (mo_no) <|
   ev_a (mo_ist) <|
   ev_a (mo_ild) <|
   ev_a (mo_ald) <|
   ev_a (mo_get) <|
   ev_a (mo_no) <|
   ev_a (mo_no) <|
   ev_a (mo_get) <|
   ev_a (mo_no) <| ev_a0) <|
  ev_b (
   ev_a (mo_no) <|
   ev_a (mo_cmp) <|
   ev_a (mo_no) <|
   ev_a (mo_no) <|
   ev_a (mo_no) <|
   ev_a (mo_no) <|
   ev_a (mo_no) <|
   ev_a (mo_dup) <|
   ev_a (mo_no) <|
   ev_a (mo_no) <|
   ev_a (mo_no) <|
   ev_a (mo_no) <|
   ev_a (mo_ald) <|
   ev_a (mo_get) <|
   ev_a (mo_no) <|
   ev_a (mo_no) <| ev_a0) <|
  ev_b (
   ev_a (mo_get) <|
   ev_a (mo_no) <|
   ev_a (mo_no) <|
   ev_a (mo_ast) <|
   ev_a (mo_ild) <|
   ev_a (mo_ald) <|
   ev_a (mo_aln) <|
   ev_a (mo_cmp) <|
   ev_a (mo_no) <|
   ev_a (mo_no) <|
   ev_a (mo_no) <|
   ev_a (mo_no) <|
   ev_a (mo_no) <|
   ev_a (mo_dup) <|
   ev_a (mo_no) <|
   ev_a (mo_no) <| ev_a0) <|
  ev_b (
   ev_a (mo_no) <|
   ev_a (mo_no) <|
   ev_a (mo_ald) <|
   ev_a (mo_ild) <|
   ev_a (mo_psh) <|
   ev_a (mo_bin) <|
   ev_a (mo_ptf) <|
   ev_a (mo_no) <|
   ev_a (mo_no) <|
   ev_a (mo_ald) <|
   ev_a (mo_ald) <|
   ev_a (mo_ild) <|
   ev_a (mo_dx1) <|
   ev_a (mo_ptf) <|
   ev_a (mo_no) <|
   ev_a (mo_no) <| ev_a0) <|
  ev_b (
   ev_a (mo_ldq) <|
   ev_a (mo_rta hfm) <| ev_a0) <|
  ev_b0
theorem ev_mo7 {cf : Nat → List Value → ev_W → Option ev_R} {α : Type} {r : α} {fin : Option Value → ev_W → Nat → Option α} {wE nE : Nat} (hcm : ev_cm cf) (hfm : ∀ v w n, fin v w n = some r → w.length = wE ∧ n = nE) : ev_all2 (ev_ok (ev_Pm wE nE) r) 0 (ev_o7 cf fin) :=
  ev_b (
   ev_a (mo_ild) <|
   ev_a (mo_ald) <|
   ev_a (mo_aln) <|
   ev_a (mo_cmp) <|
   ev_a (mo_no) <|
   ev_a (mo_no) <|
   ev_a (mo_ald) <|
   ev_a (mo_inr hcm) <|
   ev_a (mo_no) <|
   ev_a (mo_no) <|
   ev_a (mo_ast) <|
   ev_a (mo_ald) <|
   ev_a (mo_ild) <|
   ev_a (mo_ald) <|
   ev_a (mo_stq) <|
   ev_a (mo_ald) <| ev_a0) <|
  ev_b (
   ev_a (mo_ild) <|
   ev_a (mo_psh) <|
   ev_a (mo_bin) <|
   ev_a (mo_ptf) <|
   ev_a (mo_no) <|
   ev_a (mo_no) <|
   ev_a (mo_rtv hfm) <| ev_a0) <|
  ev_b0
theorem ev_mo8 {cf : Nat → List Value → ev_W → Option ev_R} {α : Type} {r : α} {fin : Option Value → ev_W → Nat → Option α} {wE nE : Nat} (hcm : ev_cm cf) (hfm : ∀ v w n, fin v w n = some r → w.length = wE ∧ n = nE) : ev_all2 (ev_ok (ev_Pm wE nE) r) 0 (ev_o8 cf fin) :=
  ev_b (
   ev_a (mo_ald) <|
   ev_a (mo_dup) <|
   ev_a (mo_get) <|
   ev_a (mo_no) <|
   ev_a (mo_no) <|
   ev_a (mo_psh) <|
   ev_a (mo_bin) <|
   ev_a (mo_ptf) <|
   ev_a (mo_no) <|
   ev_a (mo_no) <|
   ev_a (mo_ald) <|
   ev_a (mo_ald) <|
   ev_a (mo_ald) <|
   ev_a (mo_get) <|
   ev_a (mo_no) <|
   ev_a (mo_no) <| ev_a0) <|
  ev_b (
   ev_a (mo_ald) <|
   ev_a (mo_get) <|
   ev_a (mo_no) <|
   ev_a (mo_no) <|
   ev_a (mo_inr hcm) <|
   ev_a (mo_no) <|
   ev_a (mo_no) <|
   ev_a (mo_psh) <|
   ev_a (mo_rtz hfm) <| ev_a0) <|
  ev_b0
theorem ev_mo9 {cf : Nat → List Value → ev_W → Option ev_R} {α : Type} {r : α} {fin : Option Value → ev_W → Nat → Option α} {wE nE : Nat} (hcm : ev_cm cf) (hfm : ∀ v w n, fin v w n = some r → w.length = wE ∧ n = nE) : ev_all2 (ev_ok (ev_Pm wE nE) r) 0 (ev_o9 cf fin) :=
  ev_b (
   ev_a (mo_ald) <|
   ev_a (mo_dup) <|
   ev_a (mo_get) <|
   ev_a (mo_no) <|
   ev_a (mo_no) <|
   ev_a (mo_psh) <|
   ev_a (mo_bin) <|
   ev_a (mo_ptf) <|
   ev_a (mo_no) <|
   ev_a (mo_no) <|
   ev_a (mo_ald) <|
   ev_a (mo_get) <|
   ev_a (mo_no) <|
   ev_a (mo_no) <|
   ev_a (mo_ast) <|
   ev_a (mo_ald) <| ev_a0) <|
  ev_b (
   ev_a (mo_get) <|
   ev_a (mo_no) <|
   ev_a (mo_no) <|
   ev_a (mo_ist) <|
   ev_a (mo_ald) <|
   ev_a (mo_psh) <|
   ev_a (mo_dx1) <|
   ev_a (mo_ptf) <|
   ev_a (mo_no) <|
   ev_a (mo_no) <|
   ev_a (mo_ist) <|
   ev_a (mo_ild) <|
   ev_a (mo_ild) <|
   ev_a (mo_cmp) <|
   ev_a (mo_no) <|
   ev_a (mo_no) <| ev_a0) <|
  ev_b (
   ev_a (mo_ald) <|
   ev_a (mo_ild) <|
   ev_a (mo_psh) <|
   ev_a (mo_stq) <|
   ev_a (mo_inc) <|
   ev_a (mo_no) <|
   ev_a (mo_no) <|
   ev_a (mo_jmp) <|
   ev_a (mo_no) <|
   ev_a (mo_no) <|
   ev_a (mo_rtv hfm) <| ev_a0) <|
  ev_b0
theorem ev_mo10 {cf : Nat → List Value → ev_W → Option ev_R} {α : Type} {r : α} {fin : Option Value → ev_W → Nat → Option α} {wE nE : Nat} (hcm : ev_cm cf) (hfm : ∀ v w n, fin v w n = some r → w.length = wE ∧ n = nE) : ev_all2 (ev_ok (ev_Pm wE nE) r) 0 (ev_o10 cf fin) :=
  ev_b (
   ev_a (mo_ald) <|
   ev_a (mo_get) <|
   ev_a (mo_no) <|
   ev_a (mo_no) <|
   ev_a (mo_aln) <|
   ev_a (mo_ist) <|
   ev_a (mo_ild) <|
   ev_a (mo_cm0) <|
   ev_a (mo_no) <|
   ev_a (mo_no) <|
   ev_a (mo_ald) <|
   ev_a (mo_get) <|
   ev_a (mo_no) <|
   ev_a (mo_no) <|
   ev_a (mo_gst) <|
   ev_a (mo_no) <| ev_a0) <|
  ev_b (
   ev_a (mo_no) <|
   ev_a (mo_acm) <|
   ev_a (mo_no) <|
   ev_a (mo_no) <|
   ev_a (mo_ild) <|
   ev_a (mo_ild) <|
   ev_a (mo_ild) <|
   ev_a (mo_bin) <|
   ev_a (mo_ild) <|
   ev_a (mo_psh) <|
   ev_a (mo_bin) <|
   ev_a (mo_inv hcm) <|
   ev_a (mo_no) <|
   ev_a (mo_no) <|
   ev_a (mo_ist) <|
   ev_a (mo_ald) <| ev_a0) <|
  ev_b (
   ev_a (mo_ald) <|
   ev_a (mo_get) <|
   ev_a (mo_no) <|
   ev_a (mo_no) <|
   ev_a (mo_ild) <|
   ev_a (mo_inv hcm) <|
   ev_a (mo_no) <|
   ev_a (mo_no) <|
   ev_a (mo_dx1) <|
   ev_a (mo_ptf) <|
   ev_a (mo_no) <|
   ev_a (mo_no) <|
   ev_a (mo_rta hfm) <|
   ev_a (mo_ald) <|
   ev_a (mo_psh) <|
   ev_a (mo_no) <| ev_a0) <|
  ev_b (
   ev_a (mo_ild) <|
   ev_a (mo_mx) <|
   ev_a (mo_no) <|
   ev_a (mo_no) <|
   ev_a (mo_nwa) <|
   ev_a (mo_no) <|
   ev_a (mo_no) <|
   ev_a (mo_dx1) <|
   ev_a (mo_ptf) <|
   ev_a (mo_no) <|
   ev_a (mo_no) <|
   ev_a (mo_rta hfm) <| ev_a0) <|
  ev_b0
theorem ev_mo11 {cf : Nat → List Value → ev_W → Option ev_R} {α : Type} {r : α} {fin : Option Value → ev_W → Nat → Option α} {wE nE : Nat} (hcm : ev_cm cf) (hfm : ∀ v w n, fin v w n = some r → w.length = wE ∧ n = nE) : ev_all2 (ev_ok (ev_Pm wE nE) r) 0 (ev_o11 cf fin) :=
  ev_b (
   ev_a (mo_ald) <|
   ev_a (mo_ald) <|
   ev_a (mo_get) <|
   ev_a (mo_no) <|
   ev_a (mo_no) <|
   ev_a (mo_psh) <|
   ev_a (mo_bin) <|
   ev_a (mo_inr hcm) <|
   ev_a (mo_no) <|
   ev_a (mo_no) <|
   ev_a (mo_rta hfm) <| ev_a0) <|
  ev_b0
theorem ev_mo12 {cf : Nat → List Value → ev_W → Option ev_R} {α : Type} {r : α} {fin : Option Value → ev_W → Nat → Option α} {wE nE : Nat} (hcm : ev_cm cf) (hfm : ∀ v w n, fin v w n = some r → w.length = wE ∧ n = nE) : ev_all2 (ev_ok (ev_Pm wE nE) r) 0 (ev_o12 cf fin) :=
  ev_b (
   ev_a (mo_ald) <|
   ev_a (mo_ini hcm) <|
   ev_a (mo_no) <|
   ev_a (mo_no) <|
   ev_a (mo_ald) <|
   ev_a (mo_gst) <|
   ev_a (mo_no) <|
   ev_a (mo_no) <|
   ev_a (mo_ptf) <|
   ev_a (mo_no) <|
   ev_a (mo_no) <|
   ev_a (mo_rtv hfm) <| ev_a0) <|
  ev_b0
theorem ev_mo13 {cf : Nat → List Value → ev_W → Option ev_R} {α : Type} {r : α} {fin : Option Value → ev_W → Nat → Option α} {wE nE : Nat} (hcm : ev_cm cf) (hfm : ∀ v w n, fin v w n = some r → w.length = wE ∧ n = nE) : ev_all2 (ev_ok (ev_Pm wE nE) r) 0 (ev_o13 cf fin) :=
  ev_b (
   ev_a (mo_new) <|
   ev_a (mo_no) <|
   ev_a (mo_no) <|
   ev_a (mo_dup) <|
   ev_a (mo_ald) <|
   ev_a (mo_ini hcm) <|
   ev_a (mo_no) <|
   ev_a (mo_no) <|
   ev_a (mo_rta hfm) <| ev_a0) <|
  ev_b0
theorem ev_mo14 {cf : Nat → List Value → ev_W → Option ev_R} {α : Type} {r : α} {fin : Option Value → ev_W → Nat → Option α} {wE nE : Nat} (hcm : ev_cm cf) (hfm : ∀ v w n, fin v w n = some r → w.length = wE ∧ n = nE) : ev_all2 (ev_ok (ev_Pm wE nE) r) 0 (ev_o14 cf fin) :=
  ev_b (
   ev_a (mo_ald) <|
   ev_a (mo_get) <|
   ev_a (mo_no) <|
   ev_a (mo_no) <|
   ev_a (mo_rti hfm) <| ev_a0) <|
  ev_b0
theorem ev_mo15 {cf : Nat → List Value → ev_W → Option ev_R} {α : Type} {r : α} {fin : Option Value → ev_W → Nat → Option α} {wE nE : Nat} (hcm : ev_cm cf) (hfm : ∀ v w n, fin v w n = some r → w.length = wE ∧ n = nE) : ev_all2 (ev_ok (ev_Pm wE nE) r) 0 (ev_o15 cf fin) :=
  ev_b (
   ev_a (mo_ald) <|
   ev_a (mo_obj) <|
   ev_a (mo_no) <|
   ev_a (mo_no) <|
   ev_a (mo_rtv hfm) <| ev_a0) <|
  ev_b0
theorem ev_mo16 {cf : Nat → List Value → ev_W → Option ev_R} {α : Type} {r : α} {fin : Option Value → ev_W → Nat → Option α} {wE nE : Nat} (hcm : ev_cm cf) (hfm : ∀ v w n, fin v w n = some r → w.length = wE ∧ n = nE) : ev_all2 (ev_ok (ev_Pm wE nE) r) 0 (ev_o16 cf fin) :=
  ev_b (
   ev_a (mo_ald) <|
   ev_a (mo_ini hcm) <|
   ev_a (mo_no) <|
   ev_a (mo_no) <|
   ev_a (mo_ald) <|
   ev_a (mo_psh) <|
   ev_a (mo_ptf) <|
   ev_a (mo_no) <|
   ev_a (mo_no) <|
   ev_a (mo_rtv hfm) <| ev_a0) <|
  ev_b0
theorem ev_mo17 {cf : Nat → List Value → ev_W → Option ev_R} {α : Type} {r : α} {fin : Option Value → ev_W → Nat → Option α} {wE nE : Nat} (hcm : ev_cm cf) (hfm : ∀ v w n, fin v w n = some r → w.length = wE ∧ n = nE) : ev_all2 (ev_ok (ev_Pm wE nE) r) 0 (ev_o17 cf fin) :=
  ev_b (
   ev_a (mo_ald) <|
   ev_a (mo_ald) <|
   ev_a (mo_inr hcm) <|
   ev_a (mo_no) <|
   ev_a (mo_no) <|
   ev_a (mo_i2l) <|
   ev_a (mo_ptf) <|
   ev_a (mo_no) <|
   ev_a (mo_no) <|
   ev_a (mo_jmp) <|
   ev_a (mo_no) <|
   ev_a (mo_no) <|
   ev_a (mo_ast) <|
   ev_a (mo_psh) <|
   ev_a (mo_rti hfm) <|
   ev_a (mo_psh) <| ev_a0) <|
  ev_b (
   ev_a (mo_rti hfm) <| ev_a0) <|
  ev_b0
theorem ev_mo19 {cf : Nat → List Value → ev_W → Option ev_R} {α : Type} {r : α} {fin : Option Value → ev_W → Nat → Option α} {wE nE : Nat} (hcm : ev_cm cf) (hfm : ∀ v w n, fin v w n = some r → w.length = wE ∧ n = nE) : ev_all2 (ev_ok (ev_Pm wE nE) r) 0 (ev_o19 cf fin) :=
  ev_b (
   ev_a (mo_ald) <|
   ev_a (mo_ald) <|
   ev_a (mo_ild) <|
   ev_a (mo_ild) <|
   ev_a (mo_inr hcm) <|
   ev_a (mo_no) <|
   ev_a (mo_no) <|
   ev_a (mo_i2l) <|
   ev_a (mo_ptf) <|
   ev_a (mo_no) <|
   ev_a (mo_no) <|
   ev_a (mo_jmp) <|
   ev_a (mo_no) <|
   ev_a (mo_no) <|
   ev_a (mo_ast) <|
   ev_a (mo_no) <| ev_a0) <|
  ev_b (
   ev_a (mo_psh) <|
   ev_a (mo_rti hfm) <|
   ev_a (mo_ast) <|
   ev_a (mo_no) <|
   ev_a (mo_psh) <|
   ev_a (mo_rti hfm) <|
   ev_a (mo_psh) <|
   ev_a (mo_rti hfm) <| ev_a0) <|
  ev_b0
theorem ev_mo20 {cf : Nat → List Value → ev_W → Option ev_R} {α : Type} {r : α} {fin : Option Value → ev_W → Nat → Option α} {wE nE : Nat} (hcm : ev_cm cf) (hfm : ∀ v w n, fin v w n = some r → w.length = wE ∧ n = nE) : ev_all2 (ev_ok (ev_Pm wE nE) r) 0 (ev_o20 cf fin) :=
  ev_b (
   ev_a (mo_ald) <|
   ev_a (mo_ald) <|
   ev_a (mo_ild) <|
   ev_a (mo_inr hcm) <|
   ev_a (mo_no) <|
   ev_a (mo_no) <|
   ev_a (mo_i2l) <|
   ev_a (mo_ptf) <|
   ev_a (mo_no) <|
   ev_a (mo_no) <|
   ev_a (mo_jmp) <|
   ev_a (mo_no) <|
   ev_a (mo_no) <|
   ev_a (mo_ast) <|
   ev_a (mo_psh) <|
   ev_a (mo_rti hfm) <| ev_a0) <|
  ev_b (
   ev_a (mo_ast) <|
   ev_a (mo_psh) <|
   ev_a (mo_rti hfm) <|
   ev_a (mo_psh) <|
   ev_a (mo_rti hfm) <| ev_a0) <|
  ev_b0
theorem ev_mo21 {cf : Nat → List Value → ev_W → Option ev_R} {α : Type} {r : α} {fin : Option Value → ev_W → Nat → Option α} {wE nE : Nat} (hcm : ev_cm cf) (hfm : ∀ v w n, fin v w n = some r → w.length = wE ∧ n = nE) : ev_all2 (ev_ok (ev_Pm wE nE) r) 0 (ev_o21 cf fin) :=
  ev_b (
   ev_a (mo_ald) <|
   ev_a (mo_get) <|
   ev_a (mo_no) <|
   ev_a (mo_no) <|
   ev_a (mo_ald) <|
   ev_a (mo_get) <|
   ev_a (mo_no) <|
   ev_a (mo_no) <|
   ev_a (mo_ild) <|
   ev_a (mo_inv hcm) <|
   ev_a (mo_no) <|
   ev_a (mo_no) <|
   ev_a (mo_ald) <|
   ev_a (mo_get) <|
   ev_a (mo_no) <|
   ev_a (mo_no) <| ev_a0) <|
  ev_b (
   ev_a (mo_ald) <|
   ev_a (mo_get) <|
   ev_a (mo_no) <|
   ev_a (mo_no) <|
   ev_a (mo_ild) <|
   ev_a (mo_inv hcm) <|
   ev_a (mo_no) <|
   ev_a (mo_no) <|
   ev_a (mo_ald) <|
   ev_a (mo_dup) <|
   ev_a (mo_get) <|
   ev_a (mo_no) <|
   ev_a (mo_no) <|
   ev_a (mo_psh) <|
   ev_a (mo_bin) <|
   ev_a (mo_ptf) <| ev_a0) <|
  ev_b (
   ev_a (mo_no) <|
   ev_a (mo_no) <|
   ev_a (mo_ald) <|
   ev_a (mo_get) <|
   ev_a (mo_no) <|
   ev_a (mo_no) <|
   ev_a (mo_rti hfm) <| ev_a0) <|
  ev_b0
theorem ev_mo22 {cf : Nat → List Value → ev_W → Option ev_R} {α : Type} {r : α} {fin : Option Value → ev_W → Nat → Option α} {wE nE : Nat} (hcm : ev_cm cf) (hfm : ∀ v w n, fin v w n = some r → w.length = wE ∧ n = nE) : ev_all2 (ev_ok (ev_Pm wE nE) r) 0 (ev_o22 cf fin) :=
  ev_b (
   ev_a (mo_ald) <|
   ev_a (mo_get) <|
   ev_a (mo_no) <|
   ev_a (mo_no) <|
   ev_a (mo_ist) <|
   ev_a (mo_ald) <|
   ev_a (mo_psh) <|
   ev_a (mo_ptf) <|
   ev_a (mo_no) <|
   ev_a (mo_no) <|
   ev_a (mo_ild) <|
   ev_a (mo_rti hfm) <| ev_a0) <|
  ev_b0
theorem ev_mo23 {cf : Nat → List Value → ev_W → Option ev_R} {α : Type} {r : α} {fin : Option Value → ev_W → Nat → Option α} {wE nE : Nat} (hcm : ev_cm cf) (hfm : ∀ v w n, fin v w n = some r → w.length = wE ∧ n = nE) : ev_all2 (ev_ok (ev_Pm wE nE) r) 0 (ev_o23 cf fin) :=
  ev_b (
   ev_a (mo_ald) <|
   ev_a (mo_obj) <|
   ev_a (mo_no) <|
   ev_a (mo_no) <|
   ev_a (mo_ald) <|
   ev_a (mo_psh) <|
   ev_a (mo_no) <|
   ev_a (mo_nwa) <|
   ev_a (mo_no) <|
   ev_a (mo_ptf) <|
   ev_a (mo_no) <|
   ev_a (mo_no) <|
   ev_a (mo_ald) <|
   ev_a (mo_psh) <|
   ev_a (mo_no) <|
   ev_a (mo_nwa) <| ev_a0) <|
  ev_b (
   ev_a (mo_no) <|
   ev_a (mo_ptf) <|
   ev_a (mo_no) <|
   ev_a (mo_no) <|
   ev_a (mo_rtv hfm) <| ev_a0) <|
  ev_b0
theorem ev_mo24 {cf : Nat → List Value → ev_W → Option ev_R} {α : Type} {r : α} {fin : Option Value → ev_W → Nat → Option α} {wE nE : Nat} (hcm : ev_cm cf) (hfm : ∀ v w n, fin v w n = some r → w.length = wE ∧ n = nE) : ev_all2 (ev_ok (ev_Pm wE nE) r) 0 (ev_o24 cf fin) :=
  ev_b (
   ev_a (mo_ild) <|
   ev_a (mo_cm0) <|
   ev_a (mo_no) <|
   ev_a (mo_no) <|
   ev_a (mo_ild) <|
   ev_a (mo_ald) <|
   ev_a (mo_aln) <|
   ev_a (mo_cmp) <|
   ev_a (mo_no) <|
   ev_a (mo_no) <|
   ev_a (mo_ald) <|
   ev_a (mo_ild) <|
   ev_a (mo_ldi) <|
   ev_a (mo_jmp) <|
   ev_a (mo_no) <|
   ev_a (mo_no) <| ev_a0) <|
  ev_b (
   ev_a (mo_ild) <|
   ev_a (mo_rti hfm) <| ev_a0) <|
  ev_b0
theorem ev_mo25 {cf : Nat → List Value → ev_W → Option ev_R} {α : Type} {r : α} {fin : Option Value → ev_W → Nat → Option α} {wE nE : Nat} (hcm : ev_cm cf) (hfm : ∀ v w n, fin v w n = some r → w.length = wE ∧ n = nE) : ev_all2 (ev_ok (ev_Pm wE nE) r) 0 (ev_o25 cf fin) :=
  ev_b (
   ev_a (mo_ald) <|
   ev_a (mo_inr hcm) <|
   ev_a (mo_no) <|
   ev_a (mo_no) <|
   ev_a (mo_ald) <|
   ev_a (mo_get) <|
   ev_a (mo_no) <|
   ev_a (mo_no) <|
   ev_a (mo_ald) <|
   ev_a (mo_get) <|
   ev_a (mo_no) <|
   ev_a (mo_no) <|
   ev_a (mo_inr hcm) <|
   ev_a (mo_no) <|
   ev_a (mo_no) <|
   ev_a (mo_rti hfm) <| ev_a0) <|
  ev_b0
theorem ev_mo26 {cf : Nat → List Value → ev_W → Option ev_R} {α : Type} {r : α} {fin : Option Value → ev_W → Nat → Option α} {wE nE : Nat} (hcm : ev_cm cf) (hfm : ∀ v w n, fin v w n = some r → w.length = wE ∧ n = nE) : ev_all2 (ev_ok (ev_Pm wE nE) r) 0 (ev_o26 cf fin) :=
  ev_b (
   ev_a (mo_ald) <|
   ev_a (mo_get) <|
   ev_a (mo_no) <|
   ev_a (mo_no) <|
   ev_a (mo_get) <|
   ev_a (mo_no) <|
   ev_a (mo_no) <|
   ev_a (mo_psh) <|
   ev_a (mo_no) <|
   ev_a (mo_cmp) <|
   ev_a (mo_no) <|
   ev_a (mo_no) <|
   ev_a (mo_no) <|
   ev_a (mo_no) <|
   ev_a (mo_no) <|
   ev_a (mo_dup) <| ev_a0) <|
  ev_b (
   ev_a (mo_no) <|
   ev_a (mo_no) <|
   ev_a (mo_no) <|
   ev_a (mo_no) <|
   ev_a (mo_no) <|
   ev_a (mo_no) <|
   ev_a (mo_no) <|
   ev_a (mo_rtv hfm) <| ev_a0) <|
  ev_b0
theorem ev_mo27 {cf : Nat → List Value → ev_W → Option ev_R} {α : Type} {r : α} {fin : Option Value → ev_W → Nat → Option α} {wE nE : Nat} (hcm : ev_cm cf) (hfm : ∀ v w n, fin v w n = some r → w.length = wE ∧ n = nE) : ev_all2 (ev_ok (ev_Pm wE nE) r) 0 (ev_o27 cf fin) :=
  ev_b (
   ev_a (mo_ild) <|
   ev_a (mo_cm0) <|
   ev_a (mo_no) <|
   ev_a (mo_no) <|
   ev_a (mo_ild) <|
   ev_a (mo_psh) <|
   ev_a (mo_no) <|
   ev_a (mo_no) <|
   ev_a (mo_cmp) <|
   ev_a (mo_no) <|
   ev_a (mo_no) <|
   ev_a (mo_ild) <|
   ev_a (mo_psh) <|
   ev_a (mo_no) <|
   ev_a (mo_div) <|
   ev_a (mo_psh) <| ev_a0) <|
  ev_b (
   ev_a (mo_no) <|
   ev_a (mo_div) <|
   ev_a (mo_psh) <|
   ev_a (mo_no) <|
   ev_a (mo_cmp) <|
   ev_a (mo_no) <|
   ev_a (mo_no) <|
   ev_a (mo_ild) <|
   ev_a (mo_psh) <|
   ev_a (mo_no) <|
   ev_a (mo_div) <|
   ev_a (mo_psh) <|
   ev_a (mo_no) <|
   ev_a (mo_cmp) <|
   ev_a (mo_no) <|
   ev_a (mo_no) <| ev_a0) <|
  ev_b (
   ev_a (mo_no) <|
   ev_a (mo_no) <|
   ev_a (mo_no) <|
   ev_a (mo_dup) <|
   ev_a (mo_no) <|
   ev_a (mo_no) <|
   ev_a (mo_no) <|
   ev_a (mo_no) <|
   ev_a (mo_no) <|
   ev_a (mo_no) <|
   ev_a (mo_no) <|
   ev_a (mo_rtv hfm) <| ev_a0) <|
  ev_b0
theorem ev_mo28 {cf : Nat → List Value → ev_W → Option ev_R} {α : Type} {r : α} {fin : Option Value → ev_W → Nat → Option α} {wE nE : Nat} (hcm : ev_cm cf) (hfm : ∀ v w n, fin v w n = some r → w.length = wE ∧ n = nE) : ev_all2 (ev_ok (ev_Pm wE nE) r) 0 (ev_o28 cf fin) :=
  ev_b (
   ev_a (mo_ald) <|
   ev_a (mo_get) <|
   ev_a (mo_no) <|
   ev_a (mo_no) <|
   ev_a (mo_psh) <|
   ev_a (mo_no) <|
   ev_a (mo_cmp) <|
   ev_a (mo_no) <|
   ev_a (mo_no) <|
   ev_a (mo_no) <|
   ev_a (mo_no) <|
   ev_a (mo_no) <|
   ev_a (mo_dup) <|
   ev_a (mo_no) <|
   ev_a (mo_no) <|
   ev_a (mo_no) <| ev_a0) <|
  ev_b (
   ev_a (mo_no) <|
   ev_a (mo_no) <|
   ev_a (mo_no) <|
   ev_a (mo_ald) <|
   ev_a (mo_inr hcm) <|
   ev_a (mo_no) <|
   ev_a (mo_no) <|
   ev_a (mo_ald) <|
   ev_a (mo_get) <|
   ev_a (mo_no) <|
   ev_a (mo_no) <|
   ev_a (mo_get) <|
   ev_a (mo_no) <|
   ev_a (mo_no) <|
   ev_a (mo_psh) <|
   ev_a (mo_no) <| ev_a0) <|
  ev_b (
   ev_a (mo_cmp) <|
   ev_a (mo_no) <|
   ev_a (mo_no) <|
   ev_a (mo_no) <|
   ev_a (mo_no) <|
   ev_a (mo_no) <|
   ev_a (mo_dup) <|
   ev_a (mo_no) <|
   ev_a (mo_no) <|
   ev_a (mo_no) <|
   ev_a (mo_no) <|
   ev_a (mo_no) <|
   ev_a (mo_no) <|
   ev_a (mo_ald) <|
   ev_a (mo_get) <|
   ev_a (mo_no) <| ev_a0) <|
  ev_b (
   ev_a (mo_no) <|
   ev_a (mo_ald) <|
   ev_a (mo_get) <|
   ev_a (mo_no) <|
   ev_a (mo_no) <|
   ev_a (mo_inr hcm) <|
   ev_a (mo_no) <|
   ev_a (mo_no) <|
   ev_a (mo_cm0) <|
   ev_a (mo_no) <|
   ev_a (mo_no) <|
   ev_a (mo_no) <|
   ev_a (mo_no) <|
   ev_a (mo_no) <|
   ev_a (mo_dup) <|
   ev_a (mo_no) <| ev_a0) <|
  ev_b (
   ev_a (mo_no) <|
   ev_a (mo_no) <|
   ev_a (mo_no) <|
   ev_a (mo_no) <|
   ev_a (mo_no) <|
   ev_a (mo_ald) <|
   ev_a (mo_dup) <|
   ev_a (mo_get) <|
   ev_a (mo_no) <|
   ev_a (mo_no) <|
   ev_a (mo_psh) <|
   ev_a (mo_bin) <|
   ev_a (mo_ptf) <|
   ev_a (mo_no) <|
   ev_a (mo_no) <|
   ev_a (mo_ald) <| ev_a0) <|
  ev_b (
   ev_a (mo_get) <|
   ev_a (mo_no) <|
   ev_a (mo_no) <|
   ev_a (mo_ald) <|
   ev_a (mo_get) <|
   ev_a (mo_no) <|
   ev_a (mo_no) <|
   ev_a (mo_inr hcm) <|
   ev_a (mo_no) <|
   ev_a (mo_no) <|
   ev_a (mo_ald) <|
   ev_a (mo_get) <|
   ev_a (mo_no) <|
   ev_a (mo_no) <|
   ev_a (mo_inr hcm) <|
   ev_a (mo_no) <| ev_a0) <|
  ev_b (
   ev_a (mo_no) <|
   ev_a (mo_drop) <|
   ev_a (mo_ald) <|
   ev_a (mo_inr hcm) <|
   ev_a (mo_no) <|
   ev_a (mo_no) <|
   ev_a (mo_ald) <|
   ev_a (mo_get) <|
   ev_a (mo_no) <|
   ev_a (mo_no) <|
   ev_a (mo_rti hfm) <| ev_a0) <|
  ev_b0
theorem ev_mo29 {cf : Nat → List Value → ev_W → Option ev_R} {α : Type} {r : α} {fin : Option Value → ev_W → Nat → Option α} {wE nE : Nat} (hcm : ev_cm cf) (hfm : ∀ v w n, fin v w n = some r → w.length = wE ∧ n = nE) : ev_all2 (ev_ok (ev_Pm wE nE) r) 0 (ev_o29 cf fin) :=
  ev_b (
   ev_a (mo_psh) <|
   ev_a (mo_ist) <|
   ev_a (mo_ild) <|
   ev_a (mo_ild) <|
   ev_a (mo_cmp) <|
   ev_a (mo_no) <|
   ev_a (mo_no) <|
   ev_a (mo_ild) <|
   ev_a (mo_ald) <|
   ev_a (mo_aln) <|
   ev_a (mo_cmp) <|
   ev_a (mo_no) <|
   ev_a (mo_no) <|
   ev_a (mo_ild) <|
   ev_a (mo_ald) <|
   ev_a (mo_aln) <| ev_a0) <|
  ev_b (
   ev_a (mo_cmp) <|
   ev_a (mo_no) <|
   ev_a (mo_no) <|
   ev_a (mo_ald) <|
   ev_a (mo_ild) <|
   ev_a (mo_ald) <|
   ev_a (mo_ild) <|
   ev_a (mo_ldi) <|
   ev_a (mo_sti) <|
   ev_a (mo_inc) <|
   ev_a (mo_no) <|
   ev_a (mo_no) <|
   ev_a (mo_jmp) <|
   ev_a (mo_no) <|
   ev_a (mo_no) <|
   ev_a (mo_rtv hfm) <| ev_a0) <|
  ev_b0
theorem ev_mo30 {cf : Nat → List Value → ev_W → Option ev_R} {α : Type} {r : α} {fin : Option Value → ev_W → Nat → Option α} {wE nE : Nat} (hcm : ev_cm cf) (hfm : ∀ v w n, fin v w n = some r → w.length = wE ∧ n = nE) : ev_all2 (ev_ok (ev_Pm wE nE) r) 0 (ev_o30 cf fin) :=
  ev_b (
   ev_a (mo_psh) <|
   ev_a (mo_ist) <|
   ev_a (mo_ild) <|
   ev_a (mo_ald) <|
   ev_a (mo_aln) <|
   ev_a (mo_cmp) <|
   ev_a (mo_no) <|
   ev_a (mo_no) <|
   ev_a (mo_ald) <|
   ev_a (mo_ild) <|
   ev_a (mo_ild) <|
   ev_a (mo_sti) <|
   ev_a (mo_inc) <|
   ev_a (mo_no) <|
   ev_a (mo_no) <|
   ev_a (mo_jmp) <| ev_a0) <|
  ev_b (
   ev_a (mo_no) <|
   ev_a (mo_no) <|
   ev_a (mo_rtv hfm) <| ev_a0) <|
  ev_b0
theorem ev_mo31 {cf : Nat → List Value → ev_W → Option ev_R} {α : Type} {r : α} {fin : Option Value → ev_W → Nat → Option α} {wE nE : Nat} (hcm : ev_cm cf) (hfm : ∀ v w n, fin v w n = some r → w.length = wE ∧ n = nE) : ev_all2 (ev_ok (ev_Pm wE nE) r) 0 (ev_o31 cf fin) :=
  ev_b (
   ev_a (mo_ald) <|
   ev_a (mo_obj) <|
   ev_a (mo_no) <|
   ev_a (mo_no) <|
   ev_a (mo_ald) <|
   ev_a (mo_new) <|
   ev_a (mo_no) <|
   ev_a (mo_no) <|
   ev_a (mo_dup) <|
   ev_a (mo_ini hcm) <|
   ev_a (mo_no) <|
   ev_a (mo_no) <|
   ev_a (mo_ptf) <|
   ev_a (mo_no) <|
   ev_a (mo_no) <|
   ev_a (mo_ald) <| ev_a0) <|
  ev_b (
   ev_a (mo_new) <|
   ev_a (mo_no) <|
   ev_a (mo_no) <|
   ev_a (mo_dup) <|
   ev_a (mo_ini hcm) <|
   ev_a (mo_no) <|
   ev_a (mo_no) <|
   ev_a (mo_ptf) <|
   ev_a (mo_no) <|
   ev_a (mo_no) <|
   ev_a (mo_ald) <|
   ev_a (mo_new) <|
   ev_a (mo_no) <|
   ev_a (mo_no) <|
   ev_a (mo_dup) <|
   ev_a (mo_ini hcm) <| ev_a0) <|
  ev_b (
   ev_a (mo_no) <|
   ev_a (mo_no) <|
   ev_a (mo_ptf) <|
   ev_a (mo_no) <|
   ev_a (mo_no) <|
   ev_a (mo_ald) <|
   ev_a (mo_new) <|
   ev_a (mo_no) <|
   ev_a (mo_no) <|
   ev_a (mo_dup) <|
   ev_a (mo_ini hcm) <|
   ev_a (mo_no) <|
   ev_a (mo_no) <|
   ev_a (mo_ptf) <|
   ev_a (mo_no) <|
   ev_a (mo_no) <| ev_a0) <|
  ev_b (
   ev_a (mo_ald) <|
   ev_a (mo_new) <|
   ev_a (mo_no) <|
   ev_a (mo_no) <|
   ev_a (mo_dup) <|
   ev_a (mo_ini hcm) <|
   ev_a (mo_no) <|
   ev_a (mo_no) <|
   ev_a (mo_ptf) <|
   ev_a (mo_no) <|
   ev_a (mo_no) <|
   ev_a (mo_ald) <|
   ev_a (mo_new) <|
   ev_a (mo_no) <|
   ev_a (mo_no) <|
   ev_a (mo_dup) <| ev_a0) <|
  ev_b (
   ev_a (mo_ini hcm) <|
   ev_a (mo_no) <|
   ev_a (mo_no) <|
   ev_a (mo_ptf) <|
   ev_a (mo_no) <|
   ev_a (mo_no) <|
   ev_a (mo_ald) <|
   ev_a (mo_new) <|
   ev_a (mo_no) <|
   ev_a (mo_no) <|
   ev_a (mo_dup) <|
   ev_a (mo_ini hcm) <|
   ev_a (mo_no) <|
   ev_a (mo_no) <|
   ev_a (mo_ptf) <|
   ev_a (mo_no) <| ev_a0) <|
  ev_b (
   ev_a (mo_no) <|
   ev_a (mo_ald) <|
   ev_a (mo_new) <|
   ev_a (mo_no) <|
   ev_a (mo_no) <|
   ev_a (mo_dup) <|
   ev_a (mo_ini hcm) <|
   ev_a (mo_no) <|
   ev_a (mo_no) <|
   ev_a (mo_ptf) <|
   ev_a (mo_no) <|
   ev_a (mo_no) <|
   ev_a (mo_ald) <|
   ev_a (mo_new) <|
   ev_a (mo_no) <|
   ev_a (mo_no) <| ev_a0) <|
  ev_b (
   ev_a (mo_dup) <|
   ev_a (mo_ini hcm) <|
   ev_a (mo_no) <|
   ev_a (mo_no) <|
   ev_a (mo_ptf) <|
   ev_a (mo_no) <|
   ev_a (mo_no) <|
   ev_a (mo_ald) <|
   ev_a (mo_new) <|
   ev_a (mo_no) <|
   ev_a (mo_no) <|
   ev_a (mo_dup) <|
   ev_a (mo_ini hcm) <|
   ev_a (mo_no) <|
   ev_a (mo_no) <|
   ev_a (mo_ptf) <| ev_a0) <|
  ev_b (
   ev_a (mo_no) <|
   ev_a (mo_no) <|
   ev_a (mo_ald) <|
   ev_a (mo_new) <|
   ev_a (mo_no) <|
   ev_a (mo_no) <|
   ev_a (mo_dup) <|
   ev_a (mo_ini hcm) <|
   ev_a (mo_no) <|
   ev_a (mo_no) <|
   ev_a (mo_ptf) <|
   ev_a (mo_no) <|
   ev_a (mo_no) <|
   ev_a (mo_ald) <|
   ev_a (mo_new) <|
   ev_a (mo_no) <| ev_a0) <|
  ev_b (
   ev_a (mo_no) <|
   ev_a (mo_dup) <|
   ev_a (mo_ini hcm) <|
   ev_a (mo_no) <|
   ev_a (mo_no) <|
   ev_a (mo_ptf) <|
   ev_a (mo_no) <|
   ev_a (mo_no) <|
   ev_a (mo_rtv hfm) <| ev_a0) <|
  ev_b0
theorem ev_mo32 {cf : Nat → List Value → ev_W → Option ev_R} {α : Type} {r : α} {fin : Option Value → ev_W → Nat → Option α} {wE nE : Nat} (hcm : ev_cm cf) (hfm : ∀ v w n, fin v w n = some r → w.length = wE ∧ n = nE) : ev_all2 (ev_ok (ev_Pm wE nE) r) 0 (ev_o32 cf fin) :=
  ev_b (
   ev_a (mo_ild) <|
   ev_a (mo_ild) <|
   ev_a (mo_bin) <|
   ev_a (mo_psh) <|
   ev_a (mo_bin) <|
   ev_a (mo_cm0) <|
   ev_a (mo_no) <|
   ev_a (mo_no) <|
   ev_a (mo_psh) <|
   ev_a (mo_jmp) <|
   ev_a (mo_no) <|
   ev_a (mo_no) <|
   ev_a (mo_psh) <|
   ev_a (mo_rtz hfm) <| ev_a0) <|
  ev_b0
theorem ev_mo33 {cf : Nat → List Value → ev_W → Option ev_R} {α : Type} {r : α} {fin : Option Value → ev_W → Nat → Option α} {wE nE : Nat} (hcm : ev_cm cf) (hfm : ∀ v w n, fin v w n = some r → w.length = wE ∧ n = nE) : ev_all2 (ev_ok (ev_Pm wE nE) r) 0 (ev_o33 cf fin) :=
  ev_b (
   ev_a (mo_ild) <|
   ev_a (mo_cm0) <|
   ev_a (mo_no) <|
   ev_a (mo_no) <|
   ev_a (mo_ild) <|
   ev_a (mo_ald) <|
   ev_a (mo_aln) <|
   ev_a (mo_cmp) <|
   ev_a (mo_no) <|
   ev_a (mo_no) <|
   ev_a (mo_ald) <|
   ev_a (mo_ild) <|
   ev_a (mo_ild) <|
   ev_a (mo_sti) <|
   ev_a (mo_rtv hfm) <| ev_a0) <|
  ev_b0
theorem ev_mo34 {cf : Nat → List Value → ev_W → Option ev_R} {α : Type} {r : α} {fin : Option Value → ev_W → Nat → Option α} {wE nE : Nat} (hcm : ev_cm cf) (hfm : ∀ v w n, fin v w n = some r → w.length = wE ∧ n = nE) : ev_all2 (ev_ok (ev_Pm wE nE) r) 0 (ev_o34 cf fin) :=
  ev_b (
   ev_a (mo_ild) <|
   ev_a (mo_inv hcm) <|
   ev_a (mo_no) <|
   ev_a (mo_no) <|
   ev_a (mo_ild) <|
   ev_a (mo_psh) <|
   ev_a (mo_cmp) <|
   ev_a (mo_no) <|
   ev_a (mo_no) <|
   ev_a (mo_ild) <|
   ev_a (mo_psh) <|
   ev_a (mo_no) <|
   ev_a (mo_cmp) <|
   ev_a (mo_no) <|
   ev_a (mo_no) <|
   ev_a (mo_no) <| ev_a0) <|
  ev_b (
   ev_a (mo_no) <|
   ev_a (mo_no) <|
   ev_a (mo_dup) <|
   ev_a (mo_no) <|
   ev_a (mo_no) <|
   ev_a (mo_no) <|
   ev_a (mo_no) <|
   ev_a (mo_no) <|
   ev_a (mo_no) <|
   ev_a (mo_ald) <|
   ev_a (mo_inr hcm) <|
   ev_a (mo_no) <|
   ev_a (mo_no) <|
   ev_a (mo_ald) <|
   ev_a (mo_get) <|
   ev_a (mo_no) <| ev_a0) <|
  ev_b (
   ev_a (mo_no) <|
   ev_a (mo_ild) <|
   ev_a (mo_ild) <|
   ev_a (mo_inr hcm) <|
   ev_a (mo_no) <|
   ev_a (mo_no) <|
   ev_a (mo_rti hfm) <| ev_a0) <|
  ev_b0
theorem ev_mo35 {cf : Nat → List Value → ev_W → Option ev_R} {α : Type} {r : α} {fin : Option Value → ev_W → Nat → Option α} {wE nE : Nat} (hcm : ev_cm cf) (hfm : ∀ v w n, fin v w n = some r → w.length = wE ∧ n = nE) : ev_all2 (ev_ok (ev_Pm wE nE) r) 0 (ev_o35 cf fin) :=
  ev_b (
   ev_a (mo_ald) <|
   ev_a (mo_get) <|
   ev_a (mo_no) <|
   ev_a (mo_no) <|
   ev_a (mo_ald) <|
   ev_a (mo_get) <|
   ev_a (mo_no) <|
   ev_a (mo_no) <|
   ev_a (mo_ald) <|
   ev_a (mo_get) <|
   ev_a (mo_no) <|
   ev_a (mo_no) <|
   ev_a (mo_inr hcm) <|
   ev_a (mo_no) <|
   ev_a (mo_no) <|
   ev_a (mo_ald) <| ev_a0) <|
  ev_b (
   ev_a (mo_psh) <|
   ev_a (mo_ptf) <|
   ev_a (mo_no) <|
   ev_a (mo_no) <|
   ev_a (mo_ald) <|
   ev_a (mo_psh) <|
   ev_a (mo_ptf) <|
   ev_a (mo_no) <|
   ev_a (mo_no) <|
   ev_a (mo_rtv hfm) <| ev_a0) <|
  ev_b0
theorem ev_mo36 {cf : Nat → List Value → ev_W → Option ev_R} {α : Type} {r : α} {fin : Option Value → ev_W → Nat → Option α} {wE nE : Nat} (hcm : ev_cm cf) (hfm : ∀ v w n, fin v w n = some r → w.length = wE ∧ n = nE) : ev_all2 (ev_ok (ev_Pm wE nE) r) 0 (ev_o36 cf fin) :=
  ev_b (
   ev_a (mo_ald) <|
   ev_a (mo_get) <|
   ev_a (mo_no) <|
   ev_a (mo_no) <|
   ev_a (mo_ald) <|
   ev_a (mo_get) <|
   ev_a (mo_no) <|
   ev_a (mo_no) <|
   ev_a (mo_inr hcm) <|
   ev_a (mo_no) <|
   ev_a (mo_no) <|
   ev_a (mo_ald) <|
   ev_a (mo_get) <|
   ev_a (mo_no) <|
   ev_a (mo_no) <|
   ev_a (mo_ald) <| ev_a0) <|
  ev_b (
   ev_a (mo_get) <|
   ev_a (mo_no) <|
   ev_a (mo_no) <|
   ev_a (mo_ald) <|
   ev_a (mo_get) <|
   ev_a (mo_no) <|
   ev_a (mo_no) <|
   ev_a (mo_psh) <|
   ev_a (mo_bin) <|
   ev_a (mo_ald) <|
   ev_a (mo_get) <|
   ev_a (mo_no) <|
   ev_a (mo_no) <|
   ev_a (mo_inr hcm) <|
   ev_a (mo_no) <|
   ev_a (mo_no) <| ev_a0) <|
  ev_b (
   ev_a (mo_ald) <|
   ev_a (mo_get) <|
   ev_a (mo_no) <|
   ev_a (mo_no) <|
   ev_a (mo_ald) <|
   ev_a (mo_get) <|
   ev_a (mo_no) <|
   ev_a (mo_no) <|
   ev_a (mo_ald) <|
   ev_a (mo_get) <|
   ev_a (mo_no) <|
   ev_a (mo_no) <|
   ev_a (mo_psh) <|
   ev_a (mo_bin) <|
   ev_a (mo_inr hcm) <|
   ev_a (mo_no) <| ev_a0) <|
  ev_b (
   ev_a (mo_no) <|
   ev_a (mo_rtv hfm) <| ev_a0) <|
  ev_b0
theorem ev_mo37 {cf : Nat → List Value → ev_W → Option ev_R} {α : Type} {r : α} {fin : Option Value → ev_W → Nat → Option α} {wE nE : Nat} (hcm : ev_cm cf) (hfm : ∀ v w n, fin v w n = some r → w.length = wE ∧ n = nE) : ev_all2 (ev_ok (ev_Pm wE nE) r) 0 (ev_o37 cf fin) :=
  ev_b (
   ev_a (mo_ild) <|
   ev_a (mo_inv hcm) <|
   ev_a (mo_no) <|
   ev_a (mo_no) <|
   ev_a (mo_ald) <|
   ev_a (mo_inr hcm) <|
   ev_a (mo_no) <|
   ev_a (mo_no) <|
   ev_a (mo_ald) <|
   ev_a (mo_get) <|
   ev_a (mo_no) <|
   ev_a (mo_no) <|
   ev_a (mo_ild) <|
   ev_a (mo_psh) <|
   ev_a (mo_inr hcm) <|
   ev_a (mo_no) <| ev_a0) <|
  ev_b (
   ev_a (mo_no) <|
   ev_a (mo_rti hfm) <| ev_a0) <|
  ev_b0
theorem ev_mo38 {cf : Nat → List Value → ev_W → Option ev_R} {α : Type} {r : α} {fin : Option Value → ev_W → Nat → Option α} {wE nE : Nat} (hcm : ev_cm cf) (hfm : ∀ v w n, fin v w n = some r → w.length = wE ∧ n = nE) : ev_all2 (ev_ok (ev_Pm wE nE) r) 0 (ev_o38 cf fin) :=
  ev_b (
   ev_a (mo_ald) <|
   ev_a (mo_obj) <|
   ev_a (mo_no) <|
   ev_a (mo_no) <|
   ev_a (mo_rtv hfm) <| ev_a0) <|
  ev_b0
theorem ev_mo39 {cf : Nat → List Value → ev_W → Option ev_R} {α : Type} {r : α} {fin : Option Value → ev_W → Nat → Option α} {wE nE : Nat} (hcm : ev_cm cf) (hfm : ∀ v w n, fin v w n = some r → w.length = wE ∧ n = nE) : ev_all2 (ev_ok (ev_Pm wE nE) r) 0 (ev_o39 cf fin) :=
  ev_b (
   ev_a (mo_ald) <|
   ev_a (mo_get) <|
   ev_a (mo_no) <|
   ev_a (mo_no) <|
   ev_a (mo_ild) <|
   ev_a (mo_cmp) <|
   ev_a (mo_no) <|
   ev_a (mo_no) <|
   ev_a (mo_ild) <|
   ev_a (mo_ald) <|
   ev_a (mo_get) <|
   ev_a (mo_no) <|
   ev_a (mo_no) <|
   ev_a (mo_cmp) <|
   ev_a (mo_no) <|
   ev_a (mo_no) <| ev_a0) <|
  ev_b (
   ev_a (mo_psh) <|
   ev_a (mo_jmp) <|
   ev_a (mo_no) <|
   ev_a (mo_no) <|
   ev_a (mo_psh) <|
   ev_a (mo_rtz hfm) <| ev_a0) <|
  ev_b0
theorem ev_mo40 {cf : Nat → List Value → ev_W → Option ev_R} {α : Type} {r : α} {fin : Option Value → ev_W → Nat → Option α} {wE nE : Nat} (hcm : ev_cm cf) (hfm : ∀ v w n, fin v w n = some r → w.length = wE ∧ n = nE) : ev_all2 (ev_ok (ev_Pm wE nE) r) 0 (ev_o40 cf fin) :=
  ev_b (
   ev_a (mo_ald) <|
   ev_a (mo_obj) <|
   ev_a (mo_no) <|
   ev_a (mo_no) <|
   ev_a (mo_ald) <|
   ev_a (mo_psh) <|
   ev_a (mo_no) <|
   ev_a (mo_no) <|
   ev_a (mo_ptf) <|
   ev_a (mo_no) <|
   ev_a (mo_no) <|
   ev_a (mo_rtv hfm) <| ev_a0) <|
  ev_b0
theorem ev_mo41 {cf : Nat → List Value → ev_W → Option ev_R} {α : Type} {r : α} {fin : Option Value → ev_W → Nat → Option α} {wE nE : Nat} (hcm : ev_cm cf) (hfm : ∀ v w n, fin v w n = some r → w.length = wE ∧ n = nE) : ev_all2 (ev_ok (ev_Pm wE nE) r) 0 (ev_o41 cf fin) :=
  ev_b (
   ev_a (mo_ald) <|
   ev_a (mo_ald) <|
   ev_a (mo_ild) <|
   ev_a (mo_psh) <|
   ev_a (mo_inr hcm) <|
   ev_a (mo_no) <|
   ev_a (mo_no) <|
   ev_a (mo_ast) <|
   ev_a (mo_psh) <|
   ev_a (mo_ist) <|
   ev_a (mo_no) <|
   ev_a (mo_psh) <|
   ev_a (mo_ist) <|
   ev_a (mo_no) <|
   ev_a (mo_ild) <|
   ev_a (mo_no) <| ev_a0) <|
  ev_b (
   ev_a (mo_psh) <|
   ev_a (mo_no) <|
   ev_a (mo_cmp) <|
   ev_a (mo_no) <|
   ev_a (mo_no) <|
   ev_a (mo_psh) <|
   ev_a (mo_ist) <|
   ev_a (mo_no) <|
   ev_a (mo_psh) <|
   ev_a (mo_ist) <|
   ev_a (mo_no) <|
   ev_a (mo_ild) <|
   ev_a (mo_no) <|
   ev_a (mo_psh) <|
   ev_a (mo_no) <|
   ev_a (mo_cmp) <| ev_a0) <|
  ev_b (
   ev_a (mo_no) <|
   ev_a (mo_no) <|
   ev_a (mo_psh) <|
   ev_a (mo_ist) <|
   ev_a (mo_no) <|
   ev_a (mo_psh) <|
   ev_a (mo_ist) <|
   ev_a (mo_no) <|
   ev_a (mo_ild) <|
   ev_a (mo_no) <|
   ev_a (mo_psh) <|
   ev_a (mo_no) <|
   ev_a (mo_cmp) <|
   ev_a (mo_no) <|
   ev_a (mo_no) <|
   ev_a (mo_ald) <| ev_a0) <|
  ev_b (
   ev_a (mo_get) <|
   ev_a (mo_no) <|
   ev_a (mo_no) <|
   ev_a (mo_ild) <|
   ev_a (mo_no) <|
   ev_a (mo_bin) <|
   ev_a (mo_psh) <|
   ev_a (mo_bin) <|
   ev_a (mo_psh) <|
   ev_a (mo_cmp) <|
   ev_a (mo_no) <|
   ev_a (mo_no) <|
   ev_a (mo_ild) <|
   ev_a (mo_no) <|
   ev_a (mo_ald) <|
   ev_a (mo_psh) <| ev_a0) <|
  ev_b (
   ev_a (mo_no) <|
   ev_a (mo_ild) <|
   ev_a (mo_no) <|
   ev_a (mo_bin) <|
   ev_a (mo_psh) <|
   ev_a (mo_no) <|
   ev_a (mo_ald) <|
   ev_a (mo_get) <|
   ev_a (mo_no) <|
   ev_a (mo_no) <|
   ev_a (mo_ild) <|
   ev_a (mo_no) <|
   ev_a (mo_ldi) <|
   ev_a (mo_bin) <|
   ev_a (mo_bin) <|
   ev_a (mo_ild) <| ev_a0) <|
  ev_b (
   ev_a (mo_no) <|
   ev_a (mo_bin) <|
   ev_a (mo_ldi) <|
   ev_a (mo_cm0) <|
   ev_a (mo_no) <|
   ev_a (mo_no) <|
   ev_a (mo_psh) <|
   ev_a (mo_jmp) <|
   ev_a (mo_no) <|
   ev_a (mo_no) <|
   ev_a (mo_psh) <|
   ev_a (mo_bin) <|
   ev_a (mo_ist) <|
   ev_a (mo_no) <|
   ev_a (mo_inc) <|
   ev_a (mo_no) <| ev_a0) <|
  ev_b (
   ev_a (mo_no) <|
   ev_a (mo_jmp) <|
   ev_a (mo_no) <|
   ev_a (mo_no) <|
   ev_a (mo_ild) <|
   ev_a (mo_no) <|
   ev_a (mo_ild) <|
   ev_a (mo_no) <|
   ev_a (mo_psh) <|
   ev_a (mo_cmp) <|
   ev_a (mo_no) <|
   ev_a (mo_no) <|
   ev_a (mo_psh) <|
   ev_a (mo_jmp) <|
   ev_a (mo_no) <|
   ev_a (mo_no) <| ev_a0) <|
  ev_b (
   ev_a (mo_psh) <|
   ev_a (mo_bin) <|
   ev_a (mo_ist) <|
   ev_a (mo_no) <|
   ev_a (mo_inc) <|
   ev_a (mo_no) <|
   ev_a (mo_no) <|
   ev_a (mo_jmp) <|
   ev_a (mo_no) <|
   ev_a (mo_no) <|
   ev_a (mo_ild) <|
   ev_a (mo_no) <|
   ev_a (mo_ild) <|
   ev_a (mo_no) <|
   ev_a (mo_cm0) <|
   ev_a (mo_no) <| ev_a0) <|
  ev_b (
   ev_a (mo_no) <|
   ev_a (mo_psh) <|
   ev_a (mo_jmp) <|
   ev_a (mo_no) <|
   ev_a (mo_no) <|
   ev_a (mo_psh) <|
   ev_a (mo_bin) <|
   ev_a (mo_ist) <|
   ev_a (mo_no) <|
   ev_a (mo_inc) <|
   ev_a (mo_no) <|
   ev_a (mo_no) <|
   ev_a (mo_jmp) <|
   ev_a (mo_no) <|
   ev_a (mo_no) <|
   ev_a (mo_ild) <| ev_a0) <|
  ev_b (
   ev_a (mo_no) <|
   ev_a (mo_rti hfm) <| ev_a0) <|
  ev_b0
theorem ev_mo42 {cf : Nat → List Value → ev_W → Option ev_R} {α : Type} {r : α} {fin : Option Value → ev_W → Nat → Option α} {wE nE : Nat} (hcm : ev_cm cf) (hfm : ∀ v w n, fin v w n = some r → w.length = wE ∧ n = nE) : ev_all2 (ev_ok (ev_Pm wE nE) r) 0 (ev_o42 cf fin) :=
  ev_b (
   ev_a (mo_ald) <|
   ev_a (mo_psh) <|
   ev_a (mo_ptf) <|
   ev_a (mo_no) <|
   ev_a (mo_no) <|
   ev_a (mo_ald) <|
   ev_a (mo_ald) <|
   ev_a (mo_inr hcm) <|
   ev_a (mo_no) <|
   ev_a (mo_no) <|
   ev_a (mo_ald) <|
   ev_a (mo_get) <|
   ev_a (mo_no) <|
   ev_a (mo_no) <|
   ev_a (mo_psh) <|
   ev_a (mo_bin) <| ev_a0) <|
  ev_b (
   ev_a (mo_inr hcm) <|
   ev_a (mo_no) <|
   ev_a (mo_no) <|
   ev_a (mo_rti hfm) <| ev_a0) <|
  ev_b0
theorem ev_mo43 {cf : Nat → List Value → ev_W → Option ev_R} {α : Type} {r : α} {fin : Option Value → ev_W → Nat → Option α} {wE nE : Nat} (hcm : ev_cm cf) (hfm : ∀ v w n, fin v w n = some r → w.length = wE ∧ n = nE) : ev_all2 (ev_ok (ev_Pm wE nE) r) 0 (ev_o43 cf fin) :=
  ev_b (
   ev_a (mo_ald) <|
   ev_a (mo_psh) <|
   ev_a (mo_ptf) <|
   ev_a (mo_no) <|
   ev_a (mo_no) <|
   ev_a (mo_ald) <|
   ev_a (mo_inr hcm) <|
   ev_a (mo_no) <|
   ev_a (mo_no) <|
   ev_a (mo_ast) <|
   ev_a (mo_ald) <|
   ev_a (mo_get) <|
   ev_a (mo_no) <|
   ev_a (mo_no) <|
   ev_a (mo_psh) <|
   ev_a (mo_no) <| ev_a0) <|
  ev_b (
   ev_a (mo_cmp) <|
   ev_a (mo_no) <|
   ev_a (mo_no) <|
   ev_a (mo_ald) <|
   ev_a (mo_inr hcm) <|
   ev_a (mo_no) <|
   ev_a (mo_no) <|
   ev_a (mo_psh) <|
   ev_a (mo_no) <|
   ev_a (mo_cmp) <|
   ev_a (mo_no) <|
   ev_a (mo_no) <|
   ev_a (mo_ald) <|
   ev_a (mo_ald) <|
   ev_a (mo_ald) <|
   ev_a (mo_get) <| ev_a0) <|
  ev_b (
   ev_a (mo_no) <|
   ev_a (mo_no) <|
   ev_a (mo_psh) <|
   ev_a (mo_bin) <|
   ev_a (mo_inr hcm) <|
   ev_a (mo_no) <|
   ev_a (mo_no) <|
   ev_a (mo_cm0) <|
   ev_a (mo_no) <|
   ev_a (mo_no) <|
   ev_a (mo_ald) <|
   ev_a (mo_psh) <|
   ev_a (mo_no) <|
   ev_a (mo_no) <|
   ev_a (mo_no) <|
   ev_a (mo_rti hfm) <| ev_a0) <|
  ev_b (
   ev_a (mo_ald) <|
   ev_a (mo_get) <|
   ev_a (mo_no) <|
   ev_a (mo_no) <|
   ev_a (mo_inr hcm) <|
   ev_a (mo_no) <|
   ev_a (mo_no) <|
   ev_a (mo_ald) <|
   ev_a (mo_inr hcm) <|
   ev_a (mo_no) <|
   ev_a (mo_no) <|
   ev_a (mo_ast) <|
   ev_a (mo_ald) <|
   ev_a (mo_inr hcm) <|
   ev_a (mo_no) <|
   ev_a (mo_no) <| ev_a0) <|
  ev_b (
   ev_a (mo_no) <|
   ev_a (mo_no) <|
   ev_a (mo_cm0) <|
   ev_a (mo_no) <|
   ev_a (mo_no) <|
   ev_a (mo_ald) <|
   ev_a (mo_inr hcm) <|
   ev_a (mo_no) <|
   ev_a (mo_no) <|
   ev_a (mo_no) <|
   ev_a (mo_no) <|
   ev_a (mo_cst) <|
   ev_a (mo_no) <|
   ev_a (mo_no) <|
   ev_a (mo_ast) <|
   ev_a (mo_ald) <| ev_a0) <|
  ev_b (
   ev_a (mo_get) <|
   ev_a (mo_no) <|
   ev_a (mo_no) <|
   ev_a (mo_ald) <|
   ev_a (mo_inr hcm) <|
   ev_a (mo_no) <|
   ev_a (mo_no) <|
   ev_a (mo_drop) <|
   ev_a (mo_jmp) <|
   ev_a (mo_no) <|
   ev_a (mo_no) <|
   ev_a (mo_ald) <|
   ev_a (mo_get) <|
   ev_a (mo_no) <|
   ev_a (mo_no) <|
   ev_a (mo_inr hcm) <| ev_a0) <|
  ev_b (
   ev_a (mo_no) <|
   ev_a (mo_no) <|
   ev_a (mo_ald) <|
   ev_a (mo_dup) <|
   ev_a (mo_get) <|
   ev_a (mo_no) <|
   ev_a (mo_no) <|
   ev_a (mo_psh) <|
   ev_a (mo_bin) <|
   ev_a (mo_ptf) <|
   ev_a (mo_no) <|
   ev_a (mo_no) <|
   ev_a (mo_ald) <|
   ev_a (mo_inr hcm) <|
   ev_a (mo_no) <|
   ev_a (mo_no) <| ev_a0) <|
  ev_b (
   ev_a (mo_ald) <|
   ev_a (mo_get) <|
   ev_a (mo_no) <|
   ev_a (mo_no) <|
   ev_a (mo_rti hfm) <| ev_a0) <|
  ev_b0
theorem ev_mo44 {cf : Nat → List Value → ev_W → Option ev_R} {α : Type} {r : α} {fin : Option Value → ev_W → Nat → Option α} {wE nE : Nat} (hcm : ev_cm cf) (hfm : ∀ v w n, fin v w n = some r → w.length = wE ∧ n = nE) : ev_all2 (ev_ok (ev_Pm wE nE) r) 0 (ev_o44 cf fin) :=
  ev_b (
   ev_a (mo_new) <|
   ev_a (mo_no) <|
   ev_a (mo_no) <|
   ev_a (mo_dup) <|
   ev_a (mo_ini hcm) <|
   ev_a (mo_no) <|
   ev_a (mo_no) <|
   ev_a (mo_ast) <|
   ev_a (mo_ald) <|
   ev_a (mo_get) <|
   ev_a (mo_no) <|
   ev_a (mo_no) <|
   ev_a (mo_psh) <|
   ev_a (mo_bin) <|
   ev_a (mo_ist) <|
   ev_a (mo_ald) <| ev_a0) <|
  ev_b (
   ev_a (mo_get) <|
   ev_a (mo_no) <|
   ev_a (mo_no) <|
   ev_a (mo_inr hcm) <|
   ev_a (mo_no) <|
   ev_a (mo_no) <|
   ev_a (mo_ast) <|
   ev_a (mo_ald) <|
   ev_a (mo_inr hcm) <|
   ev_a (mo_no) <|
   ev_a (mo_no) <|
   ev_a (mo_no) <|
   ev_a (mo_no) <|
   ev_a (mo_cm0) <|
   ev_a (mo_no) <|
   ev_a (mo_no) <| ev_a0) <|
  ev_b (
   ev_a (mo_ald) <|
   ev_a (mo_inr hcm) <|
   ev_a (mo_no) <|
   ev_a (mo_no) <|
   ev_a (mo_no) <|
   ev_a (mo_no) <|
   ev_a (mo_cst) <|
   ev_a (mo_no) <|
   ev_a (mo_no) <|
   ev_a (mo_ast) <|
   ev_a (mo_no) <|
   ev_a (mo_new) <|
   ev_a (mo_no) <|
   ev_a (mo_no) <|
   ev_a (mo_dup) <|
   ev_a (mo_ini hcm) <| ev_a0) <|
  ev_b (
   ev_a (mo_no) <|
   ev_a (mo_no) <|
   ev_a (mo_ast) <|
   ev_a (mo_no) <|
   ev_a (mo_ald) <|
   ev_a (mo_no) <|
   ev_a (mo_ald) <|
   ev_a (mo_no) <|
   ev_a (mo_get) <|
   ev_a (mo_no) <|
   ev_a (mo_no) <|
   ev_a (mo_ptf) <|
   ev_a (mo_no) <|
   ev_a (mo_no) <|
   ev_a (mo_ald) <|
   ev_a (mo_no) <| ev_a0) <|
  ev_b (
   ev_a (mo_ald) <|
   ev_a (mo_no) <|
   ev_a (mo_get) <|
   ev_a (mo_no) <|
   ev_a (mo_no) <|
   ev_a (mo_ptf) <|
   ev_a (mo_no) <|
   ev_a (mo_no) <|
   ev_a (mo_ald) <|
   ev_a (mo_no) <|
   ev_a (mo_ald) <|
   ev_a (mo_no) <|
   ev_a (mo_get) <|
   ev_a (mo_no) <|
   ev_a (mo_no) <|
   ev_a (mo_ptf) <| ev_a0) <|
  ev_b (
   ev_a (mo_no) <|
   ev_a (mo_no) <|
   ev_a (mo_ald) <|
   ev_a (mo_no) <|
   ev_a (mo_ald) <|
   ev_a (mo_no) <|
   ev_a (mo_get) <|
   ev_a (mo_no) <|
   ev_a (mo_no) <|
   ev_a (mo_ptf) <|
   ev_a (mo_no) <|
   ev_a (mo_no) <|
   ev_a (mo_ald) <|
   ev_a (mo_ald) <|
   ev_a (mo_no) <|
   ev_a (mo_inr hcm) <| ev_a0) <|
  ev_b (
   ev_a (mo_no) <|
   ev_a (mo_no) <|
   ev_a (mo_drop) <|
   ev_a (mo_jmp) <|
   ev_a (mo_no) <|
   ev_a (mo_no) <|
   ev_a (mo_ald) <|
   ev_a (mo_get) <|
   ev_a (mo_no) <|
   ev_a (mo_no) <|
   ev_a (mo_inr hcm) <|
   ev_a (mo_no) <|
   ev_a (mo_no) <|
   ev_a (mo_ast) <|
   ev_a (mo_ald) <|
   ev_a (mo_inr hcm) <| ev_a0) <|
  ev_b (
   ev_a (mo_no) <|
   ev_a (mo_no) <|
   ev_a (mo_no) <|
   ev_a (mo_no) <|
   ev_a (mo_cm0) <|
   ev_a (mo_no) <|
   ev_a (mo_no) <|
   ev_a (mo_ald) <|
   ev_a (mo_inr hcm) <|
   ev_a (mo_no) <|
   ev_a (mo_no) <|
   ev_a (mo_no) <|
   ev_a (mo_no) <|
   ev_a (mo_cst) <|
   ev_a (mo_no) <|
   ev_a (mo_no) <| ev_a0) <|
  ev_b (
   ev_a (mo_ast) <|
   ev_a (mo_no) <|
   ev_a (mo_psh) <|
   ev_a (mo_ist) <|
   ev_a (mo_no) <|
   ev_a (mo_ald) <|
   ev_a (mo_inr hcm) <|
   ev_a (mo_no) <|
   ev_a (mo_no) <|
   ev_a (mo_ast) <|
   ev_a (mo_no) <|
   ev_a (mo_ald) <|
   ev_a (mo_no) <|
   ev_a (mo_inr hcm) <|
   ev_a (mo_no) <|
   ev_a (mo_no) <| ev_a0) <|
  ev_b (
   ev_a (mo_no) <|
   ev_a (mo_no) <|
   ev_a (mo_cm0) <|
   ev_a (mo_no) <|
   ev_a (mo_no) <|
   ev_a (mo_ald) <|
   ev_a (mo_no) <|
   ev_a (mo_inr hcm) <|
   ev_a (mo_no) <|
   ev_a (mo_no) <|
   ev_a (mo_no) <|
   ev_a (mo_no) <|
   ev_a (mo_cst) <|
   ev_a (mo_no) <|
   ev_a (mo_no) <|
   ev_a (mo_ast) <| ev_a0) <|
  ev_b (
   ev_a (mo_no) <|
   ev_a (mo_ald) <|
   ev_a (mo_no) <|
   ev_a (mo_ild) <|
   ev_a (mo_inr hcm) <|
   ev_a (mo_no) <|
   ev_a (mo_no) <|
   ev_a (mo_cm0) <|
   ev_a (mo_no) <|
   ev_a (mo_no) <|
   ev_a (mo_jmp) <|
   ev_a (mo_no) <|
   ev_a (mo_no) <|
   ev_a (mo_ald) <|
   ev_a (mo_no) <|
   ev_a (mo_psh) <| ev_a0) <|
  ev_b (
   ev_a (mo_ldi) <|
   ev_a (mo_cm0) <|
   ev_a (mo_no) <|
   ev_a (mo_no) <|
   ev_a (mo_ald) <|
   ev_a (mo_ald) <|
   ev_a (mo_no) <|
   ev_a (mo_get) <|
   ev_a (mo_no) <|
   ev_a (mo_no) <|
   ev_a (mo_inr hcm) <|
   ev_a (mo_no) <|
   ev_a (mo_no) <|
   ev_a (mo_ald) <|
   ev_a (mo_ald) <|
   ev_a (mo_no) <| ev_a0) <|
  ev_b (
   ev_a (mo_psh) <|
   ev_a (mo_ldi) <|
   ev_a (mo_inr hcm) <|
   ev_a (mo_no) <|
   ev_a (mo_no) <|
   ev_a (mo_cmp) <|
   ev_a (mo_no) <|
   ev_a (mo_no) <|
   ev_a (mo_ald) <|
   ev_a (mo_no) <|
   ev_a (mo_ild) <|
   ev_a (mo_ptf) <|
   ev_a (mo_no) <|
   ev_a (mo_no) <|
   ev_a (mo_ald) <|
   ev_a (mo_no) <| ev_a0) <|
  ev_b (
   ev_a (mo_psh) <|
   ev_a (mo_ldi) <|
   ev_a (mo_cm0) <|
   ev_a (mo_no) <|
   ev_a (mo_no) <|
   ev_a (mo_ald) <|
   ev_a (mo_no) <|
   ev_a (mo_get) <|
   ev_a (mo_no) <|
   ev_a (mo_no) <|
   ev_a (mo_ald) <|
   ev_a (mo_no) <|
   ev_a (mo_psh) <|
   ev_a (mo_ldi) <|
   ev_a (mo_cmp) <|
   ev_a (mo_no) <| ev_a0) <|
  ev_b (
   ev_a (mo_no) <|
   ev_a (mo_ald) <|
   ev_a (mo_no) <|
   ev_a (mo_ald) <|
   ev_a (mo_no) <|
   ev_a (mo_get) <|
   ev_a (mo_no) <|
   ev_a (mo_no) <|
   ev_a (mo_ald) <|
   ev_a (mo_no) <|
   ev_a (mo_psh) <|
   ev_a (mo_ldi) <|
   ev_a (mo_no) <|
   ev_a (mo_no) <|
   ev_a (mo_no) <|
   ev_a (mo_ptf) <| ev_a0) <|
  ev_b (
   ev_a (mo_no) <|
   ev_a (mo_no) <|
   ev_a (mo_psh) <|
   ev_a (mo_ist) <|
   ev_a (mo_no) <|
   ev_a (mo_jmp) <|
   ev_a (mo_no) <|
   ev_a (mo_no) <|
   ev_a (mo_ald) <|
   ev_a (mo_no) <|
   ev_a (mo_psh) <|
   ev_a (mo_ldi) <|
   ev_a (mo_cm0) <|
   ev_a (mo_no) <|
   ev_a (mo_no) <|
   ev_a (mo_ild) <| ev_a0) <|
  ev_b (
   ev_a (mo_no) <|
   ev_a (mo_cm0) <|
   ev_a (mo_no) <|
   ev_a (mo_no) <|
   ev_a (mo_jmp) <|
   ev_a (mo_no) <|
   ev_a (mo_no) <|
   ev_a (mo_new) <|
   ev_a (mo_no) <|
   ev_a (mo_no) <|
   ev_a (mo_dup) <|
   ev_a (mo_ini hcm) <|
   ev_a (mo_no) <|
   ev_a (mo_no) <|
   ev_a (mo_ast) <|
   ev_a (mo_no) <| ev_a0) <|
  ev_b (
   ev_a (mo_ald) <|
   ev_a (mo_no) <|
   ev_a (mo_ald) <|
   ev_a (mo_no) <|
   ev_a (mo_psh) <|
   ev_a (mo_ldi) <|
   ev_a (mo_ptf) <|
   ev_a (mo_no) <|
   ev_a (mo_no) <|
   ev_a (mo_ald) <|
   ev_a (mo_no) <|
   ev_a (mo_ald) <|
   ev_a (mo_no) <|
   ev_a (mo_psh) <|
   ev_a (mo_ldi) <|
   ev_a (mo_ptf) <| ev_a0) <|
  ev_b (
   ev_a (mo_no) <|
   ev_a (mo_no) <|
   ev_a (mo_ald) <|
   ev_a (mo_no) <|
   ev_a (mo_ild) <|
   ev_a (mo_ptf) <|
   ev_a (mo_no) <|
   ev_a (mo_no) <|
   ev_a (mo_ald) <|
   ev_a (mo_ald) <|
   ev_a (mo_no) <|
   ev_a (mo_inr hcm) <|
   ev_a (mo_no) <|
   ev_a (mo_no) <|
   ev_a (mo_drop) <|
   ev_a (mo_jmp) <| ev_a0) <|
  ev_b (
   ev_a (mo_no) <|
   ev_a (mo_no) <|
   ev_a (mo_ald) <|
   ev_a (mo_rta hfm) <| ev_a0) <|
  ev_b0
theorem ev_mo45 {cf : Nat → List Value → ev_W → Option ev_R} {α : Type} {r : α} {fin : Option Value → ev_W → Nat → Option α} {wE nE : Nat} (hcm : ev_cm cf) (hfm : ∀ v w n, fin v w n = some r → w.length = wE ∧ n = nE) : ev_all2 (ev_ok (ev_Pm wE nE) r) 0 (ev_o45 cf fin) :=
  ev_b (
   ev_a (mo_ild) <|
   ev_a (mo_cm0) <|
   ev_a (mo_no) <|
   ev_a (mo_no) <|
   ev_a (mo_ild) <|
   ev_a (mo_psh) <|
   ev_a (mo_no) <|
   ev_a (mo_div) <|
   ev_a (mo_jmp) <|
   ev_a (mo_no) <|
   ev_a (mo_no) <|
   ev_a (mo_ild) <|
   ev_a (mo_psh) <|
   ev_a (mo_cmp) <|
   ev_a (mo_no) <|
   ev_a (mo_no) <| ev_a0) <|
  ev_b (
   ev_a (mo_ild) <|
   ev_a (mo_psh) <|
   ev_a (mo_no) <|
   ev_a (mo_div) <|
   ev_a (mo_psh) <|
   ev_a (mo_no) <|
   ev_a (mo_div) <|
   ev_a (mo_jmp) <|
   ev_a (mo_no) <|
   ev_a (mo_no) <|
   ev_a (mo_ild) <|
   ev_a (mo_psh) <|
   ev_a (mo_no) <|
   ev_a (mo_div) <|
   ev_a (mo_rti hfm) <| ev_a0) <|
  ev_b0
theorem ev_mo46 {cf : Nat → List Value → ev_W → Option ev_R} {α : Type} {r : α} {fin : Option Value → ev_W → Nat → Option α} {wE nE : Nat} (hcm : ev_cm cf) (hfm : ∀ v w n, fin v w n = some r → w.length = wE ∧ n = nE) : ev_all2 (ev_ok (ev_Pm wE nE) r) 0 (ev_o46 cf fin) :=
  ev_b (
   ev_a (mo_ald) <|
   ev_a (mo_psh) <|
   ev_a (mo_ptf) <|
   ev_a (mo_no) <|
   ev_a (mo_no) <|
   ev_a (mo_ald) <|
   ev_a (mo_psh) <|
   ev_a (mo_ptf) <|
   ev_a (mo_no) <|
   ev_a (mo_no) <|
   ev_a (mo_rtv hfm) <| ev_a0) <|
  ev_b0
theorem ev_mo47 {cf : Nat → List Value → ev_W → Option ev_R} {α : Type} {r : α} {fin : Option Value → ev_W → Nat → Option α} {wE nE : Nat} (hcm : ev_cm cf) (hfm : ∀ v w n, fin v w n = some r → w.length = wE ∧ n = nE) : ev_all2 (ev_ok (ev_Pm wE nE) r) 0 (ev_o47 cf fin) :=
  ev_b (
   ev_a (mo_ald) <|
   ev_a (mo_obj) <|
   ev_a (mo_no) <|
   ev_a (mo_no) <|
   ev_a (mo_ald) <|
   ev_a (mo_psh) <|
   ev_a (mo_no) <|
   ev_a (mo_nwa) <|
   ev_a (mo_no) <|
   ev_a (mo_dup) <|
   ev_a (mo_psh) <|
   ev_a (mo_psh) <|
   ev_a (mo_sti) <|
   ev_a (mo_dup) <|
   ev_a (mo_psh) <|
   ev_a (mo_psh) <| ev_a0) <|
  ev_b (
   ev_a (mo_sti) <|
   ev_a (mo_dup) <|
   ev_a (mo_psh) <|
   ev_a (mo_psh) <|
   ev_a (mo_sti) <|
   ev_a (mo_dup) <|
   ev_a (mo_psh) <|
   ev_a (mo_psh) <|
   ev_a (mo_sti) <|
   ev_a (mo_dup) <|
   ev_a (mo_psh) <|
   ev_a (mo_psh) <|
   ev_a (mo_sti) <|
   ev_a (mo_dup) <|
   ev_a (mo_psh) <|
   ev_a (mo_psh) <| ev_a0) <|
  ev_b (
   ev_a (mo_sti) <|
   ev_a (mo_ptf) <|
   ev_a (mo_no) <|
   ev_a (mo_no) <|
   ev_a (mo_ald) <|
   ev_a (mo_new) <|
   ev_a (mo_no) <|
   ev_a (mo_no) <|
   ev_a (mo_dup) <|
   ev_a (mo_ini hcm) <|
   ev_a (mo_no) <|
   ev_a (mo_no) <|
   ev_a (mo_ptf) <|
   ev_a (mo_no) <|
   ev_a (mo_no) <|
   ev_a (mo_ald) <| ev_a0) <|
  ev_b (
   ev_a (mo_new) <|
   ev_a (mo_no) <|
   ev_a (mo_no) <|
   ev_a (mo_dup) <|
   ev_a (mo_ini hcm) <|
   ev_a (mo_no) <|
   ev_a (mo_no) <|
   ev_a (mo_ptf) <|
   ev_a (mo_no) <|
   ev_a (mo_no) <|
   ev_a (mo_ald) <|
   ev_a (mo_new) <|
   ev_a (mo_no) <|
   ev_a (mo_no) <|
   ev_a (mo_dup) <|
   ev_a (mo_ini hcm) <| ev_a0) <|
  ev_b (
   ev_a (mo_no) <|
   ev_a (mo_no) <|
   ev_a (mo_ptf) <|
   ev_a (mo_no) <|
   ev_a (mo_no) <|
   ev_a (mo_ald) <|
   ev_a (mo_new) <|
   ev_a (mo_no) <|
   ev_a (mo_no) <|
   ev_a (mo_dup) <|
   ev_a (mo_ini hcm) <|
   ev_a (mo_no) <|
   ev_a (mo_no) <|
   ev_a (mo_ptf) <|
   ev_a (mo_no) <|
   ev_a (mo_no) <| ev_a0) <|
  ev_b (
   ev_a (mo_ald) <|
   ev_a (mo_psh) <|
   ev_a (mo_ptf) <|
   ev_a (mo_no) <|
   ev_a (mo_no) <|
   ev_a (mo_rtv hfm) <| ev_a0) <|
  ev_b0
theorem ev_mo48 {cf : Nat → List Value → ev_W → Option ev_R} {α : Type} {r : α} {fin : Option Value → ev_W → Nat → Option α} {wE nE : Nat} (hcm : ev_cm cf) (hfm : ∀ v w n, fin v w n = some r → w.length = wE ∧ n = nE) : ev_all2 (ev_ok (ev_Pm wE nE) r) 0 (ev_o48 cf fin) :=
  ev_b (
   ev_a (mo_ild) <|
   ev_a (mo_ild) <|
   ev_a (mo_cmp) <|
   ev_a (mo_no) <|
   ev_a (mo_no) <|
   ev_a (mo_ild) <|
   ev_a (mo_ild) <|
   ev_a (mo_cmp) <|
   ev_a (mo_no) <|
   ev_a (mo_no) <|
   ev_a (mo_psh) <|
   ev_a (mo_jmp) <|
   ev_a (mo_no) <|
   ev_a (mo_no) <|
   ev_a (mo_psh) <|
   ev_a (mo_rtz hfm) <| ev_a0) <|
  ev_b0
theorem ev_mo49 {cf : Nat → List Value → ev_W → Option ev_R} {α : Type} {r : α} {fin : Option Value → ev_W → Nat → Option α} {wE nE : Nat} (hcm : ev_cm cf) (hfm : ∀ v w n, fin v w n = some r → w.length = wE ∧ n = nE) : ev_all2 (ev_ok (ev_Pm wE nE) r) 0 (ev_o49 cf fin) :=
  ev_b (
   ev_a (mo_ild) <|
   ev_a (mo_psh) <|
   ev_a (mo_psh) <|
   ev_a (mo_no) <|
   ev_a (mo_no) <|
   ev_a (mo_inv hcm) <|
   ev_a (mo_no) <|
   ev_a (mo_no) <|
   ev_a (mo_cm0) <|
   ev_a (mo_no) <|
   ev_a (mo_no) <|
   ev_a (mo_ild) <|
   ev_a (mo_psh) <|
   ev_a (mo_inv hcm) <|
   ev_a (mo_no) <|
   ev_a (mo_no) <| ev_a0) <|
  ev_b (
   ev_a (mo_psh) <|
   ev_a (mo_no) <|
   ev_a (mo_cmp) <|
   ev_a (mo_no) <|
   ev_a (mo_no) <|
   ev_a (mo_ild) <|
   ev_a (mo_psh) <|
   ev_a (mo_inv hcm) <|
   ev_a (mo_no) <|
   ev_a (mo_no) <|
   ev_a (mo_psh) <|
   ev_a (mo_no) <|
   ev_a (mo_cmp) <|
   ev_a (mo_no) <|
   ev_a (mo_no) <|
   ev_a (mo_ild) <| ev_a0) <|
  ev_b (
   ev_a (mo_psh) <|
   ev_a (mo_inv hcm) <|
   ev_a (mo_no) <|
   ev_a (mo_no) <|
   ev_a (mo_psh) <|
   ev_a (mo_no) <|
   ev_a (mo_cmp) <|
   ev_a (mo_no) <|
   ev_a (mo_no) <|
   ev_a (mo_psh) <|
   ev_a (mo_jmp) <|
   ev_a (mo_no) <|
   ev_a (mo_no) <|
   ev_a (mo_psh) <|
   ev_a (mo_rtz hfm) <| ev_a0) <|
  ev_b0
theorem ev_mo50 {cf : Nat → List Value → ev_W → Option ev_R} {α : Type} {r : α} {fin : Option Value → ev_W → Nat → Option α} {wE nE : Nat} (hcm : ev_cm cf) (hfm : ∀ v w n, fin v w n = some r → w.length = wE ∧ n = nE) : ev_all2 (ev_ok (ev_Pm wE nE) r) 0 (ev_o50 cf fin) :=
  ev_b (
   ev_a (mo_psh) <|
   ev_a (mo_nwa) <|
   ev_a (mo_no) <|
   ev_a (mo_dup) <|
   ev_a (mo_psh) <|
   ev_a (mo_psh) <|
   ev_a (mo_no) <|
   ev_a (mo_sti) <|
   ev_a (mo_dup) <|
   ev_a (mo_psh) <|
   ev_a (mo_psh) <|
   ev_a (mo_no) <|
   ev_a (mo_sti) <|
   ev_a (mo_dup) <|
   ev_a (mo_psh) <|
   ev_a (mo_psh) <| ev_a0) <|
  ev_b (
   ev_a (mo_no) <|
   ev_a (mo_sti) <|
   ev_a (mo_dup) <|
   ev_a (mo_psh) <|
   ev_a (mo_psh) <|
   ev_a (mo_no) <|
   ev_a (mo_sti) <|
   ev_a (mo_rta hfm) <| ev_a0) <|
  ev_b0
theorem ev_mo51 {cf : Nat → List Value → ev_W → Option ev_R} {α : Type} {r : α} {fin : Option Value → ev_W → Nat → Option α} {wE nE : Nat} (hcm : ev_cm cf) (hfm : ∀ v w n, fin v w n = some r → w.length = wE ∧ n = nE) : ev_all2 (ev_ok (ev_Pm wE nE) r) 0 (ev_o51 cf fin) :=
  ev_b (
   ev_a (mo_psh) <|
   ev_a (mo_ist) <|
   ev_a (mo_psh) <|
   ev_a (mo_ist) <|
   ev_a (mo_no) <|
   ev_a (mo_ild) <|
   ev_a (mo_no) <|
   ev_a (mo_psh) <|
   ev_a (mo_cmp) <|
   ev_a (mo_no) <|
   ev_a (mo_no) <|
   ev_a (mo_ild) <|
   ev_a (mo_ild) <|
   ev_a (mo_no) <|
   ev_a (mo_inv hcm) <|
   ev_a (mo_no) <| ev_a0) <|
  ev_b (
   ev_a (mo_no) <|
   ev_a (mo_ist) <|
   ev_a (mo_no) <|
   ev_a (mo_psh) <|
   ev_a (mo_no) <|
   ev_a (mo_ild) <|
   ev_a (mo_bin) <|
   ev_a (mo_ild) <|
   ev_a (mo_no) <|
   ev_a (mo_psh) <|
   ev_a (mo_no) <|
   ev_a (mo_cmp) <|
   ev_a (mo_no) <|
   ev_a (mo_no) <|
   ev_a (mo_ald) <|
   ev_a (mo_get) <| ev_a0) <|
  ev_b (
   ev_a (mo_no) <|
   ev_a (mo_no) <|
   ev_a (mo_ild) <|
   ev_a (mo_no) <|
   ev_a (mo_ldi) <|
   ev_a (mo_jmp) <|
   ev_a (mo_no) <|
   ev_a (mo_no) <|
   ev_a (mo_ald) <|
   ev_a (mo_ild) <|
   ev_a (mo_no) <|
   ev_a (mo_psh) <|
   ev_a (mo_no) <|
   ev_a (mo_bin) <|
   ev_a (mo_ldi) <|
   ev_a (mo_bin) <| ev_a0) <|
  ev_b (
   ev_a (mo_ist) <|
   ev_a (mo_inc) <|
   ev_a (mo_no) <|
   ev_a (mo_no) <|
   ev_a (mo_jmp) <|
   ev_a (mo_no) <|
   ev_a (mo_no) <|
   ev_a (mo_ild) <|
   ev_a (mo_rti hfm) <| ev_a0) <|
  ev_b0
theorem ev_mo52 {cf : Nat → List Value → ev_W → Option ev_R} {α : Type} {r : α} {fin : Option Value → ev_W → Nat → Option α} {wE nE : Nat} (hcm : ev_cm cf) (hfm : ∀ v w n, fin v w n = some r → w.length = wE ∧ n = nE) : ev_all2 (ev_ok (ev_Pm wE nE) r) 0 (ev_o52 cf fin) :=
  ev_b (
   ev_a (mo_ald) <|
   ev_a (mo_ild) <|
   ev_a (mo_inv hcm) <|
   ev_a (mo_no) <|
   ev_a (mo_no) <|
   ev_a (mo_inr hcm) <|
   ev_a (mo_no) <|
   ev_a (mo_no) <|
   ev_a (mo_rti hfm) <| ev_a0) <|
  ev_b0
theorem ev_mo53 {cf : Nat → List Value → ev_W → Option ev_R} {α : Type} {r : α} {fin : Option Value → ev_W → Nat → Option α} {wE nE : Nat} (hcm : ev_cm cf) (hfm : ∀ v w n, fin v w n = some r → w.length = wE ∧ n = nE) : ev_all2 (ev_ok (ev_Pm wE nE) r) 0 (ev_o53 cf fin) :=
  ev_b (
   ev_a (mo_ald) <|
   ev_a (mo_psh) <|
   ev_a (mo_ptf) <|
   ev_a (mo_no) <|
   ev_a (mo_no) <|
   ev_a (mo_ild) <|
   ev_a (mo_inv hcm) <|
   ev_a (mo_no) <|
   ev_a (mo_no) <|
   ev_a (mo_cm0) <|
   ev_a (mo_no) <|
   ev_a (mo_no) <|
   ev_a (mo_ild) <|
   ev_a (mo_psh) <|
   ev_a (mo_psh) <|
   ev_a (mo_no) <| ev_a0) <|
  ev_b (
   ev_a (mo_inv hcm) <|
   ev_a (mo_no) <|
   ev_a (mo_no) <|
   ev_a (mo_cm0) <|
   ev_a (mo_no) <|
   ev_a (mo_no) <|
   ev_a (mo_ald) <|
   ev_a (mo_psh) <|
   ev_a (mo_no) <|
   ev_a (mo_no) <|
   ev_a (mo_no) <|
   ev_a (mo_rti hfm) <|
   ev_a (mo_ald) <|
   ev_a (mo_get) <|
   ev_a (mo_no) <|
   ev_a (mo_no) <| ev_a0) <|
  ev_b (
   ev_a (mo_inr hcm) <|
   ev_a (mo_no) <|
   ev_a (mo_no) <|
   ev_a (mo_psh) <|
   ev_a (mo_no) <|
   ev_a (mo_cmp) <|
   ev_a (mo_no) <|
   ev_a (mo_no) <|
   ev_a (mo_ald) <|
   ev_a (mo_psh) <|
   ev_a (mo_no) <|
   ev_a (mo_no) <|
   ev_a (mo_no) <|
   ev_a (mo_rti hfm) <|
   ev_a (mo_ald) <|
   ev_a (mo_get) <| ev_a0) <|
  ev_b (
   ev_a (mo_no) <|
   ev_a (mo_no) <|
   ev_a (mo_psh) <|
   ev_a (mo_nwa) <|
   ev_a (mo_no) <|
   ev_a (mo_dup) <|
   ev_a (mo_psh) <|
   ev_a (mo_ild) <|
   ev_a (mo_sti) <|
   ev_a (mo_dup) <|
   ev_a (mo_psh) <|
   ev_a (mo_ild) <|
   ev_a (mo_sti) <|
   ev_a (mo_inr hcm) <|
   ev_a (mo_no) <|
   ev_a (mo_no) <| ev_a0) <|
  ev_b (
   ev_a (mo_drop) <|
   ev_a (mo_ald) <|
   ev_a (mo_get) <|
   ev_a (mo_no) <|
   ev_a (mo_no) <|
   ev_a (mo_inr hcm) <|
   ev_a (mo_no) <|
   ev_a (mo_no) <|
   ev_a (mo_rti hfm) <| ev_a0) <|
  ev_b0
theorem ev_mo54 {cf : Nat → List Value → ev_W → Option ev_R} {α : Type} {r : α} {fin : Option Value → ev_W → Nat → Option α} {wE nE : Nat} (hcm : ev_cm cf) (hfm : ∀ v w n, fin v w n = some r → w.length = wE ∧ n = nE) : ev_all2 (ev_ok (ev_Pm wE nE) r) 0 (ev_o54 cf fin) :=
  ev_b (
   ev_a (mo_ald) <|
   ev_a (mo_get) <|
   ev_a (mo_no) <|
   ev_a (mo_no) <|
   ev_a (mo_rti hfm) <| ev_a0) <|
  ev_b0
theorem ev_mo55 {cf : Nat → List Value → ev_W → Option ev_R} {α : Type} {r : α} {fin : Option Value → ev_W → Nat → Option α} {wE nE : Nat} (hcm : ev_cm cf) (hfm : ∀ v w n, fin v w n = some r → w.length = wE ∧ n = nE) : ev_all2 (ev_ok (ev_Pm wE nE) r) 0 (ev_o55 cf fin) :=
  ev_b (
   ev_a (mo_psh) <|
   ev_a (mo_no) <|
   ev_a (mo_no) <|
   ev_a (mo_nwa) <|
   ev_a (mo_no) <|
   ev_a (mo_ast) <|
   ev_a (mo_no) <|
   ev_a (mo_ald) <|
   ev_a (mo_inr hcm) <|
   ev_a (mo_no) <|
   ev_a (mo_no) <|
   ev_a (mo_ast) <|
   ev_a (mo_no) <|
   ev_a (mo_ald) <|
   ev_a (mo_no) <|
   ev_a (mo_inr hcm) <| ev_a0) <|
  ev_b (
   ev_a (mo_no) <|
   ev_a (mo_no) <|
   ev_a (mo_no) <|
   ev_a (mo_no) <|
   ev_a (mo_cm0) <|
   ev_a (mo_no) <|
   ev_a (mo_no) <|
   ev_a (mo_ald) <|
   ev_a (mo_no) <|
   ev_a (mo_inr hcm) <|
   ev_a (mo_no) <|
   ev_a (mo_no) <|
   ev_a (mo_no) <|
   ev_a (mo_no) <|
   ev_a (mo_cst) <|
   ev_a (mo_no) <| ev_a0) <|
  ev_b (
   ev_a (mo_no) <|
   ev_a (mo_ast) <|
   ev_a (mo_no) <|
   ev_a (mo_ald) <|
   ev_a (mo_no) <|
   ev_a (mo_ild) <|
   ev_a (mo_inr hcm) <|
   ev_a (mo_no) <|
   ev_a (mo_no) <|
   ev_a (mo_cm0) <|
   ev_a (mo_no) <|
   ev_a (mo_no) <|
   ev_a (mo_ald) <|
   ev_a (mo_no) <|
   ev_a (mo_get) <|
   ev_a (mo_no) <| ev_a0) <|
  ev_b (
   ev_a (mo_no) <|
   ev_a (mo_ild) <|
   ev_a (mo_cmp) <|
   ev_a (mo_no) <|
   ev_a (mo_no) <|
   ev_a (mo_ald) <|
   ev_a (mo_no) <|
   ev_a (mo_ald) <|
   ev_a (mo_ald) <|
   ev_a (mo_no) <|
   ev_a (mo_get) <|
   ev_a (mo_no) <|
   ev_a (mo_no) <|
   ev_a (mo_inr hcm) <|
   ev_a (mo_no) <|
   ev_a (mo_no) <| ev_a0) <|
  ev_b (
   ev_a (mo_psh) <|
   ev_a (mo_sti) <|
   ev_a (mo_jmp) <|
   ev_a (mo_no) <|
   ev_a (mo_no) <|
   ev_a (mo_ald) <|
   ev_a (mo_no) <|
   ev_a (mo_rta hfm) <| ev_a0) <|
  ev_b0
theorem ev_mo56 {cf : Nat → List Value → ev_W → Option ev_R} {α : Type} {r : α} {fin : Option Value → ev_W → Nat → Option α} {wE nE : Nat} (hcm : ev_cm cf) (hfm : ∀ v w n, fin v w n = some r → w.length = wE ∧ n = nE) : ev_all2 (ev_ok (ev_Pm wE nE) r) 0 (ev_o56 cf fin) :=
  ev_b (
   ev_a (mo_ald) <|
   ev_a (mo_psh) <|
   ev_a (mo_ptf) <|
   ev_a (mo_no) <|
   ev_a (mo_no) <|
   ev_a (mo_ild) <|
   ev_a (mo_inv hcm) <|
   ev_a (mo_no) <|
   ev_a (mo_no) <|
   ev_a (mo_cm0) <|
   ev_a (mo_no) <|
   ev_a (mo_no) <|
   ev_a (mo_ald) <|
   ev_a (mo_psh) <|
   ev_a (mo_no) <|
   ev_a (mo_no) <| ev_a0) <|
  ev_b (
   ev_a (mo_no) <|
   ev_a (mo_rti hfm) <|
   ev_a (mo_ald) <|
   ev_a (mo_get) <|
   ev_a (mo_no) <|
   ev_a (mo_no) <|
   ev_a (mo_inr hcm) <|
   ev_a (mo_no) <|
   ev_a (mo_no) <|
   ev_a (mo_psh) <|
   ev_a (mo_no) <|
   ev_a (mo_cmp) <|
   ev_a (mo_no) <|
   ev_a (mo_no) <|
   ev_a (mo_ald) <|
   ev_a (mo_psh) <| ev_a0) <|
  ev_b (
   ev_a (mo_no) <|
   ev_a (mo_no) <|
   ev_a (mo_no) <|
   ev_a (mo_rti hfm) <|
   ev_a (mo_ald) <|
   ev_a (mo_get) <|
   ev_a (mo_no) <|
   ev_a (mo_no) <|
   ev_a (mo_psh) <|
   ev_a (mo_nwa) <|
   ev_a (mo_no) <|
   ev_a (mo_dup) <|
   ev_a (mo_psh) <|
   ev_a (mo_ild) <|
   ev_a (mo_sti) <|
   ev_a (mo_dup) <| ev_a0) <|
  ev_b (
   ev_a (mo_psh) <|
   ev_a (mo_psh) <|
   ev_a (mo_sti) <|
   ev_a (mo_inr hcm) <|
   ev_a (mo_no) <|
   ev_a (mo_no) <|
   ev_a (mo_drop) <|
   ev_a (mo_ald) <|
   ev_a (mo_get) <|
   ev_a (mo_no) <|
   ev_a (mo_no) <|
   ev_a (mo_inr hcm) <|
   ev_a (mo_no) <|
   ev_a (mo_no) <|
   ev_a (mo_rti hfm) <| ev_a0) <|
  ev_b0
theorem ev_mo57 {cf : Nat → List Value → ev_W → Option ev_R} {α : Type} {r : α} {fin : Option Value → ev_W → Nat → Option α} {wE nE : Nat} (hcm : ev_cm cf) (hfm : ∀ v w n, fin v w n = some r → w.length = wE ∧ n = nE) : ev_all2 (ev_ok (ev_Pm wE nE) r) 0 (ev_o57 cf fin) :=
  ev_b (
   ev_a (mo_ald) <|
   ev_a (mo_obj) <|
   ev_a (mo_no) <|
   ev_a (mo_no) <|
   ev_a (mo_ald) <|
   ev_a (mo_psh) <|
   ev_a (mo_no) <|
   ev_a (mo_nwa) <|
   ev_a (mo_no) <|
   ev_a (mo_ptf) <|
   ev_a (mo_no) <|
   ev_a (mo_no) <|
   ev_a (mo_rtv hfm) <| ev_a0) <|
  ev_b0
theorem ev_mo58 {cf : Nat → List Value → ev_W → Option ev_R} {α : Type} {r : α} {fin : Option Value → ev_W → Nat → Option α} {wE nE : Nat} (hcm : ev_cm cf) (hfm : ∀ v w n, fin v w n = some r → w.length = wE ∧ n = nE) : ev_all2 (ev_ok (ev_Pm wE nE) r) 0 (ev_o58 cf fin) :=
  ev_b (
   ev_a (mo_ald) <|
   ev_a (mo_obj) <|
   ev_a (mo_no) <|
   ev_a (mo_no) <|
   ev_a (mo_ald) <|
   ev_a (mo_psh) <|
   ev_a (mo_no) <|
   ev_a (mo_no) <|
   ev_a (mo_nwa) <|
   ev_a (mo_no) <|
   ev_a (mo_ptf) <|
   ev_a (mo_no) <|
   ev_a (mo_no) <|
   ev_a (mo_rtv hfm) <| ev_a0) <|
  ev_b0
theorem ev_mo59 {cf : Nat → List Value → ev_W → Option ev_R} {α : Type} {r : α} {fin : Option Value → ev_W → Nat → Option α} {wE nE : Nat} (hcm : ev_cm cf) (hfm : ∀ v w n, fin v w n = some r → w.length = wE ∧ n = nE) : ev_all2 (ev_ok (ev_Pm wE nE) r) 0 (ev_o59 cf fin) :=
  ev_b (
   ev_a (mo_ald) <|
   ev_a (mo_obj) <|
   ev_a (mo_no) <|
   ev_a (mo_no) <|
   ev_a (mo_ald) <|
   ev_a (mo_psh) <|
   ev_a (mo_no) <|
   ev_a (mo_no) <|
   ev_a (mo_nwa) <|
   ev_a (mo_no) <|
   ev_a (mo_ptf) <|
   ev_a (mo_no) <|
   ev_a (mo_no) <|
   ev_a (mo_ald) <|
   ev_a (mo_psh) <|
   ev_a (mo_no) <| ev_a0) <|
  ev_b (
   ev_a (mo_no) <|
   ev_a (mo_nwa) <|
   ev_a (mo_no) <|
   ev_a (mo_ptf) <|
   ev_a (mo_no) <|
   ev_a (mo_no) <|
   ev_a (mo_ald) <|
   ev_a (mo_psh) <|
   ev_a (mo_no) <|
   ev_a (mo_no) <|
   ev_a (mo_nwa) <|
   ev_a (mo_no) <|
   ev_a (mo_ptf) <|
   ev_a (mo_no) <|
   ev_a (mo_no) <|
   ev_a (mo_ald) <| ev_a0) <|
  ev_b (
   ev_a (mo_psh) <|
   ev_a (mo_no) <|
   ev_a (mo_no) <|
   ev_a (mo_nwa) <|
   ev_a (mo_no) <|
   ev_a (mo_ptf) <|
   ev_a (mo_no) <|
   ev_a (mo_no) <|
   ev_a (mo_ald) <|
   ev_a (mo_new) <|
   ev_a (mo_no) <|
   ev_a (mo_no) <|
   ev_a (mo_dup) <|
   ev_a (mo_ini hcm) <|
   ev_a (mo_no) <|
   ev_a (mo_no) <| ev_a0) <|
  ev_b (
   ev_a (mo_ptf) <|
   ev_a (mo_no) <|
   ev_a (mo_no) <|
   ev_a (mo_rtv hfm) <| ev_a0) <|
  ev_b0
theorem ev_mo60 {cf : Nat → List Value → ev_W → Option ev_R} {α : Type} {r : α} {fin : Option Value → ev_W → Nat → Option α} {wE nE : Nat} (hcm : ev_cm cf) (hfm : ∀ v w n, fin v w n = some r → w.length = wE ∧ n = nE) : ev_all2 (ev_ok (ev_Pm wE nE) r) 0 (ev_o60 cf fin) :=
  ev_b (
   ev_a (mo_ald) <|
   ev_a (mo_get) <|
   ev_a (mo_no) <|
   ev_a (mo_no) <|
   ev_a (mo_ild) <|
   ev_a (mo_psh) <|
   ev_a (mo_inv hcm) <|
   ev_a (mo_no) <|
   ev_a (mo_no) <|
   ev_a (mo_rti hfm) <| ev_a0) <|
  ev_b0
theorem ev_mo61 {cf : Nat → List Value → ev_W → Option ev_R} {α : Type} {r : α} {fin : Option Value → ev_W → Nat → Option α} {wE nE : Nat} (hcm : ev_cm cf) (hfm : ∀ v w n, fin v w n = some r → w.length = wE ∧ n = nE) : ev_all2 (ev_ok (ev_Pm wE nE) r) 0 (ev_o61 cf fin) :=
  ev_b (
   ev_a (mo_ald) <|
   ev_a (mo_ild) <|
   ev_a (mo_psh) <|
   ev_a (mo_no) <|
   ev_a (mo_div) <|
   ev_a (mo_inr hcm) <|
   ev_a (mo_no) <|
   ev_a (mo_no) <|
   ev_a (mo_psh) <|
   ev_a (mo_no) <|
   ev_a (mo_bin) <|
   ev_a (mo_ald) <|
   ev_a (mo_ild) <|
   ev_a (mo_psh) <|
   ev_a (mo_no) <|
   ev_a (mo_div) <| ev_a0) <|
  ev_b (
   ev_a (mo_psh) <|
   ev_a (mo_no) <|
   ev_a (mo_div) <|
   ev_a (mo_inr hcm) <|
   ev_a (mo_no) <|
   ev_a (mo_no) <|
   ev_a (mo_psh) <|
   ev_a (mo_no) <|
   ev_a (mo_bin) <|
   ev_a (mo_bin) <|
   ev_a (mo_ald) <|
   ev_a (mo_ild) <|
   ev_a (mo_psh) <|
   ev_a (mo_no) <|
   ev_a (mo_div) <|
   ev_a (mo_inr hcm) <| ev_a0) <|
  ev_b (
   ev_a (mo_no) <|
   ev_a (mo_no) <|
   ev_a (mo_bin) <|
   ev_a (mo_rti hfm) <| ev_a0) <|
  ev_b0
theorem ev_mo62 {cf : Nat → List Value → ev_W → Option ev_R} {α : Type} {r : α} {fin : Option Value → ev_W → Nat → Option α} {wE nE : Nat} (hcm : ev_cm cf) (hfm : ∀ v w n, fin v w n = some r → w.length = wE ∧ n = nE) : ev_all2 (ev_ok (ev_Pm wE nE) r) 0 (ev_o62 cf fin) :=
  ev_b (
   ev_a (mo_ald) <|
   ev_a (mo_obj) <|
   ev_a (mo_no) <|
   ev_a (mo_no) <|
   ev_a (mo_ald) <|
   ev_a (mo_psh) <|
   ev_a (mo_no) <|
   ev_a (mo_nwa) <|
   ev_a (mo_no) <|
   ev_a (mo_ptf) <|
   ev_a (mo_no) <|
   ev_a (mo_no) <|
   ev_a (mo_ald) <|
   ev_a (mo_inr hcm) <|
   ev_a (mo_no) <|
   ev_a (mo_no) <| ev_a0) <|
  ev_b (
   ev_a (mo_rtv hfm) <| ev_a0) <|
  ev_b0
theorem ev_mo63 {cf : Nat → List Value → ev_W → Option ev_R} {α : Type} {r : α} {fin : Option Value → ev_W → Nat → Option α} {wE nE : Nat} (hcm : ev_cm cf) (hfm : ∀ v w n, fin v w n = some r → w.length = wE ∧ n = nE) : ev_all2 (ev_ok (ev_Pm wE nE) r) 0 (ev_o63 cf fin) :=
  ev_b (
   ev_a (mo_psh) <|
   ev_a (mo_ist) <|
   ev_a (mo_ild) <|
   ev_a (mo_ald) <|
   ev_a (mo_get) <|
   ev_a (mo_no) <|
   ev_a (mo_no) <|
   ev_a (mo_aln) <|
   ev_a (mo_cmp) <|
   ev_a (mo_no) <|
   ev_a (mo_no) <|
   ev_a (mo_ald) <|
   ev_a (mo_get) <|
   ev_a (mo_no) <|
   ev_a (mo_no) <|
   ev_a (mo_ild) <| ev_a0) <|
  ev_b (
   ev_a (mo_ild) <|
   ev_a (mo_sti) <|
   ev_a (mo_inc) <|
   ev_a (mo_no) <|
   ev_a (mo_no) <|
   ev_a (mo_jmp) <|
   ev_a (mo_no) <|
   ev_a (mo_no) <|
   ev_a (mo_rtv hfm) <| ev_a0) <|
  ev_b0
theorem ev_mo64 {cf : Nat → List Value → ev_W → Option ev_R} {α : Type} {r : α} {fin : Option Value → ev_W → Nat → Option α} {wE nE : Nat} (hcm : ev_cm cf) (hfm : ∀ v w n, fin v w n = some r → w.length = wE ∧ n = nE) : ev_all2 (ev_ok (ev_Pm wE nE) r) 0 (ev_o64 cf fin) :=
  ev_b (
   ev_a (mo_ald) <|
   ev_a (mo_obj) <|
   ev_a (mo_no) <|
   ev_a (mo_no) <|
   ev_a (mo_ald) <|
   ev_a (mo_psh) <|
   ev_a (mo_no) <|
   ev_a (mo_no) <|
   ev_a (mo_nwa) <|
   ev_a (mo_no) <|
   ev_a (mo_ptf) <|
   ev_a (mo_no) <|
   ev_a (mo_no) <|
   ev_a (mo_ald) <|
   ev_a (mo_psh) <|
   ev_a (mo_no) <| ev_a0) <|
  ev_b (
   ev_a (mo_no) <|
   ev_a (mo_nwa) <|
   ev_a (mo_no) <|
   ev_a (mo_ptf) <|
   ev_a (mo_no) <|
   ev_a (mo_no) <|
   ev_a (mo_ald) <|
   ev_a (mo_psh) <|
   ev_a (mo_no) <|
   ev_a (mo_no) <|
   ev_a (mo_nwa) <|
   ev_a (mo_no) <|
   ev_a (mo_ptf) <|
   ev_a (mo_no) <|
   ev_a (mo_no) <|
   ev_a (mo_rtv hfm) <| ev_a0) <|
  ev_b0
theorem ev_mo65 {cf : Nat → List Value → ev_W → Option ev_R} {α : Type} {r : α} {fin : Option Value → ev_W → Nat → Option α} {wE nE : Nat} (hcm : ev_cm cf) (hfm : ∀ v w n, fin v w n = some r → w.length = wE ∧ n = nE) : ev_all2 (ev_ok (ev_Pm wE nE) r) 0 (ev_o65 cf fin) :=
  ev_b (
   ev_a (mo_ald) <|
   ev_a (mo_obj) <|
   ev_a (mo_no) <|
   ev_a (mo_no) <|
   ev_a (mo_ald) <|
   ev_a (mo_psh) <|
   ev_a (mo_nwa) <|
   ev_a (mo_no) <|
   ev_a (mo_ptf) <|
   ev_a (mo_no) <|
   ev_a (mo_no) <|
   ev_a (mo_ald) <|
   ev_a (mo_psh) <|
   ev_a (mo_nwa) <|
   ev_a (mo_no) <|
   ev_a (mo_ptf) <| ev_a0) <|
  ev_b (
   ev_a (mo_no) <|
   ev_a (mo_no) <|
   ev_a (mo_ald) <|
   ev_a (mo_psh) <|
   ev_a (mo_no) <|
   ev_a (mo_no) <|
   ev_a (mo_nwa) <|
   ev_a (mo_no) <|
   ev_a (mo_ptf) <|
   ev_a (mo_no) <|
   ev_a (mo_no) <|
   ev_a (mo_ald) <|
   ev_a (mo_new) <|
   ev_a (mo_no) <|
   ev_a (mo_no) <|
   ev_a (mo_dup) <| ev_a0) <|
  ev_b (
   ev_a (mo_ini hcm) <|
   ev_a (mo_no) <|
   ev_a (mo_no) <|
   ev_a (mo_ptf) <|
   ev_a (mo_no) <|
   ev_a (mo_no) <|
   ev_a (mo_ald) <|
   ev_a (mo_new) <|
   ev_a (mo_no) <|
   ev_a (mo_no) <|
   ev_a (mo_dup) <|
   ev_a (mo_ini hcm) <|
   ev_a (mo_no) <|
   ev_a (mo_no) <|
   ev_a (mo_ptf) <|
   ev_a (mo_no) <| ev_a0) <|
  ev_b (
   ev_a (mo_no) <|
   ev_a (mo_ald) <|
   ev_a (mo_psh) <|
   ev_a (mo_ptf) <|
   ev_a (mo_no) <|
   ev_a (mo_no) <|
   ev_a (mo_rtv hfm) <| ev_a0) <|
  ev_b0
theorem ev_mo66 {cf : Nat → List Value → ev_W → Option ev_R} {α : Type} {r : α} {fin : Option Value → ev_W → Nat → Option α} {wE nE : Nat} (hcm : ev_cm cf) (hfm : ∀ v w n, fin v w n = some r → w.length = wE ∧ n = nE) : ev_all2 (ev_ok (ev_Pm wE nE) r) 0 (ev_o66 cf fin) :=
  ev_b (
   ev_a (mo_ald) <|
   ev_a (mo_ild) <|
   ev_a (mo_inr hcm) <|
   ev_a (mo_no) <|
   ev_a (mo_no) <|
   ev_a (mo_ist) <|
   ev_a (mo_no) <|
   ev_a (mo_ild) <|
   ev_a (mo_no) <|
   ev_a (mo_psh) <|
   ev_a (mo_cmp) <|
   ev_a (mo_no) <|
   ev_a (mo_no) <|
   ev_a (mo_ald) <|
   ev_a (mo_get) <|
   ev_a (mo_no) <| ev_a0) <|
  ev_b (
   ev_a (mo_no) <|
   ev_a (mo_ild) <|
   ev_a (mo_no) <|
   ev_a (mo_ild) <|
   ev_a (mo_ald) <|
   ev_a (mo_get) <|
   ev_a (mo_no) <|
   ev_a (mo_no) <|
   ev_a (mo_ild) <|
   ev_a (mo_no) <|
   ev_a (mo_psh) <|
   ev_a (mo_inv hcm) <|
   ev_a (mo_no) <|
   ev_a (mo_no) <|
   ev_a (mo_no) <|
   ev_a (mo_no) <| ev_a0) <|
  ev_b (
   ev_a (mo_no) <|
   ev_a (mo_inv hcm) <|
   ev_a (mo_no) <|
   ev_a (mo_no) <|
   ev_a (mo_rtv hfm) <|
   ev_a (mo_ald) <|
   ev_a (mo_get) <|
   ev_a (mo_no) <|
   ev_a (mo_no) <|
   ev_a (mo_ald) <|
   ev_a (mo_get) <|
   ev_a (mo_no) <|
   ev_a (mo_no) <|
   ev_a (mo_ild) <|
   ev_a (mo_inv hcm) <|
   ev_a (mo_no) <| ev_a0) <|
  ev_b (
   ev_a (mo_no) <|
   ev_a (mo_ald) <|
   ev_a (mo_get) <|
   ev_a (mo_no) <|
   ev_a (mo_no) <|
   ev_a (mo_ald) <|
   ev_a (mo_get) <|
   ev_a (mo_no) <|
   ev_a (mo_no) <|
   ev_a (mo_ild) <|
   ev_a (mo_inv hcm) <|
   ev_a (mo_no) <|
   ev_a (mo_no) <|
   ev_a (mo_ald) <|
   ev_a (mo_get) <|
   ev_a (mo_no) <| ev_a0) <|
  ev_b (
   ev_a (mo_no) <|
   ev_a (mo_ald) <|
   ev_a (mo_get) <|
   ev_a (mo_no) <|
   ev_a (mo_no) <|
   ev_a (mo_ild) <|
   ev_a (mo_inv hcm) <|
   ev_a (mo_no) <|
   ev_a (mo_no) <|
   ev_a (mo_ald) <|
   ev_a (mo_get) <|
   ev_a (mo_no) <|
   ev_a (mo_no) <|
   ev_a (mo_ald) <|
   ev_a (mo_get) <|
   ev_a (mo_no) <| ev_a0) <|
  ev_b (
   ev_a (mo_no) <|
   ev_a (mo_ild) <|
   ev_a (mo_no) <|
   ev_a (mo_inv hcm) <|
   ev_a (mo_no) <|
   ev_a (mo_no) <|
   ev_a (mo_ald) <|
   ev_a (mo_get) <|
   ev_a (mo_no) <|
   ev_a (mo_no) <|
   ev_a (mo_ald) <|
   ev_a (mo_get) <|
   ev_a (mo_no) <|
   ev_a (mo_no) <|
   ev_a (mo_psh) <|
   ev_a (mo_inv hcm) <| ev_a0) <|
  ev_b (
   ev_a (mo_no) <|
   ev_a (mo_no) <|
   ev_a (mo_ald) <|
   ev_a (mo_dup) <|
   ev_a (mo_get) <|
   ev_a (mo_no) <|
   ev_a (mo_no) <|
   ev_a (mo_psh) <|
   ev_a (mo_bin) <|
   ev_a (mo_ptf) <|
   ev_a (mo_no) <|
   ev_a (mo_no) <|
   ev_a (mo_rtv hfm) <| ev_a0) <|
  ev_b0
theorem ev_mo67 {cf : Nat → List Value → ev_W → Option ev_R} {α : Type} {r : α} {fin : Option Value → ev_W → Nat → Option α} {wE nE : Nat} (hcm : ev_cm cf) (hfm : ∀ v w n, fin v w n = some r → w.length = wE ∧ n = nE) : ev_all2 (ev_ok (ev_Pm wE nE) r) 0 (ev_o67 cf fin) :=
  ev_b (
   ev_a (mo_ald) <|
   ev_a (mo_ald) <|
   ev_a (mo_get) <|
   ev_a (mo_no) <|
   ev_a (mo_no) <|
   ev_a (mo_ptf) <|
   ev_a (mo_no) <|
   ev_a (mo_no) <|
   ev_a (mo_ald) <|
   ev_a (mo_get) <|
   ev_a (mo_no) <|
   ev_a (mo_no) <|
   ev_a (mo_ald) <|
   ev_a (mo_get) <|
   ev_a (mo_no) <|
   ev_a (mo_no) <| ev_a0) <|
  ev_b (
   ev_a (mo_ald) <|
   ev_a (mo_get) <|
   ev_a (mo_no) <|
   ev_a (mo_no) <|
   ev_a (mo_inv hcm) <|
   ev_a (mo_no) <|
   ev_a (mo_no) <|
   ev_a (mo_ald) <|
   ev_a (mo_get) <|
   ev_a (mo_no) <|
   ev_a (mo_no) <|
   ev_a (mo_ald) <|
   ev_a (mo_get) <|
   ev_a (mo_no) <|
   ev_a (mo_no) <|
   ev_a (mo_ald) <| ev_a0) <|
  ev_b (
   ev_a (mo_get) <|
   ev_a (mo_no) <|
   ev_a (mo_no) <|
   ev_a (mo_inv hcm) <|
   ev_a (mo_no) <|
   ev_a (mo_no) <|
   ev_a (mo_ald) <|
   ev_a (mo_get) <|
   ev_a (mo_no) <|
   ev_a (mo_no) <|
   ev_a (mo_ald) <|
   ev_a (mo_get) <|
   ev_a (mo_no) <|
   ev_a (mo_no) <|
   ev_a (mo_ald) <|
   ev_a (mo_get) <| ev_a0) <|
  ev_b (
   ev_a (mo_no) <|
   ev_a (mo_no) <|
   ev_a (mo_inv hcm) <|
   ev_a (mo_no) <|
   ev_a (mo_no) <|
   ev_a (mo_ald) <|
   ev_a (mo_get) <|
   ev_a (mo_no) <|
   ev_a (mo_no) <|
   ev_a (mo_ald) <|
   ev_a (mo_get) <|
   ev_a (mo_no) <|
   ev_a (mo_no) <|
   ev_a (mo_ald) <|
   ev_a (mo_get) <|
   ev_a (mo_no) <| ev_a0) <|
  ev_b (
   ev_a (mo_no) <|
   ev_a (mo_inv hcm) <|
   ev_a (mo_no) <|
   ev_a (mo_no) <|
   ev_a (mo_ald) <|
   ev_a (mo_get) <|
   ev_a (mo_no) <|
   ev_a (mo_no) <|
   ev_a (mo_ald) <|
   ev_a (mo_get) <|
   ev_a (mo_no) <|
   ev_a (mo_no) <|
   ev_a (mo_ald) <|
   ev_a (mo_get) <|
   ev_a (mo_no) <|
   ev_a (mo_no) <| ev_a0) <|
  ev_b (
   ev_a (mo_inv hcm) <|
   ev_a (mo_no) <|
   ev_a (mo_no) <|
   ev_a (mo_rtv hfm) <| ev_a0) <|
  ev_b0
theorem ev_mo68 {cf : Nat → List Value → ev_W → Option ev_R} {α : Type} {r : α} {fin : Option Value → ev_W → Nat → Option α} {wE nE : Nat} (hcm : ev_cm cf) (hfm : ∀ v w n, fin v w n = some r → w.length = wE ∧ n = nE) : ev_all2 (ev_ok (ev_Pm wE nE) r) 0 (ev_o68 cf fin) :=
  ev_b (
   ev_a (mo_psh) <|
   ev_a (mo_ist) <|
   ev_a (mo_ild) <|
   ev_a (mo_ald) <|
   ev_a (mo_get) <|
   ev_a (mo_no) <|
   ev_a (mo_no) <|
   ev_a (mo_cmp) <|
   ev_a (mo_no) <|
   ev_a (mo_no) <|
   ev_a (mo_ald) <|
   ev_a (mo_ild) <|
   ev_a (mo_inr hcm) <|
   ev_a (mo_no) <|
   ev_a (mo_no) <|
   ev_a (mo_cm0) <| ev_a0) <|
  ev_b (
   ev_a (mo_no) <|
   ev_a (mo_no) <|
   ev_a (mo_ald) <|
   ev_a (mo_get) <|
   ev_a (mo_no) <|
   ev_a (mo_no) <|
   ev_a (mo_ild) <|
   ev_a (mo_psh) <|
   ev_a (mo_inv hcm) <|
   ev_a (mo_no) <|
   ev_a (mo_no) <|
   ev_a (mo_ild) <|
   ev_a (mo_cmp) <|
   ev_a (mo_no) <|
   ev_a (mo_no) <|
   ev_a (mo_ald) <| ev_a0) <|
  ev_b (
   ev_a (mo_get) <|
   ev_a (mo_no) <|
   ev_a (mo_no) <|
   ev_a (mo_ild) <|
   ev_a (mo_ild) <|
   ev_a (mo_inv hcm) <|
   ev_a (mo_no) <|
   ev_a (mo_no) <|
   ev_a (mo_inc) <|
   ev_a (mo_no) <|
   ev_a (mo_no) <|
   ev_a (mo_jmp) <|
   ev_a (mo_no) <|
   ev_a (mo_no) <|
   ev_a (mo_rtv hfm) <| ev_a0) <|
  ev_b0
theorem ev_mo69 {cf : Nat → List Value → ev_W → Option ev_R} {α : Type} {r : α} {fin : Option Value → ev_W → Nat → Option α} {wE nE : Nat} (hcm : ev_cm cf) (hfm : ∀ v w n, fin v w n = some r → w.length = wE ∧ n = nE) : ev_all2 (ev_ok (ev_Pm wE nE) r) 0 (ev_o69 cf fin) :=
  ev_b (
   ev_a (mo_ald) <|
   ev_a (mo_get) <|
   ev_a (mo_no) <|
   ev_a (mo_no) <|
   ev_a (mo_ild) <|
   ev_a (mo_psh) <|
   ev_a (mo_inv hcm) <|
   ev_a (mo_no) <|
   ev_a (mo_no) <|
   ev_a (mo_ild) <|
   ev_a (mo_cmp) <|
   ev_a (mo_no) <|
   ev_a (mo_no) <|
   ev_a (mo_ald) <|
   ev_a (mo_ild) <|
   ev_a (mo_inr hcm) <| ev_a0) <|
  ev_b (
   ev_a (mo_no) <|
   ev_a (mo_no) <|
   ev_a (mo_cm0) <|
   ev_a (mo_no) <|
   ev_a (mo_no) <|
   ev_a (mo_ild) <|
   ev_a (mo_ald) <|
   ev_a (mo_get) <|
   ev_a (mo_no) <|
   ev_a (mo_no) <|
   ev_a (mo_ild) <|
   ev_a (mo_psh) <|
   ev_a (mo_inv hcm) <|
   ev_a (mo_no) <|
   ev_a (mo_no) <|
   ev_a (mo_cmp) <| ev_a0) <|
  ev_b (
   ev_a (mo_no) <|
   ev_a (mo_no) <|
   ev_a (mo_psh) <|
   ev_a (mo_jmp) <|
   ev_a (mo_no) <|
   ev_a (mo_no) <|
   ev_a (mo_psh) <|
   ev_a (mo_rtz hfm) <| ev_a0) <|
  ev_b0
theorem ev_mo70 {cf : Nat → List Value → ev_W → Option ev_R} {α : Type} {r : α} {fin : Option Value → ev_W → Nat → Option α} {wE nE : Nat} (hcm : ev_cm cf) (hfm : ∀ v w n, fin v w n = some r → w.length = wE ∧ n = nE) : ev_all2 (ev_ok (ev_Pm wE nE) r) 0 (ev_o70 cf fin) :=
  ev_b (
   ev_a (mo_ald) <|
   ev_a (mo_obj) <|
   ev_a (mo_no) <|
   ev_a (mo_no) <|
   ev_a (mo_ald) <|
   ev_a (mo_psh) <|
   ev_a (mo_no) <|
   ev_a (mo_nwa) <|
   ev_a (mo_no) <|
   ev_a (mo_ptf) <|
   ev_a (mo_no) <|
   ev_a (mo_no) <|
   ev_a (mo_ald) <|
   ev_a (mo_psh) <|
   ev_a (mo_no) <|
   ev_a (mo_nwa) <| ev_a0) <|
  ev_b (
   ev_a (mo_no) <|
   ev_a (mo_ptf) <|
   ev_a (mo_no) <|
   ev_a (mo_no) <|
   ev_a (mo_ald) <|
   ev_a (mo_psh) <|
   ev_a (mo_no) <|
   ev_a (mo_nwa) <|
   ev_a (mo_no) <|
   ev_a (mo_ptf) <|
   ev_a (mo_no) <|
   ev_a (mo_no) <|
   ev_a (mo_ald) <|
   ev_a (mo_psh) <|
   ev_a (mo_no) <|
   ev_a (mo_nwa) <| ev_a0) <|
  ev_b (
   ev_a (mo_no) <|
   ev_a (mo_ptf) <|
   ev_a (mo_no) <|
   ev_a (mo_no) <|
   ev_a (mo_ald) <|
   ev_a (mo_psh) <|
   ev_a (mo_no) <|
   ev_a (mo_nwa) <|
   ev_a (mo_no) <|
   ev_a (mo_ptf) <|
   ev_a (mo_no) <|
   ev_a (mo_no) <|
   ev_a (mo_rtv hfm) <| ev_a0) <|
  ev_b0
theorem ev_mo71 {cf : Nat → List Value → ev_W → Option ev_R} {α : Type} {r : α} {fin : Option Value → ev_W → Nat → Option α} {wE nE : Nat} (hcm : ev_cm cf) (hfm : ∀ v w n, fin v w n = some r → w.length = wE ∧ n = nE) : ev_all2 (ev_ok (ev_Pm wE nE) r) 0 (ev_o71 cf fin) :=
  ev_b (
   ev_a (mo_ald) <|
   ev_a (mo_get) <|
   ev_a (mo_no) <|
   ev_a (mo_no) <|
   ev_a (mo_ild) <|
   ev_a (mo_psh) <|
   ev_a (mo_inv hcm) <|
   ev_a (mo_no) <|
   ev_a (mo_no) <|
   ev_a (mo_psh) <|
   ev_a (mo_cmp) <|
   ev_a (mo_no) <|
   ev_a (mo_no) <|
   ev_a (mo_psh) <|
   ev_a (mo_jmp) <|
   ev_a (mo_no) <| ev_a0) <|
  ev_b (
   ev_a (mo_no) <|
   ev_a (mo_psh) <|
   ev_a (mo_rtz hfm) <| ev_a0) <|
  ev_b0
theorem ev_mo72 {cf : Nat → List Value → ev_W → Option ev_R} {α : Type} {r : α} {fin : Option Value → ev_W → Nat → Option α} {wE nE : Nat} (hcm : ev_cm cf) (hfm : ∀ v w n, fin v w n = some r → w.length = wE ∧ n = nE) : ev_all2 (ev_ok (ev_Pm wE nE) r) 0 (ev_o72 cf fin) :=
  ev_b (
   ev_a (mo_psh) <|
   ev_a (mo_ist) <|
   ev_a (mo_ild) <|
   ev_a (mo_ald) <|
   ev_a (mo_get) <|
   ev_a (mo_no) <|
   ev_a (mo_no) <|
   ev_a (mo_cmp) <|
   ev_a (mo_no) <|
   ev_a (mo_no) <|
   ev_a (mo_ald) <|
   ev_a (mo_ild) <|
   ev_a (mo_inr hcm) <|
   ev_a (mo_no) <|
   ev_a (mo_no) <|
   ev_a (mo_cm0) <| ev_a0) <|
  ev_b (
   ev_a (mo_no) <|
   ev_a (mo_no) <|
   ev_a (mo_ald) <|
   ev_a (mo_get) <|
   ev_a (mo_no) <|
   ev_a (mo_no) <|
   ev_a (mo_ild) <|
   ev_a (mo_psh) <|
   ev_a (mo_inv hcm) <|
   ev_a (mo_no) <|
   ev_a (mo_no) <|
   ev_a (mo_ild) <|
   ev_a (mo_cmp) <|
   ev_a (mo_no) <|
   ev_a (mo_no) <|
   ev_a (mo_ild) <| ev_a0) <|
  ev_b (
   ev_a (mo_rti hfm) <|
   ev_a (mo_inc) <|
   ev_a (mo_no) <|
   ev_a (mo_no) <|
   ev_a (mo_jmp) <|
   ev_a (mo_no) <|
   ev_a (mo_no) <|
   ev_a (mo_psh) <|
   ev_a (mo_rti hfm) <| ev_a0) <|
  ev_b0
theorem ev_mo73 {cf : Nat → List Value → ev_W → Option ev_R} {α : Type} {r : α} {fin : Option Value → ev_W → Nat → Option α} {wE nE : Nat} (hcm : ev_cm cf) (hfm : ∀ v w n, fin v w n = some r → w.length = wE ∧ n = nE) : ev_all2 (ev_ok (ev_Pm wE nE) r) 0 (ev_o73 cf fin) :=
  ev_b (
   ev_a (mo_psh) <|
   ev_a (mo_ist) <|
   ev_a (mo_no) <|
   ev_a (mo_ild) <|
   ev_a (mo_no) <|
   ev_a (mo_ald) <|
   ev_a (mo_get) <|
   ev_a (mo_no) <|
   ev_a (mo_no) <|
   ev_a (mo_cmp) <|
   ev_a (mo_no) <|
   ev_a (mo_no) <|
   ev_a (mo_ald) <|
   ev_a (mo_get) <|
   ev_a (mo_no) <|
   ev_a (mo_no) <| ev_a0) <|
  ev_b (
   ev_a (mo_ild) <|
   ev_a (mo_no) <|
   ev_a (mo_psh) <|
   ev_a (mo_inv hcm) <|
   ev_a (mo_no) <|
   ev_a (mo_no) <|
   ev_a (mo_ist) <|
   ev_a (mo_no) <|
   ev_a (mo_ald) <|
   ev_a (mo_get) <|
   ev_a (mo_no) <|
   ev_a (mo_no) <|
   ev_a (mo_ild) <|
   ev_a (mo_no) <|
   ev_a (mo_psh) <|
   ev_a (mo_inv hcm) <| ev_a0) <|
  ev_b (
   ev_a (mo_no) <|
   ev_a (mo_no) <|
   ev_a (mo_ist) <|
   ev_a (mo_no) <|
   ev_a (mo_ild) <|
   ev_a (mo_no) <|
   ev_a (mo_cm0) <|
   ev_a (mo_no) <|
   ev_a (mo_no) <|
   ev_a (mo_ald) <|
   ev_a (mo_ald) <|
   ev_a (mo_ild) <|
   ev_a (mo_no) <|
   ev_a (mo_inr hcm) <|
   ev_a (mo_no) <|
   ev_a (mo_no) <| ev_a0) <|
  ev_b (
   ev_a (mo_ild) <|
   ev_a (mo_inr hcm) <|
   ev_a (mo_no) <|
   ev_a (mo_no) <|
   ev_a (mo_jmp) <|
   ev_a (mo_no) <|
   ev_a (mo_no) <|
   ev_a (mo_ald) <|
   ev_a (mo_ild) <|
   ev_a (mo_no) <|
   ev_a (mo_ald) <|
   ev_a (mo_ild) <|
   ev_a (mo_no) <|
   ev_a (mo_inr hcm) <|
   ev_a (mo_no) <|
   ev_a (mo_no) <| ev_a0) <|
  ev_b (
   ev_a (mo_ild) <|
   ev_a (mo_no) <|
   ev_a (mo_ild) <|
   ev_a (mo_inr hcm) <|
   ev_a (mo_no) <|
   ev_a (mo_no) <|
   ev_a (mo_inc) <|
   ev_a (mo_no) <|
   ev_a (mo_no) <|
   ev_a (mo_jmp) <|
   ev_a (mo_no) <|
   ev_a (mo_no) <|
   ev_a (mo_rtv hfm) <| ev_a0) <|
  ev_b0
theorem ev_mo74 {cf : Nat → List Value → ev_W → Option ev_R} {α : Type} {r : α} {fin : Option Value → ev_W → Nat → Option α} {wE nE : Nat} (hcm : ev_cm cf) (hfm : ∀ v w n, fin v w n = some r → w.length = wE ∧ n = nE) : ev_all2 (ev_ok (ev_Pm wE nE) r) 0 (ev_o74 cf fin) :=
  ev_b (
   ev_a (mo_ald) <|
   ev_a (mo_obj) <|
   ev_a (mo_no) <|
   ev_a (mo_no) <|
   ev_a (mo_ald) <|
   ev_a (mo_psh) <|
   ev_a (mo_nwa) <|
   ev_a (mo_no) <|
   ev_a (mo_ptf) <|
   ev_a (mo_no) <|
   ev_a (mo_no) <|
   ev_a (mo_ald) <|
   ev_a (mo_psh) <|
   ev_a (mo_nwa) <|
   ev_a (mo_no) <|
   ev_a (mo_ptf) <| ev_a0) <|
  ev_b (
   ev_a (mo_no) <|
   ev_a (mo_no) <|
   ev_a (mo_ald) <|
   ev_a (mo_psh) <|
   ev_a (mo_nwa) <|
   ev_a (mo_no) <|
   ev_a (mo_ptf) <|
   ev_a (mo_no) <|
   ev_a (mo_no) <|
   ev_a (mo_rtv hfm) <| ev_a0) <|
  ev_b0
theorem ev_mo75 {cf : Nat → List Value → ev_W → Option ev_R} {α : Type} {r : α} {fin : Option Value → ev_W → Nat → Option α} {wE nE : Nat} (hcm : ev_cm cf) (hfm : ∀ v w n, fin v w n = some r → w.length = wE ∧ n = nE) : ev_all2 (ev_ok (ev_Pm wE nE) r) 0 (ev_o75 cf fin) :=
  ev_b (
   ev_a (mo_psh) <|
   ev_a (mo_ist) <|
   ev_a (mo_psh) <|
   ev_a (mo_ist) <|
   ev_a (mo_ild) <|
   ev_a (mo_psh) <|
   ev_a (mo_no) <|
   ev_a (mo_cmp) <|
   ev_a (mo_no) <|
   ev_a (mo_no) <|
   ev_a (mo_ald) <|
   ev_a (mo_ild) <|
   ev_a (mo_ald) <|
   ev_a (mo_inr hcm) <|
   ev_a (mo_no) <|
   ev_a (mo_no) <| ev_a0) <|
  ev_b (
   ev_a (mo_cm0) <|
   ev_a (mo_no) <|
   ev_a (mo_no) <|
   ev_a (mo_inc) <|
   ev_a (mo_no) <|
   ev_a (mo_no) <|
   ev_a (mo_inc) <|
   ev_a (mo_no) <|
   ev_a (mo_no) <|
   ev_a (mo_jmp) <|
   ev_a (mo_no) <|
   ev_a (mo_no) <|
   ev_a (mo_ild) <|
   ev_a (mo_rti hfm) <| ev_a0) <|
  ev_b0
theorem ev_mo76 {cf : Nat → List Value → ev_W → Option ev_R} {α : Type} {r : α} {fin : Option Value → ev_W → Nat → Option α} {wE nE : Nat} (hcm : ev_cm cf) (hfm : ∀ v w n, fin v w n = some r → w.length = wE ∧ n = nE) : ev_all2 (ev_ok (ev_Pm wE nE) r) 0 (ev_o76 cf fin) :=
  ev_b (
   ev_a (mo_ald) <|
   ev_a (mo_get) <|
   ev_a (mo_no) <|
   ev_a (mo_no) <|
   ev_a (mo_psh) <|
   ev_a (mo_inv hcm) <|
   ev_a (mo_no) <|
   ev_a (mo_no) <|
   ev_a (mo_psh) <|
   ev_a (mo_ist) <|
   ev_a (mo_ild) <|
   ev_a (mo_ald) <|
   ev_a (mo_get) <|
   ev_a (mo_no) <|
   ev_a (mo_no) <|
   ev_a (mo_cmp) <| ev_a0) <|
  ev_b (
   ev_a (mo_no) <|
   ev_a (mo_no) <|
   ev_a (mo_ald) <|
   ev_a (mo_ild) <|
   ev_a (mo_ild) <|
   ev_a (mo_inr hcm) <|
   ev_a (mo_no) <|
   ev_a (mo_no) <|
   ev_a (mo_cm0) <|
   ev_a (mo_no) <|
   ev_a (mo_no) <|
   ev_a (mo_ald) <|
   ev_a (mo_get) <|
   ev_a (mo_no) <|
   ev_a (mo_no) <|
   ev_a (mo_ild) <| ev_a0) <|
  ev_b (
   ev_a (mo_psh) <|
   ev_a (mo_inv hcm) <|
   ev_a (mo_no) <|
   ev_a (mo_no) <|
   ev_a (mo_ist) <|
   ev_a (mo_no) <|
   ev_a (mo_ild) <|
   ev_a (mo_no) <|
   ev_a (mo_psh) <|
   ev_a (mo_no) <|
   ev_a (mo_div) <|
   ev_a (mo_ist) <|
   ev_a (mo_no) <|
   ev_a (mo_ald) <|
   ev_a (mo_get) <|
   ev_a (mo_no) <| ev_a0) <|
  ev_b (
   ev_a (mo_no) <|
   ev_a (mo_ild) <|
   ev_a (mo_no) <|
   ev_a (mo_ald) <|
   ev_a (mo_get) <|
   ev_a (mo_no) <|
   ev_a (mo_no) <|
   ev_a (mo_ild) <|
   ev_a (mo_no) <|
   ev_a (mo_psh) <|
   ev_a (mo_inv hcm) <|
   ev_a (mo_no) <|
   ev_a (mo_no) <|
   ev_a (mo_psh) <|
   ev_a (mo_ild) <|
   ev_a (mo_no) <| ev_a0) <|
  ev_b (
   ev_a (mo_psh) <|
   ev_a (mo_no) <|
   ev_a (mo_div) <|
   ev_a (mo_bin) <|
   ev_a (mo_bin) <|
   ev_a (mo_inv hcm) <|
   ev_a (mo_no) <|
   ev_a (mo_no) <|
   ev_a (mo_inc) <|
   ev_a (mo_no) <|
   ev_a (mo_no) <|
   ev_a (mo_jmp) <|
   ev_a (mo_no) <|
   ev_a (mo_no) <|
   ev_a (mo_rtv hfm) <| ev_a0) <|
  ev_b0
theorem ev_mo77 {cf : Nat → List Value → ev_W → Option ev_R} {α : Type} {r : α} {fin : Option Value → ev_W → Nat → Option α} {wE nE : Nat} (hcm : ev_cm cf) (hfm : ∀ v w n, fin v w n = some r → w.length = wE ∧ n = nE) : ev_all2 (ev_ok (ev_Pm wE nE) r) 0 (ev_o77 cf fin) :=
  ev_b (
   ev_a (mo_ald) <|
   ev_a (mo_obj) <|
   ev_a (mo_no) <|
   ev_a (mo_no) <|
   ev_a (mo_ald) <|
   ev_a (mo_psh) <|
   ev_a (mo_no) <|
   ev_a (mo_nwa) <|
   ev_a (mo_no) <|
   ev_a (mo_ptf) <|
   ev_a (mo_no) <|
   ev_a (mo_no) <|
   ev_a (mo_rtv hfm) <| ev_a0) <|
  ev_b0
theorem ev_mo78 {cf : Nat → List Value → ev_W → Option ev_R} {α : Type} {r : α} {fin : Option Value → ev_W → Nat → Option α} {wE nE : Nat} (hcm : ev_cm cf) (hfm : ∀ v w n, fin v w n = some r → w.length = wE ∧ n = nE) : ev_all2 (ev_ok (ev_Pm wE nE) r) 0 (ev_o78 cf fin) :=
  ev_b (
   ev_a (mo_psh) <|
   ev_a (mo_ist) <|
   ev_a (mo_ild) <|
   ev_a (mo_psh) <|
   ev_a (mo_no) <|
   ev_a (mo_cmp) <|
   ev_a (mo_no) <|
   ev_a (mo_no) <|
   ev_a (mo_ild) <|
   ev_a (mo_psh) <|
   ev_a (mo_no) <|
   ev_a (mo_bin) <|
   ev_a (mo_ald) <|
   ev_a (mo_ild) <|
   ev_a (mo_inr hcm) <|
   ev_a (mo_no) <| ev_a0) <|
  ev_b (
   ev_a (mo_no) <|
   ev_a (mo_bin) <|
   ev_a (mo_ist) <|
   ev_a (mo_no) <|
   ev_a (mo_ald) <|
   ev_a (mo_get) <|
   ev_a (mo_no) <|
   ev_a (mo_no) <|
   ev_a (mo_ild) <|
   ev_a (mo_inv hcm) <|
   ev_a (mo_no) <|
   ev_a (mo_no) <|
   ev_a (mo_cm0) <|
   ev_a (mo_no) <|
   ev_a (mo_no) <|
   ev_a (mo_ald) <| ev_a0) <|
  ev_b (
   ev_a (mo_get) <|
   ev_a (mo_no) <|
   ev_a (mo_no) <|
   ev_a (mo_ild) <|
   ev_a (mo_no) <|
   ev_a (mo_psh) <|
   ev_a (mo_inv hcm) <|
   ev_a (mo_no) <|
   ev_a (mo_no) <|
   ev_a (mo_no) <|
   ev_a (mo_no) <|
   ev_a (mo_no) <|
   ev_a (mo_psh) <|
   ev_a (mo_cmp) <|
   ev_a (mo_no) <|
   ev_a (mo_no) <| ev_a0) <|
  ev_b (
   ev_a (mo_psh) <|
   ev_a (mo_rtz hfm) <|
   ev_a (mo_inc) <|
   ev_a (mo_no) <|
   ev_a (mo_no) <|
   ev_a (mo_jmp) <|
   ev_a (mo_no) <|
   ev_a (mo_no) <|
   ev_a (mo_psh) <|
   ev_a (mo_rtz hfm) <| ev_a0) <|
  ev_b0
theorem ev_rowsall {l : Launch} {d : Nat} {cf : Nat → List Value → ev_W → Option ev_R} (hcf : ev_cf l ev_ys d cf) (hcm : ev_cm cf) : ev_rows l d ev_ys (ev_tabs cf) :=
  ev_r ev_row_none <|
  ev_r (ev_row_code (by decide +kernel) (fun r wE nE hfm => ev_mo1 hcm hfm) (fun p e R s m args below meth c Q D G ad A z wE nE P r X hP hR hd2 hnm Qc hQ hfin => ev_s1 X hP hR hd2 (by omega) (by omega) hcf hQ hfin) (by decide) (by decide)) <|
  ev_r (ev_row_code (by decide +kernel) (fun r wE nE hfm => ev_mo2 hcm hfm) (fun p e R s m args below meth c Q D G ad A z wE nE P r X hP hR hd2 hnm Qc hQ hfin => ev_s2 X hP hR hd2 (by omega) (by omega) hcf hQ hfin) (by decide) (by decide)) <|
  ev_r (ev_row_code (by decide +kernel) (fun r wE nE hfm => ev_mo3 hcm hfm) (fun p e R s m args below meth c Q D G ad A z wE nE P r X hP hR hd2 hnm Qc hQ hfin => ev_s3 X hP hR hd2 (by omega) (by omega) hcf hQ hfin) (by decide) (by decide)) <|
  ev_r (ev_row_code (by decide +kernel) (fun r wE nE hfm => ev_mo4 hcm hfm) (fun p e R s m args below meth c Q D G ad A z wE nE P r X hP hR hd2 hnm Qc hQ hfin => ev_s4 X hP hR hd2 (by omega) (by omega) hcf hQ hfin) (by decide) (by decide)) <|
  ev_r (ev_row_code (by decide +kernel) (fun r wE nE hfm => ev_mo5 hcm hfm) (fun p e R s m args below meth c Q D G ad A z wE nE P r X hP hR hd2 hnm Qc hQ hfin => ev_s5 X hP hR hd2 (by omega) (by omega) hcf hnm hQ hfin) (by decide) (by decide)) <|
  ev_r (ev_row_code (by decide +kernel) (fun r wE nE hfm => ev_mo6 hcm hfm) (fun p e R s m args below meth c Q D G ad A z wE nE P r X hP hR hd2 hnm Qc hQ hfin => ev_s6 X hP hR hd2 (by omega) (by omega) hcf hQ hfin) (by decide) (by decide)) <|
  ev_r (ev_row_code (by decide +kernel) (fun r wE nE hfm => ev_mo7 hcm hfm) (fun p e R s m args below meth c Q D G ad A z wE nE P r X hP hR hd2 hnm Qc hQ hfin => ev_s7 X hP hR hd2 (by omega) (by omega) hcf hQ hfin) (by decide) (by decide)) <|
  ev_r (ev_row_code (by decide +kernel) (fun r wE nE hfm => ev_mo8 hcm hfm) (fun p e R s m args below meth c Q D G ad A z wE nE P r X hP hR hd2 hnm Qc hQ hfin => ev_s8 X hP hR hd2 (by omega) (by omega) hcf hQ hfin) (by decide) (by decide)) <|
  ev_r (ev_row_code (by decide +kernel) (fun r wE nE hfm => ev_mo9 hcm hfm) (fun p e R s m args below meth c Q D G ad A z wE nE P r X hP hR hd2 hnm Qc hQ hfin => ev_s9 X hP hR hd2 (by omega) (by omega) hcf hQ hfin) (by decide) (by decide)) <|
  ev_r (ev_row_code (by decide +kernel) (fun r wE nE hfm => ev_mo10 hcm hfm) (fun p e R s m args below meth c Q D G ad A z wE nE P r X hP hR hd2 hnm Qc hQ hfin => ev_s10 X hP hR hd2 (by omega) (by omega) hcf hQ hfin) (by decide) (by decide)) <|
  ev_r (ev_row_code (by decide +kernel) (fun r wE nE hfm => ev_mo11 hcm hfm) (fun p e R s m args below meth c Q D G ad A z wE nE P r X hP hR hd2 hnm Qc hQ hfin => ev_s11 X hP hR hd2 (by omega) (by omega) hcf hQ hfin) (by decide) (by decide)) <|
  ev_r (ev_row_code (by decide +kernel) (fun r wE nE hfm => ev_mo12 hcm hfm) (fun p e R s m args below meth c Q D G ad A z wE nE P r X hP hR hd2 hnm Qc hQ hfin => ev_s12 X hP hR hd2 (by omega) (by omega) hcf hQ hfin) (by decide) (by decide)) <|
  ev_r (ev_row_code (by decide +kernel) (fun r wE nE hfm => ev_mo13 hcm hfm) (fun p e R s m args below meth c Q D G ad A z wE nE P r X hP hR hd2 hnm Qc hQ hfin => ev_s13 X hP hR hd2 (by omega) (by omega) hcf hQ hfin) (by decide) (by decide)) <|
  ev_r (ev_row_code (by decide +kernel) (fun r wE nE hfm => ev_mo14 hcm hfm) (fun p e R s m args below meth c Q D G ad A z wE nE P r X hP hR hd2 hnm Qc hQ hfin => ev_s14 X hP hR hd2 (by omega) (by omega) hcf hQ hfin) (by decide) (by decide)) <|
  ev_r (ev_row_code (by decide +kernel) (fun r wE nE hfm => ev_mo15 hcm hfm) (fun p e R s m args below meth c Q D G ad A z wE nE P r X hP hR hd2 hnm Qc hQ hfin => ev_s15 X hP hR hd2 (by omega) (by omega) hcf hQ hfin) (by decide) (by decide)) <|
  ev_r (ev_row_code (by decide +kernel) (fun r wE nE hfm => ev_mo16 hcm hfm) (fun p e R s m args below meth c Q D G ad A z wE nE P r X hP hR hd2 hnm Qc hQ hfin => ev_s16 X hP hR hd2 (by omega) (by omega) hcf hQ hfin) (by decide) (by decide)) <|
  ev_r (ev_row_codeW (by decide +kernel) (fun r wE nE hfm => ev_mo17 hcm hfm) (fun p e R s m args below meth c Q D G ad A z wE nE P r X hP hR hd2 hnm Qc hQ hfin => ev_s17 X hP hR hd2 (by omega) (by omega) hcf hQ hfin) (by decide) (by decide)) <|
  ev_r ev_row_none <|
  ev_r (ev_row_codeW (by decide +kernel) (fun r wE nE hfm => ev_mo19 hcm hfm) (fun p e R s m args below meth c Q D G ad A z wE nE P r X hP hR hd2 hnm Qc hQ hfin => ev_s19 X hP hR hd2 (by omega) (by omega) hcf hQ hfin) (by decide) (by decide)) <|
  ev_r (ev_row_codeW (by decide +kernel) (fun r wE nE hfm => ev_mo20 hcm hfm) (fun p e R s m args below meth c Q D G ad A z wE nE P r X hP hR hd2 hnm Qc hQ hfin => ev_s20 X hP hR hd2 (by omega) (by omega) hcf hQ hfin) (by decide) (by decide)) <|
  ev_r (ev_row_code (by decide +kernel) (fun r wE nE hfm => ev_mo21 hcm hfm) (fun p e R s m args below meth c Q D G ad A z wE nE P r X hP hR hd2 hnm Qc hQ hfin => ev_s21 X hP hR hd2 (by omega) (by omega) hcf hQ hfin) (by decide) (by decide)) <|
  ev_r (ev_row_code (by decide +kernel) (fun r wE nE hfm => ev_mo22 hcm hfm) (fun p e R s m args below meth c Q D G ad A z wE nE P r X hP hR hd2 hnm Qc hQ hfin => ev_s22 X hP hR hd2 (by omega) (by omega) hcf hQ hfin) (by decide) (by decide)) <|
  ev_r (ev_row_code (by decide +kernel) (fun r wE nE hfm => ev_mo23 hcm hfm) (fun p e R s m args below meth c Q D G ad A z wE nE P r X hP hR hd2 hnm Qc hQ hfin => ev_s23 X hP hR hd2 (by omega) (by omega) hcf hnm hQ hfin) (by decide) (by decide)) <|
  ev_r (ev_row_code (by decide +kernel) (fun r wE nE hfm => ev_mo24 hcm hfm) (fun p e R s m args below meth c Q D G ad A z wE nE P r X hP hR hd2 hnm Qc hQ hfin => ev_s24 X hP hR hd2 (by omega) (by omega) hcf hQ hfin) (by decide) (by decide)) <|
  ev_r (ev_row_code (by decide +kernel) (fun r wE nE hfm => ev_mo25 hcm hfm) (fun p e R s m args below meth c Q D G ad A z wE nE P r X hP hR hd2 hnm Qc hQ hfin => ev_s25 X hP hR hd2 (by omega) (by omega) hcf hQ hfin) (by decide) (by decide)) <|
  ev_r (ev_row_code (by decide +kernel) (fun r wE nE hfm => ev_mo26 hcm hfm) (fun p e R s m args below meth c Q D G ad A z wE nE P r X hP hR hd2 hnm Qc hQ hfin => ev_s26 X hP hR hd2 (by omega) (by omega) hcf hQ hfin) (by decide) (by decide)) <|
  ev_r (ev_row_code (by decide +kernel) (fun r wE nE hfm => ev_mo27 hcm hfm) (fun p e R s m args below meth c Q D G ad A z wE nE P r X hP hR hd2 hnm Qc hQ hfin => ev_s27 X hP hR hd2 (by omega) (by omega) hcf hQ hfin) (by decide) (by decide)) <|
  ev_r (ev_row_code (by decide +kernel) (fun r wE nE hfm => ev_mo28 hcm hfm) (fun p e R s m args below meth c Q D G ad A z wE nE P r X hP hR hd2 hnm Qc hQ hfin => ev_s28 X hP hR hd2 (by omega) (by omega) hcf hQ hfin) (by decide) (by decide)) <|
  ev_r (ev_row_code (by decide +kernel) (fun r wE nE hfm => ev_mo29 hcm hfm) (fun p e R s m args below meth c Q D G ad A z wE nE P r X hP hR hd2 hnm Qc hQ hfin => ev_s29 X hP hR hd2 (by omega) (by omega) hcf hQ hfin) (by decide) (by decide)) <|
  ev_r (ev_row_code (by decide +kernel) (fun r wE nE hfm => ev_mo30 hcm hfm) (fun p e R s m args below meth c Q D G ad A z wE nE P r X hP hR hd2 hnm Qc hQ hfin => ev_s30 X hP hR hd2 (by omega) (by omega) hcf hQ hfin) (by decide) (by decide)) <|
  ev_r (ev_row_code (by decide +kernel) (fun r wE nE hfm => ev_mo31 hcm hfm) (fun p e R s m args below meth c Q D G ad A z wE nE P r X hP hR hd2 hnm Qc hQ hfin => ev_s31 X hP hR hd2 (by omega) (by omega) hcf hnm hQ hfin) (by decide) (by decide)) <|
  ev_r (ev_row_code (by decide +kernel) (fun r wE nE hfm => ev_mo32 hcm hfm) (fun p e R s m args below meth c Q D G ad A z wE nE P r X hP hR hd2 hnm Qc hQ hfin => ev_s32 X hP hR hd2 (by omega) (by omega) hcf hQ hfin) (by decide) (by decide)) <|
  ev_r (ev_row_code (by decide +kernel) (fun r wE nE hfm => ev_mo33 hcm hfm) (fun p e R s m args below meth c Q D G ad A z wE nE P r X hP hR hd2 hnm Qc hQ hfin => ev_s33 X hP hR hd2 (by omega) (by omega) hcf hQ hfin) (by decide) (by decide)) <|
  ev_r (ev_row_code (by decide +kernel) (fun r wE nE hfm => ev_mo34 hcm hfm) (fun p e R s m args below meth c Q D G ad A z wE nE P r X hP hR hd2 hnm Qc hQ hfin => ev_s34 X hP hR hd2 (by omega) (by omega) hcf hQ hfin) (by decide) (by decide)) <|
  ev_r (ev_row_code (by decide +kernel) (fun r wE nE hfm => ev_mo35 hcm hfm) (fun p e R s m args below meth c Q D G ad A z wE nE P r X hP hR hd2 hnm Qc hQ hfin => ev_s35 X hP hR hd2 (by omega) (by omega) hcf hQ hfin) (by decide) (by decide)) <|
  ev_r (ev_row_code (by decide +kernel) (fun r wE nE hfm => ev_mo36 hcm hfm) (fun p e R s m args below meth c Q D G ad A z wE nE P r X hP hR hd2 hnm Qc hQ hfin => ev_s36 X hP hR hd2 (by omega) (by omega) hcf hQ hfin) (by decide) (by decide)) <|
  ev_r (ev_row_code (by decide +kernel) (fun r wE nE hfm => ev_mo37 hcm hfm) (fun p e R s m args below meth c Q D G ad A z wE nE P r X hP hR hd2 hnm Qc hQ hfin => ev_s37 X hP hR hd2 (by omega) (by omega) hcf hQ hfin) (by decide) (by decide)) <|
  ev_r (ev_row_code (by decide +kernel) (fun r wE nE hfm => ev_mo38 hcm hfm) (fun p e R s m args below meth c Q D G ad A z wE nE P r X hP hR hd2 hnm Qc hQ hfin => ev_s38 X hP hR hd2 (by omega) (by omega) hcf hQ hfin) (by decide) (by decide)) <|
  ev_r (ev_row_code (by decide +kernel) (fun r wE nE hfm => ev_mo39 hcm hfm) (fun p e R s m args below meth c Q D G ad A z wE nE P r X hP hR hd2 hnm Qc hQ hfin => ev_s39 X hP hR hd2 (by omega) (by omega) hcf hQ hfin) (by decide) (by decide)) <|
  ev_r (ev_row_code (by decide +kernel) (fun r wE nE hfm => ev_mo40 hcm hfm) (fun p e R s m args below meth c Q D G ad A z wE nE P r X hP hR hd2 hnm Qc hQ hfin => ev_s40 X hP hR hd2 (by omega) (by omega) hcf hQ hfin) (by decide) (by decide)) <|
  ev_r (ev_row_code (by decide +kernel) (fun r wE nE hfm => ev_mo41 hcm hfm) (fun p e R s m args below meth c Q D G ad A z wE nE P r X hP hR hd2 hnm Qc hQ hfin => ev_s41 X hP hR hd2 (by omega) (by omega) hcf hQ hfin) (by decide) (by decide)) <|
  ev_r (ev_row_code (by decide +kernel) (fun r wE nE hfm => ev_mo42 hcm hfm) (fun p e R s m args below meth c Q D G ad A z wE nE P r X hP hR hd2 hnm Qc hQ hfin => ev_s42 X hP hR hd2 (by omega) (by omega) hcf hQ hfin) (by decide) (by decide)) <|
  ev_r (ev_row_code (by decide +kernel) (fun r wE nE hfm => ev_mo43 hcm hfm) (fun p e R s m args below meth c Q D G ad A z wE nE P r X hP hR hd2 hnm Qc hQ hfin => ev_s43 X hP hR hd2 (by omega) (by omega) hcf hQ hfin) (by decide) (by decide)) <|
  ev_r (ev_row_code (by decide +kernel) (fun r wE nE hfm => ev_mo44 hcm hfm) (fun p e R s m args below meth c Q D G ad A z wE nE P r X hP hR hd2 hnm Qc hQ hfin => ev_s44 X hP hR hd2 (by omega) (by omega) hcf hQ hfin) (by decide) (by decide)) <|
  ev_r (ev_row_code (by decide +kernel) (fun r wE nE hfm => ev_mo45 hcm hfm) (fun p e R s m args below meth c Q D G ad A z wE nE P r X hP hR hd2 hnm Qc hQ hfin => ev_s45 X hP hR hd2 (by omega) (by omega) hcf hQ hfin) (by decide) (by decide)) <|
  ev_r (ev_row_code (by decide +kernel) (fun r wE nE hfm => ev_mo46 hcm hfm) (fun p e R s m args below meth c Q D G ad A z wE nE P r X hP hR hd2 hnm Qc hQ hfin => ev_s46 X hP hR hd2 (by omega) (by omega) hcf hQ hfin) (by decide) (by decide)) <|
  ev_r (ev_row_code (by decide +kernel) (fun r wE nE hfm => ev_mo47 hcm hfm) (fun p e R s m args below meth c Q D G ad A z wE nE P r X hP hR hd2 hnm Qc hQ hfin => ev_s47 X hP hR hd2 (by omega) (by omega) hcf hnm hQ hfin) (by decide) (by decide)) <|
  ev_r (ev_row_code (by decide +kernel) (fun r wE nE hfm => ev_mo48 hcm hfm) (fun p e R s m args below meth c Q D G ad A z wE nE P r X hP hR hd2 hnm Qc hQ hfin => ev_s48 X hP hR hd2 (by omega) (by omega) hcf hQ hfin) (by decide) (by decide)) <|
  ev_r (ev_row_code (by decide +kernel) (fun r wE nE hfm => ev_mo49 hcm hfm) (fun p e R s m args below meth c Q D G ad A z wE nE P r X hP hR hd2 hnm Qc hQ hfin => ev_s49 X hP hR hd2 (by omega) (by omega) hcf hQ hfin) (by decide) (by decide)) <|
  ev_r (ev_row_code (by decide +kernel) (fun r wE nE hfm => ev_mo50 hcm hfm) (fun p e R s m args below meth c Q D G ad A z wE nE P r X hP hR hd2 hnm Qc hQ hfin => ev_s50 X hP hR hd2 (by omega) (by omega) hcf hQ hfin) (by decide) (by decide)) <|
  ev_r (ev_row_code (by decide +kernel) (fun r wE nE hfm => ev_mo51 hcm hfm) (fun p e R s m args below meth c Q D G ad A z wE nE P r X hP hR hd2 hnm Qc hQ hfin => ev_s51 X hP hR hd2 (by omega) (by omega) hcf hQ hfin) (by decide) (by decide)) <|
  ev_r (ev_row_code (by decide +kernel) (fun r wE nE hfm => ev_mo52 hcm hfm) (fun p e R s m args below meth c Q D G ad A z wE nE P r X hP hR hd2 hnm Qc hQ hfin => ev_s52 X hP hR hd2 (by omega) (by omega) hcf hQ hfin) (by decide) (by decide)) <|
  ev_r (ev_row_code (by decide +kernel) (fun r wE nE hfm => ev_mo53 hcm hfm) (fun p e R s m args below meth c Q D G ad A z wE nE P r X hP hR hd2 hnm Qc hQ hfin => ev_s53 X hP hR hd2 (by omega) (by omega) hcf hQ hfin) (by decide) (by decide)) <|
  ev_r (ev_row_code (by decide +kernel) (fun r wE nE hfm => ev_mo54 hcm hfm) (fun p e R s m args below meth c Q D G ad A z wE nE P r X hP hR hd2 hnm Qc hQ hfin => ev_s54 X hP hR hd2 (by omega) (by omega) hcf hQ hfin) (by decide) (by decide)) <|
  ev_r (ev_row_code (by decide +kernel) (fun r wE nE hfm => ev_mo55 hcm hfm) (fun p e R s m args below meth c Q D G ad A z wE nE P r X hP hR hd2 hnm Qc hQ hfin => ev_s55 X hP hR hd2 (by omega) (by omega) hcf hQ hfin) (by decide) (by decide)) <|
  ev_r (ev_row_code (by decide +kernel) (fun r wE nE hfm => ev_mo56 hcm hfm) (fun p e R s m args below meth c Q D G ad A z wE nE P r X hP hR hd2 hnm Qc hQ hfin => ev_s56 X hP hR hd2 (by omega) (by omega) hcf hQ hfin) (by decide) (by decide)) <|
  ev_r (ev_row_code (by decide +kernel) (fun r wE nE hfm => ev_mo57 hcm hfm) (fun p e R s m args below meth c Q D G ad A z wE nE P r X hP hR hd2 hnm Qc hQ hfin => ev_s57 X hP hR hd2 (by omega) (by omega) hcf hnm hQ hfin) (by decide) (by decide)) <|
  ev_r (ev_row_code (by decide +kernel) (fun r wE nE hfm => ev_mo58 hcm hfm) (fun p e R s m args below meth c Q D G ad A z wE nE P r X hP hR hd2 hnm Qc hQ hfin => ev_s58 X hP hR hd2 (by omega) (by omega) hcf hnm hQ hfin) (by decide) (by decide)) <|
  ev_r (ev_row_code (by decide +kernel) (fun r wE nE hfm => ev_mo59 hcm hfm) (fun p e R s m args below meth c Q D G ad A z wE nE P r X hP hR hd2 hnm Qc hQ hfin => ev_s59 X hP hR hd2 (by omega) (by omega) hcf hnm hQ hfin) (by decide) (by decide)) <|
  ev_r (ev_row_code (by decide +kernel) (fun r wE nE hfm => ev_mo60 hcm hfm) (fun p e R s m args below meth c Q D G ad A z wE nE P r X hP hR hd2 hnm Qc hQ hfin => ev_s60 X hP hR hd2 (by omega) (by omega) hcf hQ hfin) (by decide) (by decide)) <|
  ev_r (ev_row_code (by decide +kernel) (fun r wE nE hfm => ev_mo61 hcm hfm) (fun p e R s m args below meth c Q D G ad A z wE nE P r X hP hR hd2 hnm Qc hQ hfin => ev_s61 X hP hR hd2 (by omega) (by omega) hcf hQ hfin) (by decide) (by decide)) <|
  ev_r (ev_row_code (by decide +kernel) (fun r wE nE hfm => ev_mo62 hcm hfm) (fun p e R s m args below meth c Q D G ad A z wE nE P r X hP hR hd2 hnm Qc hQ hfin => ev_s62 X hP hR hd2 (by omega) (by omega) hcf hnm hQ hfin) (by decide) (by decide)) <|
  ev_r (ev_row_code (by decide +kernel) (fun r wE nE hfm => ev_mo63 hcm hfm) (fun p e R s m args below meth c Q D G ad A z wE nE P r X hP hR hd2 hnm Qc hQ hfin => ev_s63 X hP hR hd2 (by omega) (by omega) hcf hQ hfin) (by decide) (by decide)) <|
  ev_r (ev_row_code (by decide +kernel) (fun r wE nE hfm => ev_mo64 hcm hfm) (fun p e R s m args below meth c Q D G ad A z wE nE P r X hP hR hd2 hnm Qc hQ hfin => ev_s64 X hP hR hd2 (by omega) (by omega) hcf hnm hQ hfin) (by decide) (by decide)) <|
  ev_r (ev_row_code (by decide +kernel) (fun r wE nE hfm => ev_mo65 hcm hfm) (fun p e R s m args below meth c Q D G ad A z wE nE P r X hP hR hd2 hnm Qc hQ hfin => ev_s65 X hP hR hd2 (by omega) (by omega) hcf hnm hQ hfin) (by decide) (by decide)) <|
  ev_r (ev_row_code (by decide +kernel) (fun r wE nE hfm => ev_mo66 hcm hfm) (fun p e R s m args below meth c Q D G ad A z wE nE P r X hP hR hd2 hnm Qc hQ hfin => ev_s66 X hP hR hd2 (by omega) (by omega) hcf hQ hfin) (by decide) (by decide)) <|
  ev_r (ev_row_code (by decide +kernel) (fun r wE nE hfm => ev_mo67 hcm hfm) (fun p e R s m args below meth c Q D G ad A z wE nE P r X hP hR hd2 hnm Qc hQ hfin => ev_s67 X hP hR hd2 (by omega) (by omega) hcf hQ hfin) (by decide) (by decide)) <|
  ev_r (ev_row_code (by decide +kernel) (fun r wE nE hfm => ev_mo68 hcm hfm) (fun p e R s m args below meth c Q D G ad A z wE nE P r X hP hR hd2 hnm Qc hQ hfin => ev_s68 X hP hR hd2 (by omega) (by omega) hcf hQ hfin) (by decide) (by decide)) <|
  ev_r (ev_row_code (by decide +kernel) (fun r wE nE hfm => ev_mo69 hcm hfm) (fun p e R s m args below meth c Q D G ad A z wE nE P r X hP hR hd2 hnm Qc hQ hfin => ev_s69 X hP hR hd2 (by omega) (by omega) hcf hQ hfin) (by decide) (by decide)) <|
  ev_r (ev_row_code (by decide +kernel) (fun r wE nE hfm => ev_mo70 hcm hfm) (fun p e R s m args below meth c Q D G ad A z wE nE P r X hP hR hd2 hnm Qc hQ hfin => ev_s70 X hP hR hd2 (by omega) (by omega) hcf hnm hQ hfin) (by decide) (by decide)) <|
  ev_r (ev_row_code (by decide +kernel) (fun r wE nE hfm => ev_mo71 hcm hfm) (fun p e R s m args below meth c Q D G ad A z wE nE P r X hP hR hd2 hnm Qc hQ hfin => ev_s71 X hP hR hd2 (by omega) (by omega) hcf hQ hfin) (by decide) (by decide)) <|
  ev_r (ev_row_code (by decide +kernel) (fun r wE nE hfm => ev_mo72 hcm hfm) (fun p e R s m args below meth c Q D G ad A z wE nE P r X hP hR hd2 hnm Qc hQ hfin => ev_s72 X hP hR hd2 (by omega) (by omega) hcf hQ hfin) (by decide) (by decide)) <|
  ev_r (ev_row_code (by decide +kernel) (fun r wE nE hfm => ev_mo73 hcm hfm) (fun p e R s m args below meth c Q D G ad A z wE nE P r X hP hR hd2 hnm Qc hQ hfin => ev_s73 X hP hR hd2 (by omega) (by omega) hcf hQ hfin) (by decide) (by decide)) <|
  ev_r (ev_row_code (by decide +kernel) (fun r wE nE hfm => ev_mo74 hcm hfm) (fun p e R s m args below meth c Q D G ad A z wE nE P r X hP hR hd2 hnm Qc hQ hfin => ev_s74 X hP hR hd2 (by omega) (by omega) hcf hnm hQ hfin) (by decide) (by decide)) <|
  ev_r (ev_row_code (by decide +kernel) (fun r wE nE hfm => ev_mo75 hcm hfm) (fun p e R s m args below meth c Q D G ad A z wE nE P r X hP hR hd2 hnm Qc hQ hfin => ev_s75 X hP hR hd2 (by omega) (by omega) hcf hQ hfin) (by decide) (by decide)) <|
  ev_r (ev_row_code (by decide +kernel) (fun r wE nE hfm => ev_mo76 hcm hfm) (fun p e R s m args below meth c Q D G ad A z wE nE P r X hP hR hd2 hnm Qc hQ hfin => ev_s76 X hP hR hd2 (by omega) (by omega) hcf hQ hfin) (by decide) (by decide)) <|
  ev_r (ev_row_code (by decide +kernel) (fun r wE nE hfm => ev_mo77 hcm hfm) (fun p e R s m args below meth c Q D G ad A z wE nE P r X hP hR hd2 hnm Qc hQ hfin => ev_s77 X hP hR hd2 (by omega) (by omega) hcf hnm hQ hfin) (by decide) (by decide)) <|
  ev_r (ev_row_code (by decide +kernel) (fun r wE nE hfm => ev_mo78 hcm hfm) (fun p e R s m args below meth c Q D G ad A z wE nE P r X hP hR hd2 hnm Qc hQ hfin => ev_s78 X hP hR hd2 (by omega) (by omega) hcf hQ hfin) (by decide) (by decide)) <| ev_r0
theorem ev_main (l : Launch) : ∀ d : Nat, ev_cf l ev_ys d (ev_call d) ∧ ev_cm (ev_call d) := by
  intro d
  induction d with
  | zero => exact ⟨(fun y vs w w1 rv k1 h => by cases h), (fun y vs w w1 rv k1 h => by cases h)⟩
  | succ d ih =>
    have key : ∀ (y : Nat) (vs : List Value) (w w1 : ev_W) (rv : Option Value) (k1 : Nat), ev_call (d + 1) y vs w = some (rv, w1, k1) → ∃ M q, ev_ys[y]? = some q ∧ ev_row l d q M ∧ ev_go M vs w = some (rv, w1, k1) := by
      intro y vs w w1 rv k1 h
      obtain ⟨M, hM, hgo⟩ := ev_oc_some (show ev_oc (ev_at (ev_tabs (ev_call d)) y) (fun M => ev_go M vs w) = some (rv, w1, k1) from h)
      rw [ev_at_eq] at hM
      obtain ⟨q, h1, h2⟩ := ev_rows_at ev_ys (ev_tabs (ev_call d)) y M (ev_rowsall ih.1 ih.2) hM
      exact ⟨M, q, h1, h2, hgo⟩
    refine ⟨fun y vs w w1 rv k1 h => ?_, fun y vs w w1 rv k1 h => ?_⟩
    · obtain ⟨M, q, h1, h2, h3⟩ := key y vs w w1 rv k1 h
      obtain ⟨h4, h5⟩ := h2 vs w w1 rv k1 h3
      refine ⟨h4, fun nm ws hy => ?_⟩
      cases h1.symm.trans hy
      exact h5
    · obtain ⟨M, q, h1, h2, h3⟩ := key y vs w w1 rv k1 h
      exact (h2 vs w w1 rv k1 h3).1
def ev_y_Lib_Math_max_name : Nat := 0
def ev_y_yJ7_copyOf_1904c : Nat := 1
def ev_y_yJ8_newLength_cabcc : Nat := 2
def ev_y_yJx35411_checkForComodification_da8c8 : Nat := 3
def ev_y_yJx35411_hasNext_aae02 : Nat := 4
def ev_y_yJx35411_init_45d68 : Nat := 5
def ev_y_yJx35411_next_0502b : Nat := 6
def ev_y_yJx4a65c_add_72be8 : Nat := 7
def ev_y_yJx4a65c_add_9ea2d : Nat := 8
def ev_y_yJx4a65c_clear_da8c8 : Nat := 9
def ev_y_yJx4a65c_grow_92f84 : Nat := 10
def ev_y_yJx4a65c_grow_d5877 : Nat := 11
def ev_y_yJx4a65c_init_da8c8 : Nat := 12
def ev_y_yJx4a65c_iterator_32c93 : Nat := 13
def ev_y_yJx4a65c_size_8abf5 : Nat := 14
def ev_y_yJxa1e45_init_da8c8 : Nat := 15
def ev_y_yJxc12de_init_da8c8 : Nat := 16
def ev_y_yL_commit : Nat := 17
def ev_y_yL_law : Nat := 18
def ev_y_yL_tell : Nat := 19
def ev_y_yL_unsay : Nat := 20
def ev_y_yX0_add : Nat := 21
def ev_y_yX0_empty : Nat := 22
def ev_y_yX0_init : Nat := 23
def ev_y_yX10_at : Nat := 24
def ev_y_yX10_broken : Nat := 25
def ev_y_yX10_checkBatchRoom : Nat := 26
def ev_y_yX10_checkTriple : Nat := 27
def ev_y_yX10_commit : Nat := 28
def ev_y_yX10_copy : Nat := 29
def ev_y_yX10_fill : Nat := 30
def ev_y_yX10_init : Nat := 31
def ev_y_yX10_isIn : Nat := 32
def ev_y_yX10_put : Nat := 33
def ev_y_yX10_tell : Nat := 34
def ev_y_yX10_toldChanged : Nat := 35
def ev_y_yX10_tryBatch : Nat := 36
def ev_y_yX10_unsay : Nat := 37
def ev_y_yX11_init : Nat := 38
def ev_y_yX12_holds : Nat := 39
def ev_y_yX12_init : Nat := 40
def ev_y_yX13_broken : Nat := 41
def ev_y_yX13_broken_ : Nat := 42
def ev_y_yX13_commit : Nat := 43
def ev_y_yX13_committed : Nat := 44
def ev_y_yX13_digit : Nat := 45
def ev_y_yX13_forget : Nat := 46
def ev_y_yX13_init : Nat := 47
def ev_y_yX13_is : Nat := 48
def ev_y_yX13_isTriple : Nat := 49
def ev_y_yX13_newBinding : Nat := 50
def ev_y_yX13_place : Nat := 51
def ev_y_yX13_place_ : Nat := 52
def ev_y_yX13_tell : Nat := 53
def ev_y_yX13_thrown : Nat := 54
def ev_y_yX13_told : Nat := 55
def ev_y_yX13_unsay : Nat := 56
def ev_y_yX1_init : Nat := 57
def ev_y_yX2_init : Nat := 58
def ev_y_yX3_init : Nat := 59
def ev_y_yX4_headOf : Nat := 60
def ev_y_yX4_headsOf : Nat := 61
def ev_y_yX4_init : Nat := 62
def ev_y_yX4_separate : Nat := 63
def ev_y_yX5_init : Nat := 64
def ev_y_yX6_init : Nat := 65
def ev_y_yX7_begin : Nat := 66
def ev_y_yX7_copyFrom : Nat := 67
def ev_y_yX7_end : Nat := 68
def ev_y_yX7_holdsIn : Nat := 69
def ev_y_yX7_init : Nat := 70
def ev_y_yX7_isOpen : Nat := 71
def ev_y_yX7_openRowOf : Nat := 72
def ev_y_yX7_take : Nat := 73
def ev_y_yX8_init : Nat := 74
def ev_y_yX9_brokenHeads : Nat := 75
def ev_y_yX9_gather : Nat := 76
def ev_y_yX9_init : Nat := 77
def ev_y_yX9_isBrokenFor : Nat := 78
