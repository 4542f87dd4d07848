/-! each method's table: every operation is right at its place -/
set_option maxRecDepth 100000 in
theorem ev_s1 {l : Launch} {d : Nat} {cf : Nat → List Value → ev_W → Option ev_R} {p : Program} {e : Env} {R : Room} {s : State} {m : MethodId} {args : Array Value} {below : List Frame} {meth : Method} {c : Code} {Q : State → Prop} {D : va_G} {G : Nat → ClassId} {ad : Nat → Nat} {A : Nat → Prop} {z wE nE : Nat} {P : Nat → List Value → List Value → ev_W → Nat → Prop} {α : Type} {r : α} {fin : Option Value → ev_W → Nat → Option α} (X : ev_X cJ7_copyOf_1904c 2 yJ7_copyOf_1904c.cls (some (FieldType.array (FieldType.object "java/lang/Object"))) p s m args meth c D G ad A z) (hP : ev_PP p l e R s m args below meth c Q 2 D G ad A z wE nE P) (hR : wE - z ≤ R.cells ∧ nE ≤ R.slots) (hd2 : d + 3 ≤ R.frames ∧ 64 * (d + 3) ≤ R.locals) (hR1 : 1 ≤ R.frames) (hR2 : 21 ≤ R.locals) (hcf : ev_cf l ev_ys d cf) {Qc : Array Value → State → Outcome → State → Prop} (hQ : Q = MQ below Qc args s (wE - z) nE A) (hfin : ∀ v w n, fin v w n = some r → w.length = wE ∧ n = nE ∧ ∀ H locs, ev_H D G ad A w H → va_S A s.heap H locs → ∀ t : State, t.heap = H → s.WarmedH t.vm → Qc args s (.returned (v.map (ev_v ad))) t) : ev_all2 (ev_ok P r) 0 (ev_o1 cf fin) :=
  ev_b (
   ev_a (ok_cpy X hP hR hd2 (ci := 17) rfl ⟨⟨ev_w1465, ev_w1928, ev_w1466, ev_w1490⟩, ⟨ev_w1491, ev_w1492, ev_w94, ev_w1493⟩, ⟨ev_w1494, ev_w1496⟩, ⟨ev_w1132, ev_w587, ev_w93, ev_w588⟩, ⟨ev_w1133, ev_w1135, ev_w1134, ev_w95⟩, ev_w1922, ev_w1930⟩ ⟨by decide +kernel, by decide +kernel, by decide +kernel⟩ hQ hfin rfl (Or.inr ⟨_, rfl⟩)) <|
   ev_a (ok_no) <|
   ev_a (ok_no) <|
   ev_a (ok_no) <|
   ev_a (ok_no) <|
   ev_a (ok_no) <|
   ev_a (ok_no) <|
   ev_a (ok_no) <|
   ev_a (ok_no) <|
   ev_a (ok_no) <| ev_a0) <|
  ev_b0
set_option maxRecDepth 100000 in
theorem ev_s2 {l : Launch} {d : Nat} {cf : Nat → List Value → ev_W → Option ev_R} {p : Program} {e : Env} {R : Room} {s : State} {m : MethodId} {args : Array Value} {below : List Frame} {meth : Method} {c : Code} {Q : State → Prop} {D : va_G} {G : Nat → ClassId} {ad : Nat → Nat} {A : Nat → Prop} {z wE nE : Nat} {P : Nat → List Value → List Value → ev_W → Nat → Prop} {α : Type} {r : α} {fin : Option Value → ev_W → Nat → Option α} (X : ev_X cJ8_newLength_cabcc 4 yJ8_newLength_cabcc.cls (some FieldType.int) p s m args meth c D G ad A z) (hP : ev_PP p l e R s m args below meth c Q 4 D G ad A z wE nE P) (hR : wE - z ≤ R.cells ∧ nE ≤ R.slots) (hd2 : d + 3 ≤ R.frames ∧ 64 * (d + 3) ≤ R.locals) (hR1 : 1 ≤ R.frames) (hR2 : 21 ≤ R.locals) (hcf : ev_cf l ev_ys d cf) {Qc : Array Value → State → Outcome → State → Prop} (hQ : Q = MQ below Qc args s (wE - z) nE A) (hfin : ∀ v w n, fin v w n = some r → w.length = wE ∧ n = nE ∧ ∀ H locs, ev_H D G ad A w H → va_S A s.heap H locs → ∀ t : State, t.heap = H → s.WarmedH t.vm → Qc args s (.returned (v.map (ev_v ad))) t) : ev_all2 (ev_ok P r) 0 (ev_o2 cf fin) :=
  ev_b (
   ev_a (ok_ild_n X hP (by decide +kernel : decode cJ8_newLength_cabcc 0 = .ok (.iload_n 0, 1)) rfl rfl) <|
   ev_a (ok_ild_n X hP (by decide +kernel : decode cJ8_newLength_cabcc 1 = .ok (.iload_n 1, 1)) rfl rfl) <|
   ev_a (ok_ild_n X hP (by decide +kernel : decode cJ8_newLength_cabcc 2 = .ok (.iload_n 2, 1)) rfl rfl) <|
   ev_a (ok_mx X hP hR hR1 hR2 (by decide +kernel : decode cJ8_newLength_cabcc 3 = .ok (.invokestatic 194, 3)) ev_w1116 ev_w682 ev_w93 ev_w683 rfl) <|
   ev_a (ok_no) <|
   ev_a (ok_no) <|
   ev_a (ok_iadd X hP (by decide +kernel : decode cJ8_newLength_cabcc 6 = .ok (.iadd, 1)) rfl) <|
   ev_a (ok_ist_n X hP (by decide +kernel : decode cJ8_newLength_cabcc 7 = .ok (.istore_n 3, 1)) rfl (by decide) rfl) <|
   ev_a (ok_psh_iconst X hP (by decide +kernel : decode cJ8_newLength_cabcc 8 = .ok (.iconst 0, 1)) rfl) <|
   ev_a (ok_ild_n X hP (by decide +kernel : decode cJ8_newLength_cabcc 9 = .ok (.iload_n 3, 1)) rfl rfl) <|
   ev_a (ok_icmp_ge X hP (by decide +kernel : decode cJ8_newLength_cabcc 10 = .ok (.if_icmp .ge 11, 3)) (by decide) rfl) <|
   ev_a (ok_no) <|
   ev_a (ok_no) <|
   ev_a (ok_ild_n X hP (by decide +kernel : decode cJ8_newLength_cabcc 13 = .ok (.iload_n 3, 1)) rfl rfl) <|
   ev_a (ok_psh_ldc X hP (by decide +kernel : decode cJ8_newLength_cabcc 14 = .ok (.ldc 200, 2)) ev_w1117 rfl) <|
   ev_a (ok_no) <| ev_a0) <|
  ev_b (
   ev_a (ok_icmp_gt X hP (by decide +kernel : decode cJ8_newLength_cabcc 16 = .ok (.if_icmp .gt 5, 3)) (by decide) rfl) <|
   ev_a (ok_no) <|
   ev_a (ok_no) <|
   ev_a (ok_ild_n X hP (by decide +kernel : decode cJ8_newLength_cabcc 19 = .ok (.iload_n 3, 1)) rfl rfl) <|
   ev_a (ok_ireturn X hP hQ hfin rfl (by decide +kernel : decode cJ8_newLength_cabcc 20 = .ok (.ireturn, 1))) <|
   ev_a (ok_ild_n X hP (by decide +kernel : decode cJ8_newLength_cabcc 21 = .ok (.iload_n 0, 1)) rfl rfl) <|
   ev_a (ok_ild_n X hP (by decide +kernel : decode cJ8_newLength_cabcc 22 = .ok (.iload_n 1, 1)) rfl rfl) <|
   ev_a (ok_no) <|
   ev_a (ok_no) <|
   ev_a (ok_no) <|
   ev_a (ok_ireturn X hP hQ hfin rfl (by decide +kernel : decode cJ8_newLength_cabcc 26 = .ok (.ireturn, 1))) <| ev_a0) <|
  ev_b0
set_option maxRecDepth 100000 in
theorem ev_s3 {l : Launch} {d : Nat} {cf : Nat → List Value → ev_W → Option ev_R} {p : Program} {e : Env} {R : Room} {s : State} {m : MethodId} {args : Array Value} {below : List Frame} {meth : Method} {c : Code} {Q : State → Prop} {D : va_G} {G : Nat → ClassId} {ad : Nat → Nat} {A : Nat → Prop} {z wE nE : Nat} {P : Nat → List Value → List Value → ev_W → Nat → Prop} {α : Type} {r : α} {fin : Option Value → ev_W → Nat → Option α} (X : ev_X cJx35411_checkForComodification_da8c8 1 yJx35411_checkForComodification_da8c8.cls none p s m args meth c D G ad A z) (hP : ev_PP p l e R s m args below meth c Q 1 D G ad A z wE nE P) (hR : wE - z ≤ R.cells ∧ nE ≤ R.slots) (hd2 : d + 3 ≤ R.frames ∧ 64 * (d + 3) ≤ R.locals) (hR1 : 1 ≤ R.frames) (hR2 : 21 ≤ R.locals) (hcf : ev_cf l ev_ys d cf) {Qc : Array Value → State → Outcome → State → Prop} (hQ : Q = MQ below Qc args s (wE - z) nE A) (hfin : ∀ v w n, fin v w n = some r → w.length = wE ∧ n = nE ∧ ∀ H locs, ev_H D G ad A w H → va_S A s.heap H locs → ∀ t : State, t.heap = H → s.WarmedH t.vm → Qc args s (.returned (v.map (ev_v ad))) t) : ev_all2 (ev_ok P r) 0 (ev_o3 cf fin) :=
  ev_b (
   ev_a (ok_ald_n X hP (by decide +kernel : decode cJx35411_checkForComodification_da8c8 0 = .ok (.aload_n 0, 1)) rfl rfl) <|
   ev_a (ok_get X hP (ci := 3) (kf := 3) (T := TJx35411) (by decide +kernel : decode cJx35411_checkForComodification_da8c8 1 = .ok (.getfield 1, 3)) rfl ev_in3 (by decide) ev_w1532 (Or.inl rfl) rfl) <|
   ev_a (ok_no) <|
   ev_a (ok_no) <|
   ev_a (ok_get X hP (ci := 4) (kf := 0) (T := TJx4a65c) (by decide +kernel : decode cJx35411_checkForComodification_da8c8 4 = .ok (.getfield 17, 3)) rfl ev_in4 (by decide) ev_w1373 (Or.inr ev_w1374) rfl) <|
   ev_a (ok_no) <|
   ev_a (ok_no) <|
   ev_a (ok_ald_n X hP (by decide +kernel : decode cJx35411_checkForComodification_da8c8 7 = .ok (.aload_n 0, 1)) rfl rfl) <|
   ev_a (ok_get X hP (ci := 3) (kf := 2) (T := TJx35411) (by decide +kernel : decode cJx35411_checkForComodification_da8c8 8 = .ok (.getfield 22, 3)) rfl ev_in3 (by decide) ev_w1531 (Or.inl rfl) rfl) <|
   ev_a (ok_no) <|
   ev_a (ok_no) <|
   ev_a (ok_icmp_eq X hP (by decide +kernel : decode cJx35411_checkForComodification_da8c8 11 = .ok (.if_icmp .eq 11, 3)) (by decide) rfl) <|
   ev_a (ok_no) <|
   ev_a (ok_no) <|
   ev_a (ok_no) <|
   ev_a (ok_no) <| ev_a0) <|
  ev_b (
   ev_a (ok_no) <|
   ev_a (ok_dup X hP (by decide +kernel : decode cJx35411_checkForComodification_da8c8 17 = .ok (.dup, 1)) rfl) <|
   ev_a (ok_no) <|
   ev_a (ok_no) <|
   ev_a (ok_no) <|
   ev_a (ok_no) <|
   ev_a (ok_return X hP hQ hfin rfl (by decide +kernel : decode cJx35411_checkForComodification_da8c8 22 = .ok (.return_, 1))) <| ev_a0) <|
  ev_b0
set_option maxRecDepth 100000 in
theorem ev_s4 {l : Launch} {d : Nat} {cf : Nat → List Value → ev_W → Option ev_R} {p : Program} {e : Env} {R : Room} {s : State} {m : MethodId} {args : Array Value} {below : List Frame} {meth : Method} {c : Code} {Q : State → Prop} {D : va_G} {G : Nat → ClassId} {ad : Nat → Nat} {A : Nat → Prop} {z wE nE : Nat} {P : Nat → List Value → List Value → ev_W → Nat → Prop} {α : Type} {r : α} {fin : Option Value → ev_W → Nat → Option α} (X : ev_X cJx35411_hasNext_aae02 1 yJx35411_hasNext_aae02.cls (some FieldType.boolean) p s m args meth c D G ad A z) (hP : ev_PP p l e R s m args below meth c Q 1 D G ad A z wE nE P) (hR : wE - z ≤ R.cells ∧ nE ≤ R.slots) (hd2 : d + 3 ≤ R.frames ∧ 64 * (d + 3) ≤ R.locals) (hR1 : 1 ≤ R.frames) (hR2 : 21 ≤ R.locals) (hcf : ev_cf l ev_ys d cf) {Qc : Array Value → State → Outcome → State → Prop} (hQ : Q = MQ below Qc args s (wE - z) nE A) (hfin : ∀ v w n, fin v w n = some r → w.length = wE ∧ n = nE ∧ ∀ H locs, ev_H D G ad A w H → va_S A s.heap H locs → ∀ t : State, t.heap = H → s.WarmedH t.vm → Qc args s (.returned (v.map (ev_v ad))) t) : ev_all2 (ev_ok P r) 0 (ev_o4 cf fin) :=
  ev_b (
   ev_a (ok_ald_n X hP (by decide +kernel : decode cJx35411_hasNext_aae02 0 = .ok (.aload_n 0, 1)) rfl rfl) <|
   ev_a (ok_get X hP (ci := 3) (kf := 0) (T := TJx35411) (by decide +kernel : decode cJx35411_hasNext_aae02 1 = .ok (.getfield 25, 3)) rfl ev_in3 (by decide) ev_w1529 (Or.inl rfl) rfl) <|
   ev_a (ok_no) <|
   ev_a (ok_no) <|
   ev_a (ok_ald_n X hP (by decide +kernel : decode cJx35411_hasNext_aae02 4 = .ok (.aload_n 0, 1)) rfl rfl) <|
   ev_a (ok_get X hP (ci := 3) (kf := 3) (T := TJx35411) (by decide +kernel : decode cJx35411_hasNext_aae02 5 = .ok (.getfield 1, 3)) rfl ev_in3 (by decide) ev_w1532 (Or.inl rfl) rfl) <|
   ev_a (ok_no) <|
   ev_a (ok_no) <|
   ev_a (ok_getN X hP (ci := 4) (kf := 2) (T := TJx4a65c) (by decide +kernel : decode cJx35411_hasNext_aae02 8 = .ok (.getfield 28, 3)) rfl ev_in4 (by decide) ev_w1370 (Or.inl rfl) rfl) <|
   ev_a (ok_no) <|
   ev_a (ok_no) <|
   ev_a (ok_icmp_eq X hP (by decide +kernel : decode cJx35411_hasNext_aae02 11 = .ok (.if_icmp .eq 7, 3)) (by decide) rfl) <|
   ev_a (ok_no) <|
   ev_a (ok_no) <|
   ev_a (ok_psh_iconst X hP (by decide +kernel : decode cJx35411_hasNext_aae02 14 = .ok (.iconst 1, 1)) rfl) <|
   ev_a (ok_jmp X hP (by decide +kernel : decode cJx35411_hasNext_aae02 15 = .ok (.goto 4, 3)) (by decide)) <| ev_a0) <|
  ev_b (
   ev_a (ok_no) <|
   ev_a (ok_no) <|
   ev_a (ok_psh_iconst X hP (by decide +kernel : decode cJx35411_hasNext_aae02 18 = .ok (.iconst 0, 1)) rfl) <|
   ev_a (ok_zreturn X hP hQ hfin rfl (by decide +kernel : decode cJx35411_hasNext_aae02 19 = .ok (.ireturn, 1))) <| ev_a0) <|
  ev_b0
set_option maxRecDepth 100000 in
theorem ev_s5 {l : Launch} {d : Nat} {cf : Nat → List Value → ev_W → Option ev_R} {p : Program} {e : Env} {R : Room} {s : State} {m : MethodId} {args : Array Value} {below : List Frame} {meth : Method} {c : Code} {Q : State → Prop} {D : va_G} {G : Nat → ClassId} {ad : Nat → Nat} {A : Nat → Prop} {z wE nE : Nat} {P : Nat → List Value → List Value → ev_W → Nat → Prop} {α : Type} {r : α} {fin : Option Value → ev_W → Nat → Option α} (X : ev_X cJx35411_init_45d68 2 yJx35411_init_45d68.cls none p s m args meth c D G ad A z) (hP : ev_PP p l e R s m args below meth c Q 2 D G ad A z wE nE P) (hR : wE - z ≤ R.cells ∧ nE ≤ R.slots) (hd2 : d + 3 ≤ R.frames ∧ 64 * (d + 3) ≤ R.locals) (hR1 : 1 ≤ R.frames) (hR2 : 21 ≤ R.locals) (hcf : ev_cf l ev_ys d cf) (hin2 : meth.name = "<init>") {Qc : Array Value → State → Outcome → State → Prop} (hQ : Q = MQ below Qc args s (wE - z) nE A) (hfin : ∀ v w n, fin v w n = some r → w.length = wE ∧ n = nE ∧ ∀ H locs, ev_H D G ad A w H → va_S A s.heap H locs → ∀ t : State, t.heap = H → s.WarmedH t.vm → Qc args s (.returned (v.map (ev_v ad))) t) : ev_all2 (ev_ok P r) 0 (ev_o5 cf fin) :=
  ev_b (
   ev_a (ok_ald_n X hP (by decide +kernel : decode cJx35411_init_45d68 0 = .ok (.aload_n 0, 1)) rfl rfl) <|
   ev_a (ok_ald_n X hP (by decide +kernel : decode cJx35411_init_45d68 1 = .ok (.aload_n 1, 1)) rfl rfl) <|
   ev_a (ok_putF X hP hin2 (ci := 3) (kf := 3) (T := TJx35411) tyJx35411 (by decide +kernel : decode cJx35411_init_45d68 2 = .ok (.putfield 1, 3)) rfl ev_in3 tyJx35411_ok nmJx35411 (by decide) ev_w1532 (Or.inl rfl) rfl rfl rfl rfl) <|
   ev_a (ok_no) <|
   ev_a (ok_no) <|
   ev_a (ok_ald_n X hP (by decide +kernel : decode cJx35411_init_45d68 5 = .ok (.aload_n 0, 1)) rfl rfl) <|
   ev_a (ok_obj X hP hR1 hR2 (by decide +kernel : decode cJx35411_init_45d68 6 = .ok (.invokespecial 7, 3)) ev_w1528 ev_w115 ev_w116 rfl) <|
   ev_a (ok_no) <|
   ev_a (ok_no) <|
   ev_a (ok_ald_n X hP (by decide +kernel : decode cJx35411_init_45d68 9 = .ok (.aload_n 0, 1)) rfl rfl) <|
   ev_a (ok_psh_iconst X hP (by decide +kernel : decode cJx35411_init_45d68 10 = .ok (.iconst (-1), 1)) rfl) <|
   ev_a (ok_put X hP (ci := 3) (kf := 1) (T := TJx35411) tyJx35411 (by decide +kernel : decode cJx35411_init_45d68 11 = .ok (.putfield 13, 3)) rfl ev_in3 tyJx35411_ok nmJx35411 (by decide) ev_w1530 (Or.inl rfl) rfl rfl rfl) <|
   ev_a (ok_no) <|
   ev_a (ok_no) <|
   ev_a (ok_ald_n X hP (by decide +kernel : decode cJx35411_init_45d68 14 = .ok (.aload_n 0, 1)) rfl rfl) <|
   ev_a (ok_ald_n X hP (by decide +kernel : decode cJx35411_init_45d68 15 = .ok (.aload_n 0, 1)) rfl rfl) <| ev_a0) <|
  ev_b (
   ev_a (ok_get X hP (ci := 3) (kf := 3) (T := TJx35411) (by decide +kernel : decode cJx35411_init_45d68 16 = .ok (.getfield 1, 3)) rfl ev_in3 (by decide) ev_w1532 (Or.inl rfl) rfl) <|
   ev_a (ok_no) <|
   ev_a (ok_no) <|
   ev_a (ok_get X hP (ci := 4) (kf := 0) (T := TJx4a65c) (by decide +kernel : decode cJx35411_init_45d68 19 = .ok (.getfield 17, 3)) rfl ev_in4 (by decide) ev_w1373 (Or.inr ev_w1374) rfl) <|
   ev_a (ok_no) <|
   ev_a (ok_no) <|
   ev_a (ok_put X hP (ci := 3) (kf := 2) (T := TJx35411) tyJx35411 (by decide +kernel : decode cJx35411_init_45d68 22 = .ok (.putfield 22, 3)) rfl ev_in3 tyJx35411_ok nmJx35411 (by decide) ev_w1531 (Or.inl rfl) rfl rfl rfl) <|
   ev_a (ok_no) <|
   ev_a (ok_no) <|
   ev_a (ok_return X hP hQ hfin rfl (by decide +kernel : decode cJx35411_init_45d68 25 = .ok (.return_, 1))) <| ev_a0) <|
  ev_b0
set_option maxRecDepth 100000 in
theorem ev_s6 {l : Launch} {d : Nat} {cf : Nat → List Value → ev_W → Option ev_R} {p : Program} {e : Env} {R : Room} {s : State} {m : MethodId} {args : Array Value} {below : List Frame} {meth : Method} {c : Code} {Q : State → Prop} {D : va_G} {G : Nat → ClassId} {ad : Nat → Nat} {A : Nat → Prop} {z wE nE : Nat} {P : Nat → List Value → List Value → ev_W → Nat → Prop} {α : Type} {r : α} {fin : Option Value → ev_W → Nat → Option α} (X : ev_X cJx35411_next_0502b 3 yJx35411_next_0502b.cls (some (FieldType.object "java/lang/Object")) p s m args meth c D G ad A z) (hP : ev_PP p l e R s m args below meth c Q 3 D G ad A z wE nE P) (hR : wE - z ≤ R.cells ∧ nE ≤ R.slots) (hd2 : d + 3 ≤ R.frames ∧ 64 * (d + 3) ≤ R.locals) (hR1 : 1 ≤ R.frames) (hR2 : 21 ≤ R.locals) (hcf : ev_cf l ev_ys d cf) {Qc : Array Value → State → Outcome → State → Prop} (hQ : Q = MQ below Qc args s (wE - z) nE A) (hfin : ∀ v w n, fin v w n = some r → w.length = wE ∧ n = nE ∧ ∀ H locs, ev_H D G ad A w H → va_S A s.heap H locs → ∀ t : State, t.heap = H → s.WarmedH t.vm → Qc args s (.returned (v.map (ev_v ad))) t) : ev_all2 (ev_ok P r) 0 (ev_o6 cf fin) :=
  ev_b (
   ev_a (ok_ald_n X hP (by decide +kernel : decode cJx35411_next_0502b 0 = .ok (.aload_n 0, 1)) rfl rfl) <|
   ev_a (ok_invV X hP hR hd2 hcf (ci := 3) ev_y3 rfl (by decide +kernel : decode cJx35411_next_0502b 1 = .ok (.invokevirtual 31, 3)) ev_w1564 ev_w1561 ev_w1562 ev_w1563 ev_w98 ⟨rfl, ev_dn3⟩ (by decide) rfl) <|
   ev_a (ok_no) <|
   ev_a (ok_no) <|
   ev_a (ok_ald_n X hP (by decide +kernel : decode cJx35411_next_0502b 4 = .ok (.aload_n 0, 1)) rfl rfl) <|
   ev_a (ok_get X hP (ci := 3) (kf := 0) (T := TJx35411) (by decide +kernel : decode cJx35411_next_0502b 5 = .ok (.getfield 25, 3)) rfl ev_in3 (by decide) ev_w1529 (Or.inl rfl) rfl) <|
   ev_a (ok_no) <|
   ev_a (ok_no) <|
   ev_a (ok_ist_n X hP (by decide +kernel : decode cJx35411_next_0502b 8 = .ok (.istore_n 1, 1)) rfl (by decide) rfl) <|
   ev_a (ok_ild_n X hP (by decide +kernel : decode cJx35411_next_0502b 9 = .ok (.iload_n 1, 1)) rfl rfl) <|
   ev_a (ok_ald_n X hP (by decide +kernel : decode cJx35411_next_0502b 10 = .ok (.aload_n 0, 1)) rfl rfl) <|
   ev_a (ok_get X hP (ci := 3) (kf := 3) (T := TJx35411) (by decide +kernel : decode cJx35411_next_0502b 11 = .ok (.getfield 1, 3)) rfl ev_in3 (by decide) ev_w1532 (Or.inl rfl) rfl) <|
   ev_a (ok_no) <|
   ev_a (ok_no) <|
   ev_a (ok_getN X hP (ci := 4) (kf := 2) (T := TJx4a65c) (by decide +kernel : decode cJx35411_next_0502b 14 = .ok (.getfield 28, 3)) rfl ev_in4 (by decide) ev_w1370 (Or.inl rfl) rfl) <|
   ev_a (ok_no) <| ev_a0) <|
  ev_b (
   ev_a (ok_no) <|
   ev_a (ok_icmp_lt X hP (by decide +kernel : decode cJx35411_next_0502b 17 = .ok (.if_icmp .lt 11, 3)) (by decide) rfl) <|
   ev_a (ok_no) <|
   ev_a (ok_no) <|
   ev_a (ok_no) <|
   ev_a (ok_no) <|
   ev_a (ok_no) <|
   ev_a (ok_dup X hP (by decide +kernel : decode cJx35411_next_0502b 23 = .ok (.dup, 1)) rfl) <|
   ev_a (ok_no) <|
   ev_a (ok_no) <|
   ev_a (ok_no) <|
   ev_a (ok_no) <|
   ev_a (ok_ald_n X hP (by decide +kernel : decode cJx35411_next_0502b 28 = .ok (.aload_n 0, 1)) rfl rfl) <|
   ev_a (ok_get X hP (ci := 3) (kf := 3) (T := TJx35411) (by decide +kernel : decode cJx35411_next_0502b 29 = .ok (.getfield 1, 3)) rfl ev_in3 (by decide) ev_w1532 (Or.inl rfl) rfl) <|
   ev_a (ok_no) <|
   ev_a (ok_no) <| ev_a0) <|
  ev_b (
   ev_a (ok_get X hP (ci := 4) (kf := 1) (T := TJx4a65c) (by decide +kernel : decode cJx35411_next_0502b 32 = .ok (.getfield 37, 3)) rfl ev_in4 (by decide) ev_w1369 (Or.inl rfl) rfl) <|
   ev_a (ok_no) <|
   ev_a (ok_no) <|
   ev_a (ok_ast_n X hP (by decide +kernel : decode cJx35411_next_0502b 35 = .ok (.astore_n 2, 1)) rfl (by decide) rfl) <|
   ev_a (ok_ild_n X hP (by decide +kernel : decode cJx35411_next_0502b 36 = .ok (.iload_n 1, 1)) rfl rfl) <|
   ev_a (ok_ald_n X hP (by decide +kernel : decode cJx35411_next_0502b 37 = .ok (.aload_n 2, 1)) rfl rfl) <|
   ev_a (ok_aln X hP (by decide +kernel : decode cJx35411_next_0502b 38 = .ok (.arraylength, 1)) rfl) <|
   ev_a (ok_icmp_lt X hP (by decide +kernel : decode cJx35411_next_0502b 39 = .ok (.if_icmp .lt 11, 3)) (by decide) rfl) <|
   ev_a (ok_no) <|
   ev_a (ok_no) <|
   ev_a (ok_no) <|
   ev_a (ok_no) <|
   ev_a (ok_no) <|
   ev_a (ok_dup X hP (by decide +kernel : decode cJx35411_next_0502b 45 = .ok (.dup, 1)) rfl) <|
   ev_a (ok_no) <|
   ev_a (ok_no) <| ev_a0) <|
  ev_b (
   ev_a (ok_no) <|
   ev_a (ok_no) <|
   ev_a (ok_ald_n X hP (by decide +kernel : decode cJx35411_next_0502b 50 = .ok (.aload_n 0, 1)) rfl rfl) <|
   ev_a (ok_ild_n X hP (by decide +kernel : decode cJx35411_next_0502b 51 = .ok (.iload_n 1, 1)) rfl rfl) <|
   ev_a (ok_psh_iconst X hP (by decide +kernel : decode cJx35411_next_0502b 52 = .ok (.iconst 1, 1)) rfl) <|
   ev_a (ok_iadd X hP (by decide +kernel : decode cJx35411_next_0502b 53 = .ok (.iadd, 1)) rfl) <|
   ev_a (ok_put X hP (ci := 3) (kf := 0) (T := TJx35411) tyJx35411 (by decide +kernel : decode cJx35411_next_0502b 54 = .ok (.putfield 25, 3)) rfl ev_in3 tyJx35411_ok nmJx35411 (by decide) ev_w1529 (Or.inl rfl) rfl rfl rfl) <|
   ev_a (ok_no) <|
   ev_a (ok_no) <|
   ev_a (ok_ald_n X hP (by decide +kernel : decode cJx35411_next_0502b 57 = .ok (.aload_n 2, 1)) rfl rfl) <|
   ev_a (ok_ald_n X hP (by decide +kernel : decode cJx35411_next_0502b 58 = .ok (.aload_n 0, 1)) rfl rfl) <|
   ev_a (ok_ild_n X hP (by decide +kernel : decode cJx35411_next_0502b 59 = .ok (.iload_n 1, 1)) rfl rfl) <|
   ev_a (ok_dx1 X hP (by decide +kernel : decode cJx35411_next_0502b 60 = .ok (.dup_x1, 1)) rfl) <|
   ev_a (ok_put X hP (ci := 3) (kf := 1) (T := TJx35411) tyJx35411 (by decide +kernel : decode cJx35411_next_0502b 61 = .ok (.putfield 13, 3)) rfl ev_in3 tyJx35411_ok nmJx35411 (by decide) ev_w1530 (Or.inl rfl) rfl rfl rfl) <|
   ev_a (ok_no) <|
   ev_a (ok_no) <| ev_a0) <|
  ev_b (
   ev_a (ok_aaloads X hP (by decide +kernel : decode cJx35411_next_0502b 64 = .ok (.aaload, 1)) rfl) <|
   ev_a (ok_areturn X hP hQ hfin rfl (Or.inl ⟨_, rfl⟩) (by decide +kernel : decode cJx35411_next_0502b 65 = .ok (.areturn, 1))) <| ev_a0) <|
  ev_b0
set_option maxRecDepth 100000 in
theorem ev_s7 {l : Launch} {d : Nat} {cf : Nat → List Value → ev_W → Option ev_R} {p : Program} {e : Env} {R : Room} {s : State} {m : MethodId} {args : Array Value} {below : List Frame} {meth : Method} {c : Code} {Q : State → Prop} {D : va_G} {G : Nat → ClassId} {ad : Nat → Nat} {A : Nat → Prop} {z wE nE : Nat} {P : Nat → List Value → List Value → ev_W → Nat → Prop} {α : Type} {r : α} {fin : Option Value → ev_W → Nat → Option α} (X : ev_X cJx4a65c_add_72be8 4 yJx4a65c_add_72be8.cls none p s m args meth c D G ad A z) (hP : ev_PP p l e R s m args below meth c Q 4 D G ad A z wE nE P) (hR : wE - z ≤ R.cells ∧ nE ≤ R.slots) (hd2 : d + 3 ≤ R.frames ∧ 64 * (d + 3) ≤ R.locals) (hR1 : 1 ≤ R.frames) (hR2 : 21 ≤ R.locals) (hcf : ev_cf l ev_ys d cf) {Qc : Array Value → State → Outcome → State → Prop} (hQ : Q = MQ below Qc args s (wE - z) nE A) (hfin : ∀ v w n, fin v w n = some r → w.length = wE ∧ n = nE ∧ ∀ H locs, ev_H D G ad A w H → va_S A s.heap H locs → ∀ t : State, t.heap = H → s.WarmedH t.vm → Qc args s (.returned (v.map (ev_v ad))) t) : ev_all2 (ev_ok P r) 0 (ev_o7 cf fin) :=
  ev_b (
   ev_a (ok_ild_n X hP (by decide +kernel : decode cJx4a65c_add_72be8 0 = .ok (.iload_n 3, 1)) rfl rfl) <|
   ev_a (ok_ald_n X hP (by decide +kernel : decode cJx4a65c_add_72be8 1 = .ok (.aload_n 2, 1)) rfl rfl) <|
   ev_a (ok_aln X hP (by decide +kernel : decode cJx4a65c_add_72be8 2 = .ok (.arraylength, 1)) rfl) <|
   ev_a (ok_icmp_ne X hP (by decide +kernel : decode cJx4a65c_add_72be8 3 = .ok (.if_icmp .ne 8, 3)) (by decide) rfl) <|
   ev_a (ok_no) <|
   ev_a (ok_no) <|
   ev_a (ok_ald_n X hP (by decide +kernel : decode cJx4a65c_add_72be8 6 = .ok (.aload_n 0, 1)) rfl rfl) <|
   ev_a (ok_invV X hP hR hd2 hcf (ci := 4) ev_y11 rfl (by decide +kernel : decode cJx4a65c_add_72be8 7 = .ok (.invokevirtual 129, 3)) ev_w1456 ev_w1453 ev_w1455 ev_w39 ev_w85 ⟨rfl, ev_dn11⟩ (by decide) rfl) <|
   ev_a (ok_no) <|
   ev_a (ok_no) <|
   ev_a (ok_ast_n X hP (by decide +kernel : decode cJx4a65c_add_72be8 10 = .ok (.astore_n 2, 1)) rfl (by decide) rfl) <|
   ev_a (ok_ald_n X hP (by decide +kernel : decode cJx4a65c_add_72be8 11 = .ok (.aload_n 2, 1)) rfl rfl) <|
   ev_a (ok_ild_n X hP (by decide +kernel : decode cJx4a65c_add_72be8 12 = .ok (.iload_n 3, 1)) rfl rfl) <|
   ev_a (ok_ald_n X hP (by decide +kernel : decode cJx4a65c_add_72be8 13 = .ok (.aload_n 1, 1)) rfl rfl) <|
   ev_a (ok_aastores X hP (ci := 17) (by decide +kernel : decode cJx4a65c_add_72be8 14 = .ok (.aastore, 1)) rfl ev_w1922 ev_w1930 rfl) <|
   ev_a (ok_ald_n X hP (by decide +kernel : decode cJx4a65c_add_72be8 15 = .ok (.aload_n 0, 1)) rfl rfl) <| ev_a0) <|
  ev_b (
   ev_a (ok_ild_n X hP (by decide +kernel : decode cJx4a65c_add_72be8 16 = .ok (.iload_n 3, 1)) rfl rfl) <|
   ev_a (ok_psh_iconst X hP (by decide +kernel : decode cJx4a65c_add_72be8 17 = .ok (.iconst 1, 1)) rfl) <|
   ev_a (ok_iadd X hP (by decide +kernel : decode cJx4a65c_add_72be8 18 = .ok (.iadd, 1)) rfl) <|
   ev_a (ok_put X hP (ci := 4) (kf := 2) (T := TJx4a65c) tyJx4a65c (by decide +kernel : decode cJx4a65c_add_72be8 19 = .ok (.putfield 48, 3)) rfl ev_in4 tyJx4a65c_ok nmJx4a65c (by decide) ev_w1371 (Or.inl rfl) rfl rfl rfl) <|
   ev_a (ok_no) <|
   ev_a (ok_no) <|
   ev_a (ok_return X hP hQ hfin rfl (by decide +kernel : decode cJx4a65c_add_72be8 22 = .ok (.return_, 1))) <| ev_a0) <|
  ev_b0
set_option maxRecDepth 100000 in
theorem ev_s8 {l : Launch} {d : Nat} {cf : Nat → List Value → ev_W → Option ev_R} {p : Program} {e : Env} {R : Room} {s : State} {m : MethodId} {args : Array Value} {below : List Frame} {meth : Method} {c : Code} {Q : State → Prop} {D : va_G} {G : Nat → ClassId} {ad : Nat → Nat} {A : Nat → Prop} {z wE nE : Nat} {P : Nat → List Value → List Value → ev_W → Nat → Prop} {α : Type} {r : α} {fin : Option Value → ev_W → Nat → Option α} (X : ev_X cJx4a65c_add_9ea2d 2 yJx4a65c_add_9ea2d.cls (some FieldType.boolean) p s m args meth c D G ad A z) (hP : ev_PP p l e R s m args below meth c Q 2 D G ad A z wE nE P) (hR : wE - z ≤ R.cells ∧ nE ≤ R.slots) (hd2 : d + 3 ≤ R.frames ∧ 64 * (d + 3) ≤ R.locals) (hR1 : 1 ≤ R.frames) (hR2 : 21 ≤ R.locals) (hcf : ev_cf l ev_ys d cf) {Qc : Array Value → State → Outcome → State → Prop} (hQ : Q = MQ below Qc args s (wE - z) nE A) (hfin : ∀ v w n, fin v w n = some r → w.length = wE ∧ n = nE ∧ ∀ H locs, ev_H D G ad A w H → va_S A s.heap H locs → ∀ t : State, t.heap = H → s.WarmedH t.vm → Qc args s (.returned (v.map (ev_v ad))) t) : ev_all2 (ev_ok P r) 0 (ev_o8 cf fin) :=
  ev_b (
   ev_a (ok_ald_n X hP (by decide +kernel : decode cJx4a65c_add_9ea2d 0 = .ok (.aload_n 0, 1)) rfl rfl) <|
   ev_a (ok_dup X hP (by decide +kernel : decode cJx4a65c_add_9ea2d 1 = .ok (.dup, 1)) rfl) <|
   ev_a (ok_get X hP (ci := 4) (kf := 0) (T := TJx4a65c) (by decide +kernel : decode cJx4a65c_add_9ea2d 2 = .ok (.getfield 63, 3)) rfl ev_in4 (by decide) ev_w1375 (Or.inr ev_w1374) rfl) <|
   ev_a (ok_no) <|
   ev_a (ok_no) <|
   ev_a (ok_psh_iconst X hP (by decide +kernel : decode cJx4a65c_add_9ea2d 5 = .ok (.iconst 1, 1)) rfl) <|
   ev_a (ok_iadd X hP (by decide +kernel : decode cJx4a65c_add_9ea2d 6 = .ok (.iadd, 1)) rfl) <|
   ev_a (ok_put X hP (ci := 4) (kf := 0) (T := TJx4a65c) tyJx4a65c (by decide +kernel : decode cJx4a65c_add_9ea2d 7 = .ok (.putfield 63, 3)) rfl ev_in4 tyJx4a65c_ok nmJx4a65c (by decide) ev_w1375 (Or.inr ev_w1374) rfl rfl rfl) <|
   ev_a (ok_no) <|
   ev_a (ok_no) <|
   ev_a (ok_ald_n X hP (by decide +kernel : decode cJx4a65c_add_9ea2d 10 = .ok (.aload_n 0, 1)) rfl rfl) <|
   ev_a (ok_ald_n X hP (by decide +kernel : decode cJx4a65c_add_9ea2d 11 = .ok (.aload_n 1, 1)) rfl rfl) <|
   ev_a (ok_ald_n X hP (by decide +kernel : decode cJx4a65c_add_9ea2d 12 = .ok (.aload_n 0, 1)) rfl rfl) <|
   ev_a (ok_get X hP (ci := 4) (kf := 1) (T := TJx4a65c) (by decide +kernel : decode cJx4a65c_add_9ea2d 13 = .ok (.getfield 9, 3)) rfl ev_in4 (by decide) ev_w1368 (Or.inl rfl) rfl) <|
   ev_a (ok_no) <|
   ev_a (ok_no) <| ev_a0) <|
  ev_b (
   ev_a (ok_ald_n X hP (by decide +kernel : decode cJx4a65c_add_9ea2d 16 = .ok (.aload_n 0, 1)) rfl rfl) <|
   ev_a (ok_get X hP (ci := 4) (kf := 2) (T := TJx4a65c) (by decide +kernel : decode cJx4a65c_add_9ea2d 17 = .ok (.getfield 48, 3)) rfl ev_in4 (by decide) ev_w1371 (Or.inl rfl) rfl) <|
   ev_a (ok_no) <|
   ev_a (ok_no) <|
   ev_a (ok_invV X hP hR hd2 hcf (ci := 4) ev_y7 rfl (by decide +kernel : decode cJx4a65c_add_9ea2d 20 = .ok (.invokevirtual 131, 3)) ev_w1452 ev_w1449 ev_w1451 ev_w38 ev_w85 ⟨rfl, ev_dn7⟩ (by decide) rfl) <|
   ev_a (ok_no) <|
   ev_a (ok_no) <|
   ev_a (ok_psh_iconst X hP (by decide +kernel : decode cJx4a65c_add_9ea2d 23 = .ok (.iconst 1, 1)) rfl) <|
   ev_a (ok_zreturn X hP hQ hfin rfl (by decide +kernel : decode cJx4a65c_add_9ea2d 24 = .ok (.ireturn, 1))) <| ev_a0) <|
  ev_b0
set_option maxRecDepth 100000 in
theorem ev_s9 {l : Launch} {d : Nat} {cf : Nat → List Value → ev_W → Option ev_R} {p : Program} {e : Env} {R : Room} {s : State} {m : MethodId} {args : Array Value} {below : List Frame} {meth : Method} {c : Code} {Q : State → Prop} {D : va_G} {G : Nat → ClassId} {ad : Nat → Nat} {A : Nat → Prop} {z wE nE : Nat} {P : Nat → List Value → List Value → ev_W → Nat → Prop} {α : Type} {r : α} {fin : Option Value → ev_W → Nat → Option α} (X : ev_X cJx4a65c_clear_da8c8 4 yJx4a65c_clear_da8c8.cls none p s m args meth c D G ad A z) (hP : ev_PP p l e R s m args below meth c Q 4 D G ad A z wE nE P) (hR : wE - z ≤ R.cells ∧ nE ≤ R.slots) (hd2 : d + 3 ≤ R.frames ∧ 64 * (d + 3) ≤ R.locals) (hR1 : 1 ≤ R.frames) (hR2 : 21 ≤ R.locals) (hcf : ev_cf l ev_ys d cf) {Qc : Array Value → State → Outcome → State → Prop} (hQ : Q = MQ below Qc args s (wE - z) nE A) (hfin : ∀ v w n, fin v w n = some r → w.length = wE ∧ n = nE ∧ ∀ H locs, ev_H D G ad A w H → va_S A s.heap H locs → ∀ t : State, t.heap = H → s.WarmedH t.vm → Qc args s (.returned (v.map (ev_v ad))) t) : ev_all2 (ev_ok P r) 0 (ev_o9 cf fin) :=
  ev_b (
   ev_a (ok_ald_n X hP (by decide +kernel : decode cJx4a65c_clear_da8c8 0 = .ok (.aload_n 0, 1)) rfl rfl) <|
   ev_a (ok_dup X hP (by decide +kernel : decode cJx4a65c_clear_da8c8 1 = .ok (.dup, 1)) rfl) <|
   ev_a (ok_get X hP (ci := 4) (kf := 0) (T := TJx4a65c) (by decide +kernel : decode cJx4a65c_clear_da8c8 2 = .ok (.getfield 63, 3)) rfl ev_in4 (by decide) ev_w1375 (Or.inr ev_w1374) rfl) <|
   ev_a (ok_no) <|
   ev_a (ok_no) <|
   ev_a (ok_psh_iconst X hP (by decide +kernel : decode cJx4a65c_clear_da8c8 5 = .ok (.iconst 1, 1)) rfl) <|
   ev_a (ok_iadd X hP (by decide +kernel : decode cJx4a65c_clear_da8c8 6 = .ok (.iadd, 1)) rfl) <|
   ev_a (ok_put X hP (ci := 4) (kf := 0) (T := TJx4a65c) tyJx4a65c (by decide +kernel : decode cJx4a65c_clear_da8c8 7 = .ok (.putfield 63, 3)) rfl ev_in4 tyJx4a65c_ok nmJx4a65c (by decide) ev_w1375 (Or.inr ev_w1374) rfl rfl rfl) <|
   ev_a (ok_no) <|
   ev_a (ok_no) <|
   ev_a (ok_ald_n X hP (by decide +kernel : decode cJx4a65c_clear_da8c8 10 = .ok (.aload_n 0, 1)) rfl rfl) <|
   ev_a (ok_get X hP (ci := 4) (kf := 1) (T := TJx4a65c) (by decide +kernel : decode cJx4a65c_clear_da8c8 11 = .ok (.getfield 9, 3)) rfl ev_in4 (by decide) ev_w1368 (Or.inl rfl) rfl) <|
   ev_a (ok_no) <|
   ev_a (ok_no) <|
   ev_a (ok_ast_n X hP (by decide +kernel : decode cJx4a65c_clear_da8c8 14 = .ok (.astore_n 1, 1)) rfl (by decide) rfl) <|
   ev_a (ok_ald_n X hP (by decide +kernel : decode cJx4a65c_clear_da8c8 15 = .ok (.aload_n 0, 1)) rfl rfl) <| ev_a0) <|
  ev_b (
   ev_a (ok_get X hP (ci := 4) (kf := 2) (T := TJx4a65c) (by decide +kernel : decode cJx4a65c_clear_da8c8 16 = .ok (.getfield 48, 3)) rfl ev_in4 (by decide) ev_w1371 (Or.inl rfl) rfl) <|
   ev_a (ok_no) <|
   ev_a (ok_no) <|
   ev_a (ok_ist_n X hP (by decide +kernel : decode cJx4a65c_clear_da8c8 19 = .ok (.istore_n 2, 1)) rfl (by decide) rfl) <|
   ev_a (ok_ald_n X hP (by decide +kernel : decode cJx4a65c_clear_da8c8 20 = .ok (.aload_n 0, 1)) rfl rfl) <|
   ev_a (ok_psh_iconst X hP (by decide +kernel : decode cJx4a65c_clear_da8c8 21 = .ok (.iconst 0, 1)) rfl) <|
   ev_a (ok_dx1 X hP (by decide +kernel : decode cJx4a65c_clear_da8c8 22 = .ok (.dup_x1, 1)) rfl) <|
   ev_a (ok_put X hP (ci := 4) (kf := 2) (T := TJx4a65c) tyJx4a65c (by decide +kernel : decode cJx4a65c_clear_da8c8 23 = .ok (.putfield 48, 3)) rfl ev_in4 tyJx4a65c_ok nmJx4a65c (by decide) ev_w1371 (Or.inl rfl) rfl rfl rfl) <|
   ev_a (ok_no) <|
   ev_a (ok_no) <|
   ev_a (ok_ist_n X hP (by decide +kernel : decode cJx4a65c_clear_da8c8 26 = .ok (.istore_n 3, 1)) rfl (by decide) rfl) <|
   ev_a (ok_ild_n X hP (by decide +kernel : decode cJx4a65c_clear_da8c8 27 = .ok (.iload_n 3, 1)) rfl rfl) <|
   ev_a (ok_ild_n X hP (by decide +kernel : decode cJx4a65c_clear_da8c8 28 = .ok (.iload_n 2, 1)) rfl rfl) <|
   ev_a (ok_icmp_ge X hP (by decide +kernel : decode cJx4a65c_clear_da8c8 29 = .ok (.if_icmp .ge 13, 3)) (by decide) rfl) <|
   ev_a (ok_no) <|
   ev_a (ok_no) <| ev_a0) <|
  ev_b (
   ev_a (ok_ald_n X hP (by decide +kernel : decode cJx4a65c_clear_da8c8 32 = .ok (.aload_n 1, 1)) rfl rfl) <|
   ev_a (ok_ild_n X hP (by decide +kernel : decode cJx4a65c_clear_da8c8 33 = .ok (.iload_n 3, 1)) rfl rfl) <|
   ev_a (ok_psh_null X hP (by decide +kernel : decode cJx4a65c_clear_da8c8 34 = .ok (.aconst_null, 1)) rfl) <|
   ev_a (ok_aastores X hP (ci := 17) (by decide +kernel : decode cJx4a65c_clear_da8c8 35 = .ok (.aastore, 1)) rfl ev_w1922 ev_w1930 rfl) <|
   ev_a (ok_inc X hP (by decide +kernel : decode cJx4a65c_clear_da8c8 36 = .ok (.iinc 3 1, 3)) (by decide) rfl) <|
   ev_a (ok_no) <|
   ev_a (ok_no) <|
   ev_a (ok_jmp X hP (by decide +kernel : decode cJx4a65c_clear_da8c8 39 = .ok (.goto (-12), 3)) (by decide)) <|
   ev_a (ok_no) <|
   ev_a (ok_no) <|
   ev_a (ok_return X hP hQ hfin rfl (by decide +kernel : decode cJx4a65c_clear_da8c8 42 = .ok (.return_, 1))) <| ev_a0) <|
  ev_b0
set_option maxRecDepth 100000 in
theorem ev_s10 {l : Launch} {d : Nat} {cf : Nat → List Value → ev_W → Option ev_R} {p : Program} {e : Env} {R : Room} {s : State} {m : MethodId} {args : Array Value} {below : List Frame} {meth : Method} {c : Code} {Q : State → Prop} {D : va_G} {G : Nat → ClassId} {ad : Nat → Nat} {A : Nat → Prop} {z wE nE : Nat} {P : Nat → List Value → List Value → ev_W → Nat → Prop} {α : Type} {r : α} {fin : Option Value → ev_W → Nat → Option α} (X : ev_X cJx4a65c_grow_92f84 4 yJx4a65c_grow_92f84.cls (some (FieldType.array (FieldType.object "java/lang/Object"))) p s m args meth c D G ad A z) (hP : ev_PP p l e R s m args below meth c Q 4 D G ad A z wE nE P) (hR : wE - z ≤ R.cells ∧ nE ≤ R.slots) (hd2 : d + 3 ≤ R.frames ∧ 64 * (d + 3) ≤ R.locals) (hR1 : 1 ≤ R.frames) (hR2 : 21 ≤ R.locals) (hcf : ev_cf l ev_ys d cf) {Qc : Array Value → State → Outcome → State → Prop} (hQ : Q = MQ below Qc args s (wE - z) nE A) (hfin : ∀ v w n, fin v w n = some r → w.length = wE ∧ n = nE ∧ ∀ H locs, ev_H D G ad A w H → va_S A s.heap H locs → ∀ t : State, t.heap = H → s.WarmedH t.vm → Qc args s (.returned (v.map (ev_v ad))) t) : ev_all2 (ev_ok P r) 0 (ev_o10 cf fin) :=
  ev_b (
   ev_a (ok_ald_n X hP (by decide +kernel : decode cJx4a65c_grow_92f84 0 = .ok (.aload_n 0, 1)) rfl rfl) <|
   ev_a (ok_get X hP (ci := 4) (kf := 1) (T := TJx4a65c) (by decide +kernel : decode cJx4a65c_grow_92f84 1 = .ok (.getfield 9, 3)) rfl ev_in4 (by decide) ev_w1368 (Or.inl rfl) rfl) <|
   ev_a (ok_no) <|
   ev_a (ok_no) <|
   ev_a (ok_aln X hP (by decide +kernel : decode cJx4a65c_grow_92f84 4 = .ok (.arraylength, 1)) rfl) <|
   ev_a (ok_ist_n X hP (by decide +kernel : decode cJx4a65c_grow_92f84 5 = .ok (.istore_n 2, 1)) rfl (by decide) rfl) <|
   ev_a (ok_ild_n X hP (by decide +kernel : decode cJx4a65c_grow_92f84 6 = .ok (.iload_n 2, 1)) rfl rfl) <|
   ev_a (ok_if_gt X hP (by decide +kernel : decode cJx4a65c_grow_92f84 7 = .ok (.ifCond .gt 13, 3)) (by decide) rfl) <|
   ev_a (ok_no) <|
   ev_a (ok_no) <|
   ev_a (ok_ald_n X hP (by decide +kernel : decode cJx4a65c_grow_92f84 10 = .ok (.aload_n 0, 1)) rfl rfl) <|
   ev_a (ok_get X hP (ci := 4) (kf := 1) (T := TJx4a65c) (by decide +kernel : decode cJx4a65c_grow_92f84 11 = .ok (.getfield 9, 3)) rfl ev_in4 (by decide) ev_w1368 (Or.inl rfl) rfl) <|
   ev_a (ok_no) <|
   ev_a (ok_no) <|
   ev_a (ok_gst X hP (by decide +kernel : decode cJx4a65c_grow_92f84 14 = .ok (.getstatic 39, 3)) ev_w1366 rfl) <|
   ev_a (ok_no) <| ev_a0) <|
  ev_b (
   ev_a (ok_no) <|
   ev_a (ok_acmp_eq X hP (by decide +kernel : decode cJx4a65c_grow_92f84 17 = .ok (.if_acmp .eq 28, 3)) (by decide) rfl) <|
   ev_a (ok_no) <|
   ev_a (ok_no) <|
   ev_a (ok_ild_n X hP (by decide +kernel : decode cJx4a65c_grow_92f84 20 = .ok (.iload_n 2, 1)) rfl rfl) <|
   ev_a (ok_ild_n X hP (by decide +kernel : decode cJx4a65c_grow_92f84 21 = .ok (.iload_n 1, 1)) rfl rfl) <|
   ev_a (ok_ild_n X hP (by decide +kernel : decode cJx4a65c_grow_92f84 22 = .ok (.iload_n 2, 1)) rfl rfl) <|
   ev_a (ok_isub X hP (by decide +kernel : decode cJx4a65c_grow_92f84 23 = .ok (.isub, 1)) rfl) <|
   ev_a (ok_ild_n X hP (by decide +kernel : decode cJx4a65c_grow_92f84 24 = .ok (.iload_n 2, 1)) rfl rfl) <|
   ev_a (ok_psh_iconst X hP (by decide +kernel : decode cJx4a65c_grow_92f84 25 = .ok (.iconst 1, 1)) rfl) <|
   ev_a (ok_ishr X hP (by decide +kernel : decode cJx4a65c_grow_92f84 26 = .ok (.ishr, 1)) rfl) <|
   ev_a (ok_invS X hP hR hd2 hcf ev_y2 (by decide +kernel : decode cJx4a65c_grow_92f84 27 = .ok (.invokestatic 73, 3)) ev_w1115 ev_w1461 ev_w1114 ev_w92 ev_dn2 (by decide) rfl) <|
   ev_a (ok_no) <|
   ev_a (ok_no) <|
   ev_a (ok_ist_n X hP (by decide +kernel : decode cJx4a65c_grow_92f84 30 = .ok (.istore_n 3, 1)) rfl (by decide) rfl) <|
   ev_a (ok_ald_n X hP (by decide +kernel : decode cJx4a65c_grow_92f84 31 = .ok (.aload_n 0, 1)) rfl rfl) <| ev_a0) <|
  ev_b (
   ev_a (ok_ald_n X hP (by decide +kernel : decode cJx4a65c_grow_92f84 32 = .ok (.aload_n 0, 1)) rfl rfl) <|
   ev_a (ok_get X hP (ci := 4) (kf := 1) (T := TJx4a65c) (by decide +kernel : decode cJx4a65c_grow_92f84 33 = .ok (.getfield 9, 3)) rfl ev_in4 (by decide) ev_w1368 (Or.inl rfl) rfl) <|
   ev_a (ok_no) <|
   ev_a (ok_no) <|
   ev_a (ok_ild_n X hP (by decide +kernel : decode cJx4a65c_grow_92f84 36 = .ok (.iload_n 3, 1)) rfl rfl) <|
   ev_a (ok_invS X hP hR hd2 hcf ev_y1 (by decide +kernel : decode cJx4a65c_grow_92f84 37 = .ok (.invokestatic 66, 3)) ev_w1464 ev_w1462 ev_w1463 ev_w94 ev_dn1 (by decide) rfl) <|
   ev_a (ok_no) <|
   ev_a (ok_no) <|
   ev_a (ok_dx1 X hP (by decide +kernel : decode cJx4a65c_grow_92f84 40 = .ok (.dup_x1, 1)) rfl) <|
   ev_a (ok_put X hP (ci := 4) (kf := 1) (T := TJx4a65c) tyJx4a65c (by decide +kernel : decode cJx4a65c_grow_92f84 41 = .ok (.putfield 9, 3)) rfl ev_in4 tyJx4a65c_ok nmJx4a65c (by decide) ev_w1368 (Or.inl rfl) rfl rfl rfl) <|
   ev_a (ok_no) <|
   ev_a (ok_no) <|
   ev_a (ok_areturn X hP hQ hfin rfl (Or.inr ⟨_, rfl⟩) (by decide +kernel : decode cJx4a65c_grow_92f84 44 = .ok (.areturn, 1))) <|
   ev_a (ok_ald_n X hP (by decide +kernel : decode cJx4a65c_grow_92f84 45 = .ok (.aload_n 0, 1)) rfl rfl) <|
   ev_a (ok_psh_bipush X hP (by decide +kernel : decode cJx4a65c_grow_92f84 46 = .ok (.bipush 10, 2)) rfl) <|
   ev_a (ok_no) <| ev_a0) <|
  ev_b (
   ev_a (ok_ild_n X hP (by decide +kernel : decode cJx4a65c_grow_92f84 48 = .ok (.iload_n 1, 1)) rfl rfl) <|
   ev_a (ok_mx X hP hR hR1 hR2 (by decide +kernel : decode cJx4a65c_grow_92f84 49 = .ok (.invokestatic 79, 3)) ev_w1497 ev_w682 ev_w93 ev_w683 rfl) <|
   ev_a (ok_no) <|
   ev_a (ok_no) <|
   ev_a (ok_anewarray X hP hR (by decide +kernel : decode cJx4a65c_grow_92f84 52 = .ok (.anewarray 7, 3)) ev_w1498 rfl) <|
   ev_a (ok_no) <|
   ev_a (ok_no) <|
   ev_a (ok_dx1 X hP (by decide +kernel : decode cJx4a65c_grow_92f84 55 = .ok (.dup_x1, 1)) rfl) <|
   ev_a (ok_put X hP (ci := 4) (kf := 1) (T := TJx4a65c) tyJx4a65c (by decide +kernel : decode cJx4a65c_grow_92f84 56 = .ok (.putfield 9, 3)) rfl ev_in4 tyJx4a65c_ok nmJx4a65c (by decide) ev_w1368 (Or.inl rfl) rfl rfl rfl) <|
   ev_a (ok_no) <|
   ev_a (ok_no) <|
   ev_a (ok_areturn X hP hQ hfin rfl (Or.inr ⟨_, rfl⟩) (by decide +kernel : decode cJx4a65c_grow_92f84 59 = .ok (.areturn, 1))) <| ev_a0) <|
  ev_b0
set_option maxRecDepth 100000 in
theorem ev_s11 {l : Launch} {d : Nat} {cf : Nat → List Value → ev_W → Option ev_R} {p : Program} {e : Env} {R : Room} {s : State} {m : MethodId} {args : Array Value} {below : List Frame} {meth : Method} {c : Code} {Q : State → Prop} {D : va_G} {G : Nat → ClassId} {ad : Nat → Nat} {A : Nat → Prop} {z wE nE : Nat} {P : Nat → List Value → List Value → ev_W → Nat → Prop} {α : Type} {r : α} {fin : Option Value → ev_W → Nat → Option α} (X : ev_X cJx4a65c_grow_d5877 1 yJx4a65c_grow_d5877.cls (some (FieldType.array (FieldType.object "java/lang/Object"))) p s m args meth c D G ad A z) (hP : ev_PP p l e R s m args below meth c Q 1 D G ad A z wE nE P) (hR : wE - z ≤ R.cells ∧ nE ≤ R.slots) (hd2 : d + 3 ≤ R.frames ∧ 64 * (d + 3) ≤ R.locals) (hR1 : 1 ≤ R.frames) (hR2 : 21 ≤ R.locals) (hcf : ev_cf l ev_ys d cf) {Qc : Array Value → State → Outcome → State → Prop} (hQ : Q = MQ below Qc args s (wE - z) nE A) (hfin : ∀ v w n, fin v w n = some r → w.length = wE ∧ n = nE ∧ ∀ H locs, ev_H D G ad A w H → va_S A s.heap H locs → ∀ t : State, t.heap = H → s.WarmedH t.vm → Qc args s (.returned (v.map (ev_v ad))) t) : ev_all2 (ev_ok P r) 0 (ev_o11 cf fin) :=
  ev_b (
   ev_a (ok_ald_n X hP (by decide +kernel : decode cJx4a65c_grow_d5877 0 = .ok (.aload_n 0, 1)) rfl rfl) <|
   ev_a (ok_ald_n X hP (by decide +kernel : decode cJx4a65c_grow_d5877 1 = .ok (.aload_n 0, 1)) rfl rfl) <|
   ev_a (ok_get X hP (ci := 4) (kf := 2) (T := TJx4a65c) (by decide +kernel : decode cJx4a65c_grow_d5877 2 = .ok (.getfield 48, 3)) rfl ev_in4 (by decide) ev_w1371 (Or.inl rfl) rfl) <|
   ev_a (ok_no) <|
   ev_a (ok_no) <|
   ev_a (ok_psh_iconst X hP (by decide +kernel : decode cJx4a65c_grow_d5877 5 = .ok (.iconst 1, 1)) rfl) <|
   ev_a (ok_iadd X hP (by decide +kernel : decode cJx4a65c_grow_d5877 6 = .ok (.iadd, 1)) rfl) <|
   ev_a (ok_invV X hP hR hd2 hcf (ci := 4) ev_y10 rfl (by decide +kernel : decode cJx4a65c_grow_d5877 7 = .ok (.invokevirtual 69, 3)) ev_w1460 ev_w1457 ev_w1459 ev_w40 ev_w85 ⟨rfl, ev_dn10⟩ (by decide) rfl) <|
   ev_a (ok_no) <|
   ev_a (ok_no) <|
   ev_a (ok_areturn X hP hQ hfin rfl (Or.inr ⟨_, rfl⟩) (by decide +kernel : decode cJx4a65c_grow_d5877 10 = .ok (.areturn, 1))) <| ev_a0) <|
  ev_b0
set_option maxRecDepth 100000 in
theorem ev_s12 {l : Launch} {d : Nat} {cf : Nat → List Value → ev_W → Option ev_R} {p : Program} {e : Env} {R : Room} {s : State} {m : MethodId} {args : Array Value} {below : List Frame} {meth : Method} {c : Code} {Q : State → Prop} {D : va_G} {G : Nat → ClassId} {ad : Nat → Nat} {A : Nat → Prop} {z wE nE : Nat} {P : Nat → List Value → List Value → ev_W → Nat → Prop} {α : Type} {r : α} {fin : Option Value → ev_W → Nat → Option α} (X : ev_X cJx4a65c_init_da8c8 1 yJx4a65c_init_da8c8.cls none p s m args meth c D G ad A z) (hP : ev_PP p l e R s m args below meth c Q 1 D G ad A z wE nE P) (hR : wE - z ≤ R.cells ∧ nE ≤ R.slots) (hd2 : d + 3 ≤ R.frames ∧ 64 * (d + 3) ≤ R.locals) (hR1 : 1 ≤ R.frames) (hR2 : 21 ≤ R.locals) (hcf : ev_cf l ev_ys d cf) {Qc : Array Value → State → Outcome → State → Prop} (hQ : Q = MQ below Qc args s (wE - z) nE A) (hfin : ∀ v w n, fin v w n = some r → w.length = wE ∧ n = nE ∧ ∀ H locs, ev_H D G ad A w H → va_S A s.heap H locs → ∀ t : State, t.heap = H → s.WarmedH t.vm → Qc args s (.returned (v.map (ev_v ad))) t) : ev_all2 (ev_ok P r) 0 (ev_o12 cf fin) :=
  ev_b (
   ev_a (ok_ald_n X hP (by decide +kernel : decode cJx4a65c_init_da8c8 0 = .ok (.aload_n 0, 1)) rfl rfl) <|
   ev_a (ok_invI X hP hR hd2 hcf ev_y16 (by decide +kernel : decode cJx4a65c_init_da8c8 1 = .ok (.invokespecial 1, 3)) ev_w1361 ev_w1359 ev_w1360 ev_w84 rfl ev_dn16 (by decide) rfl) <|
   ev_a (ok_no) <|
   ev_a (ok_no) <|
   ev_a (ok_ald_n X hP (by decide +kernel : decode cJx4a65c_init_da8c8 4 = .ok (.aload_n 0, 1)) rfl rfl) <|
   ev_a (ok_gst X hP (by decide +kernel : decode cJx4a65c_init_da8c8 5 = .ok (.getstatic 39, 3)) ev_w1366 rfl) <|
   ev_a (ok_no) <|
   ev_a (ok_no) <|
   ev_a (ok_put X hP (ci := 4) (kf := 1) (T := TJx4a65c) tyJx4a65c (by decide +kernel : decode cJx4a65c_init_da8c8 8 = .ok (.putfield 9, 3)) rfl ev_in4 tyJx4a65c_ok nmJx4a65c (by decide) ev_w1368 (Or.inl rfl) rfl rfl rfl) <|
   ev_a (ok_no) <|
   ev_a (ok_no) <|
   ev_a (ok_return X hP hQ hfin rfl (by decide +kernel : decode cJx4a65c_init_da8c8 11 = .ok (.return_, 1))) <| ev_a0) <|
  ev_b0
set_option maxRecDepth 100000 in
theorem ev_s13 {l : Launch} {d : Nat} {cf : Nat → List Value → ev_W → Option ev_R} {p : Program} {e : Env} {R : Room} {s : State} {m : MethodId} {args : Array Value} {below : List Frame} {meth : Method} {c : Code} {Q : State → Prop} {D : va_G} {G : Nat → ClassId} {ad : Nat → Nat} {A : Nat → Prop} {z wE nE : Nat} {P : Nat → List Value → List Value → ev_W → Nat → Prop} {α : Type} {r : α} {fin : Option Value → ev_W → Nat → Option α} (X : ev_X cJx4a65c_iterator_32c93 1 yJx4a65c_iterator_32c93.cls (some (FieldType.object "java/util/Iterator")) p s m args meth c D G ad A z) (hP : ev_PP p l e R s m args below meth c Q 1 D G ad A z wE nE P) (hR : wE - z ≤ R.cells ∧ nE ≤ R.slots) (hd2 : d + 3 ≤ R.frames ∧ 64 * (d + 3) ≤ R.locals) (hR1 : 1 ≤ R.frames) (hR2 : 21 ≤ R.locals) (hcf : ev_cf l ev_ys d cf) {Qc : Array Value → State → Outcome → State → Prop} (hQ : Q = MQ below Qc args s (wE - z) nE A) (hfin : ∀ v w n, fin v w n = some r → w.length = wE ∧ n = nE ∧ ∀ H locs, ev_H D G ad A w H → va_S A s.heap H locs → ∀ t : State, t.heap = H → s.WarmedH t.vm → Qc args s (.returned (v.map (ev_v ad))) t) : ev_all2 (ev_ok P r) 0 (ev_o13 cf fin) :=
  ev_b (
   ev_a (ok_new X hP hR (ci := 3) (N := 4) (T := TJx35411) tyJx35411 (by decide +kernel : decode cJx4a65c_iterator_32c93 0 = .ok (.new 267, 3)) rfl ev_in3 tyJx35411_ok ev_w1523 ev_w1524 ev_w98 (by decide +kernel) rfl ⟨rfl, by decide⟩ rfl) <|
   ev_a (ok_no) <|
   ev_a (ok_no) <|
   ev_a (ok_dup X hP (by decide +kernel : decode cJx4a65c_iterator_32c93 3 = .ok (.dup, 1)) rfl) <|
   ev_a (ok_ald_n X hP (by decide +kernel : decode cJx4a65c_iterator_32c93 4 = .ok (.aload_n 0, 1)) rfl rfl) <|
   ev_a (ok_invI X hP hR hd2 hcf ev_y5 (by decide +kernel : decode cJx4a65c_iterator_32c93 5 = .ok (.invokespecial 269, 3)) ev_w1527 ev_w1525 ev_w1526 ev_w98 rfl ev_dn5 (by decide) rfl) <|
   ev_a (ok_no) <|
   ev_a (ok_no) <|
   ev_a (ok_areturn X hP hQ hfin rfl (Or.inl ⟨_, rfl⟩) (by decide +kernel : decode cJx4a65c_iterator_32c93 8 = .ok (.areturn, 1))) <| ev_a0) <|
  ev_b0
set_option maxRecDepth 100000 in
theorem ev_s14 {l : Launch} {d : Nat} {cf : Nat → List Value → ev_W → Option ev_R} {p : Program} {e : Env} {R : Room} {s : State} {m : MethodId} {args : Array Value} {below : List Frame} {meth : Method} {c : Code} {Q : State → Prop} {D : va_G} {G : Nat → ClassId} {ad : Nat → Nat} {A : Nat → Prop} {z wE nE : Nat} {P : Nat → List Value → List Value → ev_W → Nat → Prop} {α : Type} {r : α} {fin : Option Value → ev_W → Nat → Option α} (X : ev_X cJx4a65c_size_8abf5 1 yJx4a65c_size_8abf5.cls (some FieldType.int) p s m args meth c D G ad A z) (hP : ev_PP p l e R s m args below meth c Q 1 D G ad A z wE nE P) (hR : wE - z ≤ R.cells ∧ nE ≤ R.slots) (hd2 : d + 3 ≤ R.frames ∧ 64 * (d + 3) ≤ R.locals) (hR1 : 1 ≤ R.frames) (hR2 : 21 ≤ R.locals) (hcf : ev_cf l ev_ys d cf) {Qc : Array Value → State → Outcome → State → Prop} (hQ : Q = MQ below Qc args s (wE - z) nE A) (hfin : ∀ v w n, fin v w n = some r → w.length = wE ∧ n = nE ∧ ∀ H locs, ev_H D G ad A w H → va_S A s.heap H locs → ∀ t : State, t.heap = H → s.WarmedH t.vm → Qc args s (.returned (v.map (ev_v ad))) t) : ev_all2 (ev_ok P r) 0 (ev_o14 cf fin) :=
  ev_b (
   ev_a (ok_ald_n X hP (by decide +kernel : decode cJx4a65c_size_8abf5 0 = .ok (.aload_n 0, 1)) rfl rfl) <|
   ev_a (ok_get X hP (ci := 4) (kf := 2) (T := TJx4a65c) (by decide +kernel : decode cJx4a65c_size_8abf5 1 = .ok (.getfield 48, 3)) rfl ev_in4 (by decide) ev_w1371 (Or.inl rfl) rfl) <|
   ev_a (ok_no) <|
   ev_a (ok_no) <|
   ev_a (ok_ireturn X hP hQ hfin rfl (by decide +kernel : decode cJx4a65c_size_8abf5 4 = .ok (.ireturn, 1))) <| ev_a0) <|
  ev_b0
set_option maxRecDepth 100000 in
theorem ev_s15 {l : Launch} {d : Nat} {cf : Nat → List Value → ev_W → Option ev_R} {p : Program} {e : Env} {R : Room} {s : State} {m : MethodId} {args : Array Value} {below : List Frame} {meth : Method} {c : Code} {Q : State → Prop} {D : va_G} {G : Nat → ClassId} {ad : Nat → Nat} {A : Nat → Prop} {z wE nE : Nat} {P : Nat → List Value → List Value → ev_W → Nat → Prop} {α : Type} {r : α} {fin : Option Value → ev_W → Nat → Option α} (X : ev_X cJxa1e45_init_da8c8 1 yJxa1e45_init_da8c8.cls none p s m args meth c D G ad A z) (hP : ev_PP p l e R s m args below meth c Q 1 D G ad A z wE nE P) (hR : wE - z ≤ R.cells ∧ nE ≤ R.slots) (hd2 : d + 3 ≤ R.frames ∧ 64 * (d + 3) ≤ R.locals) (hR1 : 1 ≤ R.frames) (hR2 : 21 ≤ R.locals) (hcf : ev_cf l ev_ys d cf) {Qc : Array Value → State → Outcome → State → Prop} (hQ : Q = MQ below Qc args s (wE - z) nE A) (hfin : ∀ v w n, fin v w n = some r → w.length = wE ∧ n = nE ∧ ∀ H locs, ev_H D G ad A w H → va_S A s.heap H locs → ∀ t : State, t.heap = H → s.WarmedH t.vm → Qc args s (.returned (v.map (ev_v ad))) t) : ev_all2 (ev_ok P r) 0 (ev_o15 cf fin) :=
  ev_b (
   ev_a (ok_ald_n X hP (by decide +kernel : decode cJxa1e45_init_da8c8 0 = .ok (.aload_n 0, 1)) rfl rfl) <|
   ev_a (ok_obj X hP hR1 hR2 (by decide +kernel : decode cJxa1e45_init_da8c8 1 = .ok (.invokespecial 1, 3)) ev_w1365 ev_w115 ev_w116 rfl) <|
   ev_a (ok_no) <|
   ev_a (ok_no) <|
   ev_a (ok_return X hP hQ hfin rfl (by decide +kernel : decode cJxa1e45_init_da8c8 4 = .ok (.return_, 1))) <| ev_a0) <|
  ev_b0
set_option maxRecDepth 100000 in
theorem ev_s16 {l : Launch} {d : Nat} {cf : Nat → List Value → ev_W → Option ev_R} {p : Program} {e : Env} {R : Room} {s : State} {m : MethodId} {args : Array Value} {below : List Frame} {meth : Method} {c : Code} {Q : State → Prop} {D : va_G} {G : Nat → ClassId} {ad : Nat → Nat} {A : Nat → Prop} {z wE nE : Nat} {P : Nat → List Value → List Value → ev_W → Nat → Prop} {α : Type} {r : α} {fin : Option Value → ev_W → Nat → Option α} (X : ev_X cJxc12de_init_da8c8 1 yJxc12de_init_da8c8.cls none p s m args meth c D G ad A z) (hP : ev_PP p l e R s m args below meth c Q 1 D G ad A z wE nE P) (hR : wE - z ≤ R.cells ∧ nE ≤ R.slots) (hd2 : d + 3 ≤ R.frames ∧ 64 * (d + 3) ≤ R.locals) (hR1 : 1 ≤ R.frames) (hR2 : 21 ≤ R.locals) (hcf : ev_cf l ev_ys d cf) {Qc : Array Value → State → Outcome → State → Prop} (hQ : Q = MQ below Qc args s (wE - z) nE A) (hfin : ∀ v w n, fin v w n = some r → w.length = wE ∧ n = nE ∧ ∀ H locs, ev_H D G ad A w H → va_S A s.heap H locs → ∀ t : State, t.heap = H → s.WarmedH t.vm → Qc args s (.returned (v.map (ev_v ad))) t) : ev_all2 (ev_ok P r) 0 (ev_o16 cf fin) :=
  ev_b (
   ev_a (ok_ald_n X hP (by decide +kernel : decode cJxc12de_init_da8c8 0 = .ok (.aload_n 0, 1)) rfl rfl) <|
   ev_a (ok_invI X hP hR hd2 hcf ev_y15 (by decide +kernel : decode cJxc12de_init_da8c8 1 = .ok (.invokespecial 1, 3)) ev_w1364 ev_w1362 ev_w1363 ev_w83 rfl ev_dn15 (by decide) rfl) <|
   ev_a (ok_no) <|
   ev_a (ok_no) <|
   ev_a (ok_ald_n X hP (by decide +kernel : decode cJxc12de_init_da8c8 4 = .ok (.aload_n 0, 1)) rfl rfl) <|
   ev_a (ok_psh_iconst X hP (by decide +kernel : decode cJxc12de_init_da8c8 5 = .ok (.iconst 0, 1)) rfl) <|
   ev_a (ok_put X hP (ci := 4) (kf := 0) (T := TJx4a65c) tyJx4a65c (by decide +kernel : decode cJxc12de_init_da8c8 6 = .ok (.putfield 7, 3)) rfl ev_in4 tyJx4a65c_ok nmJx4a65c (by decide) ev_w1372 (Or.inl rfl) rfl rfl rfl) <|
   ev_a (ok_no) <|
   ev_a (ok_no) <|
   ev_a (ok_return X hP hQ hfin rfl (by decide +kernel : decode cJxc12de_init_da8c8 9 = .ok (.return_, 1))) <| ev_a0) <|
  ev_b0
set_option maxRecDepth 100000 in
theorem ev_s17 {l : Launch} {d : Nat} {cf : Nat → List Value → ev_W → Option ev_R} {p : Program} {e : Env} {R : Room} {s : State} {m : MethodId} {args : Array Value} {below : List Frame} {meth : Method} {c : Code} {Q : State → Prop} {D : va_G} {G : Nat → ClassId} {ad : Nat → Nat} {A : Nat → Prop} {z wE nE : Nat} {P : Nat → List Value → List Value → ev_W → Nat → Prop} {α : Type} {r : α} {fin : Option Value → ev_W → Nat → Option α} (X : ev_X cL_commit 3 yL_commit.cls (some FieldType.int) p s m args meth c D G ad A z) (hP : ev_PP p l e R s m args below meth c Q 3 D G ad A z wE nE P) (hR : wE - z ≤ R.cells ∧ nE ≤ R.slots) (hd2 : d + 3 ≤ R.frames ∧ 64 * (d + 3) ≤ R.locals) (hR1 : 1 ≤ R.frames) (hR2 : 21 ≤ R.locals) (hcf : ev_cf l ev_ys d cf) {Qc : Array Value → State → Outcome → State → Prop} (hQ : Q = MQ below Qc args s (wE - z) nE A) (hfin : ∀ v w n, fin v w n = some r → w.length = wE ∧ n = nE ∧ ∀ H locs, ev_H D G ad A w H → va_S A s.heap H locs → ∀ t : State, t.heap = H → s.WarmedH t.vm → Qc args s (.returned (v.map (ev_v ad))) t) : ev_all2 (ev_ok P r) 0 (ev_o17 cf fin) :=
  ev_b (
   ev_a (ok_ald_n X hP (by decide +kernel : decode cL_commit 0 = .ok (.aload_n 1, 1)) rfl rfl) <|
   ev_a (ok_ald_n X hP (by decide +kernel : decode cL_commit 1 = .ok (.aload_n 0, 1)) rfl rfl) <|
   ev_a (ok_invV X hP hR hd2 hcf (ci := 15) ev_y28 rfl (by decide +kernel : decode cL_commit 2 = .ok (.invokevirtual 27, 3)) ev_w897 ev_w894 ev_w895 ev_w896 ev_w71 ⟨rfl, ev_dn28⟩ (by decide) rfl) <|
   ev_a (ok_no) <|
   ev_a (ok_no) <|
   ev_a (ok_i2l X hP (by decide +kernel : decode cL_commit 5 = .ok (.i2l, 1)) rfl) <|
   ev_a (ok_putN X hP (ci := 16) (kf := 0) (T := TX11) tyX11 (by decide +kernel : decode cL_commit 6 = .ok (.putfield 13, 3)) rfl ev_in16 tyX11_ok nmX11 (by decide) ev_w771 (Or.inl rfl) rfl rfl rfl) <|
   ev_a (ok_no) <|
   ev_a (ok_no) <|
   ev_a (ok_jmp X hP (by decide +kernel : decode cL_commit 9 = .ok (.goto 6, 3)) (by decide)) <|
   ev_a (ok_no) <|
   ev_a (ok_no) <|
   ev_a (ok_ast_n X hP (by decide +kernel : decode cL_commit 12 = .ok (.astore_n 2, 1)) rfl (by decide) rfl) <|
   ev_a (ok_psh_iconst X hP (by decide +kernel : decode cL_commit 13 = .ok (.iconst 1, 1)) rfl) <|
   ev_a (ok_ireturn X hP hQ hfin rfl (by decide +kernel : decode cL_commit 14 = .ok (.ireturn, 1))) <|
   ev_a (ok_psh_iconst X hP (by decide +kernel : decode cL_commit 15 = .ok (.iconst 0, 1)) rfl) <| ev_a0) <|
  ev_b (
   ev_a (ok_ireturn X hP hQ hfin rfl (by decide +kernel : decode cL_commit 16 = .ok (.ireturn, 1))) <| ev_a0) <|
  ev_b0
set_option maxRecDepth 100000 in
theorem ev_s18 {l : Launch} {d : Nat} {cf : Nat → List Value → ev_W → Option ev_R} {p : Program} {e : Env} {R : Room} {s : State} {m : MethodId} {args : Array Value} {below : List Frame} {meth : Method} {c : Code} {Q : State → Prop} {D : va_G} {G : Nat → ClassId} {ad : Nat → Nat} {A : Nat → Prop} {z wE nE : Nat} {P : Nat → List Value → List Value → ev_W → Nat → Prop} {α : Type} {r : α} {fin : Option Value → ev_W → Nat → Option α} (X : ev_X cL_law 7 RL (some FieldType.boolean) p s m args meth c D G ad A z) (hP : ev_PP p l e R s m args below meth c Q 7 D G ad A z wE nE P) (hR : wE - z ≤ R.cells ∧ nE ≤ R.slots) (hd2 : d + 3 ≤ R.frames ∧ 64 * (d + 3) ≤ R.locals) (hR1 : 1 ≤ R.frames) (hR2 : 21 ≤ R.locals) (hcf : ev_cf l ev_ys d cf) {Qc : Array Value → State → Outcome → State → Prop} (hQ : Q = MQ below Qc args s (wE - z) nE A) (hfin : ∀ v w n, fin v w n = some r → w.length = wE ∧ n = nE ∧ ∀ H locs, ev_H D G ad A w H → va_S A s.heap H locs → ∀ t : State, t.heap = H → s.WarmedH t.vm → Qc args s (.returned (v.map (ev_v ad))) t) : ev_all2 (ev_ok P r) 0 (ev_o18 cf fin) :=
  ev_b (
   ev_a (ok_new X hP hR (ci := 15) (N := 16) (T := TX10) tyX10 (by decide +kernel : decode cL_law 0 = .ok (.new 8, 3)) rfl ev_in15 tyX10_ok ev_w109 ev_w110 ev_w71 (by decide +kernel) rfl ⟨rfl, by decide⟩ rfl) <|
   ev_a (ok_no) <|
   ev_a (ok_no) <|
   ev_a (ok_dup X hP (by decide +kernel : decode cL_law 3 = .ok (.dup, 1)) rfl) <|
   ev_a (ok_invI X hP hR hd2 hcf ev_y31 (by decide +kernel : decode cL_law 4 = .ok (.invokespecial 86, 3)) ev_w113 ev_w111 ev_w112 ev_w71 rfl ev_dn31 (by decide) rfl) <|
   ev_a (ok_no) <|
   ev_a (ok_no) <|
   ev_a (ok_ast_n X hP (by decide +kernel : decode cL_law 7 = .ok (.astore_n 1, 1)) rfl (by decide) rfl) <|
   ev_a (ok_new X hP hR (ci := 18) (N := 12) (T := TX13) tyX13 (by decide +kernel : decode cL_law 8 = .ok (.new 87, 3)) rfl ev_in18 tyX13_ok ev_w1348 ev_w1349 ev_w82 (by decide +kernel) rfl ⟨rfl, by decide⟩ rfl) <|
   ev_a (ok_no) <|
   ev_a (ok_no) <|
   ev_a (ok_dup X hP (by decide +kernel : decode cL_law 11 = .ok (.dup, 1)) rfl) <|
   ev_a (ok_invI X hP hR hd2 hcf ev_y47 (by decide +kernel : decode cL_law 12 = .ok (.invokespecial 89, 3)) ev_w1352 ev_w1350 ev_w1351 ev_w82 rfl ev_dn47 (by decide) rfl) <|
   ev_a (ok_no) <|
   ev_a (ok_no) <|
   ev_a (ok_ast_n X hP (by decide +kernel : decode cL_law 15 = .ok (.astore_n 2, 1)) rfl (by decide) rfl) <| ev_a0) <|
  ev_b (
   ev_a (ok_new X hP hR (ci := 16) (N := 2) (T := TX11) tyX11 (by decide +kernel : decode cL_law 16 = .ok (.new 14, 3)) rfl ev_in16 tyX11_ok ev_w765 ev_w766 ev_w86 (by decide +kernel) rfl ⟨rfl, by decide⟩ rfl) <|
   ev_a (ok_no) <|
   ev_a (ok_no) <|
   ev_a (ok_dup X hP (by decide +kernel : decode cL_law 19 = .ok (.dup, 1)) rfl) <|
   ev_a (ok_invIN X hP hR hd2 hcf ev_y38 (by decide +kernel : decode cL_law 20 = .ok (.invokespecial 90, 3)) ev_w769 ev_w767 ev_w768 ev_w86 rfl ev_dn38 (by decide) rfl) <|
   ev_a (ok_no) <|
   ev_a (ok_no) <|
   ev_a (ok_ast_n X hP (by decide +kernel : decode cL_law 23 = .ok (.astore_n 3, 1)) rfl (by decide) rfl) <|
   ev_a (ok_psh_iconst X hP (by decide +kernel : decode cL_law 24 = .ok (.iconst 0, 1)) rfl) <|
   ev_a (ok_ist X hP (by decide +kernel : decode cL_law 25 = .ok (.istore 4, 2)) (by decide) rfl) <|
   ev_a (ok_no) <|
   ev_a (ok_ild X hP (by decide +kernel : decode cL_law 27 = .ok (.iload 4, 2)) rfl) <|
   ev_a (ok_no) <|
   ev_a (ok_ald_n X hP (by decide +kernel : decode cL_law 29 = .ok (.aload_n 0, 1)) rfl rfl) <|
   ev_a (ok_aln X hP (by decide +kernel : decode cL_law 30 = .ok (.arraylength, 1)) rfl) <|
   ev_a (ok_psh_iconst X hP (by decide +kernel : decode cL_law 31 = .ok (.iconst 4, 1)) rfl) <| ev_a0) <|
  ev_b (
   ev_a (ok_isub X hP (by decide +kernel : decode cL_law 32 = .ok (.isub, 1)) rfl) <|
   ev_a (ok_icmp_gt X hP (by decide +kernel : decode cL_law 33 = .ok (.if_icmp .gt 870, 3)) (by decide) rfl) <|
   ev_a (ok_no) <|
   ev_a (ok_no) <|
   ev_a (ok_ald_n X hP (by decide +kernel : decode cL_law 36 = .ok (.aload_n 0, 1)) rfl rfl) <|
   ev_a (ok_ild X hP (by decide +kernel : decode cL_law 37 = .ok (.iload 4, 2)) rfl) <|
   ev_a (ok_no) <|
   ev_a (ok_ialoads X hP (by decide +kernel : decode cL_law 39 = .ok (.iaload, 1)) rfl) <|
   ev_a (ok_psh_bipush X hP (by decide +kernel : decode cL_law 40 = .ok (.bipush 31, 2)) rfl) <|
   ev_a (ok_no) <|
   ev_a (ok_iand X hP (by decide +kernel : decode cL_law 42 = .ok (.iand, 1)) rfl) <|
   ev_a (ok_tsw X hP (by decide +kernel : decode cL_law 43 = .ok (.tableswitch 854 0 25 #[117, 157, 214, 227, 243, 283, 296, 352, 404, 420, 448, 476, 489, 529, 569, 597, 610, 638, 666, 679, 731, 759, 787, 800, 828, 841], 117)) rfl (by decide +kernel)) <|
   ev_a (ok_no) <|
   ev_a (ok_no) <|
   ev_a (ok_no) <|
   ev_a (ok_no) <| ev_a0) <|
  ev_b (
   ev_a (ok_no) <|
   ev_a (ok_no) <|
   ev_a (ok_no) <|
   ev_a (ok_no) <|
   ev_a (ok_no) <|
   ev_a (ok_no) <|
   ev_a (ok_no) <|
   ev_a (ok_no) <|
   ev_a (ok_no) <|
   ev_a (ok_no) <|
   ev_a (ok_no) <|
   ev_a (ok_no) <|
   ev_a (ok_no) <|
   ev_a (ok_no) <|
   ev_a (ok_no) <|
   ev_a (ok_no) <| ev_a0) <|
  ev_b (
   ev_a (ok_no) <|
   ev_a (ok_no) <|
   ev_a (ok_no) <|
   ev_a (ok_no) <|
   ev_a (ok_no) <|
   ev_a (ok_no) <|
   ev_a (ok_no) <|
   ev_a (ok_no) <|
   ev_a (ok_no) <|
   ev_a (ok_no) <|
   ev_a (ok_no) <|
   ev_a (ok_no) <|
   ev_a (ok_no) <|
   ev_a (ok_no) <|
   ev_a (ok_no) <|
   ev_a (ok_no) <| ev_a0) <|
  ev_b (
   ev_a (ok_no) <|
   ev_a (ok_no) <|
   ev_a (ok_no) <|
   ev_a (ok_no) <|
   ev_a (ok_no) <|
   ev_a (ok_no) <|
   ev_a (ok_no) <|
   ev_a (ok_no) <|
   ev_a (ok_no) <|
   ev_a (ok_no) <|
   ev_a (ok_no) <|
   ev_a (ok_no) <|
   ev_a (ok_no) <|
   ev_a (ok_no) <|
   ev_a (ok_no) <|
   ev_a (ok_no) <| ev_a0) <|
  ev_b (
   ev_a (ok_no) <|
   ev_a (ok_no) <|
   ev_a (ok_no) <|
   ev_a (ok_no) <|
   ev_a (ok_no) <|
   ev_a (ok_no) <|
   ev_a (ok_no) <|
   ev_a (ok_no) <|
   ev_a (ok_no) <|
   ev_a (ok_no) <|
   ev_a (ok_no) <|
   ev_a (ok_no) <|
   ev_a (ok_no) <|
   ev_a (ok_no) <|
   ev_a (ok_no) <|
   ev_a (ok_no) <| ev_a0) <|
  ev_b (
   ev_a (ok_no) <|
   ev_a (ok_no) <|
   ev_a (ok_no) <|
   ev_a (ok_no) <|
   ev_a (ok_no) <|
   ev_a (ok_no) <|
   ev_a (ok_no) <|
   ev_a (ok_no) <|
   ev_a (ok_no) <|
   ev_a (ok_no) <|
   ev_a (ok_no) <|
   ev_a (ok_no) <|
   ev_a (ok_no) <|
   ev_a (ok_no) <|
   ev_a (ok_no) <|
   ev_a (ok_no) <| ev_a0) <|
  ev_b (
   ev_a (ok_no) <|
   ev_a (ok_no) <|
   ev_a (ok_no) <|
   ev_a (ok_no) <|
   ev_a (ok_no) <|
   ev_a (ok_no) <|
   ev_a (ok_no) <|
   ev_a (ok_no) <|
   ev_a (ok_no) <|
   ev_a (ok_no) <|
   ev_a (ok_no) <|
   ev_a (ok_no) <|
   ev_a (ok_no) <|
   ev_a (ok_no) <|
   ev_a (ok_no) <|
   ev_a (ok_no) <| ev_a0) <|
  ev_b (
   ev_a (ok_no) <|
   ev_a (ok_no) <|
   ev_a (ok_no) <|
   ev_a (ok_no) <|
   ev_a (ok_no) <|
   ev_a (ok_no) <|
   ev_a (ok_no) <|
   ev_a (ok_no) <|
   ev_a (ok_no) <|
   ev_a (ok_no) <|
   ev_a (ok_no) <|
   ev_a (ok_no) <|
   ev_a (ok_no) <|
   ev_a (ok_no) <|
   ev_a (ok_no) <|
   ev_a (ok_no) <| ev_a0) <|
  ev_b (
   ev_a (ok_ald_n X hP (by decide +kernel : decode cL_law 160 = .ok (.aload_n 1, 1)) rfl rfl) <|
   ev_a (ok_ald_n X hP (by decide +kernel : decode cL_law 161 = .ok (.aload_n 0, 1)) rfl rfl) <|
   ev_a (ok_ild X hP (by decide +kernel : decode cL_law 162 = .ok (.iload 4, 2)) rfl) <|
   ev_a (ok_no) <|
   ev_a (ok_psh_iconst X hP (by decide +kernel : decode cL_law 164 = .ok (.iconst 1, 1)) rfl) <|
   ev_a (ok_iadd X hP (by decide +kernel : decode cL_law 165 = .ok (.iadd, 1)) rfl) <|
   ev_a (ok_ialoads X hP (by decide +kernel : decode cL_law 166 = .ok (.iaload, 1)) rfl) <|
   ev_a (ok_ald_n X hP (by decide +kernel : decode cL_law 167 = .ok (.aload_n 0, 1)) rfl rfl) <|
   ev_a (ok_ild X hP (by decide +kernel : decode cL_law 168 = .ok (.iload 4, 2)) rfl) <|
   ev_a (ok_no) <|
   ev_a (ok_psh_iconst X hP (by decide +kernel : decode cL_law 170 = .ok (.iconst 2, 1)) rfl) <|
   ev_a (ok_iadd X hP (by decide +kernel : decode cL_law 171 = .ok (.iadd, 1)) rfl) <|
   ev_a (ok_ialoads X hP (by decide +kernel : decode cL_law 172 = .ok (.iaload, 1)) rfl) <|
   ev_a (ok_ald_n X hP (by decide +kernel : decode cL_law 173 = .ok (.aload_n 3, 1)) rfl rfl) <|
   ev_a (ok_invSW X hP hR hd2 hcf ev_y19 (by decide +kernel : decode cL_law 174 = .ok (.invokestatic 91, 3)) ev_w780 ev_w778 ev_w779 ev_w70 ev_dn19 (by decide) rfl) <|
   ev_a (ok_no) <| ev_a0) <|
  ev_b (
   ev_a (ok_no) <|
   ev_a (ok_ist X hP (by decide +kernel : decode cL_law 177 = .ok (.istore 5, 2)) (by decide) rfl) <|
   ev_a (ok_no) <|
   ev_a (ok_ald_n X hP (by decide +kernel : decode cL_law 179 = .ok (.aload_n 2, 1)) rfl rfl) <|
   ev_a (ok_ald_n X hP (by decide +kernel : decode cL_law 180 = .ok (.aload_n 0, 1)) rfl rfl) <|
   ev_a (ok_ild X hP (by decide +kernel : decode cL_law 181 = .ok (.iload 4, 2)) rfl) <|
   ev_a (ok_no) <|
   ev_a (ok_psh_iconst X hP (by decide +kernel : decode cL_law 183 = .ok (.iconst 1, 1)) rfl) <|
   ev_a (ok_iadd X hP (by decide +kernel : decode cL_law 184 = .ok (.iadd, 1)) rfl) <|
   ev_a (ok_ialoads X hP (by decide +kernel : decode cL_law 185 = .ok (.iaload, 1)) rfl) <|
   ev_a (ok_ald_n X hP (by decide +kernel : decode cL_law 186 = .ok (.aload_n 0, 1)) rfl rfl) <|
   ev_a (ok_ild X hP (by decide +kernel : decode cL_law 187 = .ok (.iload 4, 2)) rfl) <|
   ev_a (ok_no) <|
   ev_a (ok_psh_iconst X hP (by decide +kernel : decode cL_law 189 = .ok (.iconst 2, 1)) rfl) <|
   ev_a (ok_iadd X hP (by decide +kernel : decode cL_law 190 = .ok (.iadd, 1)) rfl) <|
   ev_a (ok_ialoads X hP (by decide +kernel : decode cL_law 191 = .ok (.iaload, 1)) rfl) <| ev_a0) <|
  ev_b (
   ev_a (ok_invV X hP hR hd2 hcf (ci := 18) ev_y53 rfl (by decide +kernel : decode cL_law 192 = .ok (.invokevirtual 96, 3)) ev_w1427 ev_w1424 ev_w1425 ev_w1426 ev_w82 ⟨rfl, ev_dn53⟩ (by decide) rfl) <|
   ev_a (ok_no) <|
   ev_a (ok_no) <|
   ev_a (ok_ist X hP (by decide +kernel : decode cL_law 195 = .ok (.istore 6, 2)) (by decide) rfl) <|
   ev_a (ok_no) <|
   ev_a (ok_jmp X hP (by decide +kernel : decode cL_law 197 = .ok (.goto 700, 3)) (by decide)) <|
   ev_a (ok_no) <|
   ev_a (ok_no) <|
   ev_a (ok_ald_n X hP (by decide +kernel : decode cL_law 200 = .ok (.aload_n 1, 1)) rfl rfl) <|
   ev_a (ok_ald_n X hP (by decide +kernel : decode cL_law 201 = .ok (.aload_n 0, 1)) rfl rfl) <|
   ev_a (ok_ild X hP (by decide +kernel : decode cL_law 202 = .ok (.iload 4, 2)) rfl) <|
   ev_a (ok_no) <|
   ev_a (ok_psh_iconst X hP (by decide +kernel : decode cL_law 204 = .ok (.iconst 1, 1)) rfl) <|
   ev_a (ok_iadd X hP (by decide +kernel : decode cL_law 205 = .ok (.iadd, 1)) rfl) <|
   ev_a (ok_ialoads X hP (by decide +kernel : decode cL_law 206 = .ok (.iaload, 1)) rfl) <|
   ev_a (ok_ald_n X hP (by decide +kernel : decode cL_law 207 = .ok (.aload_n 3, 1)) rfl rfl) <| ev_a0) <|
  ev_b (
   ev_a (ok_invSW X hP hR hd2 hcf ev_y20 (by decide +kernel : decode cL_law 208 = .ok (.invokestatic 97, 3)) ev_w886 ev_w884 ev_w885 ev_w70 ev_dn20 (by decide) rfl) <|
   ev_a (ok_no) <|
   ev_a (ok_no) <|
   ev_a (ok_ist X hP (by decide +kernel : decode cL_law 211 = .ok (.istore 5, 2)) (by decide) rfl) <|
   ev_a (ok_no) <|
   ev_a (ok_ald_n X hP (by decide +kernel : decode cL_law 213 = .ok (.aload_n 2, 1)) rfl rfl) <|
   ev_a (ok_ald_n X hP (by decide +kernel : decode cL_law 214 = .ok (.aload_n 0, 1)) rfl rfl) <|
   ev_a (ok_ild X hP (by decide +kernel : decode cL_law 215 = .ok (.iload 4, 2)) rfl) <|
   ev_a (ok_no) <|
   ev_a (ok_psh_iconst X hP (by decide +kernel : decode cL_law 217 = .ok (.iconst 1, 1)) rfl) <|
   ev_a (ok_iadd X hP (by decide +kernel : decode cL_law 218 = .ok (.iadd, 1)) rfl) <|
   ev_a (ok_ialoads X hP (by decide +kernel : decode cL_law 219 = .ok (.iaload, 1)) rfl) <|
   ev_a (ok_invV X hP hR hd2 hcf (ci := 18) ev_y56 rfl (by decide +kernel : decode cL_law 220 = .ok (.invokevirtual 100, 3)) ev_w1502 ev_w1499 ev_w1500 ev_w1501 ev_w82 ⟨rfl, ev_dn56⟩ (by decide) rfl) <|
   ev_a (ok_no) <|
   ev_a (ok_no) <|
   ev_a (ok_ist X hP (by decide +kernel : decode cL_law 223 = .ok (.istore 6, 2)) (by decide) rfl) <| ev_a0) <|
  ev_b (
   ev_a (ok_no) <|
   ev_a (ok_ald_n X hP (by decide +kernel : decode cL_law 225 = .ok (.aload_n 2, 1)) rfl rfl) <|
   ev_a (ok_invV X hP hR hd2 hcf (ci := 18) ev_y54 rfl (by decide +kernel : decode cL_law 226 = .ok (.invokevirtual 101, 3)) ev_w1423 ev_w1420 ev_w1421 ev_w1422 ev_w82 ⟨rfl, ev_dn54⟩ (by decide) rfl) <|
   ev_a (ok_no) <|
   ev_a (ok_no) <|
   ev_a (ok_ild X hP (by decide +kernel : decode cL_law 229 = .ok (.iload 5, 2)) rfl) <|
   ev_a (ok_no) <|
   ev_a (ok_icmp_eq X hP (by decide +kernel : decode cL_law 231 = .ok (.if_icmp .eq 5, 3)) (by decide) rfl) <|
   ev_a (ok_no) <|
   ev_a (ok_no) <|
   ev_a (ok_psh_iconst X hP (by decide +kernel : decode cL_law 234 = .ok (.iconst 0, 1)) rfl) <|
   ev_a (ok_zreturn X hP hQ hfin rfl (by decide +kernel : decode cL_law 235 = .ok (.ireturn, 1))) <|
   ev_a (ok_ild X hP (by decide +kernel : decode cL_law 236 = .ok (.iload 5, 2)) rfl) <|
   ev_a (ok_no) <|
   ev_a (ok_if_ne X hP (by decide +kernel : decode cL_law 238 = .ok (.ifCond .ne 16, 3)) (by decide) rfl) <|
   ev_a (ok_no) <| ev_a0) <|
  ev_b (
   ev_a (ok_no) <|
   ev_a (ok_ald_n X hP (by decide +kernel : decode cL_law 241 = .ok (.aload_n 3, 1)) rfl rfl) <|
   ev_a (ok_getN X hP (ci := 16) (kf := 0) (T := TX11) (by decide +kernel : decode cL_law 242 = .ok (.getfield 13, 3)) rfl ev_in16 (by decide) ev_w771 (Or.inl rfl) rfl) <|
   ev_a (ok_no) <|
   ev_a (ok_no) <|
   ev_a (ok_ild X hP (by decide +kernel : decode cL_law 245 = .ok (.iload 6, 2)) rfl) <|
   ev_a (ok_no) <|
   ev_a (ok_i2l X hP (by decide +kernel : decode cL_law 247 = .ok (.i2l, 1)) rfl) <|
   ev_a (ok_lcm X hP (by decide +kernel : decode cL_law 248 = .ok (.lcmp, 1)) rfl) <|
   ev_a (ok_if_eq X hP (by decide +kernel : decode cL_law 249 = .ok (.ifCond .eq 5, 3)) (by decide) rfl) <|
   ev_a (ok_no) <|
   ev_a (ok_no) <|
   ev_a (ok_psh_iconst X hP (by decide +kernel : decode cL_law 252 = .ok (.iconst 0, 1)) rfl) <|
   ev_a (ok_zreturn X hP hQ hfin rfl (by decide +kernel : decode cL_law 253 = .ok (.ireturn, 1))) <|
   ev_a (ok_jmp X hP (by decide +kernel : decode cL_law 254 = .ok (.goto 643, 3)) (by decide)) <|
   ev_a (ok_no) <| ev_a0) <|
  ev_b (
   ev_a (ok_no) <|
   ev_a (ok_ald_n X hP (by decide +kernel : decode cL_law 257 = .ok (.aload_n 1, 1)) rfl rfl) <|
   ev_a (ok_no) <|
   ev_a (ok_no) <|
   ev_a (ok_no) <|
   ev_a (ok_drop X hP (by decide +kernel : decode cL_law 261 = .ok (.pop, 1)) rfl) <|
   ev_a (ok_ald_n X hP (by decide +kernel : decode cL_law 262 = .ok (.aload_n 2, 1)) rfl rfl) <|
   ev_a (ok_no) <|
   ev_a (ok_no) <|
   ev_a (ok_no) <|
   ev_a (ok_drop X hP (by decide +kernel : decode cL_law 266 = .ok (.pop, 1)) rfl) <|
   ev_a (ok_jmp X hP (by decide +kernel : decode cL_law 267 = .ok (.goto 630, 3)) (by decide)) <|
   ev_a (ok_no) <|
   ev_a (ok_no) <|
   ev_a (ok_ald_n X hP (by decide +kernel : decode cL_law 270 = .ok (.aload_n 1, 1)) rfl rfl) <|
   ev_a (ok_ald_n X hP (by decide +kernel : decode cL_law 271 = .ok (.aload_n 3, 1)) rfl rfl) <| ev_a0) <|
  ev_b (
   ev_a (ok_invSW X hP hR hd2 hcf ev_y17 (by decide +kernel : decode cL_law 272 = .ok (.invokestatic 108, 3)) ev_w893 ev_w891 ev_w892 ev_w70 ev_dn17 (by decide) rfl) <|
   ev_a (ok_no) <|
   ev_a (ok_no) <|
   ev_a (ok_ist X hP (by decide +kernel : decode cL_law 275 = .ok (.istore 5, 2)) (by decide) rfl) <|
   ev_a (ok_no) <|
   ev_a (ok_ald_n X hP (by decide +kernel : decode cL_law 277 = .ok (.aload_n 2, 1)) rfl rfl) <|
   ev_a (ok_invV X hP hR hd2 hcf (ci := 18) ev_y43 rfl (by decide +kernel : decode cL_law 278 = .ok (.invokevirtual 111, 3)) ev_w1514 ev_w1511 ev_w1512 ev_w1513 ev_w82 ⟨rfl, ev_dn43⟩ (by decide) rfl) <|
   ev_a (ok_no) <|
   ev_a (ok_no) <|
   ev_a (ok_ist X hP (by decide +kernel : decode cL_law 281 = .ok (.istore 6, 2)) (by decide) rfl) <|
   ev_a (ok_no) <|
   ev_a (ok_jmp X hP (by decide +kernel : decode cL_law 283 = .ok (.goto 614, 3)) (by decide)) <|
   ev_a (ok_no) <|
   ev_a (ok_no) <|
   ev_a (ok_ald_n X hP (by decide +kernel : decode cL_law 286 = .ok (.aload_n 1, 1)) rfl rfl) <|
   ev_a (ok_ald_n X hP (by decide +kernel : decode cL_law 287 = .ok (.aload_n 0, 1)) rfl rfl) <| ev_a0) <|
  ev_b (
   ev_a (ok_ild X hP (by decide +kernel : decode cL_law 288 = .ok (.iload 4, 2)) rfl) <|
   ev_a (ok_no) <|
   ev_a (ok_psh_iconst X hP (by decide +kernel : decode cL_law 290 = .ok (.iconst 1, 1)) rfl) <|
   ev_a (ok_iadd X hP (by decide +kernel : decode cL_law 291 = .ok (.iadd, 1)) rfl) <|
   ev_a (ok_ialoads X hP (by decide +kernel : decode cL_law 292 = .ok (.iaload, 1)) rfl) <|
   ev_a (ok_ald_n X hP (by decide +kernel : decode cL_law 293 = .ok (.aload_n 0, 1)) rfl rfl) <|
   ev_a (ok_ild X hP (by decide +kernel : decode cL_law 294 = .ok (.iload 4, 2)) rfl) <|
   ev_a (ok_no) <|
   ev_a (ok_psh_iconst X hP (by decide +kernel : decode cL_law 296 = .ok (.iconst 2, 1)) rfl) <|
   ev_a (ok_iadd X hP (by decide +kernel : decode cL_law 297 = .ok (.iadd, 1)) rfl) <|
   ev_a (ok_ialoads X hP (by decide +kernel : decode cL_law 298 = .ok (.iaload, 1)) rfl) <|
   ev_a (ok_ald_n X hP (by decide +kernel : decode cL_law 299 = .ok (.aload_n 3, 1)) rfl rfl) <|
   ev_a (ok_no) <|
   ev_a (ok_no) <|
   ev_a (ok_no) <|
   ev_a (ok_ist X hP (by decide +kernel : decode cL_law 303 = .ok (.istore 5, 2)) (by decide) rfl) <| ev_a0) <|
  ev_b (
   ev_a (ok_no) <|
   ev_a (ok_ald_n X hP (by decide +kernel : decode cL_law 305 = .ok (.aload_n 2, 1)) rfl rfl) <|
   ev_a (ok_ald_n X hP (by decide +kernel : decode cL_law 306 = .ok (.aload_n 0, 1)) rfl rfl) <|
   ev_a (ok_ild X hP (by decide +kernel : decode cL_law 307 = .ok (.iload 4, 2)) rfl) <|
   ev_a (ok_no) <|
   ev_a (ok_psh_iconst X hP (by decide +kernel : decode cL_law 309 = .ok (.iconst 1, 1)) rfl) <|
   ev_a (ok_iadd X hP (by decide +kernel : decode cL_law 310 = .ok (.iadd, 1)) rfl) <|
   ev_a (ok_ialoads X hP (by decide +kernel : decode cL_law 311 = .ok (.iaload, 1)) rfl) <|
   ev_a (ok_ald_n X hP (by decide +kernel : decode cL_law 312 = .ok (.aload_n 0, 1)) rfl rfl) <|
   ev_a (ok_ild X hP (by decide +kernel : decode cL_law 313 = .ok (.iload 4, 2)) rfl) <|
   ev_a (ok_no) <|
   ev_a (ok_psh_iconst X hP (by decide +kernel : decode cL_law 315 = .ok (.iconst 2, 1)) rfl) <|
   ev_a (ok_iadd X hP (by decide +kernel : decode cL_law 316 = .ok (.iadd, 1)) rfl) <|
   ev_a (ok_ialoads X hP (by decide +kernel : decode cL_law 317 = .ok (.iaload, 1)) rfl) <|
   ev_a (ok_no) <|
   ev_a (ok_no) <| ev_a0) <|
  ev_b (
   ev_a (ok_no) <|
   ev_a (ok_ist X hP (by decide +kernel : decode cL_law 321 = .ok (.istore 6, 2)) (by decide) rfl) <|
   ev_a (ok_no) <|
   ev_a (ok_jmp X hP (by decide +kernel : decode cL_law 323 = .ok (.goto 574, 3)) (by decide)) <|
   ev_a (ok_no) <|
   ev_a (ok_no) <|
   ev_a (ok_ald_n X hP (by decide +kernel : decode cL_law 326 = .ok (.aload_n 1, 1)) rfl rfl) <|
   ev_a (ok_no) <|
   ev_a (ok_no) <|
   ev_a (ok_no) <|
   ev_a (ok_drop X hP (by decide +kernel : decode cL_law 330 = .ok (.pop, 1)) rfl) <|
   ev_a (ok_ald_n X hP (by decide +kernel : decode cL_law 331 = .ok (.aload_n 2, 1)) rfl rfl) <|
   ev_a (ok_no) <|
   ev_a (ok_no) <|
   ev_a (ok_no) <|
   ev_a (ok_drop X hP (by decide +kernel : decode cL_law 335 = .ok (.pop, 1)) rfl) <| ev_a0) <|
  ev_b (
   ev_a (ok_jmp X hP (by decide +kernel : decode cL_law 336 = .ok (.goto 561, 3)) (by decide)) <|
   ev_a (ok_no) <|
   ev_a (ok_no) <|
   ev_a (ok_ald_n X hP (by decide +kernel : decode cL_law 339 = .ok (.aload_n 1, 1)) rfl rfl) <|
   ev_a (ok_ald_n X hP (by decide +kernel : decode cL_law 340 = .ok (.aload_n 0, 1)) rfl rfl) <|
   ev_a (ok_ild X hP (by decide +kernel : decode cL_law 341 = .ok (.iload 4, 2)) rfl) <|
   ev_a (ok_no) <|
   ev_a (ok_psh_iconst X hP (by decide +kernel : decode cL_law 343 = .ok (.iconst 1, 1)) rfl) <|
   ev_a (ok_iadd X hP (by decide +kernel : decode cL_law 344 = .ok (.iadd, 1)) rfl) <|
   ev_a (ok_ialoads X hP (by decide +kernel : decode cL_law 345 = .ok (.iaload, 1)) rfl) <|
   ev_a (ok_ald_n X hP (by decide +kernel : decode cL_law 346 = .ok (.aload_n 0, 1)) rfl rfl) <|
   ev_a (ok_ild X hP (by decide +kernel : decode cL_law 347 = .ok (.iload 4, 2)) rfl) <|
   ev_a (ok_no) <|
   ev_a (ok_psh_iconst X hP (by decide +kernel : decode cL_law 349 = .ok (.iconst 2, 1)) rfl) <|
   ev_a (ok_iadd X hP (by decide +kernel : decode cL_law 350 = .ok (.iadd, 1)) rfl) <|
   ev_a (ok_ialoads X hP (by decide +kernel : decode cL_law 351 = .ok (.iaload, 1)) rfl) <| ev_a0) <|
  ev_b (
   ev_a (ok_if_eq X hP (by decide +kernel : decode cL_law 352 = .ok (.ifCond .eq 7, 3)) (by decide) rfl) <|
   ev_a (ok_no) <|
   ev_a (ok_no) <|
   ev_a (ok_psh_iconst X hP (by decide +kernel : decode cL_law 355 = .ok (.iconst 1, 1)) rfl) <|
   ev_a (ok_jmp X hP (by decide +kernel : decode cL_law 356 = .ok (.goto 4, 3)) (by decide)) <|
   ev_a (ok_no) <|
   ev_a (ok_no) <|
   ev_a (ok_psh_iconst X hP (by decide +kernel : decode cL_law 359 = .ok (.iconst 0, 1)) rfl) <|
   ev_a (ok_ald_n X hP (by decide +kernel : decode cL_law 360 = .ok (.aload_n 3, 1)) rfl rfl) <|
   ev_a (ok_no) <|
   ev_a (ok_no) <|
   ev_a (ok_no) <|
   ev_a (ok_ist X hP (by decide +kernel : decode cL_law 364 = .ok (.istore 5, 2)) (by decide) rfl) <|
   ev_a (ok_no) <|
   ev_a (ok_ald_n X hP (by decide +kernel : decode cL_law 366 = .ok (.aload_n 2, 1)) rfl rfl) <|
   ev_a (ok_ald_n X hP (by decide +kernel : decode cL_law 367 = .ok (.aload_n 0, 1)) rfl rfl) <| ev_a0) <|
  ev_b (
   ev_a (ok_ild X hP (by decide +kernel : decode cL_law 368 = .ok (.iload 4, 2)) rfl) <|
   ev_a (ok_no) <|
   ev_a (ok_psh_iconst X hP (by decide +kernel : decode cL_law 370 = .ok (.iconst 1, 1)) rfl) <|
   ev_a (ok_iadd X hP (by decide +kernel : decode cL_law 371 = .ok (.iadd, 1)) rfl) <|
   ev_a (ok_ialoads X hP (by decide +kernel : decode cL_law 372 = .ok (.iaload, 1)) rfl) <|
   ev_a (ok_ald_n X hP (by decide +kernel : decode cL_law 373 = .ok (.aload_n 0, 1)) rfl rfl) <|
   ev_a (ok_ild X hP (by decide +kernel : decode cL_law 374 = .ok (.iload 4, 2)) rfl) <|
   ev_a (ok_no) <|
   ev_a (ok_psh_iconst X hP (by decide +kernel : decode cL_law 376 = .ok (.iconst 2, 1)) rfl) <|
   ev_a (ok_iadd X hP (by decide +kernel : decode cL_law 377 = .ok (.iadd, 1)) rfl) <|
   ev_a (ok_ialoads X hP (by decide +kernel : decode cL_law 378 = .ok (.iaload, 1)) rfl) <|
   ev_a (ok_if_eq X hP (by decide +kernel : decode cL_law 379 = .ok (.ifCond .eq 7, 3)) (by decide) rfl) <|
   ev_a (ok_no) <|
   ev_a (ok_no) <|
   ev_a (ok_psh_iconst X hP (by decide +kernel : decode cL_law 382 = .ok (.iconst 1, 1)) rfl) <|
   ev_a (ok_jmp X hP (by decide +kernel : decode cL_law 383 = .ok (.goto 4, 3)) (by decide)) <| ev_a0) <|
  ev_b (
   ev_a (ok_no) <|
   ev_a (ok_no) <|
   ev_a (ok_psh_iconst X hP (by decide +kernel : decode cL_law 386 = .ok (.iconst 0, 1)) rfl) <|
   ev_a (ok_no) <|
   ev_a (ok_no) <|
   ev_a (ok_no) <|
   ev_a (ok_ist X hP (by decide +kernel : decode cL_law 390 = .ok (.istore 6, 2)) (by decide) rfl) <|
   ev_a (ok_no) <|
   ev_a (ok_jmp X hP (by decide +kernel : decode cL_law 392 = .ok (.goto 505, 3)) (by decide)) <|
   ev_a (ok_no) <|
   ev_a (ok_no) <|
   ev_a (ok_ald_n X hP (by decide +kernel : decode cL_law 395 = .ok (.aload_n 1, 1)) rfl rfl) <|
   ev_a (ok_ald_n X hP (by decide +kernel : decode cL_law 396 = .ok (.aload_n 0, 1)) rfl rfl) <|
   ev_a (ok_ild X hP (by decide +kernel : decode cL_law 397 = .ok (.iload 4, 2)) rfl) <|
   ev_a (ok_no) <|
   ev_a (ok_psh_iconst X hP (by decide +kernel : decode cL_law 399 = .ok (.iconst 1, 1)) rfl) <| ev_a0) <|
  ev_b (
   ev_a (ok_iadd X hP (by decide +kernel : decode cL_law 400 = .ok (.iadd, 1)) rfl) <|
   ev_a (ok_ialoads X hP (by decide +kernel : decode cL_law 401 = .ok (.iaload, 1)) rfl) <|
   ev_a (ok_ald_n X hP (by decide +kernel : decode cL_law 402 = .ok (.aload_n 0, 1)) rfl rfl) <|
   ev_a (ok_ild X hP (by decide +kernel : decode cL_law 403 = .ok (.iload 4, 2)) rfl) <|
   ev_a (ok_no) <|
   ev_a (ok_psh_iconst X hP (by decide +kernel : decode cL_law 405 = .ok (.iconst 2, 1)) rfl) <|
   ev_a (ok_iadd X hP (by decide +kernel : decode cL_law 406 = .ok (.iadd, 1)) rfl) <|
   ev_a (ok_ialoads X hP (by decide +kernel : decode cL_law 407 = .ok (.iaload, 1)) rfl) <|
   ev_a (ok_ald_n X hP (by decide +kernel : decode cL_law 408 = .ok (.aload_n 0, 1)) rfl rfl) <|
   ev_a (ok_ild X hP (by decide +kernel : decode cL_law 409 = .ok (.iload 4, 2)) rfl) <|
   ev_a (ok_no) <|
   ev_a (ok_psh_iconst X hP (by decide +kernel : decode cL_law 411 = .ok (.iconst 3, 1)) rfl) <|
   ev_a (ok_iadd X hP (by decide +kernel : decode cL_law 412 = .ok (.iadd, 1)) rfl) <|
   ev_a (ok_ialoads X hP (by decide +kernel : decode cL_law 413 = .ok (.iaload, 1)) rfl) <|
   ev_a (ok_ald_n X hP (by decide +kernel : decode cL_law 414 = .ok (.aload_n 3, 1)) rfl rfl) <|
   ev_a (ok_no) <| ev_a0) <|
  ev_b (
   ev_a (ok_no) <|
   ev_a (ok_no) <|
   ev_a (ok_ist X hP (by decide +kernel : decode cL_law 418 = .ok (.istore 5, 2)) (by decide) rfl) <|
   ev_a (ok_no) <|
   ev_a (ok_ald_n X hP (by decide +kernel : decode cL_law 420 = .ok (.aload_n 2, 1)) rfl rfl) <|
   ev_a (ok_ald_n X hP (by decide +kernel : decode cL_law 421 = .ok (.aload_n 0, 1)) rfl rfl) <|
   ev_a (ok_ild X hP (by decide +kernel : decode cL_law 422 = .ok (.iload 4, 2)) rfl) <|
   ev_a (ok_no) <|
   ev_a (ok_psh_iconst X hP (by decide +kernel : decode cL_law 424 = .ok (.iconst 1, 1)) rfl) <|
   ev_a (ok_iadd X hP (by decide +kernel : decode cL_law 425 = .ok (.iadd, 1)) rfl) <|
   ev_a (ok_ialoads X hP (by decide +kernel : decode cL_law 426 = .ok (.iaload, 1)) rfl) <|
   ev_a (ok_ald_n X hP (by decide +kernel : decode cL_law 427 = .ok (.aload_n 0, 1)) rfl rfl) <|
   ev_a (ok_ild X hP (by decide +kernel : decode cL_law 428 = .ok (.iload 4, 2)) rfl) <|
   ev_a (ok_no) <|
   ev_a (ok_psh_iconst X hP (by decide +kernel : decode cL_law 430 = .ok (.iconst 2, 1)) rfl) <|
   ev_a (ok_iadd X hP (by decide +kernel : decode cL_law 431 = .ok (.iadd, 1)) rfl) <| ev_a0) <|
  ev_b (
   ev_a (ok_ialoads X hP (by decide +kernel : decode cL_law 432 = .ok (.iaload, 1)) rfl) <|
   ev_a (ok_ald_n X hP (by decide +kernel : decode cL_law 433 = .ok (.aload_n 0, 1)) rfl rfl) <|
   ev_a (ok_ild X hP (by decide +kernel : decode cL_law 434 = .ok (.iload 4, 2)) rfl) <|
   ev_a (ok_no) <|
   ev_a (ok_psh_iconst X hP (by decide +kernel : decode cL_law 436 = .ok (.iconst 3, 1)) rfl) <|
   ev_a (ok_iadd X hP (by decide +kernel : decode cL_law 437 = .ok (.iadd, 1)) rfl) <|
   ev_a (ok_ialoads X hP (by decide +kernel : decode cL_law 438 = .ok (.iaload, 1)) rfl) <|
   ev_a (ok_no) <|
   ev_a (ok_no) <|
   ev_a (ok_no) <|
   ev_a (ok_ist X hP (by decide +kernel : decode cL_law 442 = .ok (.istore 6, 2)) (by decide) rfl) <|
   ev_a (ok_no) <|
   ev_a (ok_jmp X hP (by decide +kernel : decode cL_law 444 = .ok (.goto 453, 3)) (by decide)) <|
   ev_a (ok_no) <|
   ev_a (ok_no) <|
   ev_a (ok_ald_n X hP (by decide +kernel : decode cL_law 447 = .ok (.aload_n 1, 1)) rfl rfl) <| ev_a0) <|
  ev_b (
   ev_a (ok_ald_n X hP (by decide +kernel : decode cL_law 448 = .ok (.aload_n 3, 1)) rfl rfl) <|
   ev_a (ok_no) <|
   ev_a (ok_no) <|
   ev_a (ok_no) <|
   ev_a (ok_ist X hP (by decide +kernel : decode cL_law 452 = .ok (.istore 5, 2)) (by decide) rfl) <|
   ev_a (ok_no) <|
   ev_a (ok_ald_n X hP (by decide +kernel : decode cL_law 454 = .ok (.aload_n 2, 1)) rfl rfl) <|
   ev_a (ok_no) <|
   ev_a (ok_no) <|
   ev_a (ok_no) <|
   ev_a (ok_ist X hP (by decide +kernel : decode cL_law 458 = .ok (.istore 6, 2)) (by decide) rfl) <|
   ev_a (ok_no) <|
   ev_a (ok_jmp X hP (by decide +kernel : decode cL_law 460 = .ok (.goto 437, 3)) (by decide)) <|
   ev_a (ok_no) <|
   ev_a (ok_no) <|
   ev_a (ok_ald_n X hP (by decide +kernel : decode cL_law 463 = .ok (.aload_n 1, 1)) rfl rfl) <| ev_a0) <|
  ev_b (
   ev_a (ok_ald_n X hP (by decide +kernel : decode cL_law 464 = .ok (.aload_n 0, 1)) rfl rfl) <|
   ev_a (ok_ild X hP (by decide +kernel : decode cL_law 465 = .ok (.iload 4, 2)) rfl) <|
   ev_a (ok_no) <|
   ev_a (ok_psh_iconst X hP (by decide +kernel : decode cL_law 467 = .ok (.iconst 1, 1)) rfl) <|
   ev_a (ok_iadd X hP (by decide +kernel : decode cL_law 468 = .ok (.iadd, 1)) rfl) <|
   ev_a (ok_ialoads X hP (by decide +kernel : decode cL_law 469 = .ok (.iaload, 1)) rfl) <|
   ev_a (ok_ald_n X hP (by decide +kernel : decode cL_law 470 = .ok (.aload_n 3, 1)) rfl rfl) <|
   ev_a (ok_no) <|
   ev_a (ok_no) <|
   ev_a (ok_no) <|
   ev_a (ok_ist X hP (by decide +kernel : decode cL_law 474 = .ok (.istore 5, 2)) (by decide) rfl) <|
   ev_a (ok_no) <|
   ev_a (ok_ald_n X hP (by decide +kernel : decode cL_law 476 = .ok (.aload_n 2, 1)) rfl rfl) <|
   ev_a (ok_ald_n X hP (by decide +kernel : decode cL_law 477 = .ok (.aload_n 0, 1)) rfl rfl) <|
   ev_a (ok_ild X hP (by decide +kernel : decode cL_law 478 = .ok (.iload 4, 2)) rfl) <|
   ev_a (ok_no) <| ev_a0) <|
  ev_b (
   ev_a (ok_psh_iconst X hP (by decide +kernel : decode cL_law 480 = .ok (.iconst 1, 1)) rfl) <|
   ev_a (ok_iadd X hP (by decide +kernel : decode cL_law 481 = .ok (.iadd, 1)) rfl) <|
   ev_a (ok_ialoads X hP (by decide +kernel : decode cL_law 482 = .ok (.iaload, 1)) rfl) <|
   ev_a (ok_no) <|
   ev_a (ok_no) <|
   ev_a (ok_no) <|
   ev_a (ok_ist X hP (by decide +kernel : decode cL_law 486 = .ok (.istore 6, 2)) (by decide) rfl) <|
   ev_a (ok_no) <|
   ev_a (ok_jmp X hP (by decide +kernel : decode cL_law 488 = .ok (.goto 409, 3)) (by decide)) <|
   ev_a (ok_no) <|
   ev_a (ok_no) <|
   ev_a (ok_ald_n X hP (by decide +kernel : decode cL_law 491 = .ok (.aload_n 1, 1)) rfl rfl) <|
   ev_a (ok_ald_n X hP (by decide +kernel : decode cL_law 492 = .ok (.aload_n 0, 1)) rfl rfl) <|
   ev_a (ok_ild X hP (by decide +kernel : decode cL_law 493 = .ok (.iload 4, 2)) rfl) <|
   ev_a (ok_no) <|
   ev_a (ok_psh_iconst X hP (by decide +kernel : decode cL_law 495 = .ok (.iconst 1, 1)) rfl) <| ev_a0) <|
  ev_b (
   ev_a (ok_iadd X hP (by decide +kernel : decode cL_law 496 = .ok (.iadd, 1)) rfl) <|
   ev_a (ok_ialoads X hP (by decide +kernel : decode cL_law 497 = .ok (.iaload, 1)) rfl) <|
   ev_a (ok_ald_n X hP (by decide +kernel : decode cL_law 498 = .ok (.aload_n 3, 1)) rfl rfl) <|
   ev_a (ok_no) <|
   ev_a (ok_no) <|
   ev_a (ok_no) <|
   ev_a (ok_ist X hP (by decide +kernel : decode cL_law 502 = .ok (.istore 5, 2)) (by decide) rfl) <|
   ev_a (ok_no) <|
   ev_a (ok_ald_n X hP (by decide +kernel : decode cL_law 504 = .ok (.aload_n 2, 1)) rfl rfl) <|
   ev_a (ok_ald_n X hP (by decide +kernel : decode cL_law 505 = .ok (.aload_n 0, 1)) rfl rfl) <|
   ev_a (ok_ild X hP (by decide +kernel : decode cL_law 506 = .ok (.iload 4, 2)) rfl) <|
   ev_a (ok_no) <|
   ev_a (ok_psh_iconst X hP (by decide +kernel : decode cL_law 508 = .ok (.iconst 1, 1)) rfl) <|
   ev_a (ok_iadd X hP (by decide +kernel : decode cL_law 509 = .ok (.iadd, 1)) rfl) <|
   ev_a (ok_ialoads X hP (by decide +kernel : decode cL_law 510 = .ok (.iaload, 1)) rfl) <|
   ev_a (ok_no) <| ev_a0) <|
  ev_b (
   ev_a (ok_no) <|
   ev_a (ok_no) <|
   ev_a (ok_ist X hP (by decide +kernel : decode cL_law 514 = .ok (.istore 6, 2)) (by decide) rfl) <|
   ev_a (ok_no) <|
   ev_a (ok_jmp X hP (by decide +kernel : decode cL_law 516 = .ok (.goto 381, 3)) (by decide)) <|
   ev_a (ok_no) <|
   ev_a (ok_no) <|
   ev_a (ok_ald_n X hP (by decide +kernel : decode cL_law 519 = .ok (.aload_n 1, 1)) rfl rfl) <|
   ev_a (ok_no) <|
   ev_a (ok_no) <|
   ev_a (ok_no) <|
   ev_a (ok_drop X hP (by decide +kernel : decode cL_law 523 = .ok (.pop, 1)) rfl) <|
   ev_a (ok_ald_n X hP (by decide +kernel : decode cL_law 524 = .ok (.aload_n 2, 1)) rfl rfl) <|
   ev_a (ok_no) <|
   ev_a (ok_no) <|
   ev_a (ok_no) <| ev_a0) <|
  ev_b (
   ev_a (ok_drop X hP (by decide +kernel : decode cL_law 528 = .ok (.pop, 1)) rfl) <|
   ev_a (ok_jmp X hP (by decide +kernel : decode cL_law 529 = .ok (.goto 368, 3)) (by decide)) <|
   ev_a (ok_no) <|
   ev_a (ok_no) <|
   ev_a (ok_ald_n X hP (by decide +kernel : decode cL_law 532 = .ok (.aload_n 1, 1)) rfl rfl) <|
   ev_a (ok_ald_n X hP (by decide +kernel : decode cL_law 533 = .ok (.aload_n 0, 1)) rfl rfl) <|
   ev_a (ok_ild X hP (by decide +kernel : decode cL_law 534 = .ok (.iload 4, 2)) rfl) <|
   ev_a (ok_no) <|
   ev_a (ok_psh_iconst X hP (by decide +kernel : decode cL_law 536 = .ok (.iconst 1, 1)) rfl) <|
   ev_a (ok_iadd X hP (by decide +kernel : decode cL_law 537 = .ok (.iadd, 1)) rfl) <|
   ev_a (ok_ialoads X hP (by decide +kernel : decode cL_law 538 = .ok (.iaload, 1)) rfl) <|
   ev_a (ok_ald_n X hP (by decide +kernel : decode cL_law 539 = .ok (.aload_n 0, 1)) rfl rfl) <|
   ev_a (ok_ild X hP (by decide +kernel : decode cL_law 540 = .ok (.iload 4, 2)) rfl) <|
   ev_a (ok_no) <|
   ev_a (ok_psh_iconst X hP (by decide +kernel : decode cL_law 542 = .ok (.iconst 2, 1)) rfl) <|
   ev_a (ok_iadd X hP (by decide +kernel : decode cL_law 543 = .ok (.iadd, 1)) rfl) <| ev_a0) <|
  ev_b (
   ev_a (ok_ialoads X hP (by decide +kernel : decode cL_law 544 = .ok (.iaload, 1)) rfl) <|
   ev_a (ok_ald_n X hP (by decide +kernel : decode cL_law 545 = .ok (.aload_n 3, 1)) rfl rfl) <|
   ev_a (ok_no) <|
   ev_a (ok_no) <|
   ev_a (ok_no) <|
   ev_a (ok_ist X hP (by decide +kernel : decode cL_law 549 = .ok (.istore 5, 2)) (by decide) rfl) <|
   ev_a (ok_no) <|
   ev_a (ok_ald_n X hP (by decide +kernel : decode cL_law 551 = .ok (.aload_n 2, 1)) rfl rfl) <|
   ev_a (ok_ald_n X hP (by decide +kernel : decode cL_law 552 = .ok (.aload_n 0, 1)) rfl rfl) <|
   ev_a (ok_ild X hP (by decide +kernel : decode cL_law 553 = .ok (.iload 4, 2)) rfl) <|
   ev_a (ok_no) <|
   ev_a (ok_psh_iconst X hP (by decide +kernel : decode cL_law 555 = .ok (.iconst 1, 1)) rfl) <|
   ev_a (ok_iadd X hP (by decide +kernel : decode cL_law 556 = .ok (.iadd, 1)) rfl) <|
   ev_a (ok_ialoads X hP (by decide +kernel : decode cL_law 557 = .ok (.iaload, 1)) rfl) <|
   ev_a (ok_ald_n X hP (by decide +kernel : decode cL_law 558 = .ok (.aload_n 0, 1)) rfl rfl) <|
   ev_a (ok_ild X hP (by decide +kernel : decode cL_law 559 = .ok (.iload 4, 2)) rfl) <| ev_a0) <|
  ev_b (
   ev_a (ok_no) <|
   ev_a (ok_psh_iconst X hP (by decide +kernel : decode cL_law 561 = .ok (.iconst 2, 1)) rfl) <|
   ev_a (ok_iadd X hP (by decide +kernel : decode cL_law 562 = .ok (.iadd, 1)) rfl) <|
   ev_a (ok_ialoads X hP (by decide +kernel : decode cL_law 563 = .ok (.iaload, 1)) rfl) <|
   ev_a (ok_no) <|
   ev_a (ok_no) <|
   ev_a (ok_no) <|
   ev_a (ok_ist X hP (by decide +kernel : decode cL_law 567 = .ok (.istore 6, 2)) (by decide) rfl) <|
   ev_a (ok_no) <|
   ev_a (ok_jmp X hP (by decide +kernel : decode cL_law 569 = .ok (.goto 328, 3)) (by decide)) <|
   ev_a (ok_no) <|
   ev_a (ok_no) <|
   ev_a (ok_ald_n X hP (by decide +kernel : decode cL_law 572 = .ok (.aload_n 1, 1)) rfl rfl) <|
   ev_a (ok_ald_n X hP (by decide +kernel : decode cL_law 573 = .ok (.aload_n 0, 1)) rfl rfl) <|
   ev_a (ok_ild X hP (by decide +kernel : decode cL_law 574 = .ok (.iload 4, 2)) rfl) <|
   ev_a (ok_no) <| ev_a0) <|
  ev_b (
   ev_a (ok_psh_iconst X hP (by decide +kernel : decode cL_law 576 = .ok (.iconst 1, 1)) rfl) <|
   ev_a (ok_iadd X hP (by decide +kernel : decode cL_law 577 = .ok (.iadd, 1)) rfl) <|
   ev_a (ok_ialoads X hP (by decide +kernel : decode cL_law 578 = .ok (.iaload, 1)) rfl) <|
   ev_a (ok_ald_n X hP (by decide +kernel : decode cL_law 579 = .ok (.aload_n 0, 1)) rfl rfl) <|
   ev_a (ok_ild X hP (by decide +kernel : decode cL_law 580 = .ok (.iload 4, 2)) rfl) <|
   ev_a (ok_no) <|
   ev_a (ok_psh_iconst X hP (by decide +kernel : decode cL_law 582 = .ok (.iconst 2, 1)) rfl) <|
   ev_a (ok_iadd X hP (by decide +kernel : decode cL_law 583 = .ok (.iadd, 1)) rfl) <|
   ev_a (ok_ialoads X hP (by decide +kernel : decode cL_law 584 = .ok (.iaload, 1)) rfl) <|
   ev_a (ok_ald_n X hP (by decide +kernel : decode cL_law 585 = .ok (.aload_n 3, 1)) rfl rfl) <|
   ev_a (ok_no) <|
   ev_a (ok_no) <|
   ev_a (ok_no) <|
   ev_a (ok_ist X hP (by decide +kernel : decode cL_law 589 = .ok (.istore 5, 2)) (by decide) rfl) <|
   ev_a (ok_no) <|
   ev_a (ok_ald_n X hP (by decide +kernel : decode cL_law 591 = .ok (.aload_n 2, 1)) rfl rfl) <| ev_a0) <|
  ev_b (
   ev_a (ok_ald_n X hP (by decide +kernel : decode cL_law 592 = .ok (.aload_n 0, 1)) rfl rfl) <|
   ev_a (ok_ild X hP (by decide +kernel : decode cL_law 593 = .ok (.iload 4, 2)) rfl) <|
   ev_a (ok_no) <|
   ev_a (ok_psh_iconst X hP (by decide +kernel : decode cL_law 595 = .ok (.iconst 1, 1)) rfl) <|
   ev_a (ok_iadd X hP (by decide +kernel : decode cL_law 596 = .ok (.iadd, 1)) rfl) <|
   ev_a (ok_ialoads X hP (by decide +kernel : decode cL_law 597 = .ok (.iaload, 1)) rfl) <|
   ev_a (ok_ald_n X hP (by decide +kernel : decode cL_law 598 = .ok (.aload_n 0, 1)) rfl rfl) <|
   ev_a (ok_ild X hP (by decide +kernel : decode cL_law 599 = .ok (.iload 4, 2)) rfl) <|
   ev_a (ok_no) <|
   ev_a (ok_psh_iconst X hP (by decide +kernel : decode cL_law 601 = .ok (.iconst 2, 1)) rfl) <|
   ev_a (ok_iadd X hP (by decide +kernel : decode cL_law 602 = .ok (.iadd, 1)) rfl) <|
   ev_a (ok_ialoads X hP (by decide +kernel : decode cL_law 603 = .ok (.iaload, 1)) rfl) <|
   ev_a (ok_no) <|
   ev_a (ok_no) <|
   ev_a (ok_no) <|
   ev_a (ok_ist X hP (by decide +kernel : decode cL_law 607 = .ok (.istore 6, 2)) (by decide) rfl) <| ev_a0) <|
  ev_b (
   ev_a (ok_no) <|
   ev_a (ok_jmp X hP (by decide +kernel : decode cL_law 609 = .ok (.goto 288, 3)) (by decide)) <|
   ev_a (ok_no) <|
   ev_a (ok_no) <|
   ev_a (ok_ald_n X hP (by decide +kernel : decode cL_law 612 = .ok (.aload_n 1, 1)) rfl rfl) <|
   ev_a (ok_ald_n X hP (by decide +kernel : decode cL_law 613 = .ok (.aload_n 0, 1)) rfl rfl) <|
   ev_a (ok_ild X hP (by decide +kernel : decode cL_law 614 = .ok (.iload 4, 2)) rfl) <|
   ev_a (ok_no) <|
   ev_a (ok_psh_iconst X hP (by decide +kernel : decode cL_law 616 = .ok (.iconst 1, 1)) rfl) <|
   ev_a (ok_iadd X hP (by decide +kernel : decode cL_law 617 = .ok (.iadd, 1)) rfl) <|
   ev_a (ok_ialoads X hP (by decide +kernel : decode cL_law 618 = .ok (.iaload, 1)) rfl) <|
   ev_a (ok_ald_n X hP (by decide +kernel : decode cL_law 619 = .ok (.aload_n 3, 1)) rfl rfl) <|
   ev_a (ok_no) <|
   ev_a (ok_no) <|
   ev_a (ok_no) <|
   ev_a (ok_ist X hP (by decide +kernel : decode cL_law 623 = .ok (.istore 5, 2)) (by decide) rfl) <| ev_a0) <|
  ev_b (
   ev_a (ok_no) <|
   ev_a (ok_ald_n X hP (by decide +kernel : decode cL_law 625 = .ok (.aload_n 2, 1)) rfl rfl) <|
   ev_a (ok_ald_n X hP (by decide +kernel : decode cL_law 626 = .ok (.aload_n 0, 1)) rfl rfl) <|
   ev_a (ok_ild X hP (by decide +kernel : decode cL_law 627 = .ok (.iload 4, 2)) rfl) <|
   ev_a (ok_no) <|
   ev_a (ok_psh_iconst X hP (by decide +kernel : decode cL_law 629 = .ok (.iconst 1, 1)) rfl) <|
   ev_a (ok_iadd X hP (by decide +kernel : decode cL_law 630 = .ok (.iadd, 1)) rfl) <|
   ev_a (ok_ialoads X hP (by decide +kernel : decode cL_law 631 = .ok (.iaload, 1)) rfl) <|
   ev_a (ok_no) <|
   ev_a (ok_no) <|
   ev_a (ok_no) <|
   ev_a (ok_ist X hP (by decide +kernel : decode cL_law 635 = .ok (.istore 6, 2)) (by decide) rfl) <|
   ev_a (ok_no) <|
   ev_a (ok_jmp X hP (by decide +kernel : decode cL_law 637 = .ok (.goto 260, 3)) (by decide)) <|
   ev_a (ok_no) <|
   ev_a (ok_no) <| ev_a0) <|
  ev_b (
   ev_a (ok_ald_n X hP (by decide +kernel : decode cL_law 640 = .ok (.aload_n 1, 1)) rfl rfl) <|
   ev_a (ok_no) <|
   ev_a (ok_no) <|
   ev_a (ok_no) <|
   ev_a (ok_drop X hP (by decide +kernel : decode cL_law 644 = .ok (.pop, 1)) rfl) <|
   ev_a (ok_ald_n X hP (by decide +kernel : decode cL_law 645 = .ok (.aload_n 2, 1)) rfl rfl) <|
   ev_a (ok_no) <|
   ev_a (ok_no) <|
   ev_a (ok_no) <|
   ev_a (ok_drop X hP (by decide +kernel : decode cL_law 649 = .ok (.pop, 1)) rfl) <|
   ev_a (ok_jmp X hP (by decide +kernel : decode cL_law 650 = .ok (.goto 247, 3)) (by decide)) <|
   ev_a (ok_no) <|
   ev_a (ok_no) <|
   ev_a (ok_ald_n X hP (by decide +kernel : decode cL_law 653 = .ok (.aload_n 1, 1)) rfl rfl) <|
   ev_a (ok_ald_n X hP (by decide +kernel : decode cL_law 654 = .ok (.aload_n 0, 1)) rfl rfl) <|
   ev_a (ok_ild X hP (by decide +kernel : decode cL_law 655 = .ok (.iload 4, 2)) rfl) <| ev_a0) <|
  ev_b (
   ev_a (ok_no) <|
   ev_a (ok_psh_iconst X hP (by decide +kernel : decode cL_law 657 = .ok (.iconst 1, 1)) rfl) <|
   ev_a (ok_iadd X hP (by decide +kernel : decode cL_law 658 = .ok (.iadd, 1)) rfl) <|
   ev_a (ok_ialoads X hP (by decide +kernel : decode cL_law 659 = .ok (.iaload, 1)) rfl) <|
   ev_a (ok_ald_n X hP (by decide +kernel : decode cL_law 660 = .ok (.aload_n 3, 1)) rfl rfl) <|
   ev_a (ok_no) <|
   ev_a (ok_no) <|
   ev_a (ok_no) <|
   ev_a (ok_ist X hP (by decide +kernel : decode cL_law 664 = .ok (.istore 5, 2)) (by decide) rfl) <|
   ev_a (ok_no) <|
   ev_a (ok_ald_n X hP (by decide +kernel : decode cL_law 666 = .ok (.aload_n 2, 1)) rfl rfl) <|
   ev_a (ok_ald_n X hP (by decide +kernel : decode cL_law 667 = .ok (.aload_n 0, 1)) rfl rfl) <|
   ev_a (ok_ild X hP (by decide +kernel : decode cL_law 668 = .ok (.iload 4, 2)) rfl) <|
   ev_a (ok_no) <|
   ev_a (ok_psh_iconst X hP (by decide +kernel : decode cL_law 670 = .ok (.iconst 1, 1)) rfl) <|
   ev_a (ok_iadd X hP (by decide +kernel : decode cL_law 671 = .ok (.iadd, 1)) rfl) <| ev_a0) <|
  ev_b (
   ev_a (ok_ialoads X hP (by decide +kernel : decode cL_law 672 = .ok (.iaload, 1)) rfl) <|
   ev_a (ok_no) <|
   ev_a (ok_no) <|
   ev_a (ok_no) <|
   ev_a (ok_ist X hP (by decide +kernel : decode cL_law 676 = .ok (.istore 6, 2)) (by decide) rfl) <|
   ev_a (ok_no) <|
   ev_a (ok_jmp X hP (by decide +kernel : decode cL_law 678 = .ok (.goto 219, 3)) (by decide)) <|
   ev_a (ok_no) <|
   ev_a (ok_no) <|
   ev_a (ok_ald_n X hP (by decide +kernel : decode cL_law 681 = .ok (.aload_n 1, 1)) rfl rfl) <|
   ev_a (ok_ald_n X hP (by decide +kernel : decode cL_law 682 = .ok (.aload_n 0, 1)) rfl rfl) <|
   ev_a (ok_ild X hP (by decide +kernel : decode cL_law 683 = .ok (.iload 4, 2)) rfl) <|
   ev_a (ok_no) <|
   ev_a (ok_psh_iconst X hP (by decide +kernel : decode cL_law 685 = .ok (.iconst 1, 1)) rfl) <|
   ev_a (ok_iadd X hP (by decide +kernel : decode cL_law 686 = .ok (.iadd, 1)) rfl) <|
   ev_a (ok_ialoads X hP (by decide +kernel : decode cL_law 687 = .ok (.iaload, 1)) rfl) <| ev_a0) <|
  ev_b (
   ev_a (ok_ald_n X hP (by decide +kernel : decode cL_law 688 = .ok (.aload_n 3, 1)) rfl rfl) <|
   ev_a (ok_no) <|
   ev_a (ok_no) <|
   ev_a (ok_no) <|
   ev_a (ok_ist X hP (by decide +kernel : decode cL_law 692 = .ok (.istore 5, 2)) (by decide) rfl) <|
   ev_a (ok_no) <|
   ev_a (ok_ald_n X hP (by decide +kernel : decode cL_law 694 = .ok (.aload_n 2, 1)) rfl rfl) <|
   ev_a (ok_ald_n X hP (by decide +kernel : decode cL_law 695 = .ok (.aload_n 0, 1)) rfl rfl) <|
   ev_a (ok_ild X hP (by decide +kernel : decode cL_law 696 = .ok (.iload 4, 2)) rfl) <|
   ev_a (ok_no) <|
   ev_a (ok_psh_iconst X hP (by decide +kernel : decode cL_law 698 = .ok (.iconst 1, 1)) rfl) <|
   ev_a (ok_iadd X hP (by decide +kernel : decode cL_law 699 = .ok (.iadd, 1)) rfl) <|
   ev_a (ok_ialoads X hP (by decide +kernel : decode cL_law 700 = .ok (.iaload, 1)) rfl) <|
   ev_a (ok_no) <|
   ev_a (ok_no) <|
   ev_a (ok_no) <| ev_a0) <|
  ev_b (
   ev_a (ok_ist X hP (by decide +kernel : decode cL_law 704 = .ok (.istore 6, 2)) (by decide) rfl) <|
   ev_a (ok_no) <|
   ev_a (ok_jmp X hP (by decide +kernel : decode cL_law 706 = .ok (.goto 191, 3)) (by decide)) <|
   ev_a (ok_no) <|
   ev_a (ok_no) <|
   ev_a (ok_ald_n X hP (by decide +kernel : decode cL_law 709 = .ok (.aload_n 1, 1)) rfl rfl) <|
   ev_a (ok_no) <|
   ev_a (ok_no) <|
   ev_a (ok_no) <|
   ev_a (ok_no) <|
   ev_a (ok_ald_n X hP (by decide +kernel : decode cL_law 714 = .ok (.aload_n 2, 1)) rfl rfl) <|
   ev_a (ok_no) <|
   ev_a (ok_no) <|
   ev_a (ok_no) <|
   ev_a (ok_no) <|
   ev_a (ok_jmp X hP (by decide +kernel : decode cL_law 719 = .ok (.goto 178, 3)) (by decide)) <| ev_a0) <|
  ev_b (
   ev_a (ok_no) <|
   ev_a (ok_no) <|
   ev_a (ok_ald_n X hP (by decide +kernel : decode cL_law 722 = .ok (.aload_n 1, 1)) rfl rfl) <|
   ev_a (ok_ald_n X hP (by decide +kernel : decode cL_law 723 = .ok (.aload_n 0, 1)) rfl rfl) <|
   ev_a (ok_ild X hP (by decide +kernel : decode cL_law 724 = .ok (.iload 4, 2)) rfl) <|
   ev_a (ok_no) <|
   ev_a (ok_psh_iconst X hP (by decide +kernel : decode cL_law 726 = .ok (.iconst 1, 1)) rfl) <|
   ev_a (ok_iadd X hP (by decide +kernel : decode cL_law 727 = .ok (.iadd, 1)) rfl) <|
   ev_a (ok_ialoads X hP (by decide +kernel : decode cL_law 728 = .ok (.iaload, 1)) rfl) <|
   ev_a (ok_ald_n X hP (by decide +kernel : decode cL_law 729 = .ok (.aload_n 0, 1)) rfl rfl) <|
   ev_a (ok_ild X hP (by decide +kernel : decode cL_law 730 = .ok (.iload 4, 2)) rfl) <|
   ev_a (ok_no) <|
   ev_a (ok_psh_iconst X hP (by decide +kernel : decode cL_law 732 = .ok (.iconst 2, 1)) rfl) <|
   ev_a (ok_iadd X hP (by decide +kernel : decode cL_law 733 = .ok (.iadd, 1)) rfl) <|
   ev_a (ok_ialoads X hP (by decide +kernel : decode cL_law 734 = .ok (.iaload, 1)) rfl) <|
   ev_a (ok_ald_n X hP (by decide +kernel : decode cL_law 735 = .ok (.aload_n 0, 1)) rfl rfl) <| ev_a0) <|
  ev_b (
   ev_a (ok_ild X hP (by decide +kernel : decode cL_law 736 = .ok (.iload 4, 2)) rfl) <|
   ev_a (ok_no) <|
   ev_a (ok_psh_iconst X hP (by decide +kernel : decode cL_law 738 = .ok (.iconst 3, 1)) rfl) <|
   ev_a (ok_iadd X hP (by decide +kernel : decode cL_law 739 = .ok (.iadd, 1)) rfl) <|
   ev_a (ok_ialoads X hP (by decide +kernel : decode cL_law 740 = .ok (.iaload, 1)) rfl) <|
   ev_a (ok_ald_n X hP (by decide +kernel : decode cL_law 741 = .ok (.aload_n 3, 1)) rfl rfl) <|
   ev_a (ok_no) <|
   ev_a (ok_no) <|
   ev_a (ok_no) <|
   ev_a (ok_ist X hP (by decide +kernel : decode cL_law 745 = .ok (.istore 5, 2)) (by decide) rfl) <|
   ev_a (ok_no) <|
   ev_a (ok_ald_n X hP (by decide +kernel : decode cL_law 747 = .ok (.aload_n 2, 1)) rfl rfl) <|
   ev_a (ok_ald_n X hP (by decide +kernel : decode cL_law 748 = .ok (.aload_n 0, 1)) rfl rfl) <|
   ev_a (ok_ild X hP (by decide +kernel : decode cL_law 749 = .ok (.iload 4, 2)) rfl) <|
   ev_a (ok_no) <|
   ev_a (ok_psh_iconst X hP (by decide +kernel : decode cL_law 751 = .ok (.iconst 1, 1)) rfl) <| ev_a0) <|
  ev_b (
   ev_a (ok_iadd X hP (by decide +kernel : decode cL_law 752 = .ok (.iadd, 1)) rfl) <|
   ev_a (ok_ialoads X hP (by decide +kernel : decode cL_law 753 = .ok (.iaload, 1)) rfl) <|
   ev_a (ok_ald_n X hP (by decide +kernel : decode cL_law 754 = .ok (.aload_n 0, 1)) rfl rfl) <|
   ev_a (ok_ild X hP (by decide +kernel : decode cL_law 755 = .ok (.iload 4, 2)) rfl) <|
   ev_a (ok_no) <|
   ev_a (ok_psh_iconst X hP (by decide +kernel : decode cL_law 757 = .ok (.iconst 2, 1)) rfl) <|
   ev_a (ok_iadd X hP (by decide +kernel : decode cL_law 758 = .ok (.iadd, 1)) rfl) <|
   ev_a (ok_ialoads X hP (by decide +kernel : decode cL_law 759 = .ok (.iaload, 1)) rfl) <|
   ev_a (ok_ald_n X hP (by decide +kernel : decode cL_law 760 = .ok (.aload_n 0, 1)) rfl rfl) <|
   ev_a (ok_ild X hP (by decide +kernel : decode cL_law 761 = .ok (.iload 4, 2)) rfl) <|
   ev_a (ok_no) <|
   ev_a (ok_psh_iconst X hP (by decide +kernel : decode cL_law 763 = .ok (.iconst 3, 1)) rfl) <|
   ev_a (ok_iadd X hP (by decide +kernel : decode cL_law 764 = .ok (.iadd, 1)) rfl) <|
   ev_a (ok_ialoads X hP (by decide +kernel : decode cL_law 765 = .ok (.iaload, 1)) rfl) <|
   ev_a (ok_no) <|
   ev_a (ok_no) <| ev_a0) <|
  ev_b (
   ev_a (ok_no) <|
   ev_a (ok_ist X hP (by decide +kernel : decode cL_law 769 = .ok (.istore 6, 2)) (by decide) rfl) <|
   ev_a (ok_no) <|
   ev_a (ok_jmp X hP (by decide +kernel : decode cL_law 771 = .ok (.goto 126, 3)) (by decide)) <|
   ev_a (ok_no) <|
   ev_a (ok_no) <|
   ev_a (ok_ald_n X hP (by decide +kernel : decode cL_law 774 = .ok (.aload_n 1, 1)) rfl rfl) <|
   ev_a (ok_ald_n X hP (by decide +kernel : decode cL_law 775 = .ok (.aload_n 0, 1)) rfl rfl) <|
   ev_a (ok_ild X hP (by decide +kernel : decode cL_law 776 = .ok (.iload 4, 2)) rfl) <|
   ev_a (ok_no) <|
   ev_a (ok_psh_iconst X hP (by decide +kernel : decode cL_law 778 = .ok (.iconst 1, 1)) rfl) <|
   ev_a (ok_iadd X hP (by decide +kernel : decode cL_law 779 = .ok (.iadd, 1)) rfl) <|
   ev_a (ok_ialoads X hP (by decide +kernel : decode cL_law 780 = .ok (.iaload, 1)) rfl) <|
   ev_a (ok_ald_n X hP (by decide +kernel : decode cL_law 781 = .ok (.aload_n 3, 1)) rfl rfl) <|
   ev_a (ok_no) <|
   ev_a (ok_no) <| ev_a0) <|
  ev_b (
   ev_a (ok_no) <|
   ev_a (ok_ist X hP (by decide +kernel : decode cL_law 785 = .ok (.istore 5, 2)) (by decide) rfl) <|
   ev_a (ok_no) <|
   ev_a (ok_ald_n X hP (by decide +kernel : decode cL_law 787 = .ok (.aload_n 2, 1)) rfl rfl) <|
   ev_a (ok_ald_n X hP (by decide +kernel : decode cL_law 788 = .ok (.aload_n 0, 1)) rfl rfl) <|
   ev_a (ok_ild X hP (by decide +kernel : decode cL_law 789 = .ok (.iload 4, 2)) rfl) <|
   ev_a (ok_no) <|
   ev_a (ok_psh_iconst X hP (by decide +kernel : decode cL_law 791 = .ok (.iconst 1, 1)) rfl) <|
   ev_a (ok_iadd X hP (by decide +kernel : decode cL_law 792 = .ok (.iadd, 1)) rfl) <|
   ev_a (ok_ialoads X hP (by decide +kernel : decode cL_law 793 = .ok (.iaload, 1)) rfl) <|
   ev_a (ok_no) <|
   ev_a (ok_no) <|
   ev_a (ok_no) <|
   ev_a (ok_ast X hP (by decide +kernel : decode cL_law 797 = .ok (.astore 6, 2)) (by decide) rfl) <|
   ev_a (ok_no) <|
   ev_a (ok_jmp X hP (by decide +kernel : decode cL_law 799 = .ok (.goto 98, 3)) (by decide)) <| ev_a0) <|
  ev_b (
   ev_a (ok_no) <|
   ev_a (ok_no) <|
   ev_a (ok_ald_n X hP (by decide +kernel : decode cL_law 802 = .ok (.aload_n 1, 1)) rfl rfl) <|
   ev_a (ok_ald_n X hP (by decide +kernel : decode cL_law 803 = .ok (.aload_n 0, 1)) rfl rfl) <|
   ev_a (ok_ild X hP (by decide +kernel : decode cL_law 804 = .ok (.iload 4, 2)) rfl) <|
   ev_a (ok_no) <|
   ev_a (ok_psh_iconst X hP (by decide +kernel : decode cL_law 806 = .ok (.iconst 1, 1)) rfl) <|
   ev_a (ok_iadd X hP (by decide +kernel : decode cL_law 807 = .ok (.iadd, 1)) rfl) <|
   ev_a (ok_ialoads X hP (by decide +kernel : decode cL_law 808 = .ok (.iaload, 1)) rfl) <|
   ev_a (ok_ald_n X hP (by decide +kernel : decode cL_law 809 = .ok (.aload_n 3, 1)) rfl rfl) <|
   ev_a (ok_no) <|
   ev_a (ok_no) <|
   ev_a (ok_no) <|
   ev_a (ok_ist X hP (by decide +kernel : decode cL_law 813 = .ok (.istore 5, 2)) (by decide) rfl) <|
   ev_a (ok_no) <|
   ev_a (ok_ald_n X hP (by decide +kernel : decode cL_law 815 = .ok (.aload_n 2, 1)) rfl rfl) <| ev_a0) <|
  ev_b (
   ev_a (ok_ald_n X hP (by decide +kernel : decode cL_law 816 = .ok (.aload_n 0, 1)) rfl rfl) <|
   ev_a (ok_ild X hP (by decide +kernel : decode cL_law 817 = .ok (.iload 4, 2)) rfl) <|
   ev_a (ok_no) <|
   ev_a (ok_psh_iconst X hP (by decide +kernel : decode cL_law 819 = .ok (.iconst 1, 1)) rfl) <|
   ev_a (ok_iadd X hP (by decide +kernel : decode cL_law 820 = .ok (.iadd, 1)) rfl) <|
   ev_a (ok_ialoads X hP (by decide +kernel : decode cL_law 821 = .ok (.iaload, 1)) rfl) <|
   ev_a (ok_no) <|
   ev_a (ok_no) <|
   ev_a (ok_no) <|
   ev_a (ok_ist X hP (by decide +kernel : decode cL_law 825 = .ok (.istore 6, 2)) (by decide) rfl) <|
   ev_a (ok_no) <|
   ev_a (ok_jmp X hP (by decide +kernel : decode cL_law 827 = .ok (.goto 70, 3)) (by decide)) <|
   ev_a (ok_no) <|
   ev_a (ok_no) <|
   ev_a (ok_ald_n X hP (by decide +kernel : decode cL_law 830 = .ok (.aload_n 1, 1)) rfl rfl) <|
   ev_a (ok_invV X hP hR hd2 hcf (ci := 15) ev_y25 rfl (by decide +kernel : decode cL_law 831 = .ok (.invokevirtual 173, 3)) ev_w655 ev_w652 ev_w653 ev_w654 ev_w71 ⟨rfl, ev_dn25⟩ (by decide) rfl) <| ev_a0) <|
  ev_b (
   ev_a (ok_no) <|
   ev_a (ok_no) <|
   ev_a (ok_drop X hP (by decide +kernel : decode cL_law 834 = .ok (.pop, 1)) rfl) <|
   ev_a (ok_ald_n X hP (by decide +kernel : decode cL_law 835 = .ok (.aload_n 2, 1)) rfl rfl) <|
   ev_a (ok_invV X hP hR hd2 hcf (ci := 18) ev_y42 rfl (by decide +kernel : decode cL_law 836 = .ok (.invokevirtual 176, 3)) ev_w1867 ev_w1864 ev_w1865 ev_w1866 ev_w82 ⟨rfl, ev_dn42⟩ (by decide) rfl) <|
   ev_a (ok_no) <|
   ev_a (ok_no) <|
   ev_a (ok_drop X hP (by decide +kernel : decode cL_law 839 = .ok (.pop, 1)) rfl) <|
   ev_a (ok_jmp X hP (by decide +kernel : decode cL_law 840 = .ok (.goto 57, 3)) (by decide)) <|
   ev_a (ok_no) <|
   ev_a (ok_no) <|
   ev_a (ok_ald_n X hP (by decide +kernel : decode cL_law 843 = .ok (.aload_n 1, 1)) rfl rfl) <|
   ev_a (ok_ald_n X hP (by decide +kernel : decode cL_law 844 = .ok (.aload_n 0, 1)) rfl rfl) <|
   ev_a (ok_ild X hP (by decide +kernel : decode cL_law 845 = .ok (.iload 4, 2)) rfl) <|
   ev_a (ok_no) <|
   ev_a (ok_psh_iconst X hP (by decide +kernel : decode cL_law 847 = .ok (.iconst 1, 1)) rfl) <| ev_a0) <|
  ev_b (
   ev_a (ok_iadd X hP (by decide +kernel : decode cL_law 848 = .ok (.iadd, 1)) rfl) <|
   ev_a (ok_ialoads X hP (by decide +kernel : decode cL_law 849 = .ok (.iaload, 1)) rfl) <|
   ev_a (ok_ald_n X hP (by decide +kernel : decode cL_law 850 = .ok (.aload_n 3, 1)) rfl rfl) <|
   ev_a (ok_no) <|
   ev_a (ok_no) <|
   ev_a (ok_no) <|
   ev_a (ok_ist X hP (by decide +kernel : decode cL_law 854 = .ok (.istore 5, 2)) (by decide) rfl) <|
   ev_a (ok_no) <|
   ev_a (ok_ald_n X hP (by decide +kernel : decode cL_law 856 = .ok (.aload_n 2, 1)) rfl rfl) <|
   ev_a (ok_ald_n X hP (by decide +kernel : decode cL_law 857 = .ok (.aload_n 0, 1)) rfl rfl) <|
   ev_a (ok_ild X hP (by decide +kernel : decode cL_law 858 = .ok (.iload 4, 2)) rfl) <|
   ev_a (ok_no) <|
   ev_a (ok_psh_iconst X hP (by decide +kernel : decode cL_law 860 = .ok (.iconst 1, 1)) rfl) <|
   ev_a (ok_iadd X hP (by decide +kernel : decode cL_law 861 = .ok (.iadd, 1)) rfl) <|
   ev_a (ok_ialoads X hP (by decide +kernel : decode cL_law 862 = .ok (.iaload, 1)) rfl) <|
   ev_a (ok_no) <| ev_a0) <|
  ev_b (
   ev_a (ok_no) <|
   ev_a (ok_no) <|
   ev_a (ok_ist X hP (by decide +kernel : decode cL_law 866 = .ok (.istore 6, 2)) (by decide) rfl) <|
   ev_a (ok_no) <|
   ev_a (ok_jmp X hP (by decide +kernel : decode cL_law 868 = .ok (.goto 29, 3)) (by decide)) <|
   ev_a (ok_no) <|
   ev_a (ok_no) <|
   ev_a (ok_ald_n X hP (by decide +kernel : decode cL_law 871 = .ok (.aload_n 1, 1)) rfl rfl) <|
   ev_a (ok_no) <|
   ev_a (ok_no) <|
   ev_a (ok_no) <|
   ev_a (ok_drop X hP (by decide +kernel : decode cL_law 875 = .ok (.pop, 1)) rfl) <|
   ev_a (ok_ald_n X hP (by decide +kernel : decode cL_law 876 = .ok (.aload_n 2, 1)) rfl rfl) <|
   ev_a (ok_no) <|
   ev_a (ok_no) <|
   ev_a (ok_no) <| ev_a0) <|
  ev_b (
   ev_a (ok_drop X hP (by decide +kernel : decode cL_law 880 = .ok (.pop, 1)) rfl) <|
   ev_a (ok_jmp X hP (by decide +kernel : decode cL_law 881 = .ok (.goto 16, 3)) (by decide)) <|
   ev_a (ok_no) <|
   ev_a (ok_no) <|
   ev_a (ok_ald_n X hP (by decide +kernel : decode cL_law 884 = .ok (.aload_n 1, 1)) rfl rfl) <|
   ev_a (ok_no) <|
   ev_a (ok_no) <|
   ev_a (ok_no) <|
   ev_a (ok_no) <|
   ev_a (ok_ald_n X hP (by decide +kernel : decode cL_law 889 = .ok (.aload_n 2, 1)) rfl rfl) <|
   ev_a (ok_no) <|
   ev_a (ok_no) <|
   ev_a (ok_no) <|
   ev_a (ok_no) <|
   ev_a (ok_jmp X hP (by decide +kernel : decode cL_law 894 = .ok (.goto 3, 3)) (by decide)) <|
   ev_a (ok_no) <| ev_a0) <|
  ev_b (
   ev_a (ok_no) <|
   ev_a (ok_inc X hP (by decide +kernel : decode cL_law 897 = .ok (.iinc 4 4, 3)) (by decide) rfl) <|
   ev_a (ok_no) <|
   ev_a (ok_no) <|
   ev_a (ok_jmp X hP (by decide +kernel : decode cL_law 900 = .ok (.goto (-873), 3)) (by decide)) <|
   ev_a (ok_no) <|
   ev_a (ok_no) <|
   ev_a (ok_psh_iconst X hP (by decide +kernel : decode cL_law 903 = .ok (.iconst 1, 1)) rfl) <|
   ev_a (ok_zreturn X hP hQ hfin rfl (by decide +kernel : decode cL_law 904 = .ok (.ireturn, 1))) <| ev_a0) <|
  ev_b0
set_option maxRecDepth 100000 in
theorem ev_s19 {l : Launch} {d : Nat} {cf : Nat → List Value → ev_W → Option ev_R} {p : Program} {e : Env} {R : Room} {s : State} {m : MethodId} {args : Array Value} {below : List Frame} {meth : Method} {c : Code} {Q : State → Prop} {D : va_G} {G : Nat → ClassId} {ad : Nat → Nat} {A : Nat → Prop} {z wE nE : Nat} {P : Nat → List Value → List Value → ev_W → Nat → Prop} {α : Type} {r : α} {fin : Option Value → ev_W → Nat → Option α} (X : ev_X cL_tell 5 yL_tell.cls (some FieldType.int) p s m args meth c D G ad A z) (hP : ev_PP p l e R s m args below meth c Q 5 D G ad A z wE nE P) (hR : wE - z ≤ R.cells ∧ nE ≤ R.slots) (hd2 : d + 3 ≤ R.frames ∧ 64 * (d + 3) ≤ R.locals) (hR1 : 1 ≤ R.frames) (hR2 : 21 ≤ R.locals) (hcf : ev_cf l ev_ys d cf) {Qc : Array Value → State → Outcome → State → Prop} (hQ : Q = MQ below Qc args s (wE - z) nE A) (hfin : ∀ v w n, fin v w n = some r → w.length = wE ∧ n = nE ∧ ∀ H locs, ev_H D G ad A w H → va_S A s.heap H locs → ∀ t : State, t.heap = H → s.WarmedH t.vm → Qc args s (.returned (v.map (ev_v ad))) t) : ev_all2 (ev_ok P r) 0 (ev_o19 cf fin) :=
  ev_b (
   ev_a (ok_ald_n X hP (by decide +kernel : decode cL_tell 0 = .ok (.aload_n 3, 1)) rfl rfl) <|
   ev_a (ok_ald_n X hP (by decide +kernel : decode cL_tell 1 = .ok (.aload_n 0, 1)) rfl rfl) <|
   ev_a (ok_ild_n X hP (by decide +kernel : decode cL_tell 2 = .ok (.iload_n 1, 1)) rfl rfl) <|
   ev_a (ok_ild_n X hP (by decide +kernel : decode cL_tell 3 = .ok (.iload_n 2, 1)) rfl rfl) <|
   ev_a (ok_invV X hP hR hd2 hcf (ci := 15) ev_y34 rfl (by decide +kernel : decode cL_tell 4 = .ok (.invokevirtual 7, 3)) ev_w786 ev_w783 ev_w784 ev_w785 ev_w71 ⟨rfl, ev_dn34⟩ (by decide) rfl) <|
   ev_a (ok_no) <|
   ev_a (ok_no) <|
   ev_a (ok_i2l X hP (by decide +kernel : decode cL_tell 7 = .ok (.i2l, 1)) rfl) <|
   ev_a (ok_putN X hP (ci := 16) (kf := 0) (T := TX11) tyX11 (by decide +kernel : decode cL_tell 8 = .ok (.putfield 13, 3)) rfl ev_in16 tyX11_ok nmX11 (by decide) ev_w771 (Or.inl rfl) rfl rfl rfl) <|
   ev_a (ok_no) <|
   ev_a (ok_no) <|
   ev_a (ok_jmp X hP (by decide +kernel : decode cL_tell 11 = .ok (.goto 11, 3)) (by decide)) <|
   ev_a (ok_no) <|
   ev_a (ok_no) <|
   ev_a (ok_ast X hP (by decide +kernel : decode cL_tell 14 = .ok (.astore 4, 2)) (by decide) rfl) <|
   ev_a (ok_no) <| ev_a0) <|
  ev_b (
   ev_a (ok_psh_iconst X hP (by decide +kernel : decode cL_tell 16 = .ok (.iconst 1, 1)) rfl) <|
   ev_a (ok_ireturn X hP hQ hfin rfl (by decide +kernel : decode cL_tell 17 = .ok (.ireturn, 1))) <|
   ev_a (ok_ast X hP (by decide +kernel : decode cL_tell 18 = .ok (.astore 4, 2)) (by decide) rfl) <|
   ev_a (ok_no) <|
   ev_a (ok_psh_iconst X hP (by decide +kernel : decode cL_tell 20 = .ok (.iconst 2, 1)) rfl) <|
   ev_a (ok_ireturn X hP hQ hfin rfl (by decide +kernel : decode cL_tell 21 = .ok (.ireturn, 1))) <|
   ev_a (ok_psh_iconst X hP (by decide +kernel : decode cL_tell 22 = .ok (.iconst 0, 1)) rfl) <|
   ev_a (ok_ireturn X hP hQ hfin rfl (by decide +kernel : decode cL_tell 23 = .ok (.ireturn, 1))) <| ev_a0) <|
  ev_b0
set_option maxRecDepth 100000 in
theorem ev_s20 {l : Launch} {d : Nat} {cf : Nat → List Value → ev_W → Option ev_R} {p : Program} {e : Env} {R : Room} {s : State} {m : MethodId} {args : Array Value} {below : List Frame} {meth : Method} {c : Code} {Q : State → Prop} {D : va_G} {G : Nat → ClassId} {ad : Nat → Nat} {A : Nat → Prop} {z wE nE : Nat} {P : Nat → List Value → List Value → ev_W → Nat → Prop} {α : Type} {r : α} {fin : Option Value → ev_W → Nat → Option α} (X : ev_X cL_unsay 4 yL_unsay.cls (some FieldType.int) p s m args meth c D G ad A z) (hP : ev_PP p l e R s m args below meth c Q 4 D G ad A z wE nE P) (hR : wE - z ≤ R.cells ∧ nE ≤ R.slots) (hd2 : d + 3 ≤ R.frames ∧ 64 * (d + 3) ≤ R.locals) (hR1 : 1 ≤ R.frames) (hR2 : 21 ≤ R.locals) (hcf : ev_cf l ev_ys d cf) {Qc : Array Value → State → Outcome → State → Prop} (hQ : Q = MQ below Qc args s (wE - z) nE A) (hfin : ∀ v w n, fin v w n = some r → w.length = wE ∧ n = nE ∧ ∀ H locs, ev_H D G ad A w H → va_S A s.heap H locs → ∀ t : State, t.heap = H → s.WarmedH t.vm → Qc args s (.returned (v.map (ev_v ad))) t) : ev_all2 (ev_ok P r) 0 (ev_o20 cf fin) :=
  ev_b (
   ev_a (ok_ald_n X hP (by decide +kernel : decode cL_unsay 0 = .ok (.aload_n 2, 1)) rfl rfl) <|
   ev_a (ok_ald_n X hP (by decide +kernel : decode cL_unsay 1 = .ok (.aload_n 0, 1)) rfl rfl) <|
   ev_a (ok_ild_n X hP (by decide +kernel : decode cL_unsay 2 = .ok (.iload_n 1, 1)) rfl rfl) <|
   ev_a (ok_invV X hP hR hd2 hcf (ci := 15) ev_y37 rfl (by decide +kernel : decode cL_unsay 3 = .ok (.invokevirtual 23, 3)) ev_w890 ev_w887 ev_w888 ev_w889 ev_w71 ⟨rfl, ev_dn37⟩ (by decide) rfl) <|
   ev_a (ok_no) <|
   ev_a (ok_no) <|
   ev_a (ok_i2l X hP (by decide +kernel : decode cL_unsay 6 = .ok (.i2l, 1)) rfl) <|
   ev_a (ok_putN X hP (ci := 16) (kf := 0) (T := TX11) tyX11 (by decide +kernel : decode cL_unsay 7 = .ok (.putfield 13, 3)) rfl ev_in16 tyX11_ok nmX11 (by decide) ev_w771 (Or.inl rfl) rfl rfl rfl) <|
   ev_a (ok_no) <|
   ev_a (ok_no) <|
   ev_a (ok_jmp X hP (by decide +kernel : decode cL_unsay 10 = .ok (.goto 9, 3)) (by decide)) <|
   ev_a (ok_no) <|
   ev_a (ok_no) <|
   ev_a (ok_ast_n X hP (by decide +kernel : decode cL_unsay 13 = .ok (.astore_n 3, 1)) rfl (by decide) rfl) <|
   ev_a (ok_psh_iconst X hP (by decide +kernel : decode cL_unsay 14 = .ok (.iconst 1, 1)) rfl) <|
   ev_a (ok_ireturn X hP hQ hfin rfl (by decide +kernel : decode cL_unsay 15 = .ok (.ireturn, 1))) <| ev_a0) <|
  ev_b (
   ev_a (ok_ast_n X hP (by decide +kernel : decode cL_unsay 16 = .ok (.astore_n 3, 1)) rfl (by decide) rfl) <|
   ev_a (ok_psh_iconst X hP (by decide +kernel : decode cL_unsay 17 = .ok (.iconst 2, 1)) rfl) <|
   ev_a (ok_ireturn X hP hQ hfin rfl (by decide +kernel : decode cL_unsay 18 = .ok (.ireturn, 1))) <|
   ev_a (ok_psh_iconst X hP (by decide +kernel : decode cL_unsay 19 = .ok (.iconst 0, 1)) rfl) <|
   ev_a (ok_ireturn X hP hQ hfin rfl (by decide +kernel : decode cL_unsay 20 = .ok (.ireturn, 1))) <| ev_a0) <|
  ev_b0
set_option maxRecDepth 100000 in
theorem ev_s21 {l : Launch} {d : Nat} {cf : Nat → List Value → ev_W → Option ev_R} {p : Program} {e : Env} {R : Room} {s : State} {m : MethodId} {args : Array Value} {below : List Frame} {meth : Method} {c : Code} {Q : State → Prop} {D : va_G} {G : Nat → ClassId} {ad : Nat → Nat} {A : Nat → Prop} {z wE nE : Nat} {P : Nat → List Value → List Value → ev_W → Nat → Prop} {α : Type} {r : α} {fin : Option Value → ev_W → Nat → Option α} (X : ev_X cX0_add 3 yX0_add.cls (some FieldType.int) p s m args meth c D G ad A z) (hP : ev_PP p l e R s m args below meth c Q 3 D G ad A z wE nE P) (hR : wE - z ≤ R.cells ∧ nE ≤ R.slots) (hd2 : d + 3 ≤ R.frames ∧ 64 * (d + 3) ≤ R.locals) (hR1 : 1 ≤ R.frames) (hR2 : 21 ≤ R.locals) (hcf : ev_cf l ev_ys d cf) {Qc : Array Value → State → Outcome → State → Prop} (hQ : Q = MQ below Qc args s (wE - z) nE A) (hfin : ∀ v w n, fin v w n = some r → w.length = wE ∧ n = nE ∧ ∀ H locs, ev_H D G ad A w H → va_S A s.heap H locs → ∀ t : State, t.heap = H → s.WarmedH t.vm → Qc args s (.returned (v.map (ev_v ad))) t) : ev_all2 (ev_ok P r) 0 (ev_o21 cf fin) :=
  ev_b (
   ev_a (ok_ald_n X hP (by decide +kernel : decode cX0_add 0 = .ok (.aload_n 0, 1)) rfl rfl) <|
   ev_a (ok_get X hP (ci := 5) (kf := 0) (T := TX0) (by decide +kernel : decode cX0_add 1 = .ok (.getfield 9, 3)) rfl ev_in5 (by decide) ev_w143 (Or.inl rfl) rfl) <|
   ev_a (ok_no) <|
   ev_a (ok_no) <|
   ev_a (ok_ald_n X hP (by decide +kernel : decode cX0_add 4 = .ok (.aload_n 0, 1)) rfl rfl) <|
   ev_a (ok_get X hP (ci := 5) (kf := 2) (T := TX0) (by decide +kernel : decode cX0_add 5 = .ok (.getfield 18, 3)) rfl ev_in5 (by decide) ev_w147 (Or.inl rfl) rfl) <|
   ev_a (ok_no) <|
   ev_a (ok_no) <|
   ev_a (ok_ild_n X hP (by decide +kernel : decode cX0_add 8 = .ok (.iload_n 1, 1)) rfl rfl) <|
   ev_a (ok_invSN X hP hR hd2 hcf ev_y33 (by decide +kernel : decode cX0_add 9 = .ok (.invokestatic 22, 3)) ev_w440 ev_w883 ev_w439 ev_w71 ev_dn33 (by decide) rfl) <|
   ev_a (ok_no) <|
   ev_a (ok_no) <|
   ev_a (ok_ald_n X hP (by decide +kernel : decode cX0_add 12 = .ok (.aload_n 0, 1)) rfl rfl) <|
   ev_a (ok_get X hP (ci := 5) (kf := 1) (T := TX0) (by decide +kernel : decode cX0_add 13 = .ok (.getfield 15, 3)) rfl ev_in5 (by decide) ev_w145 (Or.inl rfl) rfl) <|
   ev_a (ok_no) <|
   ev_a (ok_no) <| ev_a0) <|
  ev_b (
   ev_a (ok_ald_n X hP (by decide +kernel : decode cX0_add 16 = .ok (.aload_n 0, 1)) rfl rfl) <|
   ev_a (ok_get X hP (ci := 5) (kf := 2) (T := TX0) (by decide +kernel : decode cX0_add 17 = .ok (.getfield 18, 3)) rfl ev_in5 (by decide) ev_w147 (Or.inl rfl) rfl) <|
   ev_a (ok_no) <|
   ev_a (ok_no) <|
   ev_a (ok_ild_n X hP (by decide +kernel : decode cX0_add 20 = .ok (.iload_n 2, 1)) rfl rfl) <|
   ev_a (ok_invSN X hP hR hd2 hcf ev_y33 (by decide +kernel : decode cX0_add 21 = .ok (.invokestatic 22, 3)) ev_w440 ev_w883 ev_w439 ev_w71 ev_dn33 (by decide) rfl) <|
   ev_a (ok_no) <|
   ev_a (ok_no) <|
   ev_a (ok_ald_n X hP (by decide +kernel : decode cX0_add 24 = .ok (.aload_n 0, 1)) rfl rfl) <|
   ev_a (ok_dup X hP (by decide +kernel : decode cX0_add 25 = .ok (.dup, 1)) rfl) <|
   ev_a (ok_get X hP (ci := 5) (kf := 2) (T := TX0) (by decide +kernel : decode cX0_add 26 = .ok (.getfield 18, 3)) rfl ev_in5 (by decide) ev_w147 (Or.inl rfl) rfl) <|
   ev_a (ok_no) <|
   ev_a (ok_no) <|
   ev_a (ok_psh_iconst X hP (by decide +kernel : decode cX0_add 29 = .ok (.iconst 1, 1)) rfl) <|
   ev_a (ok_iadd X hP (by decide +kernel : decode cX0_add 30 = .ok (.iadd, 1)) rfl) <|
   ev_a (ok_put X hP (ci := 5) (kf := 2) (T := TX0) tyX0 (by decide +kernel : decode cX0_add 31 = .ok (.putfield 18, 3)) rfl ev_in5 tyX0_ok nmX0 (by decide) ev_w147 (Or.inl rfl) rfl rfl rfl) <| ev_a0) <|
  ev_b (
   ev_a (ok_no) <|
   ev_a (ok_no) <|
   ev_a (ok_ald_n X hP (by decide +kernel : decode cX0_add 34 = .ok (.aload_n 0, 1)) rfl rfl) <|
   ev_a (ok_get X hP (ci := 5) (kf := 2) (T := TX0) (by decide +kernel : decode cX0_add 35 = .ok (.getfield 18, 3)) rfl ev_in5 (by decide) ev_w147 (Or.inl rfl) rfl) <|
   ev_a (ok_no) <|
   ev_a (ok_no) <|
   ev_a (ok_ireturn X hP hQ hfin rfl (by decide +kernel : decode cX0_add 38 = .ok (.ireturn, 1))) <| ev_a0) <|
  ev_b0
set_option maxRecDepth 100000 in
theorem ev_s22 {l : Launch} {d : Nat} {cf : Nat → List Value → ev_W → Option ev_R} {p : Program} {e : Env} {R : Room} {s : State} {m : MethodId} {args : Array Value} {below : List Frame} {meth : Method} {c : Code} {Q : State → Prop} {D : va_G} {G : Nat → ClassId} {ad : Nat → Nat} {A : Nat → Prop} {z wE nE : Nat} {P : Nat → List Value → List Value → ev_W → Nat → Prop} {α : Type} {r : α} {fin : Option Value → ev_W → Nat → Option α} (X : ev_X cX0_empty 2 yX0_empty.cls (some FieldType.int) p s m args meth c D G ad A z) (hP : ev_PP p l e R s m args below meth c Q 2 D G ad A z wE nE P) (hR : wE - z ≤ R.cells ∧ nE ≤ R.slots) (hd2 : d + 3 ≤ R.frames ∧ 64 * (d + 3) ≤ R.locals) (hR1 : 1 ≤ R.frames) (hR2 : 21 ≤ R.locals) (hcf : ev_cf l ev_ys d cf) {Qc : Array Value → State → Outcome → State → Prop} (hQ : Q = MQ below Qc args s (wE - z) nE A) (hfin : ∀ v w n, fin v w n = some r → w.length = wE ∧ n = nE ∧ ∀ H locs, ev_H D G ad A w H → va_S A s.heap H locs → ∀ t : State, t.heap = H → s.WarmedH t.vm → Qc args s (.returned (v.map (ev_v ad))) t) : ev_all2 (ev_ok P r) 0 (ev_o22 cf fin) :=
  ev_b (
   ev_a (ok_ald_n X hP (by decide +kernel : decode cX0_empty 0 = .ok (.aload_n 0, 1)) rfl rfl) <|
   ev_a (ok_get X hP (ci := 5) (kf := 2) (T := TX0) (by decide +kernel : decode cX0_empty 1 = .ok (.getfield 18, 3)) rfl ev_in5 (by decide) ev_w147 (Or.inl rfl) rfl) <|
   ev_a (ok_no) <|
   ev_a (ok_no) <|
   ev_a (ok_ist_n X hP (by decide +kernel : decode cX0_empty 4 = .ok (.istore_n 1, 1)) rfl (by decide) rfl) <|
   ev_a (ok_ald_n X hP (by decide +kernel : decode cX0_empty 5 = .ok (.aload_n 0, 1)) rfl rfl) <|
   ev_a (ok_psh_iconst X hP (by decide +kernel : decode cX0_empty 6 = .ok (.iconst 0, 1)) rfl) <|
   ev_a (ok_put X hP (ci := 5) (kf := 2) (T := TX0) tyX0 (by decide +kernel : decode cX0_empty 7 = .ok (.putfield 18, 3)) rfl ev_in5 tyX0_ok nmX0 (by decide) ev_w147 (Or.inl rfl) rfl rfl rfl) <|
   ev_a (ok_no) <|
   ev_a (ok_no) <|
   ev_a (ok_ild_n X hP (by decide +kernel : decode cX0_empty 10 = .ok (.iload_n 1, 1)) rfl rfl) <|
   ev_a (ok_ireturn X hP hQ hfin rfl (by decide +kernel : decode cX0_empty 11 = .ok (.ireturn, 1))) <| ev_a0) <|
  ev_b0
set_option maxRecDepth 100000 in
theorem ev_s23 {l : Launch} {d : Nat} {cf : Nat → List Value → ev_W → Option ev_R} {p : Program} {e : Env} {R : Room} {s : State} {m : MethodId} {args : Array Value} {below : List Frame} {meth : Method} {c : Code} {Q : State → Prop} {D : va_G} {G : Nat → ClassId} {ad : Nat → Nat} {A : Nat → Prop} {z wE nE : Nat} {P : Nat → List Value → List Value → ev_W → Nat → Prop} {α : Type} {r : α} {fin : Option Value → ev_W → Nat → Option α} (X : ev_X cX0_init 1 yX0_init.cls none p s m args meth c D G ad A z) (hP : ev_PP p l e R s m args below meth c Q 1 D G ad A z wE nE P) (hR : wE - z ≤ R.cells ∧ nE ≤ R.slots) (hd2 : d + 3 ≤ R.frames ∧ 64 * (d + 3) ≤ R.locals) (hR1 : 1 ≤ R.frames) (hR2 : 21 ≤ R.locals) (hcf : ev_cf l ev_ys d cf) (hin2 : meth.name = "<init>") {Qc : Array Value → State → Outcome → State → Prop} (hQ : Q = MQ below Qc args s (wE - z) nE A) (hfin : ∀ v w n, fin v w n = some r → w.length = wE ∧ n = nE ∧ ∀ H locs, ev_H D G ad A w H → va_S A s.heap H locs → ∀ t : State, t.heap = H → s.WarmedH t.vm → Qc args s (.returned (v.map (ev_v ad))) t) : ev_all2 (ev_ok P r) 0 (ev_o23 cf fin) :=
  ev_b (
   ev_a (ok_ald_n X hP (by decide +kernel : decode cX0_init 0 = .ok (.aload_n 0, 1)) rfl rfl) <|
   ev_a (ok_obj X hP hR1 hR2 (by decide +kernel : decode cX0_init 1 = .ok (.invokespecial 3, 3)) ev_w142 ev_w115 ev_w116 rfl) <|
   ev_a (ok_no) <|
   ev_a (ok_no) <|
   ev_a (ok_ald_n X hP (by decide +kernel : decode cX0_init 4 = .ok (.aload_n 0, 1)) rfl rfl) <|
   ev_a (ok_psh_bipush X hP (by decide +kernel : decode cX0_init 5 = .ok (.bipush 12, 2)) rfl) <|
   ev_a (ok_no) <|
   ev_a (ok_newarray X hP hR (by decide +kernel : decode cX0_init 7 = .ok (.newarray .int, 2)) (Or.inl ⟨rfl, rfl, rfl⟩) ev_w136 rfl) <|
   ev_a (ok_no) <|
   ev_a (ok_putF X hP hin2 (ci := 5) (kf := 0) (T := TX0) tyX0 (by decide +kernel : decode cX0_init 9 = .ok (.putfield 9, 3)) rfl ev_in5 tyX0_ok nmX0 (by decide) ev_w143 (Or.inl rfl) rfl rfl rfl rfl) <|
   ev_a (ok_no) <|
   ev_a (ok_no) <|
   ev_a (ok_ald_n X hP (by decide +kernel : decode cX0_init 12 = .ok (.aload_n 0, 1)) rfl rfl) <|
   ev_a (ok_psh_bipush X hP (by decide +kernel : decode cX0_init 13 = .ok (.bipush 12, 2)) rfl) <|
   ev_a (ok_no) <|
   ev_a (ok_newarray X hP hR (by decide +kernel : decode cX0_init 15 = .ok (.newarray .int, 2)) (Or.inl ⟨rfl, rfl, rfl⟩) ev_w136 rfl) <| ev_a0) <|
  ev_b (
   ev_a (ok_no) <|
   ev_a (ok_putF X hP hin2 (ci := 5) (kf := 1) (T := TX0) tyX0 (by decide +kernel : decode cX0_init 17 = .ok (.putfield 15, 3)) rfl ev_in5 tyX0_ok nmX0 (by decide) ev_w145 (Or.inl rfl) rfl rfl rfl rfl) <|
   ev_a (ok_no) <|
   ev_a (ok_no) <|
   ev_a (ok_return X hP hQ hfin rfl (by decide +kernel : decode cX0_init 20 = .ok (.return_, 1))) <| ev_a0) <|
  ev_b0
set_option maxRecDepth 100000 in
theorem ev_s24 {l : Launch} {d : Nat} {cf : Nat → List Value → ev_W → Option ev_R} {p : Program} {e : Env} {R : Room} {s : State} {m : MethodId} {args : Array Value} {below : List Frame} {meth : Method} {c : Code} {Q : State → Prop} {D : va_G} {G : Nat → ClassId} {ad : Nat → Nat} {A : Nat → Prop} {z wE nE : Nat} {P : Nat → List Value → List Value → ev_W → Nat → Prop} {α : Type} {r : α} {fin : Option Value → ev_W → Nat → Option α} (X : ev_X cX10_at 3 yX10_at.cls (some FieldType.int) p s m args meth c D G ad A z) (hP : ev_PP p l e R s m args below meth c Q 3 D G ad A z wE nE P) (hR : wE - z ≤ R.cells ∧ nE ≤ R.slots) (hd2 : d + 3 ≤ R.frames ∧ 64 * (d + 3) ≤ R.locals) (hR1 : 1 ≤ R.frames) (hR2 : 21 ≤ R.locals) (hcf : ev_cf l ev_ys d cf) {Qc : Array Value → State → Outcome → State → Prop} (hQ : Q = MQ below Qc args s (wE - z) nE A) (hfin : ∀ v w n, fin v w n = some r → w.length = wE ∧ n = nE ∧ ∀ H locs, ev_H D G ad A w H → va_S A s.heap H locs → ∀ t : State, t.heap = H → s.WarmedH t.vm → Qc args s (.returned (v.map (ev_v ad))) t) : ev_all2 (ev_ok P r) 0 (ev_o24 cf fin) :=
  ev_b (
   ev_a (ok_ild_n X hP (by decide +kernel : decode cX10_at 0 = .ok (.iload_n 1, 1)) rfl rfl) <|
   ev_a (ok_if_lt X hP (by decide +kernel : decode cX10_at 1 = .ok (.ifCond .lt 15, 3)) (by decide) rfl) <|
   ev_a (ok_no) <|
   ev_a (ok_no) <|
   ev_a (ok_ild_n X hP (by decide +kernel : decode cX10_at 4 = .ok (.iload_n 1, 1)) rfl rfl) <|
   ev_a (ok_ald_n X hP (by decide +kernel : decode cX10_at 5 = .ok (.aload_n 0, 1)) rfl rfl) <|
   ev_a (ok_aln X hP (by decide +kernel : decode cX10_at 6 = .ok (.arraylength, 1)) rfl) <|
   ev_a (ok_icmp_ge X hP (by decide +kernel : decode cX10_at 7 = .ok (.if_icmp .ge 9, 3)) (by decide) rfl) <|
   ev_a (ok_no) <|
   ev_a (ok_no) <|
   ev_a (ok_ald_n X hP (by decide +kernel : decode cX10_at 10 = .ok (.aload_n 0, 1)) rfl rfl) <|
   ev_a (ok_ild_n X hP (by decide +kernel : decode cX10_at 11 = .ok (.iload_n 1, 1)) rfl rfl) <|
   ev_a (ok_ialoads X hP (by decide +kernel : decode cX10_at 12 = .ok (.iaload, 1)) rfl) <|
   ev_a (ok_jmp X hP (by decide +kernel : decode cX10_at 13 = .ok (.goto 4, 3)) (by decide)) <|
   ev_a (ok_no) <|
   ev_a (ok_no) <| ev_a0) <|
  ev_b (
   ev_a (ok_ild_n X hP (by decide +kernel : decode cX10_at 16 = .ok (.iload_n 2, 1)) rfl rfl) <|
   ev_a (ok_ireturn X hP hQ hfin rfl (by decide +kernel : decode cX10_at 17 = .ok (.ireturn, 1))) <| ev_a0) <|
  ev_b0
set_option maxRecDepth 100000 in
theorem ev_s25 {l : Launch} {d : Nat} {cf : Nat → List Value → ev_W → Option ev_R} {p : Program} {e : Env} {R : Room} {s : State} {m : MethodId} {args : Array Value} {below : List Frame} {meth : Method} {c : Code} {Q : State → Prop} {D : va_G} {G : Nat → ClassId} {ad : Nat → Nat} {A : Nat → Prop} {z wE nE : Nat} {P : Nat → List Value → List Value → ev_W → Nat → Prop} {α : Type} {r : α} {fin : Option Value → ev_W → Nat → Option α} (X : ev_X cX10_broken 1 yX10_broken.cls (some FieldType.int) p s m args meth c D G ad A z) (hP : ev_PP p l e R s m args below meth c Q 1 D G ad A z wE nE P) (hR : wE - z ≤ R.cells ∧ nE ≤ R.slots) (hd2 : d + 3 ≤ R.frames ∧ 64 * (d + 3) ≤ R.locals) (hR1 : 1 ≤ R.frames) (hR2 : 21 ≤ R.locals) (hcf : ev_cf l ev_ys d cf) {Qc : Array Value → State → Outcome → State → Prop} (hQ : Q = MQ below Qc args s (wE - z) nE A) (hfin : ∀ v w n, fin v w n = some r → w.length = wE ∧ n = nE ∧ ∀ H locs, ev_H D G ad A w H → va_S A s.heap H locs → ∀ t : State, t.heap = H → s.WarmedH t.vm → Qc args s (.returned (v.map (ev_v ad))) t) : ev_all2 (ev_ok P r) 0 (ev_o25 cf fin) :=
  ev_b (
   ev_a (ok_ald_n X hP (by decide +kernel : decode cX10_broken 0 = .ok (.aload_n 0, 1)) rfl rfl) <|
   ev_a (ok_invV X hP hR hd2 hcf (ci := 15) ev_y36 rfl (by decide +kernel : decode cX10_broken 1 = .ok (.invokevirtual 112, 3)) ev_w659 ev_w656 ev_w658 ev_w19 ev_w71 ⟨rfl, ev_dn36⟩ (by decide) rfl) <|
   ev_a (ok_no) <|
   ev_a (ok_no) <|
   ev_a (ok_ald_n X hP (by decide +kernel : decode cX10_broken 4 = .ok (.aload_n 0, 1)) rfl rfl) <|
   ev_a (ok_get X hP (ci := 15) (kf := 5) (T := TX10) (by decide +kernel : decode cX10_broken 5 = .ok (.getfield 40, 3)) rfl ev_in15 (by decide) ev_w353 (Or.inl rfl) rfl) <|
   ev_a (ok_no) <|
   ev_a (ok_no) <|
   ev_a (ok_ald_n X hP (by decide +kernel : decode cX10_broken 8 = .ok (.aload_n 0, 1)) rfl rfl) <|
   ev_a (ok_get X hP (ci := 15) (kf := 0) (T := TX10) (by decide +kernel : decode cX10_broken 9 = .ok (.getfield 10, 3)) rfl ev_in15 (by decide) ev_w348 (Or.inl rfl) rfl) <|
   ev_a (ok_no) <|
   ev_a (ok_no) <|
   ev_a (ok_invV X hP hR hd2 hcf (ci := 14) ev_y75 rfl (by decide +kernel : decode cX10_broken 12 = .ok (.invokevirtual 120, 3)) ev_w687 ev_w684 ev_w685 ev_w686 ev_w75 ⟨rfl, ev_dn75⟩ (by decide) rfl) <|
   ev_a (ok_no) <|
   ev_a (ok_no) <|
   ev_a (ok_ireturn X hP hQ hfin rfl (by decide +kernel : decode cX10_broken 15 = .ok (.ireturn, 1))) <| ev_a0) <|
  ev_b0
set_option maxRecDepth 100000 in
theorem ev_s26 {l : Launch} {d : Nat} {cf : Nat → List Value → ev_W → Option ev_R} {p : Program} {e : Env} {R : Room} {s : State} {m : MethodId} {args : Array Value} {below : List Frame} {meth : Method} {c : Code} {Q : State → Prop} {D : va_G} {G : Nat → ClassId} {ad : Nat → Nat} {A : Nat → Prop} {z wE nE : Nat} {P : Nat → List Value → List Value → ev_W → Nat → Prop} {α : Type} {r : α} {fin : Option Value → ev_W → Nat → Option α} (X : ev_X cX10_checkBatchRoom 1 yX10_checkBatchRoom.cls none p s m args meth c D G ad A z) (hP : ev_PP p l e R s m args below meth c Q 1 D G ad A z wE nE P) (hR : wE - z ≤ R.cells ∧ nE ≤ R.slots) (hd2 : d + 3 ≤ R.frames ∧ 64 * (d + 3) ≤ R.locals) (hR1 : 1 ≤ R.frames) (hR2 : 21 ≤ R.locals) (hcf : ev_cf l ev_ys d cf) {Qc : Array Value → State → Outcome → State → Prop} (hQ : Q = MQ below Qc args s (wE - z) nE A) (hfin : ∀ v w n, fin v w n = some r → w.length = wE ∧ n = nE ∧ ∀ H locs, ev_H D G ad A w H → va_S A s.heap H locs → ∀ t : State, t.heap = H → s.WarmedH t.vm → Qc args s (.returned (v.map (ev_v ad))) t) : ev_all2 (ev_ok P r) 0 (ev_o26 cf fin) :=
  ev_b (
   ev_a (ok_ald_n X hP (by decide +kernel : decode cX10_checkBatchRoom 0 = .ok (.aload_n 0, 1)) rfl rfl) <|
   ev_a (ok_get X hP (ci := 15) (kf := 1) (T := TX10) (by decide +kernel : decode cX10_checkBatchRoom 1 = .ok (.getfield 19, 3)) rfl ev_in15 (by decide) ev_w349 (Or.inl rfl) rfl) <|
   ev_a (ok_no) <|
   ev_a (ok_no) <|
   ev_a (ok_getN X hP (ci := 5) (kf := 2) (T := TX0) (by decide +kernel : decode cX10_checkBatchRoom 4 = .ok (.getfield 342, 3)) rfl ev_in5 (by decide) ev_w149 (Or.inl rfl) rfl) <|
   ev_a (ok_no) <|
   ev_a (ok_no) <|
   ev_a (ok_psh_bipush X hP (by decide +kernel : decode cX10_checkBatchRoom 7 = .ok (.bipush 12, 2)) rfl) <|
   ev_a (ok_no) <|
   ev_a (ok_icmp_lt X hP (by decide +kernel : decode cX10_checkBatchRoom 9 = .ok (.if_icmp .lt 14, 3)) (by decide) rfl) <|
   ev_a (ok_no) <|
   ev_a (ok_no) <|
   ev_a (ok_no) <|
   ev_a (ok_no) <|
   ev_a (ok_no) <|
   ev_a (ok_dup X hP (by decide +kernel : decode cX10_checkBatchRoom 15 = .ok (.dup, 1)) rfl) <| ev_a0) <|
  ev_b (
   ev_a (ok_no) <|
   ev_a (ok_no) <|
   ev_a (ok_no) <|
   ev_a (ok_no) <|
   ev_a (ok_no) <|
   ev_a (ok_no) <|
   ev_a (ok_no) <|
   ev_a (ok_return X hP hQ hfin rfl (by decide +kernel : decode cX10_checkBatchRoom 23 = .ok (.return_, 1))) <| ev_a0) <|
  ev_b0
set_option maxRecDepth 100000 in
theorem ev_s27 {l : Launch} {d : Nat} {cf : Nat → List Value → ev_W → Option ev_R} {p : Program} {e : Env} {R : Room} {s : State} {m : MethodId} {args : Array Value} {below : List Frame} {meth : Method} {c : Code} {Q : State → Prop} {D : va_G} {G : Nat → ClassId} {ad : Nat → Nat} {A : Nat → Prop} {z wE nE : Nat} {P : Nat → List Value → List Value → ev_W → Nat → Prop} {α : Type} {r : α} {fin : Option Value → ev_W → Nat → Option α} (X : ev_X cX10_checkTriple 1 yX10_checkTriple.cls none p s m args meth c D G ad A z) (hP : ev_PP p l e R s m args below meth c Q 1 D G ad A z wE nE P) (hR : wE - z ≤ R.cells ∧ nE ≤ R.slots) (hd2 : d + 3 ≤ R.frames ∧ 64 * (d + 3) ≤ R.locals) (hR1 : 1 ≤ R.frames) (hR2 : 21 ≤ R.locals) (hcf : ev_cf l ev_ys d cf) {Qc : Array Value → State → Outcome → State → Prop} (hQ : Q = MQ below Qc args s (wE - z) nE A) (hfin : ∀ v w n, fin v w n = some r → w.length = wE ∧ n = nE ∧ ∀ H locs, ev_H D G ad A w H → va_S A s.heap H locs → ∀ t : State, t.heap = H → s.WarmedH t.vm → Qc args s (.returned (v.map (ev_v ad))) t) : ev_all2 (ev_ok P r) 0 (ev_o27 cf fin) :=
  ev_b (
   ev_a (ok_ild_n X hP (by decide +kernel : decode cX10_checkTriple 0 = .ok (.iload_n 0, 1)) rfl rfl) <|
   ev_a (ok_if_lt X hP (by decide +kernel : decode cX10_checkTriple 1 = .ok (.ifCond .lt 31, 3)) (by decide) rfl) <|
   ev_a (ok_no) <|
   ev_a (ok_no) <|
   ev_a (ok_ild_n X hP (by decide +kernel : decode cX10_checkTriple 4 = .ok (.iload_n 0, 1)) rfl rfl) <|
   ev_a (ok_psh_sipush X hP (by decide +kernel : decode cX10_checkTriple 5 = .ok (.sipush 556, 3)) rfl) <|
   ev_a (ok_no) <|
   ev_a (ok_no) <|
   ev_a (ok_icmp_ge X hP (by decide +kernel : decode cX10_checkTriple 8 = .ok (.if_icmp .ge 24, 3)) (by decide) rfl) <|
   ev_a (ok_no) <|
   ev_a (ok_no) <|
   ev_a (ok_ild_n X hP (by decide +kernel : decode cX10_checkTriple 11 = .ok (.iload_n 0, 1)) rfl rfl) <|
   ev_a (ok_psh_bipush X hP (by decide +kernel : decode cX10_checkTriple 12 = .ok (.bipush 10, 2)) rfl) <|
   ev_a (ok_no) <|
   ev_a (ok_idiv X hP (by decide +kernel : decode cX10_checkTriple 14 = .ok (.idiv, 1)) rfl) <|
   ev_a (ok_psh_bipush X hP (by decide +kernel : decode cX10_checkTriple 15 = .ok (.bipush 10, 2)) rfl) <| ev_a0) <|
  ev_b (
   ev_a (ok_no) <|
   ev_a (ok_irem X hP (by decide +kernel : decode cX10_checkTriple 17 = .ok (.irem, 1)) rfl) <|
   ev_a (ok_psh_bipush X hP (by decide +kernel : decode cX10_checkTriple 18 = .ok (.bipush 6, 2)) rfl) <|
   ev_a (ok_no) <|
   ev_a (ok_icmp_ge X hP (by decide +kernel : decode cX10_checkTriple 20 = .ok (.if_icmp .ge 12, 3)) (by decide) rfl) <|
   ev_a (ok_no) <|
   ev_a (ok_no) <|
   ev_a (ok_ild_n X hP (by decide +kernel : decode cX10_checkTriple 23 = .ok (.iload_n 0, 1)) rfl rfl) <|
   ev_a (ok_psh_bipush X hP (by decide +kernel : decode cX10_checkTriple 24 = .ok (.bipush 10, 2)) rfl) <|
   ev_a (ok_no) <|
   ev_a (ok_irem X hP (by decide +kernel : decode cX10_checkTriple 26 = .ok (.irem, 1)) rfl) <|
   ev_a (ok_psh_bipush X hP (by decide +kernel : decode cX10_checkTriple 27 = .ok (.bipush 6, 2)) rfl) <|
   ev_a (ok_no) <|
   ev_a (ok_icmp_lt X hP (by decide +kernel : decode cX10_checkTriple 29 = .ok (.if_icmp .lt 14, 3)) (by decide) rfl) <|
   ev_a (ok_no) <|
   ev_a (ok_no) <| ev_a0) <|
  ev_b (
   ev_a (ok_no) <|
   ev_a (ok_no) <|
   ev_a (ok_no) <|
   ev_a (ok_dup X hP (by decide +kernel : decode cX10_checkTriple 35 = .ok (.dup, 1)) rfl) <|
   ev_a (ok_no) <|
   ev_a (ok_no) <|
   ev_a (ok_no) <|
   ev_a (ok_no) <|
   ev_a (ok_no) <|
   ev_a (ok_no) <|
   ev_a (ok_no) <|
   ev_a (ok_return X hP hQ hfin rfl (by decide +kernel : decode cX10_checkTriple 43 = .ok (.return_, 1))) <| ev_a0) <|
  ev_b0
set_option maxRecDepth 100000 in
theorem ev_s28 {l : Launch} {d : Nat} {cf : Nat → List Value → ev_W → Option ev_R} {p : Program} {e : Env} {R : Room} {s : State} {m : MethodId} {args : Array Value} {below : List Frame} {meth : Method} {c : Code} {Q : State → Prop} {D : va_G} {G : Nat → ClassId} {ad : Nat → Nat} {A : Nat → Prop} {z wE nE : Nat} {P : Nat → List Value → List Value → ev_W → Nat → Prop} {α : Type} {r : α} {fin : Option Value → ev_W → Nat → Option α} (X : ev_X cX10_commit 1 yX10_commit.cls (some FieldType.int) p s m args meth c D G ad A z) (hP : ev_PP p l e R s m args below meth c Q 1 D G ad A z wE nE P) (hR : wE - z ≤ R.cells ∧ nE ≤ R.slots) (hd2 : d + 3 ≤ R.frames ∧ 64 * (d + 3) ≤ R.locals) (hR1 : 1 ≤ R.frames) (hR2 : 21 ≤ R.locals) (hcf : ev_cf l ev_ys d cf) {Qc : Array Value → State → Outcome → State → Prop} (hQ : Q = MQ below Qc args s (wE - z) nE A) (hfin : ∀ v w n, fin v w n = some r → w.length = wE ∧ n = nE ∧ ∀ H locs, ev_H D G ad A w H → va_S A s.heap H locs → ∀ t : State, t.heap = H → s.WarmedH t.vm → Qc args s (.returned (v.map (ev_v ad))) t) : ev_all2 (ev_ok P r) 0 (ev_o28 cf fin) :=
  ev_b (
   ev_a (ok_ald_n X hP (by decide +kernel : decode cX10_commit 0 = .ok (.aload_n 0, 1)) rfl rfl) <|
   ev_a (ok_get X hP (ci := 15) (kf := 12) (T := TX10) (by decide +kernel : decode cX10_commit 1 = .ok (.getfield 103, 3)) rfl ev_in15 (by decide) ev_w360 (Or.inl rfl) rfl) <|
   ev_a (ok_no) <|
   ev_a (ok_no) <|
   ev_a (ok_psh_bipush X hP (by decide +kernel : decode cX10_commit 4 = .ok (.bipush 50, 2)) rfl) <|
   ev_a (ok_no) <|
   ev_a (ok_icmp_lt X hP (by decide +kernel : decode cX10_commit 6 = .ok (.if_icmp .lt 13, 3)) (by decide) rfl) <|
   ev_a (ok_no) <|
   ev_a (ok_no) <|
   ev_a (ok_no) <|
   ev_a (ok_no) <|
   ev_a (ok_no) <|
   ev_a (ok_dup X hP (by decide +kernel : decode cX10_commit 12 = .ok (.dup, 1)) rfl) <|
   ev_a (ok_no) <|
   ev_a (ok_no) <|
   ev_a (ok_no) <| ev_a0) <|
  ev_b (
   ev_a (ok_no) <|
   ev_a (ok_no) <|
   ev_a (ok_no) <|
   ev_a (ok_ald_n X hP (by decide +kernel : decode cX10_commit 19 = .ok (.aload_n 0, 1)) rfl rfl) <|
   ev_a (ok_invV X hP hR hd2 hcf (ci := 15) ev_y36 rfl (by decide +kernel : decode cX10_commit 20 = .ok (.invokevirtual 112, 3)) ev_w659 ev_w656 ev_w658 ev_w19 ev_w71 ⟨rfl, ev_dn36⟩ (by decide) rfl) <|
   ev_a (ok_no) <|
   ev_a (ok_no) <|
   ev_a (ok_ald_n X hP (by decide +kernel : decode cX10_commit 23 = .ok (.aload_n 0, 1)) rfl rfl) <|
   ev_a (ok_get X hP (ci := 15) (kf := 3) (T := TX10) (by decide +kernel : decode cX10_commit 24 = .ok (.getfield 30, 3)) rfl ev_in15 (by decide) ev_w351 (Or.inl rfl) rfl) <|
   ev_a (ok_no) <|
   ev_a (ok_no) <|
   ev_a (ok_getN X hP (ci := 12) (kf := 5) (T := TX7) (by decide +kernel : decode cX10_commit 27 = .ok (.getfield 115, 3)) rfl ev_in12 (by decide) ev_w174 (Or.inl rfl) rfl) <|
   ev_a (ok_no) <|
   ev_a (ok_no) <|
   ev_a (ok_psh_bipush X hP (by decide +kernel : decode cX10_commit 30 = .ok (.bipush 60, 2)) rfl) <|
   ev_a (ok_no) <| ev_a0) <|
  ev_b (
   ev_a (ok_icmp_le X hP (by decide +kernel : decode cX10_commit 32 = .ok (.if_icmp .le 13, 3)) (by decide) rfl) <|
   ev_a (ok_no) <|
   ev_a (ok_no) <|
   ev_a (ok_no) <|
   ev_a (ok_no) <|
   ev_a (ok_no) <|
   ev_a (ok_dup X hP (by decide +kernel : decode cX10_commit 38 = .ok (.dup, 1)) rfl) <|
   ev_a (ok_no) <|
   ev_a (ok_no) <|
   ev_a (ok_no) <|
   ev_a (ok_no) <|
   ev_a (ok_no) <|
   ev_a (ok_no) <|
   ev_a (ok_ald_n X hP (by decide +kernel : decode cX10_commit 45 = .ok (.aload_n 0, 1)) rfl rfl) <|
   ev_a (ok_get X hP (ci := 15) (kf := 5) (T := TX10) (by decide +kernel : decode cX10_commit 46 = .ok (.getfield 40, 3)) rfl ev_in15 (by decide) ev_w353 (Or.inl rfl) rfl) <|
   ev_a (ok_no) <| ev_a0) <|
  ev_b (
   ev_a (ok_no) <|
   ev_a (ok_ald_n X hP (by decide +kernel : decode cX10_commit 49 = .ok (.aload_n 0, 1)) rfl rfl) <|
   ev_a (ok_get X hP (ci := 15) (kf := 0) (T := TX10) (by decide +kernel : decode cX10_commit 50 = .ok (.getfield 10, 3)) rfl ev_in15 (by decide) ev_w348 (Or.inl rfl) rfl) <|
   ev_a (ok_no) <|
   ev_a (ok_no) <|
   ev_a (ok_invV X hP hR hd2 hcf (ci := 14) ev_y75 rfl (by decide +kernel : decode cX10_commit 53 = .ok (.invokevirtual 120, 3)) ev_w687 ev_w684 ev_w685 ev_w686 ev_w75 ⟨rfl, ev_dn75⟩ (by decide) rfl) <|
   ev_a (ok_no) <|
   ev_a (ok_no) <|
   ev_a (ok_if_le X hP (by decide +kernel : decode cX10_commit 56 = .ok (.ifCond .le 13, 3)) (by decide) rfl) <|
   ev_a (ok_no) <|
   ev_a (ok_no) <|
   ev_a (ok_no) <|
   ev_a (ok_no) <|
   ev_a (ok_no) <|
   ev_a (ok_dup X hP (by decide +kernel : decode cX10_commit 62 = .ok (.dup, 1)) rfl) <|
   ev_a (ok_no) <| ev_a0) <|
  ev_b (
   ev_a (ok_no) <|
   ev_a (ok_no) <|
   ev_a (ok_no) <|
   ev_a (ok_no) <|
   ev_a (ok_no) <|
   ev_a (ok_ald_n X hP (by decide +kernel : decode cX10_commit 69 = .ok (.aload_n 0, 1)) rfl rfl) <|
   ev_a (ok_dup X hP (by decide +kernel : decode cX10_commit 70 = .ok (.dup, 1)) rfl) <|
   ev_a (ok_get X hP (ci := 15) (kf := 12) (T := TX10) (by decide +kernel : decode cX10_commit 71 = .ok (.getfield 103, 3)) rfl ev_in15 (by decide) ev_w360 (Or.inl rfl) rfl) <|
   ev_a (ok_no) <|
   ev_a (ok_no) <|
   ev_a (ok_psh_iconst X hP (by decide +kernel : decode cX10_commit 74 = .ok (.iconst 1, 1)) rfl) <|
   ev_a (ok_iadd X hP (by decide +kernel : decode cX10_commit 75 = .ok (.iadd, 1)) rfl) <|
   ev_a (ok_put X hP (ci := 15) (kf := 12) (T := TX10) tyX10 (by decide +kernel : decode cX10_commit 76 = .ok (.putfield 103, 3)) rfl ev_in15 tyX10_ok nmX10 (by decide) ev_w360 (Or.inl rfl) rfl rfl rfl) <|
   ev_a (ok_no) <|
   ev_a (ok_no) <|
   ev_a (ok_ald_n X hP (by decide +kernel : decode cX10_commit 79 = .ok (.aload_n 0, 1)) rfl rfl) <| ev_a0) <|
  ev_b (
   ev_a (ok_get X hP (ci := 15) (kf := 2) (T := TX10) (by decide +kernel : decode cX10_commit 80 = .ok (.getfield 26, 3)) rfl ev_in15 (by decide) ev_w350 (Or.inl rfl) rfl) <|
   ev_a (ok_no) <|
   ev_a (ok_no) <|
   ev_a (ok_ald_n X hP (by decide +kernel : decode cX10_commit 83 = .ok (.aload_n 0, 1)) rfl rfl) <|
   ev_a (ok_get X hP (ci := 15) (kf := 3) (T := TX10) (by decide +kernel : decode cX10_commit 84 = .ok (.getfield 30, 3)) rfl ev_in15 (by decide) ev_w351 (Or.inl rfl) rfl) <|
   ev_a (ok_no) <|
   ev_a (ok_no) <|
   ev_a (ok_invV X hP hR hd2 hcf (ci := 12) ev_y67 rfl (by decide +kernel : decode cX10_commit 87 = .ok (.invokevirtual 126, 3)) ev_w663 ev_w660 ev_w661 ev_w662 ev_w74 ⟨rfl, ev_dn67⟩ (by decide) rfl) <|
   ev_a (ok_no) <|
   ev_a (ok_no) <|
   ev_a (ok_ald_n X hP (by decide +kernel : decode cX10_commit 90 = .ok (.aload_n 0, 1)) rfl rfl) <|
   ev_a (ok_get X hP (ci := 15) (kf := 1) (T := TX10) (by decide +kernel : decode cX10_commit 91 = .ok (.getfield 19, 3)) rfl ev_in15 (by decide) ev_w349 (Or.inl rfl) rfl) <|
   ev_a (ok_no) <|
   ev_a (ok_no) <|
   ev_a (ok_invV X hP hR hd2 hcf (ci := 5) ev_y22 rfl (by decide +kernel : decode cX10_commit 94 = .ok (.invokevirtual 99, 3)) ev_w404 ev_w401 ev_w402 ev_w403 ev_w73 ⟨rfl, ev_dn22⟩ (by decide) rfl) <|
   ev_a (ok_no) <| ev_a0) <|
  ev_b (
   ev_a (ok_no) <|
   ev_a (ok_drop X hP (by decide +kernel : decode cX10_commit 97 = .ok (.pop, 1)) rfl) <|
   ev_a (ok_ald_n X hP (by decide +kernel : decode cX10_commit 98 = .ok (.aload_n 0, 1)) rfl rfl) <|
   ev_a (ok_invV X hP hR hd2 hcf (ci := 15) ev_y35 rfl (by decide +kernel : decode cX10_commit 99 = .ok (.invokevirtual 130, 3)) ev_w448 ev_w445 ev_w447 ev_w2 ev_w71 ⟨rfl, ev_dn35⟩ (by decide) rfl) <|
   ev_a (ok_no) <|
   ev_a (ok_no) <|
   ev_a (ok_ald_n X hP (by decide +kernel : decode cX10_commit 102 = .ok (.aload_n 0, 1)) rfl rfl) <|
   ev_a (ok_get X hP (ci := 15) (kf := 12) (T := TX10) (by decide +kernel : decode cX10_commit 103 = .ok (.getfield 103, 3)) rfl ev_in15 (by decide) ev_w360 (Or.inl rfl) rfl) <|
   ev_a (ok_no) <|
   ev_a (ok_no) <|
   ev_a (ok_ireturn X hP hQ hfin rfl (by decide +kernel : decode cX10_commit 106 = .ok (.ireturn, 1))) <| ev_a0) <|
  ev_b0
set_option maxRecDepth 100000 in
theorem ev_s29 {l : Launch} {d : Nat} {cf : Nat → List Value → ev_W → Option ev_R} {p : Program} {e : Env} {R : Room} {s : State} {m : MethodId} {args : Array Value} {below : List Frame} {meth : Method} {c : Code} {Q : State → Prop} {D : va_G} {G : Nat → ClassId} {ad : Nat → Nat} {A : Nat → Prop} {z wE nE : Nat} {P : Nat → List Value → List Value → ev_W → Nat → Prop} {α : Type} {r : α} {fin : Option Value → ev_W → Nat → Option α} (X : ev_X cX10_copy 4 yX10_copy.cls none p s m args meth c D G ad A z) (hP : ev_PP p l e R s m args below meth c Q 4 D G ad A z wE nE P) (hR : wE - z ≤ R.cells ∧ nE ≤ R.slots) (hd2 : d + 3 ≤ R.frames ∧ 64 * (d + 3) ≤ R.locals) (hR1 : 1 ≤ R.frames) (hR2 : 21 ≤ R.locals) (hcf : ev_cf l ev_ys d cf) {Qc : Array Value → State → Outcome → State → Prop} (hQ : Q = MQ below Qc args s (wE - z) nE A) (hfin : ∀ v w n, fin v w n = some r → w.length = wE ∧ n = nE ∧ ∀ H locs, ev_H D G ad A w H → va_S A s.heap H locs → ∀ t : State, t.heap = H → s.WarmedH t.vm → Qc args s (.returned (v.map (ev_v ad))) t) : ev_all2 (ev_ok P r) 0 (ev_o29 cf fin) :=
  ev_b (
   ev_a (ok_psh_iconst X hP (by decide +kernel : decode cX10_copy 0 = .ok (.iconst 0, 1)) rfl) <|
   ev_a (ok_ist_n X hP (by decide +kernel : decode cX10_copy 1 = .ok (.istore_n 3, 1)) rfl (by decide) rfl) <|
   ev_a (ok_ild_n X hP (by decide +kernel : decode cX10_copy 2 = .ok (.iload_n 3, 1)) rfl rfl) <|
   ev_a (ok_ild_n X hP (by decide +kernel : decode cX10_copy 3 = .ok (.iload_n 2, 1)) rfl rfl) <|
   ev_a (ok_icmp_ge X hP (by decide +kernel : decode cX10_copy 4 = .ok (.if_icmp .ge 27, 3)) (by decide) rfl) <|
   ev_a (ok_no) <|
   ev_a (ok_no) <|
   ev_a (ok_ild_n X hP (by decide +kernel : decode cX10_copy 7 = .ok (.iload_n 3, 1)) rfl rfl) <|
   ev_a (ok_ald_n X hP (by decide +kernel : decode cX10_copy 8 = .ok (.aload_n 0, 1)) rfl rfl) <|
   ev_a (ok_aln X hP (by decide +kernel : decode cX10_copy 9 = .ok (.arraylength, 1)) rfl) <|
   ev_a (ok_icmp_ge X hP (by decide +kernel : decode cX10_copy 10 = .ok (.if_icmp .ge 21, 3)) (by decide) rfl) <|
   ev_a (ok_no) <|
   ev_a (ok_no) <|
   ev_a (ok_ild_n X hP (by decide +kernel : decode cX10_copy 13 = .ok (.iload_n 3, 1)) rfl rfl) <|
   ev_a (ok_ald_n X hP (by decide +kernel : decode cX10_copy 14 = .ok (.aload_n 1, 1)) rfl rfl) <|
   ev_a (ok_aln X hP (by decide +kernel : decode cX10_copy 15 = .ok (.arraylength, 1)) rfl) <| ev_a0) <|
  ev_b (
   ev_a (ok_icmp_ge X hP (by decide +kernel : decode cX10_copy 16 = .ok (.if_icmp .ge 15, 3)) (by decide) rfl) <|
   ev_a (ok_no) <|
   ev_a (ok_no) <|
   ev_a (ok_ald_n X hP (by decide +kernel : decode cX10_copy 19 = .ok (.aload_n 1, 1)) rfl rfl) <|
   ev_a (ok_ild_n X hP (by decide +kernel : decode cX10_copy 20 = .ok (.iload_n 3, 1)) rfl rfl) <|
   ev_a (ok_ald_n X hP (by decide +kernel : decode cX10_copy 21 = .ok (.aload_n 0, 1)) rfl rfl) <|
   ev_a (ok_ild_n X hP (by decide +kernel : decode cX10_copy 22 = .ok (.iload_n 3, 1)) rfl rfl) <|
   ev_a (ok_ialoads X hP (by decide +kernel : decode cX10_copy 23 = .ok (.iaload, 1)) rfl) <|
   ev_a (ok_iastores X hP (by decide +kernel : decode cX10_copy 24 = .ok (.iastore, 1)) rfl) <|
   ev_a (ok_inc X hP (by decide +kernel : decode cX10_copy 25 = .ok (.iinc 3 1, 3)) (by decide) rfl) <|
   ev_a (ok_no) <|
   ev_a (ok_no) <|
   ev_a (ok_jmp X hP (by decide +kernel : decode cX10_copy 28 = .ok (.goto (-26), 3)) (by decide)) <|
   ev_a (ok_no) <|
   ev_a (ok_no) <|
   ev_a (ok_return X hP hQ hfin rfl (by decide +kernel : decode cX10_copy 31 = .ok (.return_, 1))) <| ev_a0) <|
  ev_b0
set_option maxRecDepth 100000 in
theorem ev_s30 {l : Launch} {d : Nat} {cf : Nat → List Value → ev_W → Option ev_R} {p : Program} {e : Env} {R : Room} {s : State} {m : MethodId} {args : Array Value} {below : List Frame} {meth : Method} {c : Code} {Q : State → Prop} {D : va_G} {G : Nat → ClassId} {ad : Nat → Nat} {A : Nat → Prop} {z wE nE : Nat} {P : Nat → List Value → List Value → ev_W → Nat → Prop} {α : Type} {r : α} {fin : Option Value → ev_W → Nat → Option α} (X : ev_X cX10_fill 3 yX10_fill.cls none p s m args meth c D G ad A z) (hP : ev_PP p l e R s m args below meth c Q 3 D G ad A z wE nE P) (hR : wE - z ≤ R.cells ∧ nE ≤ R.slots) (hd2 : d + 3 ≤ R.frames ∧ 64 * (d + 3) ≤ R.locals) (hR1 : 1 ≤ R.frames) (hR2 : 21 ≤ R.locals) (hcf : ev_cf l ev_ys d cf) {Qc : Array Value → State → Outcome → State → Prop} (hQ : Q = MQ below Qc args s (wE - z) nE A) (hfin : ∀ v w n, fin v w n = some r → w.length = wE ∧ n = nE ∧ ∀ H locs, ev_H D G ad A w H → va_S A s.heap H locs → ∀ t : State, t.heap = H → s.WarmedH t.vm → Qc args s (.returned (v.map (ev_v ad))) t) : ev_all2 (ev_ok P r) 0 (ev_o30 cf fin) :=
  ev_b (
   ev_a (ok_psh_iconst X hP (by decide +kernel : decode cX10_fill 0 = .ok (.iconst 0, 1)) rfl) <|
   ev_a (ok_ist_n X hP (by decide +kernel : decode cX10_fill 1 = .ok (.istore_n 2, 1)) rfl (by decide) rfl) <|
   ev_a (ok_ild_n X hP (by decide +kernel : decode cX10_fill 2 = .ok (.iload_n 2, 1)) rfl rfl) <|
   ev_a (ok_ald_n X hP (by decide +kernel : decode cX10_fill 3 = .ok (.aload_n 0, 1)) rfl rfl) <|
   ev_a (ok_aln X hP (by decide +kernel : decode cX10_fill 4 = .ok (.arraylength, 1)) rfl) <|
   ev_a (ok_icmp_ge X hP (by decide +kernel : decode cX10_fill 5 = .ok (.if_icmp .ge 13, 3)) (by decide) rfl) <|
   ev_a (ok_no) <|
   ev_a (ok_no) <|
   ev_a (ok_ald_n X hP (by decide +kernel : decode cX10_fill 8 = .ok (.aload_n 0, 1)) rfl rfl) <|
   ev_a (ok_ild_n X hP (by decide +kernel : decode cX10_fill 9 = .ok (.iload_n 2, 1)) rfl rfl) <|
   ev_a (ok_ild_n X hP (by decide +kernel : decode cX10_fill 10 = .ok (.iload_n 1, 1)) rfl rfl) <|
   ev_a (ok_iastores X hP (by decide +kernel : decode cX10_fill 11 = .ok (.iastore, 1)) rfl) <|
   ev_a (ok_inc X hP (by decide +kernel : decode cX10_fill 12 = .ok (.iinc 2 1, 3)) (by decide) rfl) <|
   ev_a (ok_no) <|
   ev_a (ok_no) <|
   ev_a (ok_jmp X hP (by decide +kernel : decode cX10_fill 15 = .ok (.goto (-13), 3)) (by decide)) <| ev_a0) <|
  ev_b (
   ev_a (ok_no) <|
   ev_a (ok_no) <|
   ev_a (ok_return X hP hQ hfin rfl (by decide +kernel : decode cX10_fill 18 = .ok (.return_, 1))) <| ev_a0) <|
  ev_b0
set_option maxRecDepth 100000 in
theorem ev_s31 {l : Launch} {d : Nat} {cf : Nat → List Value → ev_W → Option ev_R} {p : Program} {e : Env} {R : Room} {s : State} {m : MethodId} {args : Array Value} {below : List Frame} {meth : Method} {c : Code} {Q : State → Prop} {D : va_G} {G : Nat → ClassId} {ad : Nat → Nat} {A : Nat → Prop} {z wE nE : Nat} {P : Nat → List Value → List Value → ev_W → Nat → Prop} {α : Type} {r : α} {fin : Option Value → ev_W → Nat → Option α} (X : ev_X cX10_init 1 yX10_init.cls none p s m args meth c D G ad A z) (hP : ev_PP p l e R s m args below meth c Q 1 D G ad A z wE nE P) (hR : wE - z ≤ R.cells ∧ nE ≤ R.slots) (hd2 : d + 3 ≤ R.frames ∧ 64 * (d + 3) ≤ R.locals) (hR1 : 1 ≤ R.frames) (hR2 : 21 ≤ R.locals) (hcf : ev_cf l ev_ys d cf) (hin2 : meth.name = "<init>") {Qc : Array Value → State → Outcome → State → Prop} (hQ : Q = MQ below Qc args s (wE - z) nE A) (hfin : ∀ v w n, fin v w n = some r → w.length = wE ∧ n = nE ∧ ∀ H locs, ev_H D G ad A w H → va_S A s.heap H locs → ∀ t : State, t.heap = H → s.WarmedH t.vm → Qc args s (.returned (v.map (ev_v ad))) t) : ev_all2 (ev_ok P r) 0 (ev_o31 cf fin) :=
  ev_b (
   ev_a (ok_ald_n X hP (by decide +kernel : decode cX10_init 0 = .ok (.aload_n 0, 1)) rfl rfl) <|
   ev_a (ok_obj X hP hR1 hR2 (by decide +kernel : decode cX10_init 1 = .ok (.invokespecial 1, 3)) ev_w114 ev_w115 ev_w116 rfl) <|
   ev_a (ok_no) <|
   ev_a (ok_no) <|
   ev_a (ok_ald_n X hP (by decide +kernel : decode cX10_init 4 = .ok (.aload_n 0, 1)) rfl rfl) <|
   ev_a (ok_new X hP hR (ci := 9) (N := 2) (T := TX4) tyX4 (by decide +kernel : decode cX10_init 5 = .ok (.new 7, 3)) rfl ev_in9 tyX4_ok ev_w117 ev_w118 ev_w72 (by decide +kernel) rfl ⟨rfl, by decide⟩ rfl) <|
   ev_a (ok_no) <|
   ev_a (ok_no) <|
   ev_a (ok_dup X hP (by decide +kernel : decode cX10_init 8 = .ok (.dup, 1)) rfl) <|
   ev_a (ok_invI X hP hR hd2 hcf ev_y62 (by decide +kernel : decode cX10_init 9 = .ok (.invokespecial 9, 3)) ev_w121 ev_w119 ev_w120 ev_w72 rfl ev_dn62 (by decide) rfl) <|
   ev_a (ok_no) <|
   ev_a (ok_no) <|
   ev_a (ok_putF X hP hin2 (ci := 15) (kf := 0) (T := TX10) tyX10 (by decide +kernel : decode cX10_init 12 = .ok (.putfield 10, 3)) rfl ev_in15 tyX10_ok nmX10 (by decide) ev_w348 (Or.inl rfl) rfl rfl rfl rfl) <|
   ev_a (ok_no) <|
   ev_a (ok_no) <|
   ev_a (ok_ald_n X hP (by decide +kernel : decode cX10_init 15 = .ok (.aload_n 0, 1)) rfl rfl) <| ev_a0) <|
  ev_b (
   ev_a (ok_new X hP hR (ci := 5) (N := 3) (T := TX0) tyX0 (by decide +kernel : decode cX10_init 16 = .ok (.new 16, 3)) rfl ev_in5 tyX0_ok ev_w137 ev_w138 ev_w73 (by decide +kernel) rfl ⟨rfl, by decide⟩ rfl) <|
   ev_a (ok_no) <|
   ev_a (ok_no) <|
   ev_a (ok_dup X hP (by decide +kernel : decode cX10_init 19 = .ok (.dup, 1)) rfl) <|
   ev_a (ok_invIN X hP hR hd2 hcf ev_y23 (by decide +kernel : decode cX10_init 20 = .ok (.invokespecial 18, 3)) ev_w141 ev_w139 ev_w140 ev_w73 rfl ev_dn23 (by decide) rfl) <|
   ev_a (ok_no) <|
   ev_a (ok_no) <|
   ev_a (ok_putF X hP hin2 (ci := 15) (kf := 1) (T := TX10) tyX10 (by decide +kernel : decode cX10_init 23 = .ok (.putfield 19, 3)) rfl ev_in15 tyX10_ok nmX10 (by decide) ev_w349 (Or.inl rfl) rfl rfl rfl rfl) <|
   ev_a (ok_no) <|
   ev_a (ok_no) <|
   ev_a (ok_ald_n X hP (by decide +kernel : decode cX10_init 26 = .ok (.aload_n 0, 1)) rfl rfl) <|
   ev_a (ok_new X hP hR (ci := 12) (N := 6) (T := TX7) tyX7 (by decide +kernel : decode cX10_init 27 = .ok (.new 23, 3)) rfl ev_in12 tyX7_ok ev_w157 ev_w158 ev_w74 (by decide +kernel) rfl ⟨rfl, by decide⟩ rfl) <|
   ev_a (ok_no) <|
   ev_a (ok_no) <|
   ev_a (ok_dup X hP (by decide +kernel : decode cX10_init 30 = .ok (.dup, 1)) rfl) <|
   ev_a (ok_invIN X hP hR hd2 hcf ev_y70 (by decide +kernel : decode cX10_init 31 = .ok (.invokespecial 25, 3)) ev_w161 ev_w159 ev_w160 ev_w74 rfl ev_dn70 (by decide) rfl) <| ev_a0) <|
  ev_b (
   ev_a (ok_no) <|
   ev_a (ok_no) <|
   ev_a (ok_putF X hP hin2 (ci := 15) (kf := 2) (T := TX10) tyX10 (by decide +kernel : decode cX10_init 34 = .ok (.putfield 26, 3)) rfl ev_in15 tyX10_ok nmX10 (by decide) ev_w350 (Or.inl rfl) rfl rfl rfl rfl) <|
   ev_a (ok_no) <|
   ev_a (ok_no) <|
   ev_a (ok_ald_n X hP (by decide +kernel : decode cX10_init 37 = .ok (.aload_n 0, 1)) rfl rfl) <|
   ev_a (ok_new X hP hR (ci := 12) (N := 6) (T := TX7) tyX7 (by decide +kernel : decode cX10_init 38 = .ok (.new 23, 3)) rfl ev_in12 tyX7_ok ev_w157 ev_w158 ev_w74 (by decide +kernel) rfl ⟨rfl, by decide⟩ rfl) <|
   ev_a (ok_no) <|
   ev_a (ok_no) <|
   ev_a (ok_dup X hP (by decide +kernel : decode cX10_init 41 = .ok (.dup, 1)) rfl) <|
   ev_a (ok_invIN X hP hR hd2 hcf ev_y70 (by decide +kernel : decode cX10_init 42 = .ok (.invokespecial 25, 3)) ev_w161 ev_w159 ev_w160 ev_w74 rfl ev_dn70 (by decide) rfl) <|
   ev_a (ok_no) <|
   ev_a (ok_no) <|
   ev_a (ok_putF X hP hin2 (ci := 15) (kf := 3) (T := TX10) tyX10 (by decide +kernel : decode cX10_init 45 = .ok (.putfield 30, 3)) rfl ev_in15 tyX10_ok nmX10 (by decide) ev_w351 (Or.inl rfl) rfl rfl rfl rfl) <|
   ev_a (ok_no) <|
   ev_a (ok_no) <| ev_a0) <|
  ev_b (
   ev_a (ok_ald_n X hP (by decide +kernel : decode cX10_init 48 = .ok (.aload_n 0, 1)) rfl rfl) <|
   ev_a (ok_new X hP hR (ci := 14) (N := 1) (T := TX9) tyX9 (by decide +kernel : decode cX10_init 49 = .ok (.new 33, 3)) rfl ev_in14 tyX9_ok ev_w188 ev_w189 ev_w75 (by decide +kernel) rfl ⟨rfl, by decide⟩ rfl) <|
   ev_a (ok_no) <|
   ev_a (ok_no) <|
   ev_a (ok_dup X hP (by decide +kernel : decode cX10_init 52 = .ok (.dup, 1)) rfl) <|
   ev_a (ok_invIN X hP hR hd2 hcf ev_y77 (by decide +kernel : decode cX10_init 53 = .ok (.invokespecial 35, 3)) ev_w192 ev_w190 ev_w191 ev_w75 rfl ev_dn77 (by decide) rfl) <|
   ev_a (ok_no) <|
   ev_a (ok_no) <|
   ev_a (ok_putF X hP hin2 (ci := 15) (kf := 4) (T := TX10) tyX10 (by decide +kernel : decode cX10_init 56 = .ok (.putfield 36, 3)) rfl ev_in15 tyX10_ok nmX10 (by decide) ev_w352 (Or.inl rfl) rfl rfl rfl rfl) <|
   ev_a (ok_no) <|
   ev_a (ok_no) <|
   ev_a (ok_ald_n X hP (by decide +kernel : decode cX10_init 59 = .ok (.aload_n 0, 1)) rfl rfl) <|
   ev_a (ok_new X hP hR (ci := 14) (N := 1) (T := TX9) tyX9 (by decide +kernel : decode cX10_init 60 = .ok (.new 33, 3)) rfl ev_in14 tyX9_ok ev_w188 ev_w189 ev_w75 (by decide +kernel) rfl ⟨rfl, by decide⟩ rfl) <|
   ev_a (ok_no) <|
   ev_a (ok_no) <|
   ev_a (ok_dup X hP (by decide +kernel : decode cX10_init 63 = .ok (.dup, 1)) rfl) <| ev_a0) <|
  ev_b (
   ev_a (ok_invIN X hP hR hd2 hcf ev_y77 (by decide +kernel : decode cX10_init 64 = .ok (.invokespecial 35, 3)) ev_w192 ev_w190 ev_w191 ev_w75 rfl ev_dn77 (by decide) rfl) <|
   ev_a (ok_no) <|
   ev_a (ok_no) <|
   ev_a (ok_putF X hP hin2 (ci := 15) (kf := 5) (T := TX10) tyX10 (by decide +kernel : decode cX10_init 67 = .ok (.putfield 40, 3)) rfl ev_in15 tyX10_ok nmX10 (by decide) ev_w353 (Or.inl rfl) rfl rfl rfl rfl) <|
   ev_a (ok_no) <|
   ev_a (ok_no) <|
   ev_a (ok_ald_n X hP (by decide +kernel : decode cX10_init 70 = .ok (.aload_n 0, 1)) rfl rfl) <|
   ev_a (ok_new X hP hR (ci := 13) (N := 4) (T := TX8) tyX8 (by decide +kernel : decode cX10_init 71 = .ok (.new 43, 3)) rfl ev_in13 tyX8_ok ev_w198 ev_w199 ev_w76 (by decide +kernel) rfl ⟨rfl, by decide⟩ rfl) <|
   ev_a (ok_no) <|
   ev_a (ok_no) <|
   ev_a (ok_dup X hP (by decide +kernel : decode cX10_init 74 = .ok (.dup, 1)) rfl) <|
   ev_a (ok_invIN X hP hR hd2 hcf ev_y74 (by decide +kernel : decode cX10_init 75 = .ok (.invokespecial 45, 3)) ev_w202 ev_w200 ev_w201 ev_w76 rfl ev_dn74 (by decide) rfl) <|
   ev_a (ok_no) <|
   ev_a (ok_no) <|
   ev_a (ok_putF X hP hin2 (ci := 15) (kf := 6) (T := TX10) tyX10 (by decide +kernel : decode cX10_init 78 = .ok (.putfield 46, 3)) rfl ev_in15 tyX10_ok nmX10 (by decide) ev_w354 (Or.inl rfl) rfl rfl rfl rfl) <|
   ev_a (ok_no) <| ev_a0) <|
  ev_b (
   ev_a (ok_no) <|
   ev_a (ok_ald_n X hP (by decide +kernel : decode cX10_init 81 = .ok (.aload_n 0, 1)) rfl rfl) <|
   ev_a (ok_new X hP hR (ci := 8) (N := 6) (T := TX3) tyX3 (by decide +kernel : decode cX10_init 82 = .ok (.new 50, 3)) rfl ev_in8 tyX3_ok ev_w223 ev_w224 ev_w77 (by decide +kernel) rfl ⟨rfl, by decide⟩ rfl) <|
   ev_a (ok_no) <|
   ev_a (ok_no) <|
   ev_a (ok_dup X hP (by decide +kernel : decode cX10_init 85 = .ok (.dup, 1)) rfl) <|
   ev_a (ok_invIN X hP hR hd2 hcf ev_y59 (by decide +kernel : decode cX10_init 86 = .ok (.invokespecial 52, 3)) ev_w227 ev_w225 ev_w226 ev_w77 rfl ev_dn59 (by decide) rfl) <|
   ev_a (ok_no) <|
   ev_a (ok_no) <|
   ev_a (ok_putF X hP hin2 (ci := 15) (kf := 7) (T := TX10) tyX10 (by decide +kernel : decode cX10_init 89 = .ok (.putfield 53, 3)) rfl ev_in15 tyX10_ok nmX10 (by decide) ev_w355 (Or.inl rfl) rfl rfl rfl rfl) <|
   ev_a (ok_no) <|
   ev_a (ok_no) <|
   ev_a (ok_ald_n X hP (by decide +kernel : decode cX10_init 92 = .ok (.aload_n 0, 1)) rfl rfl) <|
   ev_a (ok_new X hP hR (ci := 7) (N := 3) (T := TX2) tyX2 (by decide +kernel : decode cX10_init 93 = .ok (.new 57, 3)) rfl ev_in7 tyX2_ok ev_w272 ev_w273 ev_w79 (by decide +kernel) rfl ⟨rfl, by decide⟩ rfl) <|
   ev_a (ok_no) <|
   ev_a (ok_no) <| ev_a0) <|
  ev_b (
   ev_a (ok_dup X hP (by decide +kernel : decode cX10_init 96 = .ok (.dup, 1)) rfl) <|
   ev_a (ok_invIN X hP hR hd2 hcf ev_y58 (by decide +kernel : decode cX10_init 97 = .ok (.invokespecial 59, 3)) ev_w276 ev_w274 ev_w275 ev_w79 rfl ev_dn58 (by decide) rfl) <|
   ev_a (ok_no) <|
   ev_a (ok_no) <|
   ev_a (ok_putF X hP hin2 (ci := 15) (kf := 8) (T := TX10) tyX10 (by decide +kernel : decode cX10_init 100 = .ok (.putfield 60, 3)) rfl ev_in15 tyX10_ok nmX10 (by decide) ev_w356 (Or.inl rfl) rfl rfl rfl rfl) <|
   ev_a (ok_no) <|
   ev_a (ok_no) <|
   ev_a (ok_ald_n X hP (by decide +kernel : decode cX10_init 103 = .ok (.aload_n 0, 1)) rfl rfl) <|
   ev_a (ok_new X hP hR (ci := 7) (N := 3) (T := TX2) tyX2 (by decide +kernel : decode cX10_init 104 = .ok (.new 57, 3)) rfl ev_in7 tyX2_ok ev_w272 ev_w273 ev_w79 (by decide +kernel) rfl ⟨rfl, by decide⟩ rfl) <|
   ev_a (ok_no) <|
   ev_a (ok_no) <|
   ev_a (ok_dup X hP (by decide +kernel : decode cX10_init 107 = .ok (.dup, 1)) rfl) <|
   ev_a (ok_invIN X hP hR hd2 hcf ev_y58 (by decide +kernel : decode cX10_init 108 = .ok (.invokespecial 59, 3)) ev_w276 ev_w274 ev_w275 ev_w79 rfl ev_dn58 (by decide) rfl) <|
   ev_a (ok_no) <|
   ev_a (ok_no) <|
   ev_a (ok_putF X hP hin2 (ci := 15) (kf := 9) (T := TX10) tyX10 (by decide +kernel : decode cX10_init 111 = .ok (.putfield 64, 3)) rfl ev_in15 tyX10_ok nmX10 (by decide) ev_w357 (Or.inl rfl) rfl rfl rfl rfl) <| ev_a0) <|
  ev_b (
   ev_a (ok_no) <|
   ev_a (ok_no) <|
   ev_a (ok_ald_n X hP (by decide +kernel : decode cX10_init 114 = .ok (.aload_n 0, 1)) rfl rfl) <|
   ev_a (ok_new X hP hR (ci := 10) (N := 3) (T := TX5) tyX5 (by decide +kernel : decode cX10_init 115 = .ok (.new 67, 3)) rfl ev_in10 tyX5_ok ev_w290 ev_w291 ev_w80 (by decide +kernel) rfl ⟨rfl, by decide⟩ rfl) <|
   ev_a (ok_no) <|
   ev_a (ok_no) <|
   ev_a (ok_dup X hP (by decide +kernel : decode cX10_init 118 = .ok (.dup, 1)) rfl) <|
   ev_a (ok_invIN X hP hR hd2 hcf ev_y64 (by decide +kernel : decode cX10_init 119 = .ok (.invokespecial 69, 3)) ev_w294 ev_w292 ev_w293 ev_w80 rfl ev_dn64 (by decide) rfl) <|
   ev_a (ok_no) <|
   ev_a (ok_no) <|
   ev_a (ok_putF X hP hin2 (ci := 15) (kf := 10) (T := TX10) tyX10 (by decide +kernel : decode cX10_init 122 = .ok (.putfield 70, 3)) rfl ev_in15 tyX10_ok nmX10 (by decide) ev_w358 (Or.inl rfl) rfl rfl rfl rfl) <|
   ev_a (ok_no) <|
   ev_a (ok_no) <|
   ev_a (ok_ald_n X hP (by decide +kernel : decode cX10_init 125 = .ok (.aload_n 0, 1)) rfl rfl) <|
   ev_a (ok_new X hP hR (ci := 11) (N := 9) (T := TX6) tyX6 (by decide +kernel : decode cX10_init 126 = .ok (.new 74, 3)) rfl ev_in11 tyX6_ok ev_w309 ev_w310 ev_w81 (by decide +kernel) rfl ⟨rfl, by decide⟩ rfl) <|
   ev_a (ok_no) <| ev_a0) <|
  ev_b (
   ev_a (ok_no) <|
   ev_a (ok_dup X hP (by decide +kernel : decode cX10_init 129 = .ok (.dup, 1)) rfl) <|
   ev_a (ok_invIN X hP hR hd2 hcf ev_y65 (by decide +kernel : decode cX10_init 130 = .ok (.invokespecial 76, 3)) ev_w313 ev_w311 ev_w312 ev_w81 rfl ev_dn65 (by decide) rfl) <|
   ev_a (ok_no) <|
   ev_a (ok_no) <|
   ev_a (ok_putF X hP hin2 (ci := 15) (kf := 11) (T := TX10) tyX10 (by decide +kernel : decode cX10_init 133 = .ok (.putfield 77, 3)) rfl ev_in15 tyX10_ok nmX10 (by decide) ev_w359 (Or.inl rfl) rfl rfl rfl rfl) <|
   ev_a (ok_no) <|
   ev_a (ok_no) <|
   ev_a (ok_return X hP hQ hfin rfl (by decide +kernel : decode cX10_init 136 = .ok (.return_, 1))) <| ev_a0) <|
  ev_b0
set_option maxRecDepth 100000 in
theorem ev_s32 {l : Launch} {d : Nat} {cf : Nat → List Value → ev_W → Option ev_R} {p : Program} {e : Env} {R : Room} {s : State} {m : MethodId} {args : Array Value} {below : List Frame} {meth : Method} {c : Code} {Q : State → Prop} {D : va_G} {G : Nat → ClassId} {ad : Nat → Nat} {A : Nat → Prop} {z wE nE : Nat} {P : Nat → List Value → List Value → ev_W → Nat → Prop} {α : Type} {r : α} {fin : Option Value → ev_W → Nat → Option α} (X : ev_X cX10_isIn 2 yX10_isIn.cls (some FieldType.boolean) p s m args meth c D G ad A z) (hP : ev_PP p l e R s m args below meth c Q 2 D G ad A z wE nE P) (hR : wE - z ≤ R.cells ∧ nE ≤ R.slots) (hd2 : d + 3 ≤ R.frames ∧ 64 * (d + 3) ≤ R.locals) (hR1 : 1 ≤ R.frames) (hR2 : 21 ≤ R.locals) (hcf : ev_cf l ev_ys d cf) {Qc : Array Value → State → Outcome → State → Prop} (hQ : Q = MQ below Qc args s (wE - z) nE A) (hfin : ∀ v w n, fin v w n = some r → w.length = wE ∧ n = nE ∧ ∀ H locs, ev_H D G ad A w H → va_S A s.heap H locs → ∀ t : State, t.heap = H → s.WarmedH t.vm → Qc args s (.returned (v.map (ev_v ad))) t) : ev_all2 (ev_ok P r) 0 (ev_o32 cf fin) :=
  ev_b (
   ev_a (ok_ild_n X hP (by decide +kernel : decode cX10_isIn 0 = .ok (.iload_n 0, 1)) rfl rfl) <|
   ev_a (ok_ild_n X hP (by decide +kernel : decode cX10_isIn 1 = .ok (.iload_n 1, 1)) rfl rfl) <|
   ev_a (ok_ishr X hP (by decide +kernel : decode cX10_isIn 2 = .ok (.ishr, 1)) rfl) <|
   ev_a (ok_psh_iconst X hP (by decide +kernel : decode cX10_isIn 3 = .ok (.iconst 1, 1)) rfl) <|
   ev_a (ok_iand X hP (by decide +kernel : decode cX10_isIn 4 = .ok (.iand, 1)) rfl) <|
   ev_a (ok_if_eq X hP (by decide +kernel : decode cX10_isIn 5 = .ok (.ifCond .eq 7, 3)) (by decide) rfl) <|
   ev_a (ok_no) <|
   ev_a (ok_no) <|
   ev_a (ok_psh_iconst X hP (by decide +kernel : decode cX10_isIn 8 = .ok (.iconst 1, 1)) rfl) <|
   ev_a (ok_jmp X hP (by decide +kernel : decode cX10_isIn 9 = .ok (.goto 4, 3)) (by decide)) <|
   ev_a (ok_no) <|
   ev_a (ok_no) <|
   ev_a (ok_psh_iconst X hP (by decide +kernel : decode cX10_isIn 12 = .ok (.iconst 0, 1)) rfl) <|
   ev_a (ok_zreturn X hP hQ hfin rfl (by decide +kernel : decode cX10_isIn 13 = .ok (.ireturn, 1))) <| ev_a0) <|
  ev_b0
set_option maxRecDepth 100000 in
theorem ev_s33 {l : Launch} {d : Nat} {cf : Nat → List Value → ev_W → Option ev_R} {p : Program} {e : Env} {R : Room} {s : State} {m : MethodId} {args : Array Value} {below : List Frame} {meth : Method} {c : Code} {Q : State → Prop} {D : va_G} {G : Nat → ClassId} {ad : Nat → Nat} {A : Nat → Prop} {z wE nE : Nat} {P : Nat → List Value → List Value → ev_W → Nat → Prop} {α : Type} {r : α} {fin : Option Value → ev_W → Nat → Option α} (X : ev_X cX10_put 3 yX10_put.cls none p s m args meth c D G ad A z) (hP : ev_PP p l e R s m args below meth c Q 3 D G ad A z wE nE P) (hR : wE - z ≤ R.cells ∧ nE ≤ R.slots) (hd2 : d + 3 ≤ R.frames ∧ 64 * (d + 3) ≤ R.locals) (hR1 : 1 ≤ R.frames) (hR2 : 21 ≤ R.locals) (hcf : ev_cf l ev_ys d cf) {Qc : Array Value → State → Outcome → State → Prop} (hQ : Q = MQ below Qc args s (wE - z) nE A) (hfin : ∀ v w n, fin v w n = some r → w.length = wE ∧ n = nE ∧ ∀ H locs, ev_H D G ad A w H → va_S A s.heap H locs → ∀ t : State, t.heap = H → s.WarmedH t.vm → Qc args s (.returned (v.map (ev_v ad))) t) : ev_all2 (ev_ok P r) 0 (ev_o33 cf fin) :=
  ev_b (
   ev_a (ok_ild_n X hP (by decide +kernel : decode cX10_put 0 = .ok (.iload_n 1, 1)) rfl rfl) <|
   ev_a (ok_if_lt X hP (by decide +kernel : decode cX10_put 1 = .ok (.ifCond .lt 13, 3)) (by decide) rfl) <|
   ev_a (ok_no) <|
   ev_a (ok_no) <|
   ev_a (ok_ild_n X hP (by decide +kernel : decode cX10_put 4 = .ok (.iload_n 1, 1)) rfl rfl) <|
   ev_a (ok_ald_n X hP (by decide +kernel : decode cX10_put 5 = .ok (.aload_n 0, 1)) rfl rfl) <|
   ev_a (ok_aln X hP (by decide +kernel : decode cX10_put 6 = .ok (.arraylength, 1)) rfl) <|
   ev_a (ok_icmp_ge X hP (by decide +kernel : decode cX10_put 7 = .ok (.if_icmp .ge 7, 3)) (by decide) rfl) <|
   ev_a (ok_no) <|
   ev_a (ok_no) <|
   ev_a (ok_ald_n X hP (by decide +kernel : decode cX10_put 10 = .ok (.aload_n 0, 1)) rfl rfl) <|
   ev_a (ok_ild_n X hP (by decide +kernel : decode cX10_put 11 = .ok (.iload_n 1, 1)) rfl rfl) <|
   ev_a (ok_ild_n X hP (by decide +kernel : decode cX10_put 12 = .ok (.iload_n 2, 1)) rfl rfl) <|
   ev_a (ok_iastores X hP (by decide +kernel : decode cX10_put 13 = .ok (.iastore, 1)) rfl) <|
   ev_a (ok_return X hP hQ hfin rfl (by decide +kernel : decode cX10_put 14 = .ok (.return_, 1))) <| ev_a0) <|
  ev_b0
set_option maxRecDepth 100000 in
theorem ev_s34 {l : Launch} {d : Nat} {cf : Nat → List Value → ev_W → Option ev_R} {p : Program} {e : Env} {R : Room} {s : State} {m : MethodId} {args : Array Value} {below : List Frame} {meth : Method} {c : Code} {Q : State → Prop} {D : va_G} {G : Nat → ClassId} {ad : Nat → Nat} {A : Nat → Prop} {z wE nE : Nat} {P : Nat → List Value → List Value → ev_W → Nat → Prop} {α : Type} {r : α} {fin : Option Value → ev_W → Nat → Option α} (X : ev_X cX10_tell 3 yX10_tell.cls (some FieldType.int) p s m args meth c D G ad A z) (hP : ev_PP p l e R s m args below meth c Q 3 D G ad A z wE nE P) (hR : wE - z ≤ R.cells ∧ nE ≤ R.slots) (hd2 : d + 3 ≤ R.frames ∧ 64 * (d + 3) ≤ R.locals) (hR1 : 1 ≤ R.frames) (hR2 : 21 ≤ R.locals) (hcf : ev_cf l ev_ys d cf) {Qc : Array Value → State → Outcome → State → Prop} (hQ : Q = MQ below Qc args s (wE - z) nE A) (hfin : ∀ v w n, fin v w n = some r → w.length = wE ∧ n = nE ∧ ∀ H locs, ev_H D G ad A w H → va_S A s.heap H locs → ∀ t : State, t.heap = H → s.WarmedH t.vm → Qc args s (.returned (v.map (ev_v ad))) t) : ev_all2 (ev_ok P r) 0 (ev_o34 cf fin) :=
  ev_b (
   ev_a (ok_ild_n X hP (by decide +kernel : decode cX10_tell 0 = .ok (.iload_n 1, 1)) rfl rfl) <|
   ev_a (ok_invS X hP hR hd2 hcf ev_y27 (by decide +kernel : decode cX10_tell 1 = .ok (.invokestatic 81, 3)) ev_w789 ev_w787 ev_w788 ev_w71 ev_dn27 (by decide) rfl) <|
   ev_a (ok_no) <|
   ev_a (ok_no) <|
   ev_a (ok_ild_n X hP (by decide +kernel : decode cX10_tell 4 = .ok (.iload_n 2, 1)) rfl rfl) <|
   ev_a (ok_psh_iconst X hP (by decide +kernel : decode cX10_tell 5 = .ok (.iconst 1, 1)) rfl) <|
   ev_a (ok_icmp_lt X hP (by decide +kernel : decode cX10_tell 6 = .ok (.if_icmp .lt 9, 3)) (by decide) rfl) <|
   ev_a (ok_no) <|
   ev_a (ok_no) <|
   ev_a (ok_ild_n X hP (by decide +kernel : decode cX10_tell 9 = .ok (.iload_n 2, 1)) rfl rfl) <|
   ev_a (ok_psh_bipush X hP (by decide +kernel : decode cX10_tell 10 = .ok (.bipush 9, 2)) rfl) <|
   ev_a (ok_no) <|
   ev_a (ok_icmp_le X hP (by decide +kernel : decode cX10_tell 12 = .ok (.if_icmp .le 13, 3)) (by decide) rfl) <|
   ev_a (ok_no) <|
   ev_a (ok_no) <|
   ev_a (ok_no) <| ev_a0) <|
  ev_b (
   ev_a (ok_no) <|
   ev_a (ok_no) <|
   ev_a (ok_dup X hP (by decide +kernel : decode cX10_tell 18 = .ok (.dup, 1)) rfl) <|
   ev_a (ok_no) <|
   ev_a (ok_no) <|
   ev_a (ok_no) <|
   ev_a (ok_no) <|
   ev_a (ok_no) <|
   ev_a (ok_no) <|
   ev_a (ok_ald_n X hP (by decide +kernel : decode cX10_tell 25 = .ok (.aload_n 0, 1)) rfl rfl) <|
   ev_a (ok_invV X hP hR hd2 hcf (ci := 15) ev_y26 rfl (by decide +kernel : decode cX10_tell 26 = .ok (.invokevirtual 92, 3)) ev_w862 ev_w859 ev_w861 ev_w34 ev_w71 ⟨rfl, ev_dn26⟩ (by decide) rfl) <|
   ev_a (ok_no) <|
   ev_a (ok_no) <|
   ev_a (ok_ald_n X hP (by decide +kernel : decode cX10_tell 29 = .ok (.aload_n 0, 1)) rfl rfl) <|
   ev_a (ok_get X hP (ci := 15) (kf := 1) (T := TX10) (by decide +kernel : decode cX10_tell 30 = .ok (.getfield 19, 3)) rfl ev_in15 (by decide) ev_w349 (Or.inl rfl) rfl) <|
   ev_a (ok_no) <| ev_a0) <|
  ev_b (
   ev_a (ok_no) <|
   ev_a (ok_ild_n X hP (by decide +kernel : decode cX10_tell 33 = .ok (.iload_n 1, 1)) rfl rfl) <|
   ev_a (ok_ild_n X hP (by decide +kernel : decode cX10_tell 34 = .ok (.iload_n 2, 1)) rfl rfl) <|
   ev_a (ok_invV X hP hR hd2 hcf (ci := 5) ev_y21 rfl (by decide +kernel : decode cX10_tell 35 = .ok (.invokevirtual 95, 3)) ev_w882 ev_w879 ev_w880 ev_w881 ev_w73 ⟨rfl, ev_dn21⟩ (by decide) rfl) <|
   ev_a (ok_no) <|
   ev_a (ok_no) <|
   ev_a (ok_ireturn X hP hQ hfin rfl (by decide +kernel : decode cX10_tell 38 = .ok (.ireturn, 1))) <| ev_a0) <|
  ev_b0
set_option maxRecDepth 100000 in
theorem ev_s35 {l : Launch} {d : Nat} {cf : Nat → List Value → ev_W → Option ev_R} {p : Program} {e : Env} {R : Room} {s : State} {m : MethodId} {args : Array Value} {below : List Frame} {meth : Method} {c : Code} {Q : State → Prop} {D : va_G} {G : Nat → ClassId} {ad : Nat → Nat} {A : Nat → Prop} {z wE nE : Nat} {P : Nat → List Value → List Value → ev_W → Nat → Prop} {α : Type} {r : α} {fin : Option Value → ev_W → Nat → Option α} (X : ev_X cX10_toldChanged 1 yX10_toldChanged.cls none p s m args meth c D G ad A z) (hP : ev_PP p l e R s m args below meth c Q 1 D G ad A z wE nE P) (hR : wE - z ≤ R.cells ∧ nE ≤ R.slots) (hd2 : d + 3 ≤ R.frames ∧ 64 * (d + 3) ≤ R.locals) (hR1 : 1 ≤ R.frames) (hR2 : 21 ≤ R.locals) (hcf : ev_cf l ev_ys d cf) {Qc : Array Value → State → Outcome → State → Prop} (hQ : Q = MQ below Qc args s (wE - z) nE A) (hfin : ∀ v w n, fin v w n = some r → w.length = wE ∧ n = nE ∧ ∀ H locs, ev_H D G ad A w H → va_S A s.heap H locs → ∀ t : State, t.heap = H → s.WarmedH t.vm → Qc args s (.returned (v.map (ev_v ad))) t) : ev_all2 (ev_ok P r) 0 (ev_o35 cf fin) :=
  ev_b (
   ev_a (ok_ald_n X hP (by decide +kernel : decode cX10_toldChanged 0 = .ok (.aload_n 0, 1)) rfl rfl) <|
   ev_a (ok_get X hP (ci := 15) (kf := 4) (T := TX10) (by decide +kernel : decode cX10_toldChanged 1 = .ok (.getfield 36, 3)) rfl ev_in15 (by decide) ev_w352 (Or.inl rfl) rfl) <|
   ev_a (ok_no) <|
   ev_a (ok_no) <|
   ev_a (ok_ald_n X hP (by decide +kernel : decode cX10_toldChanged 4 = .ok (.aload_n 0, 1)) rfl rfl) <|
   ev_a (ok_get X hP (ci := 15) (kf := 2) (T := TX10) (by decide +kernel : decode cX10_toldChanged 5 = .ok (.getfield 26, 3)) rfl ev_in15 (by decide) ev_w350 (Or.inl rfl) rfl) <|
   ev_a (ok_no) <|
   ev_a (ok_no) <|
   ev_a (ok_ald_n X hP (by decide +kernel : decode cX10_toldChanged 8 = .ok (.aload_n 0, 1)) rfl rfl) <|
   ev_a (ok_get X hP (ci := 15) (kf := 12) (T := TX10) (by decide +kernel : decode cX10_toldChanged 9 = .ok (.getfield 103, 3)) rfl ev_in15 (by decide) ev_w360 (Or.inl rfl) rfl) <|
   ev_a (ok_no) <|
   ev_a (ok_no) <|
   ev_a (ok_invV X hP hR hd2 hcf (ci := 14) ev_y76 rfl (by decide +kernel : decode cX10_toldChanged 12 = .ok (.invokevirtual 212, 3)) ev_w452 ev_w449 ev_w450 ev_w451 ev_w75 ⟨rfl, ev_dn76⟩ (by decide) rfl) <|
   ev_a (ok_no) <|
   ev_a (ok_no) <|
   ev_a (ok_ald_n X hP (by decide +kernel : decode cX10_toldChanged 15 = .ok (.aload_n 0, 1)) rfl rfl) <| ev_a0) <|
  ev_b (
   ev_a (ok_psh_iconst X hP (by decide +kernel : decode cX10_toldChanged 16 = .ok (.iconst 0, 1)) rfl) <|
   ev_a (ok_put X hP (ci := 15) (kf := 14) (T := TX10) tyX10 (by decide +kernel : decode cX10_toldChanged 17 = .ok (.putfield 306, 3)) rfl ev_in15 tyX10_ok nmX10 (by decide) ev_w362 (Or.inl rfl) rfl rfl rfl) <|
   ev_a (ok_no) <|
   ev_a (ok_no) <|
   ev_a (ok_ald_n X hP (by decide +kernel : decode cX10_toldChanged 20 = .ok (.aload_n 0, 1)) rfl rfl) <|
   ev_a (ok_psh_iconst X hP (by decide +kernel : decode cX10_toldChanged 21 = .ok (.iconst 0, 1)) rfl) <|
   ev_a (ok_put X hP (ci := 15) (kf := 15) (T := TX10) tyX10 (by decide +kernel : decode cX10_toldChanged 22 = .ok (.putfield 188, 3)) rfl ev_in15 tyX10_ok nmX10 (by decide) ev_w363 (Or.inl rfl) rfl rfl rfl) <|
   ev_a (ok_no) <|
   ev_a (ok_no) <|
   ev_a (ok_return X hP hQ hfin rfl (by decide +kernel : decode cX10_toldChanged 25 = .ok (.return_, 1))) <| ev_a0) <|
  ev_b0
set_option maxRecDepth 100000 in
theorem ev_s36 {l : Launch} {d : Nat} {cf : Nat → List Value → ev_W → Option ev_R} {p : Program} {e : Env} {R : Room} {s : State} {m : MethodId} {args : Array Value} {below : List Frame} {meth : Method} {c : Code} {Q : State → Prop} {D : va_G} {G : Nat → ClassId} {ad : Nat → Nat} {A : Nat → Prop} {z wE nE : Nat} {P : Nat → List Value → List Value → ev_W → Nat → Prop} {α : Type} {r : α} {fin : Option Value → ev_W → Nat → Option α} (X : ev_X cX10_tryBatch 1 yX10_tryBatch.cls none p s m args meth c D G ad A z) (hP : ev_PP p l e R s m args below meth c Q 1 D G ad A z wE nE P) (hR : wE - z ≤ R.cells ∧ nE ≤ R.slots) (hd2 : d + 3 ≤ R.frames ∧ 64 * (d + 3) ≤ R.locals) (hR1 : 1 ≤ R.frames) (hR2 : 21 ≤ R.locals) (hcf : ev_cf l ev_ys d cf) {Qc : Array Value → State → Outcome → State → Prop} (hQ : Q = MQ below Qc args s (wE - z) nE A) (hfin : ∀ v w n, fin v w n = some r → w.length = wE ∧ n = nE ∧ ∀ H locs, ev_H D G ad A w H → va_S A s.heap H locs → ∀ t : State, t.heap = H → s.WarmedH t.vm → Qc args s (.returned (v.map (ev_v ad))) t) : ev_all2 (ev_ok P r) 0 (ev_o36 cf fin) :=
  ev_b (
   ev_a (ok_ald_n X hP (by decide +kernel : decode cX10_tryBatch 0 = .ok (.aload_n 0, 1)) rfl rfl) <|
   ev_a (ok_get X hP (ci := 15) (kf := 3) (T := TX10) (by decide +kernel : decode cX10_tryBatch 1 = .ok (.getfield 30, 3)) rfl ev_in15 (by decide) ev_w351 (Or.inl rfl) rfl) <|
   ev_a (ok_no) <|
   ev_a (ok_no) <|
   ev_a (ok_ald_n X hP (by decide +kernel : decode cX10_tryBatch 4 = .ok (.aload_n 0, 1)) rfl rfl) <|
   ev_a (ok_get X hP (ci := 15) (kf := 2) (T := TX10) (by decide +kernel : decode cX10_tryBatch 5 = .ok (.getfield 26, 3)) rfl ev_in15 (by decide) ev_w350 (Or.inl rfl) rfl) <|
   ev_a (ok_no) <|
   ev_a (ok_no) <|
   ev_a (ok_invV X hP hR hd2 hcf (ci := 12) ev_y67 rfl (by decide +kernel : decode cX10_tryBatch 8 = .ok (.invokevirtual 126, 3)) ev_w663 ev_w660 ev_w661 ev_w662 ev_w74 ⟨rfl, ev_dn67⟩ (by decide) rfl) <|
   ev_a (ok_no) <|
   ev_a (ok_no) <|
   ev_a (ok_ald_n X hP (by decide +kernel : decode cX10_tryBatch 11 = .ok (.aload_n 0, 1)) rfl rfl) <|
   ev_a (ok_get X hP (ci := 15) (kf := 3) (T := TX10) (by decide +kernel : decode cX10_tryBatch 12 = .ok (.getfield 30, 3)) rfl ev_in15 (by decide) ev_w351 (Or.inl rfl) rfl) <|
   ev_a (ok_no) <|
   ev_a (ok_no) <|
   ev_a (ok_ald_n X hP (by decide +kernel : decode cX10_tryBatch 15 = .ok (.aload_n 0, 1)) rfl rfl) <| ev_a0) <|
  ev_b (
   ev_a (ok_get X hP (ci := 15) (kf := 1) (T := TX10) (by decide +kernel : decode cX10_tryBatch 16 = .ok (.getfield 19, 3)) rfl ev_in15 (by decide) ev_w349 (Or.inl rfl) rfl) <|
   ev_a (ok_no) <|
   ev_a (ok_no) <|
   ev_a (ok_ald_n X hP (by decide +kernel : decode cX10_tryBatch 19 = .ok (.aload_n 0, 1)) rfl rfl) <|
   ev_a (ok_get X hP (ci := 15) (kf := 12) (T := TX10) (by decide +kernel : decode cX10_tryBatch 20 = .ok (.getfield 103, 3)) rfl ev_in15 (by decide) ev_w360 (Or.inl rfl) rfl) <|
   ev_a (ok_no) <|
   ev_a (ok_no) <|
   ev_a (ok_psh_iconst X hP (by decide +kernel : decode cX10_tryBatch 23 = .ok (.iconst 1, 1)) rfl) <|
   ev_a (ok_iadd X hP (by decide +kernel : decode cX10_tryBatch 24 = .ok (.iadd, 1)) rfl) <|
   ev_a (ok_ald_n X hP (by decide +kernel : decode cX10_tryBatch 25 = .ok (.aload_n 0, 1)) rfl rfl) <|
   ev_a (ok_get X hP (ci := 15) (kf := 0) (T := TX10) (by decide +kernel : decode cX10_tryBatch 26 = .ok (.getfield 10, 3)) rfl ev_in15 (by decide) ev_w348 (Or.inl rfl) rfl) <|
   ev_a (ok_no) <|
   ev_a (ok_no) <|
   ev_a (ok_invV X hP hR hd2 hcf (ci := 12) ev_y73 rfl (by decide +kernel : decode cX10_tryBatch 29 = .ok (.invokevirtual 321, 3)) ev_w668 ev_w665 ev_w666 ev_w667 ev_w74 ⟨rfl, ev_dn73⟩ (by decide) rfl) <|
   ev_a (ok_no) <|
   ev_a (ok_no) <| ev_a0) <|
  ev_b (
   ev_a (ok_ald_n X hP (by decide +kernel : decode cX10_tryBatch 32 = .ok (.aload_n 0, 1)) rfl rfl) <|
   ev_a (ok_get X hP (ci := 15) (kf := 5) (T := TX10) (by decide +kernel : decode cX10_tryBatch 33 = .ok (.getfield 40, 3)) rfl ev_in15 (by decide) ev_w353 (Or.inl rfl) rfl) <|
   ev_a (ok_no) <|
   ev_a (ok_no) <|
   ev_a (ok_ald_n X hP (by decide +kernel : decode cX10_tryBatch 36 = .ok (.aload_n 0, 1)) rfl rfl) <|
   ev_a (ok_get X hP (ci := 15) (kf := 3) (T := TX10) (by decide +kernel : decode cX10_tryBatch 37 = .ok (.getfield 30, 3)) rfl ev_in15 (by decide) ev_w351 (Or.inl rfl) rfl) <|
   ev_a (ok_no) <|
   ev_a (ok_no) <|
   ev_a (ok_ald_n X hP (by decide +kernel : decode cX10_tryBatch 40 = .ok (.aload_n 0, 1)) rfl rfl) <|
   ev_a (ok_get X hP (ci := 15) (kf := 12) (T := TX10) (by decide +kernel : decode cX10_tryBatch 41 = .ok (.getfield 103, 3)) rfl ev_in15 (by decide) ev_w360 (Or.inl rfl) rfl) <|
   ev_a (ok_no) <|
   ev_a (ok_no) <|
   ev_a (ok_psh_iconst X hP (by decide +kernel : decode cX10_tryBatch 44 = .ok (.iconst 1, 1)) rfl) <|
   ev_a (ok_iadd X hP (by decide +kernel : decode cX10_tryBatch 45 = .ok (.iadd, 1)) rfl) <|
   ev_a (ok_invV X hP hR hd2 hcf (ci := 14) ev_y76 rfl (by decide +kernel : decode cX10_tryBatch 46 = .ok (.invokevirtual 212, 3)) ev_w452 ev_w449 ev_w450 ev_w451 ev_w75 ⟨rfl, ev_dn76⟩ (by decide) rfl) <|
   ev_a (ok_no) <| ev_a0) <|
  ev_b (
   ev_a (ok_no) <|
   ev_a (ok_return X hP hQ hfin rfl (by decide +kernel : decode cX10_tryBatch 49 = .ok (.return_, 1))) <| ev_a0) <|
  ev_b0
set_option maxRecDepth 100000 in
theorem ev_s37 {l : Launch} {d : Nat} {cf : Nat → List Value → ev_W → Option ev_R} {p : Program} {e : Env} {R : Room} {s : State} {m : MethodId} {args : Array Value} {below : List Frame} {meth : Method} {c : Code} {Q : State → Prop} {D : va_G} {G : Nat → ClassId} {ad : Nat → Nat} {A : Nat → Prop} {z wE nE : Nat} {P : Nat → List Value → List Value → ev_W → Nat → Prop} {α : Type} {r : α} {fin : Option Value → ev_W → Nat → Option α} (X : ev_X cX10_unsay 2 yX10_unsay.cls (some FieldType.int) p s m args meth c D G ad A z) (hP : ev_PP p l e R s m args below meth c Q 2 D G ad A z wE nE P) (hR : wE - z ≤ R.cells ∧ nE ≤ R.slots) (hd2 : d + 3 ≤ R.frames ∧ 64 * (d + 3) ≤ R.locals) (hR1 : 1 ≤ R.frames) (hR2 : 21 ≤ R.locals) (hcf : ev_cf l ev_ys d cf) {Qc : Array Value → State → Outcome → State → Prop} (hQ : Q = MQ below Qc args s (wE - z) nE A) (hfin : ∀ v w n, fin v w n = some r → w.length = wE ∧ n = nE ∧ ∀ H locs, ev_H D G ad A w H → va_S A s.heap H locs → ∀ t : State, t.heap = H → s.WarmedH t.vm → Qc args s (.returned (v.map (ev_v ad))) t) : ev_all2 (ev_ok P r) 0 (ev_o37 cf fin) :=
  ev_b (
   ev_a (ok_ild_n X hP (by decide +kernel : decode cX10_unsay 0 = .ok (.iload_n 1, 1)) rfl rfl) <|
   ev_a (ok_invS X hP hR hd2 hcf ev_y27 (by decide +kernel : decode cX10_unsay 1 = .ok (.invokestatic 81, 3)) ev_w789 ev_w787 ev_w788 ev_w71 ev_dn27 (by decide) rfl) <|
   ev_a (ok_no) <|
   ev_a (ok_no) <|
   ev_a (ok_ald_n X hP (by decide +kernel : decode cX10_unsay 4 = .ok (.aload_n 0, 1)) rfl rfl) <|
   ev_a (ok_invV X hP hR hd2 hcf (ci := 15) ev_y26 rfl (by decide +kernel : decode cX10_unsay 5 = .ok (.invokevirtual 92, 3)) ev_w862 ev_w859 ev_w861 ev_w34 ev_w71 ⟨rfl, ev_dn26⟩ (by decide) rfl) <|
   ev_a (ok_no) <|
   ev_a (ok_no) <|
   ev_a (ok_ald_n X hP (by decide +kernel : decode cX10_unsay 8 = .ok (.aload_n 0, 1)) rfl rfl) <|
   ev_a (ok_get X hP (ci := 15) (kf := 1) (T := TX10) (by decide +kernel : decode cX10_unsay 9 = .ok (.getfield 19, 3)) rfl ev_in15 (by decide) ev_w349 (Or.inl rfl) rfl) <|
   ev_a (ok_no) <|
   ev_a (ok_no) <|
   ev_a (ok_ild_n X hP (by decide +kernel : decode cX10_unsay 12 = .ok (.iload_n 1, 1)) rfl rfl) <|
   ev_a (ok_psh_iconst X hP (by decide +kernel : decode cX10_unsay 13 = .ok (.iconst 0, 1)) rfl) <|
   ev_a (ok_invV X hP hR hd2 hcf (ci := 5) ev_y21 rfl (by decide +kernel : decode cX10_unsay 14 = .ok (.invokevirtual 95, 3)) ev_w882 ev_w879 ev_w880 ev_w881 ev_w73 ⟨rfl, ev_dn21⟩ (by decide) rfl) <|
   ev_a (ok_no) <| ev_a0) <|
  ev_b (
   ev_a (ok_no) <|
   ev_a (ok_ireturn X hP hQ hfin rfl (by decide +kernel : decode cX10_unsay 17 = .ok (.ireturn, 1))) <| ev_a0) <|
  ev_b0
set_option maxRecDepth 100000 in
theorem ev_s38 {l : Launch} {d : Nat} {cf : Nat → List Value → ev_W → Option ev_R} {p : Program} {e : Env} {R : Room} {s : State} {m : MethodId} {args : Array Value} {below : List Frame} {meth : Method} {c : Code} {Q : State → Prop} {D : va_G} {G : Nat → ClassId} {ad : Nat → Nat} {A : Nat → Prop} {z wE nE : Nat} {P : Nat → List Value → List Value → ev_W → Nat → Prop} {α : Type} {r : α} {fin : Option Value → ev_W → Nat → Option α} (X : ev_X cX11_init 1 yX11_init.cls none p s m args meth c D G ad A z) (hP : ev_PP p l e R s m args below meth c Q 1 D G ad A z wE nE P) (hR : wE - z ≤ R.cells ∧ nE ≤ R.slots) (hd2 : d + 3 ≤ R.frames ∧ 64 * (d + 3) ≤ R.locals) (hR1 : 1 ≤ R.frames) (hR2 : 21 ≤ R.locals) (hcf : ev_cf l ev_ys d cf) {Qc : Array Value → State → Outcome → State → Prop} (hQ : Q = MQ below Qc args s (wE - z) nE A) (hfin : ∀ v w n, fin v w n = some r → w.length = wE ∧ n = nE ∧ ∀ H locs, ev_H D G ad A w H → va_S A s.heap H locs → ∀ t : State, t.heap = H → s.WarmedH t.vm → Qc args s (.returned (v.map (ev_v ad))) t) : ev_all2 (ev_ok P r) 0 (ev_o38 cf fin) :=
  ev_b (
   ev_a (ok_ald_n X hP (by decide +kernel : decode cX11_init 0 = .ok (.aload_n 0, 1)) rfl rfl) <|
   ev_a (ok_obj X hP hR1 hR2 (by decide +kernel : decode cX11_init 1 = .ok (.invokespecial 1, 3)) ev_w770 ev_w115 ev_w116 rfl) <|
   ev_a (ok_no) <|
   ev_a (ok_no) <|
   ev_a (ok_return X hP hQ hfin rfl (by decide +kernel : decode cX11_init 4 = .ok (.return_, 1))) <| ev_a0) <|
  ev_b0
set_option maxRecDepth 100000 in
theorem ev_s39 {l : Launch} {d : Nat} {cf : Nat → List Value → ev_W → Option ev_R} {p : Program} {e : Env} {R : Room} {s : State} {m : MethodId} {args : Array Value} {below : List Frame} {meth : Method} {c : Code} {Q : State → Prop} {D : va_G} {G : Nat → ClassId} {ad : Nat → Nat} {A : Nat → Prop} {z wE nE : Nat} {P : Nat → List Value → List Value → ev_W → Nat → Prop} {α : Type} {r : α} {fin : Option Value → ev_W → Nat → Option α} (X : ev_X cX12_holds 2 yX12_holds.cls (some FieldType.boolean) p s m args meth c D G ad A z) (hP : ev_PP p l e R s m args below meth c Q 2 D G ad A z wE nE P) (hR : wE - z ≤ R.cells ∧ nE ≤ R.slots) (hd2 : d + 3 ≤ R.frames ∧ 64 * (d + 3) ≤ R.locals) (hR1 : 1 ≤ R.frames) (hR2 : 21 ≤ R.locals) (hcf : ev_cf l ev_ys d cf) {Qc : Array Value → State → Outcome → State → Prop} (hQ : Q = MQ below Qc args s (wE - z) nE A) (hfin : ∀ v w n, fin v w n = some r → w.length = wE ∧ n = nE ∧ ∀ H locs, ev_H D G ad A w H → va_S A s.heap H locs → ∀ t : State, t.heap = H → s.WarmedH t.vm → Qc args s (.returned (v.map (ev_v ad))) t) : ev_all2 (ev_ok P r) 0 (ev_o39 cf fin) :=
  ev_b (
   ev_a (ok_ald_n X hP (by decide +kernel : decode cX12_holds 0 = .ok (.aload_n 0, 1)) rfl rfl) <|
   ev_a (ok_get X hP (ci := 17) (kf := 2) (T := TX12) (by decide +kernel : decode cX12_holds 1 = .ok (.getfield 15, 3)) rfl ev_in17 (by decide) ev_w1573 (Or.inl rfl) rfl) <|
   ev_a (ok_no) <|
   ev_a (ok_no) <|
   ev_a (ok_ild_n X hP (by decide +kernel : decode cX12_holds 4 = .ok (.iload_n 1, 1)) rfl rfl) <|
   ev_a (ok_icmp_gt X hP (by decide +kernel : decode cX12_holds 5 = .ok (.if_icmp .gt 15, 3)) (by decide) rfl) <|
   ev_a (ok_no) <|
   ev_a (ok_no) <|
   ev_a (ok_ild_n X hP (by decide +kernel : decode cX12_holds 8 = .ok (.iload_n 1, 1)) rfl rfl) <|
   ev_a (ok_ald_n X hP (by decide +kernel : decode cX12_holds 9 = .ok (.aload_n 0, 1)) rfl rfl) <|
   ev_a (ok_get X hP (ci := 17) (kf := 3) (T := TX12) (by decide +kernel : decode cX12_holds 10 = .ok (.getfield 9, 3)) rfl ev_in17 (by decide) ev_w1575 (Or.inl rfl) rfl) <|
   ev_a (ok_no) <|
   ev_a (ok_no) <|
   ev_a (ok_icmp_ge X hP (by decide +kernel : decode cX12_holds 13 = .ok (.if_icmp .ge 7, 3)) (by decide) rfl) <|
   ev_a (ok_no) <|
   ev_a (ok_no) <| ev_a0) <|
  ev_b (
   ev_a (ok_psh_iconst X hP (by decide +kernel : decode cX12_holds 16 = .ok (.iconst 1, 1)) rfl) <|
   ev_a (ok_jmp X hP (by decide +kernel : decode cX12_holds 17 = .ok (.goto 4, 3)) (by decide)) <|
   ev_a (ok_no) <|
   ev_a (ok_no) <|
   ev_a (ok_psh_iconst X hP (by decide +kernel : decode cX12_holds 20 = .ok (.iconst 0, 1)) rfl) <|
   ev_a (ok_zreturn X hP hQ hfin rfl (by decide +kernel : decode cX12_holds 21 = .ok (.ireturn, 1))) <| ev_a0) <|
  ev_b0
set_option maxRecDepth 100000 in
theorem ev_s40 {l : Launch} {d : Nat} {cf : Nat → List Value → ev_W → Option ev_R} {p : Program} {e : Env} {R : Room} {s : State} {m : MethodId} {args : Array Value} {below : List Frame} {meth : Method} {c : Code} {Q : State → Prop} {D : va_G} {G : Nat → ClassId} {ad : Nat → Nat} {A : Nat → Prop} {z wE nE : Nat} {P : Nat → List Value → List Value → ev_W → Nat → Prop} {α : Type} {r : α} {fin : Option Value → ev_W → Nat → Option α} (X : ev_X cX12_init 1 yX12_init.cls none p s m args meth c D G ad A z) (hP : ev_PP p l e R s m args below meth c Q 1 D G ad A z wE nE P) (hR : wE - z ≤ R.cells ∧ nE ≤ R.slots) (hd2 : d + 3 ≤ R.frames ∧ 64 * (d + 3) ≤ R.locals) (hR1 : 1 ≤ R.frames) (hR2 : 21 ≤ R.locals) (hcf : ev_cf l ev_ys d cf) {Qc : Array Value → State → Outcome → State → Prop} (hQ : Q = MQ below Qc args s (wE - z) nE A) (hfin : ∀ v w n, fin v w n = some r → w.length = wE ∧ n = nE ∧ ∀ H locs, ev_H D G ad A w H → va_S A s.heap H locs → ∀ t : State, t.heap = H → s.WarmedH t.vm → Qc args s (.returned (v.map (ev_v ad))) t) : ev_all2 (ev_ok P r) 0 (ev_o40 cf fin) :=
  ev_b (
   ev_a (ok_ald_n X hP (by decide +kernel : decode cX12_init 0 = .ok (.aload_n 0, 1)) rfl rfl) <|
   ev_a (ok_obj X hP hR1 hR2 (by decide +kernel : decode cX12_init 1 = .ok (.invokespecial 3, 3)) ev_w1570 ev_w115 ev_w116 rfl) <|
   ev_a (ok_no) <|
   ev_a (ok_no) <|
   ev_a (ok_ald_n X hP (by decide +kernel : decode cX12_init 4 = .ok (.aload_n 0, 1)) rfl rfl) <|
   ev_a (ok_psh_sipush X hP (by decide +kernel : decode cX12_init 5 = .ok (.sipush 1000, 3)) rfl) <|
   ev_a (ok_no) <|
   ev_a (ok_no) <|
   ev_a (ok_put X hP (ci := 17) (kf := 3) (T := TX12) tyX12 (by decide +kernel : decode cX12_init 8 = .ok (.putfield 9, 3)) rfl ev_in17 tyX12_ok nmX12 (by decide) ev_w1575 (Or.inl rfl) rfl rfl rfl) <|
   ev_a (ok_no) <|
   ev_a (ok_no) <|
   ev_a (ok_return X hP hQ hfin rfl (by decide +kernel : decode cX12_init 11 = .ok (.return_, 1))) <| ev_a0) <|
  ev_b0
set_option maxRecDepth 100000 in
theorem ev_s41 {l : Launch} {d : Nat} {cf : Nat → List Value → ev_W → Option ev_R} {p : Program} {e : Env} {R : Room} {s : State} {m : MethodId} {args : Array Value} {below : List Frame} {meth : Method} {c : Code} {Q : State → Prop} {D : va_G} {G : Nat → ClassId} {ad : Nat → Nat} {A : Nat → Prop} {z wE nE : Nat} {P : Nat → List Value → List Value → ev_W → Nat → Prop} {α : Type} {r : α} {fin : Option Value → ev_W → Nat → Option α} (X : ev_X cX13_broken 10 yX13_broken.cls (some FieldType.int) p s m args meth c D G ad A z) (hP : ev_PP p l e R s m args below meth c Q 10 D G ad A z wE nE P) (hR : wE - z ≤ R.cells ∧ nE ≤ R.slots) (hd2 : d + 3 ≤ R.frames ∧ 64 * (d + 3) ≤ R.locals) (hR1 : 1 ≤ R.frames) (hR2 : 21 ≤ R.locals) (hcf : ev_cf l ev_ys d cf) {Qc : Array Value → State → Outcome → State → Prop} (hQ : Q = MQ below Qc args s (wE - z) nE A) (hfin : ∀ v w n, fin v w n = some r → w.length = wE ∧ n = nE ∧ ∀ H locs, ev_H D G ad A w H → va_S A s.heap H locs → ∀ t : State, t.heap = H → s.WarmedH t.vm → Qc args s (.returned (v.map (ev_v ad))) t) : ev_all2 (ev_ok P r) 0 (ev_o41 cf fin) :=
  ev_b (
   ev_a (ok_ald_n X hP (by decide +kernel : decode cX13_broken 0 = .ok (.aload_n 0, 1)) rfl rfl) <|
   ev_a (ok_ald_n X hP (by decide +kernel : decode cX13_broken 1 = .ok (.aload_n 1, 1)) rfl rfl) <|
   ev_a (ok_ild_n X hP (by decide +kernel : decode cX13_broken 2 = .ok (.iload_n 2, 1)) rfl rfl) <|
   ev_a (ok_psh_iconst X hP (by decide +kernel : decode cX13_broken 3 = .ok (.iconst 0, 1)) rfl) <|
   ev_a (ok_invV X hP hR hd2 hcf (ci := 18) ev_y55 rfl (by decide +kernel : decode cX13_broken 4 = .ok (.invokevirtual 143, 3)) ev_w1610 ev_w1607 ev_w1609 ev_w45 ev_w82 ⟨rfl, ev_dn55⟩ (by decide) rfl) <|
   ev_a (ok_no) <|
   ev_a (ok_no) <|
   ev_a (ok_ast_n X hP (by decide +kernel : decode cX13_broken 7 = .ok (.astore_n 3, 1)) rfl (by decide) rfl) <|
   ev_a (ok_psh_iconst X hP (by decide +kernel : decode cX13_broken 8 = .ok (.iconst 0, 1)) rfl) <|
   ev_a (ok_ist X hP (by decide +kernel : decode cX13_broken 9 = .ok (.istore 4, 2)) (by decide) rfl) <|
   ev_a (ok_no) <|
   ev_a (ok_psh_iconst X hP (by decide +kernel : decode cX13_broken 11 = .ok (.iconst 0, 1)) rfl) <|
   ev_a (ok_ist X hP (by decide +kernel : decode cX13_broken 12 = .ok (.istore 5, 2)) (by decide) rfl) <|
   ev_a (ok_no) <|
   ev_a (ok_ild X hP (by decide +kernel : decode cX13_broken 14 = .ok (.iload 5, 2)) rfl) <|
   ev_a (ok_no) <| ev_a0) <|
  ev_b (
   ev_a (ok_psh_bipush X hP (by decide +kernel : decode cX13_broken 16 = .ok (.bipush 6, 2)) rfl) <|
   ev_a (ok_no) <|
   ev_a (ok_icmp_ge X hP (by decide +kernel : decode cX13_broken 18 = .ok (.if_icmp .ge 125, 3)) (by decide) rfl) <|
   ev_a (ok_no) <|
   ev_a (ok_no) <|
   ev_a (ok_psh_iconst X hP (by decide +kernel : decode cX13_broken 21 = .ok (.iconst 0, 1)) rfl) <|
   ev_a (ok_ist X hP (by decide +kernel : decode cX13_broken 22 = .ok (.istore 6, 2)) (by decide) rfl) <|
   ev_a (ok_no) <|
   ev_a (ok_psh_iconst X hP (by decide +kernel : decode cX13_broken 24 = .ok (.iconst 0, 1)) rfl) <|
   ev_a (ok_ist X hP (by decide +kernel : decode cX13_broken 25 = .ok (.istore 7, 2)) (by decide) rfl) <|
   ev_a (ok_no) <|
   ev_a (ok_ild X hP (by decide +kernel : decode cX13_broken 27 = .ok (.iload 7, 2)) rfl) <|
   ev_a (ok_no) <|
   ev_a (ok_psh_bipush X hP (by decide +kernel : decode cX13_broken 29 = .ok (.bipush 6, 2)) rfl) <|
   ev_a (ok_no) <|
   ev_a (ok_icmp_ge X hP (by decide +kernel : decode cX13_broken 31 = .ok (.if_icmp .ge 91, 3)) (by decide) rfl) <| ev_a0) <|
  ev_b (
   ev_a (ok_no) <|
   ev_a (ok_no) <|
   ev_a (ok_psh_iconst X hP (by decide +kernel : decode cX13_broken 34 = .ok (.iconst 0, 1)) rfl) <|
   ev_a (ok_ist X hP (by decide +kernel : decode cX13_broken 35 = .ok (.istore 8, 2)) (by decide) rfl) <|
   ev_a (ok_no) <|
   ev_a (ok_psh_iconst X hP (by decide +kernel : decode cX13_broken 37 = .ok (.iconst 0, 1)) rfl) <|
   ev_a (ok_ist X hP (by decide +kernel : decode cX13_broken 38 = .ok (.istore 9, 2)) (by decide) rfl) <|
   ev_a (ok_no) <|
   ev_a (ok_ild X hP (by decide +kernel : decode cX13_broken 40 = .ok (.iload 9, 2)) rfl) <|
   ev_a (ok_no) <|
   ev_a (ok_psh_bipush X hP (by decide +kernel : decode cX13_broken 42 = .ok (.bipush 6, 2)) rfl) <|
   ev_a (ok_no) <|
   ev_a (ok_icmp_ge X hP (by decide +kernel : decode cX13_broken 44 = .ok (.if_icmp .ge 56, 3)) (by decide) rfl) <|
   ev_a (ok_no) <|
   ev_a (ok_no) <|
   ev_a (ok_ald_n X hP (by decide +kernel : decode cX13_broken 47 = .ok (.aload_n 0, 1)) rfl rfl) <| ev_a0) <|
  ev_b (
   ev_a (ok_get X hP (ci := 18) (kf := 8) (T := TX13) (by decide +kernel : decode cX13_broken 48 = .ok (.getfield 147, 3)) rfl ev_in18 (by decide) ev_w1391 (Or.inl rfl) rfl) <|
   ev_a (ok_no) <|
   ev_a (ok_no) <|
   ev_a (ok_ild X hP (by decide +kernel : decode cX13_broken 51 = .ok (.iload 7, 2)) rfl) <|
   ev_a (ok_no) <|
   ev_a (ok_ishr X hP (by decide +kernel : decode cX13_broken 53 = .ok (.ishr, 1)) rfl) <|
   ev_a (ok_psh_iconst X hP (by decide +kernel : decode cX13_broken 54 = .ok (.iconst 1, 1)) rfl) <|
   ev_a (ok_iand X hP (by decide +kernel : decode cX13_broken 55 = .ok (.iand, 1)) rfl) <|
   ev_a (ok_psh_iconst X hP (by decide +kernel : decode cX13_broken 56 = .ok (.iconst 1, 1)) rfl) <|
   ev_a (ok_icmp_ne X hP (by decide +kernel : decode cX13_broken 57 = .ok (.if_icmp .ne 43, 3)) (by decide) rfl) <|
   ev_a (ok_no) <|
   ev_a (ok_no) <|
   ev_a (ok_ild X hP (by decide +kernel : decode cX13_broken 60 = .ok (.iload 8, 2)) rfl) <|
   ev_a (ok_no) <|
   ev_a (ok_ald_n X hP (by decide +kernel : decode cX13_broken 62 = .ok (.aload_n 3, 1)) rfl rfl) <|
   ev_a (ok_psh_bipush X hP (by decide +kernel : decode cX13_broken 63 = .ok (.bipush 36, 2)) rfl) <| ev_a0) <|
  ev_b (
   ev_a (ok_no) <|
   ev_a (ok_ild X hP (by decide +kernel : decode cX13_broken 65 = .ok (.iload 5, 2)) rfl) <|
   ev_a (ok_no) <|
   ev_a (ok_imul X hP (by decide +kernel : decode cX13_broken 67 = .ok (.imul, 1)) rfl) <|
   ev_a (ok_psh_bipush X hP (by decide +kernel : decode cX13_broken 68 = .ok (.bipush 6, 2)) rfl) <|
   ev_a (ok_no) <|
   ev_a (ok_ald_n X hP (by decide +kernel : decode cX13_broken 70 = .ok (.aload_n 0, 1)) rfl rfl) <|
   ev_a (ok_get X hP (ci := 18) (kf := 1) (T := TX13) (by decide +kernel : decode cX13_broken 71 = .ok (.getfield 7, 3)) rfl ev_in18 (by decide) ev_w1384 (Or.inl rfl) rfl) <|
   ev_a (ok_no) <|
   ev_a (ok_no) <|
   ev_a (ok_ild X hP (by decide +kernel : decode cX13_broken 74 = .ok (.iload 7, 2)) rfl) <|
   ev_a (ok_no) <|
   ev_a (ok_ialoads X hP (by decide +kernel : decode cX13_broken 76 = .ok (.iaload, 1)) rfl) <|
   ev_a (ok_imul X hP (by decide +kernel : decode cX13_broken 77 = .ok (.imul, 1)) rfl) <|
   ev_a (ok_iadd X hP (by decide +kernel : decode cX13_broken 78 = .ok (.iadd, 1)) rfl) <|
   ev_a (ok_ild X hP (by decide +kernel : decode cX13_broken 79 = .ok (.iload 9, 2)) rfl) <| ev_a0) <|
  ev_b (
   ev_a (ok_no) <|
   ev_a (ok_iadd X hP (by decide +kernel : decode cX13_broken 81 = .ok (.iadd, 1)) rfl) <|
   ev_a (ok_baloads X hP (by decide +kernel : decode cX13_broken 82 = .ok (.baload, 1)) rfl) <|
   ev_a (ok_if_eq X hP (by decide +kernel : decode cX13_broken 83 = .ok (.ifCond .eq 7, 3)) (by decide) rfl) <|
   ev_a (ok_no) <|
   ev_a (ok_no) <|
   ev_a (ok_psh_iconst X hP (by decide +kernel : decode cX13_broken 86 = .ok (.iconst 1, 1)) rfl) <|
   ev_a (ok_jmp X hP (by decide +kernel : decode cX13_broken 87 = .ok (.goto 4, 3)) (by decide)) <|
   ev_a (ok_no) <|
   ev_a (ok_no) <|
   ev_a (ok_psh_iconst X hP (by decide +kernel : decode cX13_broken 90 = .ok (.iconst 0, 1)) rfl) <|
   ev_a (ok_iadd X hP (by decide +kernel : decode cX13_broken 91 = .ok (.iadd, 1)) rfl) <|
   ev_a (ok_ist X hP (by decide +kernel : decode cX13_broken 92 = .ok (.istore 8, 2)) (by decide) rfl) <|
   ev_a (ok_no) <|
   ev_a (ok_inc X hP (by decide +kernel : decode cX13_broken 94 = .ok (.iinc 9 1, 3)) (by decide) rfl) <|
   ev_a (ok_no) <| ev_a0) <|
  ev_b (
   ev_a (ok_no) <|
   ev_a (ok_jmp X hP (by decide +kernel : decode cX13_broken 97 = .ok (.goto (-57), 3)) (by decide)) <|
   ev_a (ok_no) <|
   ev_a (ok_no) <|
   ev_a (ok_ild X hP (by decide +kernel : decode cX13_broken 100 = .ok (.iload 6, 2)) rfl) <|
   ev_a (ok_no) <|
   ev_a (ok_ild X hP (by decide +kernel : decode cX13_broken 102 = .ok (.iload 8, 2)) rfl) <|
   ev_a (ok_no) <|
   ev_a (ok_psh_iconst X hP (by decide +kernel : decode cX13_broken 104 = .ok (.iconst 1, 1)) rfl) <|
   ev_a (ok_icmp_le X hP (by decide +kernel : decode cX13_broken 105 = .ok (.if_icmp .le 7, 3)) (by decide) rfl) <|
   ev_a (ok_no) <|
   ev_a (ok_no) <|
   ev_a (ok_psh_iconst X hP (by decide +kernel : decode cX13_broken 108 = .ok (.iconst 1, 1)) rfl) <|
   ev_a (ok_jmp X hP (by decide +kernel : decode cX13_broken 109 = .ok (.goto 4, 3)) (by decide)) <|
   ev_a (ok_no) <|
   ev_a (ok_no) <| ev_a0) <|
  ev_b (
   ev_a (ok_psh_iconst X hP (by decide +kernel : decode cX13_broken 112 = .ok (.iconst 0, 1)) rfl) <|
   ev_a (ok_ior X hP (by decide +kernel : decode cX13_broken 113 = .ok (.ior, 1)) rfl) <|
   ev_a (ok_ist X hP (by decide +kernel : decode cX13_broken 114 = .ok (.istore 6, 2)) (by decide) rfl) <|
   ev_a (ok_no) <|
   ev_a (ok_inc X hP (by decide +kernel : decode cX13_broken 116 = .ok (.iinc 7 1, 3)) (by decide) rfl) <|
   ev_a (ok_no) <|
   ev_a (ok_no) <|
   ev_a (ok_jmp X hP (by decide +kernel : decode cX13_broken 119 = .ok (.goto (-92), 3)) (by decide)) <|
   ev_a (ok_no) <|
   ev_a (ok_no) <|
   ev_a (ok_ild X hP (by decide +kernel : decode cX13_broken 122 = .ok (.iload 4, 2)) rfl) <|
   ev_a (ok_no) <|
   ev_a (ok_ild X hP (by decide +kernel : decode cX13_broken 124 = .ok (.iload 6, 2)) rfl) <|
   ev_a (ok_no) <|
   ev_a (ok_if_eq X hP (by decide +kernel : decode cX13_broken 126 = .ok (.ifCond .eq 7, 3)) (by decide) rfl) <|
   ev_a (ok_no) <| ev_a0) <|
  ev_b (
   ev_a (ok_no) <|
   ev_a (ok_psh_iconst X hP (by decide +kernel : decode cX13_broken 129 = .ok (.iconst 1, 1)) rfl) <|
   ev_a (ok_jmp X hP (by decide +kernel : decode cX13_broken 130 = .ok (.goto 4, 3)) (by decide)) <|
   ev_a (ok_no) <|
   ev_a (ok_no) <|
   ev_a (ok_psh_iconst X hP (by decide +kernel : decode cX13_broken 133 = .ok (.iconst 0, 1)) rfl) <|
   ev_a (ok_iadd X hP (by decide +kernel : decode cX13_broken 134 = .ok (.iadd, 1)) rfl) <|
   ev_a (ok_ist X hP (by decide +kernel : decode cX13_broken 135 = .ok (.istore 4, 2)) (by decide) rfl) <|
   ev_a (ok_no) <|
   ev_a (ok_inc X hP (by decide +kernel : decode cX13_broken 137 = .ok (.iinc 5 1, 3)) (by decide) rfl) <|
   ev_a (ok_no) <|
   ev_a (ok_no) <|
   ev_a (ok_jmp X hP (by decide +kernel : decode cX13_broken 140 = .ok (.goto (-126), 3)) (by decide)) <|
   ev_a (ok_no) <|
   ev_a (ok_no) <|
   ev_a (ok_ild X hP (by decide +kernel : decode cX13_broken 143 = .ok (.iload 4, 2)) rfl) <| ev_a0) <|
  ev_b (
   ev_a (ok_no) <|
   ev_a (ok_ireturn X hP hQ hfin rfl (by decide +kernel : decode cX13_broken 145 = .ok (.ireturn, 1))) <| ev_a0) <|
  ev_b0
set_option maxRecDepth 100000 in
theorem ev_s42 {l : Launch} {d : Nat} {cf : Nat → List Value → ev_W → Option ev_R} {p : Program} {e : Env} {R : Room} {s : State} {m : MethodId} {args : Array Value} {below : List Frame} {meth : Method} {c : Code} {Q : State → Prop} {D : va_G} {G : Nat → ClassId} {ad : Nat → Nat} {A : Nat → Prop} {z wE nE : Nat} {P : Nat → List Value → List Value → ev_W → Nat → Prop} {α : Type} {r : α} {fin : Option Value → ev_W → Nat → Option α} (X : ev_X cX13_broken_ 1 yX13_broken_.cls (some FieldType.int) p s m args meth c D G ad A z) (hP : ev_PP p l e R s m args below meth c Q 1 D G ad A z wE nE P) (hR : wE - z ≤ R.cells ∧ nE ≤ R.slots) (hd2 : d + 3 ≤ R.frames ∧ 64 * (d + 3) ≤ R.locals) (hR1 : 1 ≤ R.frames) (hR2 : 21 ≤ R.locals) (hcf : ev_cf l ev_ys d cf) {Qc : Array Value → State → Outcome → State → Prop} (hQ : Q = MQ below Qc args s (wE - z) nE A) (hfin : ∀ v w n, fin v w n = some r → w.length = wE ∧ n = nE ∧ ∀ H locs, ev_H D G ad A w H → va_S A s.heap H locs → ∀ t : State, t.heap = H → s.WarmedH t.vm → Qc args s (.returned (v.map (ev_v ad))) t) : ev_all2 (ev_ok P r) 0 (ev_o42 cf fin) :=
  ev_b (
   ev_a (ok_ald_n X hP (by decide +kernel : decode cX13_broken_ 0 = .ok (.aload_n 0, 1)) rfl rfl) <|
   ev_a (ok_psh_iconst X hP (by decide +kernel : decode cX13_broken_ 1 = .ok (.iconst 0, 1)) rfl) <|
   ev_a (ok_put X hP (ci := 18) (kf := 0) (T := TX13) tyX13 (by decide +kernel : decode cX13_broken_ 2 = .ok (.putfield 33, 3)) rfl ev_in18 tyX13_ok nmX13 (by decide) ev_w1383 (Or.inl rfl) rfl rfl rfl) <|
   ev_a (ok_no) <|
   ev_a (ok_no) <|
   ev_a (ok_ald_n X hP (by decide +kernel : decode cX13_broken_ 5 = .ok (.aload_n 0, 1)) rfl rfl) <|
   ev_a (ok_ald_n X hP (by decide +kernel : decode cX13_broken_ 6 = .ok (.aload_n 0, 1)) rfl rfl) <|
   ev_a (ok_invV X hP hR hd2 hcf (ci := 18) ev_y44 rfl (by decide +kernel : decode cX13_broken_ 7 = .ok (.invokevirtual 117, 3)) ev_w1518 ev_w1515 ev_w1517 ev_w41 ev_w82 ⟨rfl, ev_dn44⟩ (by decide) rfl) <|
   ev_a (ok_no) <|
   ev_a (ok_no) <|
   ev_a (ok_ald_n X hP (by decide +kernel : decode cX13_broken_ 10 = .ok (.aload_n 0, 1)) rfl rfl) <|
   ev_a (ok_get X hP (ci := 18) (kf := 2) (T := TX13) (by decide +kernel : decode cX13_broken_ 11 = .ok (.getfield 74, 3)) rfl ev_in18 (by decide) ev_w1385 (Or.inl rfl) rfl) <|
   ev_a (ok_no) <|
   ev_a (ok_no) <|
   ev_a (ok_psh_iconst X hP (by decide +kernel : decode cX13_broken_ 14 = .ok (.iconst 1, 1)) rfl) <|
   ev_a (ok_iadd X hP (by decide +kernel : decode cX13_broken_ 15 = .ok (.iadd, 1)) rfl) <| ev_a0) <|
  ev_b (
   ev_a (ok_invV X hP hR hd2 hcf (ci := 18) ev_y41 rfl (by decide +kernel : decode cX13_broken_ 16 = .ok (.invokevirtual 121, 3)) ev_w1606 ev_w1603 ev_w1605 ev_w44 ev_w82 ⟨rfl, ev_dn41⟩ (by decide) rfl) <|
   ev_a (ok_no) <|
   ev_a (ok_no) <|
   ev_a (ok_ireturn X hP hQ hfin rfl (by decide +kernel : decode cX13_broken_ 19 = .ok (.ireturn, 1))) <| ev_a0) <|
  ev_b0
set_option maxRecDepth 100000 in
theorem ev_s43 {l : Launch} {d : Nat} {cf : Nat → List Value → ev_W → Option ev_R} {p : Program} {e : Env} {R : Room} {s : State} {m : MethodId} {args : Array Value} {below : List Frame} {meth : Method} {c : Code} {Q : State → Prop} {D : va_G} {G : Nat → ClassId} {ad : Nat → Nat} {A : Nat → Prop} {z wE nE : Nat} {P : Nat → List Value → List Value → ev_W → Nat → Prop} {α : Type} {r : α} {fin : Option Value → ev_W → Nat → Option α} (X : ev_X cX13_commit 4 yX13_commit.cls (some FieldType.int) p s m args meth c D G ad A z) (hP : ev_PP p l e R s m args below meth c Q 4 D G ad A z wE nE P) (hR : wE - z ≤ R.cells ∧ nE ≤ R.slots) (hd2 : d + 3 ≤ R.frames ∧ 64 * (d + 3) ≤ R.locals) (hR1 : 1 ≤ R.frames) (hR2 : 21 ≤ R.locals) (hcf : ev_cf l ev_ys d cf) {Qc : Array Value → State → Outcome → State → Prop} (hQ : Q = MQ below Qc args s (wE - z) nE A) (hfin : ∀ v w n, fin v w n = some r → w.length = wE ∧ n = nE ∧ ∀ H locs, ev_H D G ad A w H → va_S A s.heap H locs → ∀ t : State, t.heap = H → s.WarmedH t.vm → Qc args s (.returned (v.map (ev_v ad))) t) : ev_all2 (ev_ok P r) 0 (ev_o43 cf fin) :=
  ev_b (
   ev_a (ok_ald_n X hP (by decide +kernel : decode cX13_commit 0 = .ok (.aload_n 0, 1)) rfl rfl) <|
   ev_a (ok_psh_iconst X hP (by decide +kernel : decode cX13_commit 1 = .ok (.iconst 0, 1)) rfl) <|
   ev_a (ok_put X hP (ci := 18) (kf := 0) (T := TX13) tyX13 (by decide +kernel : decode cX13_commit 2 = .ok (.putfield 33, 3)) rfl ev_in18 tyX13_ok nmX13 (by decide) ev_w1383 (Or.inl rfl) rfl rfl rfl) <|
   ev_a (ok_no) <|
   ev_a (ok_no) <|
   ev_a (ok_ald_n X hP (by decide +kernel : decode cX13_commit 5 = .ok (.aload_n 0, 1)) rfl rfl) <|
   ev_a (ok_invV X hP hR hd2 hcf (ci := 18) ev_y44 rfl (by decide +kernel : decode cX13_commit 6 = .ok (.invokevirtual 117, 3)) ev_w1518 ev_w1515 ev_w1517 ev_w41 ev_w82 ⟨rfl, ev_dn44⟩ (by decide) rfl) <|
   ev_a (ok_no) <|
   ev_a (ok_no) <|
   ev_a (ok_ast_n X hP (by decide +kernel : decode cX13_commit 9 = .ok (.astore_n 1, 1)) rfl (by decide) rfl) <|
   ev_a (ok_ald_n X hP (by decide +kernel : decode cX13_commit 10 = .ok (.aload_n 0, 1)) rfl rfl) <|
   ev_a (ok_get X hP (ci := 18) (kf := 2) (T := TX13) (by decide +kernel : decode cX13_commit 11 = .ok (.getfield 74, 3)) rfl ev_in18 (by decide) ev_w1385 (Or.inl rfl) rfl) <|
   ev_a (ok_no) <|
   ev_a (ok_no) <|
   ev_a (ok_psh_bipush X hP (by decide +kernel : decode cX13_commit 14 = .ok (.bipush 50, 2)) rfl) <|
   ev_a (ok_no) <| ev_a0) <|
  ev_b (
   ev_a (ok_icmp_eq X hP (by decide +kernel : decode cX13_commit 16 = .ok (.if_icmp .eq 26, 3)) (by decide) rfl) <|
   ev_a (ok_no) <|
   ev_a (ok_no) <|
   ev_a (ok_ald_n X hP (by decide +kernel : decode cX13_commit 19 = .ok (.aload_n 1, 1)) rfl rfl) <|
   ev_a (ok_invV X hP hR hd2 hcf (ci := 4) ev_y14 rfl (by decide +kernel : decode cX13_commit 20 = .ok (.invokevirtual 63, 3)) ev_w1444 ev_w1441 ev_w1442 ev_w1443 ev_w85 ⟨rfl, ev_dn14⟩ (by decide) rfl) <|
   ev_a (ok_no) <|
   ev_a (ok_no) <|
   ev_a (ok_psh_bipush X hP (by decide +kernel : decode cX13_commit 23 = .ok (.bipush 60, 2)) rfl) <|
   ev_a (ok_no) <|
   ev_a (ok_icmp_gt X hP (by decide +kernel : decode cX13_commit 25 = .ok (.if_icmp .gt 17, 3)) (by decide) rfl) <|
   ev_a (ok_no) <|
   ev_a (ok_no) <|
   ev_a (ok_ald_n X hP (by decide +kernel : decode cX13_commit 28 = .ok (.aload_n 0, 1)) rfl rfl) <|
   ev_a (ok_ald_n X hP (by decide +kernel : decode cX13_commit 29 = .ok (.aload_n 1, 1)) rfl rfl) <|
   ev_a (ok_ald_n X hP (by decide +kernel : decode cX13_commit 30 = .ok (.aload_n 0, 1)) rfl rfl) <|
   ev_a (ok_get X hP (ci := 18) (kf := 2) (T := TX13) (by decide +kernel : decode cX13_commit 31 = .ok (.getfield 74, 3)) rfl ev_in18 (by decide) ev_w1385 (Or.inl rfl) rfl) <| ev_a0) <|
  ev_b (
   ev_a (ok_no) <|
   ev_a (ok_no) <|
   ev_a (ok_psh_iconst X hP (by decide +kernel : decode cX13_commit 34 = .ok (.iconst 1, 1)) rfl) <|
   ev_a (ok_iadd X hP (by decide +kernel : decode cX13_commit 35 = .ok (.iadd, 1)) rfl) <|
   ev_a (ok_invV X hP hR hd2 hcf (ci := 18) ev_y41 rfl (by decide +kernel : decode cX13_commit 36 = .ok (.invokevirtual 121, 3)) ev_w1606 ev_w1603 ev_w1605 ev_w44 ev_w82 ⟨rfl, ev_dn41⟩ (by decide) rfl) <|
   ev_a (ok_no) <|
   ev_a (ok_no) <|
   ev_a (ok_if_le X hP (by decide +kernel : decode cX13_commit 39 = .ok (.ifCond .le 9, 3)) (by decide) rfl) <|
   ev_a (ok_no) <|
   ev_a (ok_no) <|
   ev_a (ok_ald_n X hP (by decide +kernel : decode cX13_commit 42 = .ok (.aload_n 0, 1)) rfl rfl) <|
   ev_a (ok_psh_iconst X hP (by decide +kernel : decode cX13_commit 43 = .ok (.iconst 1, 1)) rfl) <|
   ev_a (ok_no) <|
   ev_a (ok_no) <|
   ev_a (ok_no) <|
   ev_a (ok_ireturn X hP hQ hfin rfl (by decide +kernel : decode cX13_commit 47 = .ok (.ireturn, 1))) <| ev_a0) <|
  ev_b (
   ev_a (ok_ald_n X hP (by decide +kernel : decode cX13_commit 48 = .ok (.aload_n 0, 1)) rfl rfl) <|
   ev_a (ok_get X hP (ci := 18) (kf := 3) (T := TX13) (by decide +kernel : decode cX13_commit 49 = .ok (.getfield 16, 3)) rfl ev_in18 (by decide) ev_w1386 (Or.inl rfl) rfl) <|
   ev_a (ok_no) <|
   ev_a (ok_no) <|
   ev_a (ok_invV X hP hR hd2 hcf (ci := 4) ev_y9 rfl (by decide +kernel : decode cX13_commit 52 = .ok (.invokevirtual 71, 3)) ev_w1510 ev_w1507 ev_w1508 ev_w1509 ev_w85 ⟨rfl, ev_dn9⟩ (by decide) rfl) <|
   ev_a (ok_no) <|
   ev_a (ok_no) <|
   ev_a (ok_ald_n X hP (by decide +kernel : decode cX13_commit 55 = .ok (.aload_n 1, 1)) rfl rfl) <|
   ev_a (ok_invV X hP hR hd2 hcf (ci := 4) ev_y13 rfl (by decide +kernel : decode cX13_commit 56 = .ok (.invokevirtual 77, 3)) ev_w1522 ev_w1519 ev_w1520 ev_w1521 ev_w85 ⟨rfl, ev_dn13⟩ (by decide) rfl) <|
   ev_a (ok_no) <|
   ev_a (ok_no) <|
   ev_a (ok_ast_n X hP (by decide +kernel : decode cX13_commit 59 = .ok (.astore_n 2, 1)) rfl (by decide) rfl) <|
   ev_a (ok_ald_n X hP (by decide +kernel : decode cX13_commit 60 = .ok (.aload_n 2, 1)) rfl rfl) <|
   ev_a (ok_invF X hP hR hd2 hcf (ci := 3) (x := ⟨"java/util/Iterator", "hasNext", "()Z"⟩) ev_y4 rfl (by decide +kernel : decode cX13_commit 61 = .ok (.invokeinterface 81 1, 5)) ev_w1551 ev_w1543 ev_w1547 ev_w1549 ev_w98 (by decide) (by decide +kernel) (by decide) rfl) <|
   ev_a (ok_no) <|
   ev_a (ok_no) <| ev_a0) <|
  ev_b (
   ev_a (ok_no) <|
   ev_a (ok_no) <|
   ev_a (ok_if_eq X hP (by decide +kernel : decode cX13_commit 66 = .ok (.ifCond .eq 25, 3)) (by decide) rfl) <|
   ev_a (ok_no) <|
   ev_a (ok_no) <|
   ev_a (ok_ald_n X hP (by decide +kernel : decode cX13_commit 69 = .ok (.aload_n 2, 1)) rfl rfl) <|
   ev_a (ok_invF X hP hR hd2 hcf (ci := 3) (x := ⟨"java/util/Iterator", "next", "()Ljava/lang/Object;"⟩) ev_y6 rfl (by decide +kernel : decode cX13_commit 70 = .ok (.invokeinterface 87 1, 5)) ev_w1560 ev_w1553 ev_w1556 ev_w1558 ev_w98 (by decide) (by decide +kernel) (by decide) rfl) <|
   ev_a (ok_no) <|
   ev_a (ok_no) <|
   ev_a (ok_no) <|
   ev_a (ok_no) <|
   ev_a (ok_castS X hP (ci := 17) (by decide +kernel : decode cX13_commit 75 = .ok (.checkcast 91, 3)) rfl ev_w1565 rfl) <|
   ev_a (ok_no) <|
   ev_a (ok_no) <|
   ev_a (ok_ast_n X hP (by decide +kernel : decode cX13_commit 78 = .ok (.astore_n 3, 1)) rfl (by decide) rfl) <|
   ev_a (ok_ald_n X hP (by decide +kernel : decode cX13_commit 79 = .ok (.aload_n 0, 1)) rfl rfl) <| ev_a0) <|
  ev_b (
   ev_a (ok_get X hP (ci := 18) (kf := 3) (T := TX13) (by decide +kernel : decode cX13_commit 80 = .ok (.getfield 16, 3)) rfl ev_in18 (by decide) ev_w1386 (Or.inl rfl) rfl) <|
   ev_a (ok_no) <|
   ev_a (ok_no) <|
   ev_a (ok_ald_n X hP (by decide +kernel : decode cX13_commit 83 = .ok (.aload_n 3, 1)) rfl rfl) <|
   ev_a (ok_invV X hP hR hd2 hcf (ci := 4) ev_y8 rfl (by decide +kernel : decode cX13_commit 84 = .ok (.invokevirtual 67, 3)) ev_w1448 ev_w1445 ev_w1446 ev_w1447 ev_w85 ⟨rfl, ev_dn8⟩ (by decide) rfl) <|
   ev_a (ok_no) <|
   ev_a (ok_no) <|
   ev_a (ok_drop X hP (by decide +kernel : decode cX13_commit 87 = .ok (.pop, 1)) rfl) <|
   ev_a (ok_jmp X hP (by decide +kernel : decode cX13_commit 88 = .ok (.goto (-28), 3)) (by decide)) <|
   ev_a (ok_no) <|
   ev_a (ok_no) <|
   ev_a (ok_ald_n X hP (by decide +kernel : decode cX13_commit 91 = .ok (.aload_n 0, 1)) rfl rfl) <|
   ev_a (ok_get X hP (ci := 18) (kf := 4) (T := TX13) (by decide +kernel : decode cX13_commit 92 = .ok (.getfield 20, 3)) rfl ev_in18 (by decide) ev_w1387 (Or.inl rfl) rfl) <|
   ev_a (ok_no) <|
   ev_a (ok_no) <|
   ev_a (ok_invV X hP hR hd2 hcf (ci := 4) ev_y9 rfl (by decide +kernel : decode cX13_commit 95 = .ok (.invokevirtual 71, 3)) ev_w1510 ev_w1507 ev_w1508 ev_w1509 ev_w85 ⟨rfl, ev_dn9⟩ (by decide) rfl) <| ev_a0) <|
  ev_b (
   ev_a (ok_no) <|
   ev_a (ok_no) <|
   ev_a (ok_ald_n X hP (by decide +kernel : decode cX13_commit 98 = .ok (.aload_n 0, 1)) rfl rfl) <|
   ev_a (ok_dup X hP (by decide +kernel : decode cX13_commit 99 = .ok (.dup, 1)) rfl) <|
   ev_a (ok_get X hP (ci := 18) (kf := 2) (T := TX13) (by decide +kernel : decode cX13_commit 100 = .ok (.getfield 74, 3)) rfl ev_in18 (by decide) ev_w1385 (Or.inl rfl) rfl) <|
   ev_a (ok_no) <|
   ev_a (ok_no) <|
   ev_a (ok_psh_iconst X hP (by decide +kernel : decode cX13_commit 103 = .ok (.iconst 1, 1)) rfl) <|
   ev_a (ok_iadd X hP (by decide +kernel : decode cX13_commit 104 = .ok (.iadd, 1)) rfl) <|
   ev_a (ok_put X hP (ci := 18) (kf := 2) (T := TX13) tyX13 (by decide +kernel : decode cX13_commit 105 = .ok (.putfield 74, 3)) rfl ev_in18 tyX13_ok nmX13 (by decide) ev_w1385 (Or.inl rfl) rfl rfl rfl) <|
   ev_a (ok_no) <|
   ev_a (ok_no) <|
   ev_a (ok_ald_n X hP (by decide +kernel : decode cX13_commit 108 = .ok (.aload_n 0, 1)) rfl rfl) <|
   ev_a (ok_invV X hP hR hd2 hcf (ci := 18) ev_y46 rfl (by decide +kernel : decode cX13_commit 109 = .ok (.invokevirtual 125, 3)) ev_w1614 ev_w1611 ev_w1613 ev_w46 ev_w82 ⟨rfl, ev_dn46⟩ (by decide) rfl) <|
   ev_a (ok_no) <|
   ev_a (ok_no) <| ev_a0) <|
  ev_b (
   ev_a (ok_ald_n X hP (by decide +kernel : decode cX13_commit 112 = .ok (.aload_n 0, 1)) rfl rfl) <|
   ev_a (ok_get X hP (ci := 18) (kf := 2) (T := TX13) (by decide +kernel : decode cX13_commit 113 = .ok (.getfield 74, 3)) rfl ev_in18 (by decide) ev_w1385 (Or.inl rfl) rfl) <|
   ev_a (ok_no) <|
   ev_a (ok_no) <|
   ev_a (ok_ireturn X hP hQ hfin rfl (by decide +kernel : decode cX13_commit 116 = .ok (.ireturn, 1))) <| ev_a0) <|
  ev_b0
set_option maxRecDepth 100000 in
theorem ev_s44 {l : Launch} {d : Nat} {cf : Nat → List Value → ev_W → Option ev_R} {p : Program} {e : Env} {R : Room} {s : State} {m : MethodId} {args : Array Value} {below : List Frame} {meth : Method} {c : Code} {Q : State → Prop} {D : va_G} {G : Nat → ClassId} {ad : Nat → Nat} {A : Nat → Prop} {z wE nE : Nat} {P : Nat → List Value → List Value → ev_W → Nat → Prop} {α : Type} {r : α} {fin : Option Value → ev_W → Nat → Option α} (X : ev_X cX13_committed 8 yX13_committed.cls (some (FieldType.object "java/util/ArrayList")) p s m args meth c D G ad A z) (hP : ev_PP p l e R s m args below meth c Q 8 D G ad A z wE nE P) (hR : wE - z ≤ R.cells ∧ nE ≤ R.slots) (hd2 : d + 3 ≤ R.frames ∧ 64 * (d + 3) ≤ R.locals) (hR1 : 1 ≤ R.frames) (hR2 : 21 ≤ R.locals) (hcf : ev_cf l ev_ys d cf) {Qc : Array Value → State → Outcome → State → Prop} (hQ : Q = MQ below Qc args s (wE - z) nE A) (hfin : ∀ v w n, fin v w n = some r → w.length = wE ∧ n = nE ∧ ∀ H locs, ev_H D G ad A w H → va_S A s.heap H locs → ∀ t : State, t.heap = H → s.WarmedH t.vm → Qc args s (.returned (v.map (ev_v ad))) t) : ev_all2 (ev_ok P r) 0 (ev_o44 cf fin) :=
  ev_b (
   ev_a (ok_new X hP hR (ci := 4) (N := 3) (T := TJx4a65c) tyJx4a65c (by decide +kernel : decode cX13_committed 0 = .ok (.new 13, 3)) rfl ev_in4 tyJx4a65c_ok ev_w1354 ev_w1355 ev_w85 (by decide +kernel) rfl ⟨rfl, by decide⟩ rfl) <|
   ev_a (ok_no) <|
   ev_a (ok_no) <|
   ev_a (ok_dup X hP (by decide +kernel : decode cX13_committed 3 = .ok (.dup, 1)) rfl) <|
   ev_a (ok_invI X hP hR hd2 hcf ev_y12 (by decide +kernel : decode cX13_committed 4 = .ok (.invokespecial 15, 3)) ev_w1358 ev_w1356 ev_w1357 ev_w85 rfl ev_dn12 (by decide) rfl) <|
   ev_a (ok_no) <|
   ev_a (ok_no) <|
   ev_a (ok_ast_n X hP (by decide +kernel : decode cX13_committed 7 = .ok (.astore_n 1, 1)) rfl (by decide) rfl) <|
   ev_a (ok_ald_n X hP (by decide +kernel : decode cX13_committed 8 = .ok (.aload_n 0, 1)) rfl rfl) <|
   ev_a (ok_get X hP (ci := 18) (kf := 2) (T := TX13) (by decide +kernel : decode cX13_committed 9 = .ok (.getfield 74, 3)) rfl ev_in18 (by decide) ev_w1385 (Or.inl rfl) rfl) <|
   ev_a (ok_no) <|
   ev_a (ok_no) <|
   ev_a (ok_psh_iconst X hP (by decide +kernel : decode cX13_committed 12 = .ok (.iconst 1, 1)) rfl) <|
   ev_a (ok_iadd X hP (by decide +kernel : decode cX13_committed 13 = .ok (.iadd, 1)) rfl) <|
   ev_a (ok_ist_n X hP (by decide +kernel : decode cX13_committed 14 = .ok (.istore_n 2, 1)) rfl (by decide) rfl) <|
   ev_a (ok_ald_n X hP (by decide +kernel : decode cX13_committed 15 = .ok (.aload_n 0, 1)) rfl rfl) <| ev_a0) <|
  ev_b (
   ev_a (ok_get X hP (ci := 18) (kf := 3) (T := TX13) (by decide +kernel : decode cX13_committed 16 = .ok (.getfield 16, 3)) rfl ev_in18 (by decide) ev_w1386 (Or.inl rfl) rfl) <|
   ev_a (ok_no) <|
   ev_a (ok_no) <|
   ev_a (ok_invV X hP hR hd2 hcf (ci := 4) ev_y13 rfl (by decide +kernel : decode cX13_committed 19 = .ok (.invokevirtual 77, 3)) ev_w1522 ev_w1519 ev_w1520 ev_w1521 ev_w85 ⟨rfl, ev_dn13⟩ (by decide) rfl) <|
   ev_a (ok_no) <|
   ev_a (ok_no) <|
   ev_a (ok_ast_n X hP (by decide +kernel : decode cX13_committed 22 = .ok (.astore_n 3, 1)) rfl (by decide) rfl) <|
   ev_a (ok_ald_n X hP (by decide +kernel : decode cX13_committed 23 = .ok (.aload_n 3, 1)) rfl rfl) <|
   ev_a (ok_invF X hP hR hd2 hcf (ci := 3) (x := ⟨"java/util/Iterator", "hasNext", "()Z"⟩) ev_y4 rfl (by decide +kernel : decode cX13_committed 24 = .ok (.invokeinterface 81 1, 5)) ev_w1551 ev_w1543 ev_w1547 ev_w1549 ev_w98 (by decide) (by decide +kernel) (by decide) rfl) <|
   ev_a (ok_no) <|
   ev_a (ok_no) <|
   ev_a (ok_no) <|
   ev_a (ok_no) <|
   ev_a (ok_if_eq X hP (by decide +kernel : decode cX13_committed 29 = .ok (.ifCond .eq 73, 3)) (by decide) rfl) <|
   ev_a (ok_no) <|
   ev_a (ok_no) <| ev_a0) <|
  ev_b (
   ev_a (ok_ald_n X hP (by decide +kernel : decode cX13_committed 32 = .ok (.aload_n 3, 1)) rfl rfl) <|
   ev_a (ok_invF X hP hR hd2 hcf (ci := 3) (x := ⟨"java/util/Iterator", "next", "()Ljava/lang/Object;"⟩) ev_y6 rfl (by decide +kernel : decode cX13_committed 33 = .ok (.invokeinterface 87 1, 5)) ev_w1560 ev_w1553 ev_w1556 ev_w1558 ev_w98 (by decide) (by decide +kernel) (by decide) rfl) <|
   ev_a (ok_no) <|
   ev_a (ok_no) <|
   ev_a (ok_no) <|
   ev_a (ok_no) <|
   ev_a (ok_castS X hP (ci := 17) (by decide +kernel : decode cX13_committed 38 = .ok (.checkcast 91, 3)) rfl ev_w1565 rfl) <|
   ev_a (ok_no) <|
   ev_a (ok_no) <|
   ev_a (ok_ast X hP (by decide +kernel : decode cX13_committed 41 = .ok (.astore 4, 2)) (by decide) rfl) <|
   ev_a (ok_no) <|
   ev_a (ok_new X hP hR (ci := 17) (N := 4) (T := TX12) tyX12 (by decide +kernel : decode cX13_committed 43 = .ok (.new 91, 3)) rfl ev_in17 tyX12_ok ev_w1565 ev_w1566 ev_w99 (by decide +kernel) rfl ⟨rfl, by decide⟩ rfl) <|
   ev_a (ok_no) <|
   ev_a (ok_no) <|
   ev_a (ok_dup X hP (by decide +kernel : decode cX13_committed 46 = .ok (.dup, 1)) rfl) <|
   ev_a (ok_invIN X hP hR hd2 hcf ev_y40 (by decide +kernel : decode cX13_committed 47 = .ok (.invokespecial 93, 3)) ev_w1569 ev_w1567 ev_w1568 ev_w99 rfl ev_dn40 (by decide) rfl) <| ev_a0) <|
  ev_b (
   ev_a (ok_no) <|
   ev_a (ok_no) <|
   ev_a (ok_ast X hP (by decide +kernel : decode cX13_committed 50 = .ok (.astore 5, 2)) (by decide) rfl) <|
   ev_a (ok_no) <|
   ev_a (ok_ald X hP (by decide +kernel : decode cX13_committed 52 = .ok (.aload 5, 2)) rfl) <|
   ev_a (ok_no) <|
   ev_a (ok_ald X hP (by decide +kernel : decode cX13_committed 54 = .ok (.aload 4, 2)) rfl) <|
   ev_a (ok_no) <|
   ev_a (ok_getN X hP (ci := 17) (kf := 0) (T := TX12) (by decide +kernel : decode cX13_committed 56 = .ok (.getfield 94, 3)) rfl ev_in17 (by decide) ev_w1571 (Or.inl rfl) rfl) <|
   ev_a (ok_no) <|
   ev_a (ok_no) <|
   ev_a (ok_putN X hP (ci := 17) (kf := 0) (T := TX12) tyX12 (by decide +kernel : decode cX13_committed 59 = .ok (.putfield 94, 3)) rfl ev_in17 tyX12_ok nmX12 (by decide) ev_w1571 (Or.inl rfl) rfl rfl rfl) <|
   ev_a (ok_no) <|
   ev_a (ok_no) <|
   ev_a (ok_ald X hP (by decide +kernel : decode cX13_committed 62 = .ok (.aload 5, 2)) rfl) <|
   ev_a (ok_no) <| ev_a0) <|
  ev_b (
   ev_a (ok_ald X hP (by decide +kernel : decode cX13_committed 64 = .ok (.aload 4, 2)) rfl) <|
   ev_a (ok_no) <|
   ev_a (ok_getN X hP (ci := 17) (kf := 1) (T := TX12) (by decide +kernel : decode cX13_committed 66 = .ok (.getfield 97, 3)) rfl ev_in17 (by decide) ev_w1572 (Or.inl rfl) rfl) <|
   ev_a (ok_no) <|
   ev_a (ok_no) <|
   ev_a (ok_putN X hP (ci := 17) (kf := 1) (T := TX12) tyX12 (by decide +kernel : decode cX13_committed 69 = .ok (.putfield 97, 3)) rfl ev_in17 tyX12_ok nmX12 (by decide) ev_w1572 (Or.inl rfl) rfl rfl rfl) <|
   ev_a (ok_no) <|
   ev_a (ok_no) <|
   ev_a (ok_ald X hP (by decide +kernel : decode cX13_committed 72 = .ok (.aload 5, 2)) rfl) <|
   ev_a (ok_no) <|
   ev_a (ok_ald X hP (by decide +kernel : decode cX13_committed 74 = .ok (.aload 4, 2)) rfl) <|
   ev_a (ok_no) <|
   ev_a (ok_getN X hP (ci := 17) (kf := 2) (T := TX12) (by decide +kernel : decode cX13_committed 76 = .ok (.getfield 100, 3)) rfl ev_in17 (by decide) ev_w1574 (Or.inl rfl) rfl) <|
   ev_a (ok_no) <|
   ev_a (ok_no) <|
   ev_a (ok_putN X hP (ci := 17) (kf := 2) (T := TX12) tyX12 (by decide +kernel : decode cX13_committed 79 = .ok (.putfield 100, 3)) rfl ev_in17 tyX12_ok nmX12 (by decide) ev_w1574 (Or.inl rfl) rfl rfl rfl) <| ev_a0) <|
  ev_b (
   ev_a (ok_no) <|
   ev_a (ok_no) <|
   ev_a (ok_ald X hP (by decide +kernel : decode cX13_committed 82 = .ok (.aload 5, 2)) rfl) <|
   ev_a (ok_no) <|
   ev_a (ok_ald X hP (by decide +kernel : decode cX13_committed 84 = .ok (.aload 4, 2)) rfl) <|
   ev_a (ok_no) <|
   ev_a (ok_getN X hP (ci := 17) (kf := 3) (T := TX12) (by decide +kernel : decode cX13_committed 86 = .ok (.getfield 103, 3)) rfl ev_in17 (by decide) ev_w1576 (Or.inl rfl) rfl) <|
   ev_a (ok_no) <|
   ev_a (ok_no) <|
   ev_a (ok_putN X hP (ci := 17) (kf := 3) (T := TX12) tyX12 (by decide +kernel : decode cX13_committed 89 = .ok (.putfield 103, 3)) rfl ev_in17 tyX12_ok nmX12 (by decide) ev_w1576 (Or.inl rfl) rfl rfl rfl) <|
   ev_a (ok_no) <|
   ev_a (ok_no) <|
   ev_a (ok_ald_n X hP (by decide +kernel : decode cX13_committed 92 = .ok (.aload_n 1, 1)) rfl rfl) <|
   ev_a (ok_ald X hP (by decide +kernel : decode cX13_committed 93 = .ok (.aload 5, 2)) rfl) <|
   ev_a (ok_no) <|
   ev_a (ok_invV X hP hR hd2 hcf (ci := 4) ev_y8 rfl (by decide +kernel : decode cX13_committed 95 = .ok (.invokevirtual 67, 3)) ev_w1448 ev_w1445 ev_w1446 ev_w1447 ev_w85 ⟨rfl, ev_dn8⟩ (by decide) rfl) <| ev_a0) <|
  ev_b (
   ev_a (ok_no) <|
   ev_a (ok_no) <|
   ev_a (ok_drop X hP (by decide +kernel : decode cX13_committed 98 = .ok (.pop, 1)) rfl) <|
   ev_a (ok_jmp X hP (by decide +kernel : decode cX13_committed 99 = .ok (.goto (-76), 3)) (by decide)) <|
   ev_a (ok_no) <|
   ev_a (ok_no) <|
   ev_a (ok_ald_n X hP (by decide +kernel : decode cX13_committed 102 = .ok (.aload_n 0, 1)) rfl rfl) <|
   ev_a (ok_get X hP (ci := 18) (kf := 4) (T := TX13) (by decide +kernel : decode cX13_committed 103 = .ok (.getfield 20, 3)) rfl ev_in18 (by decide) ev_w1387 (Or.inl rfl) rfl) <|
   ev_a (ok_no) <|
   ev_a (ok_no) <|
   ev_a (ok_invV X hP hR hd2 hcf (ci := 4) ev_y13 rfl (by decide +kernel : decode cX13_committed 106 = .ok (.invokevirtual 77, 3)) ev_w1522 ev_w1519 ev_w1520 ev_w1521 ev_w85 ⟨rfl, ev_dn13⟩ (by decide) rfl) <|
   ev_a (ok_no) <|
   ev_a (ok_no) <|
   ev_a (ok_ast_n X hP (by decide +kernel : decode cX13_committed 109 = .ok (.astore_n 3, 1)) rfl (by decide) rfl) <|
   ev_a (ok_ald_n X hP (by decide +kernel : decode cX13_committed 110 = .ok (.aload_n 3, 1)) rfl rfl) <|
   ev_a (ok_invF X hP hR hd2 hcf (ci := 3) (x := ⟨"java/util/Iterator", "hasNext", "()Z"⟩) ev_y4 rfl (by decide +kernel : decode cX13_committed 111 = .ok (.invokeinterface 81 1, 5)) ev_w1551 ev_w1543 ev_w1547 ev_w1549 ev_w98 (by decide) (by decide +kernel) (by decide) rfl) <| ev_a0) <|
  ev_b (
   ev_a (ok_no) <|
   ev_a (ok_no) <|
   ev_a (ok_no) <|
   ev_a (ok_no) <|
   ev_a (ok_if_eq X hP (by decide +kernel : decode cX13_committed 116 = .ok (.ifCond .eq 190, 3)) (by decide) rfl) <|
   ev_a (ok_no) <|
   ev_a (ok_no) <|
   ev_a (ok_ald_n X hP (by decide +kernel : decode cX13_committed 119 = .ok (.aload_n 3, 1)) rfl rfl) <|
   ev_a (ok_invF X hP hR hd2 hcf (ci := 3) (x := ⟨"java/util/Iterator", "next", "()Ljava/lang/Object;"⟩) ev_y6 rfl (by decide +kernel : decode cX13_committed 120 = .ok (.invokeinterface 87 1, 5)) ev_w1560 ev_w1553 ev_w1556 ev_w1558 ev_w98 (by decide) (by decide +kernel) (by decide) rfl) <|
   ev_a (ok_no) <|
   ev_a (ok_no) <|
   ev_a (ok_no) <|
   ev_a (ok_no) <|
   ev_a (ok_castA X hP (by decide +kernel : decode cX13_committed 125 = .ok (.checkcast 106, 3)) ev_w1586 rfl) <|
   ev_a (ok_no) <|
   ev_a (ok_no) <| ev_a0) <|
  ev_b (
   ev_a (ok_ast X hP (by decide +kernel : decode cX13_committed 128 = .ok (.astore 4, 2)) (by decide) rfl) <|
   ev_a (ok_no) <|
   ev_a (ok_psh_iconst X hP (by decide +kernel : decode cX13_committed 130 = .ok (.iconst 0, 1)) rfl) <|
   ev_a (ok_ist X hP (by decide +kernel : decode cX13_committed 131 = .ok (.istore 5, 2)) (by decide) rfl) <|
   ev_a (ok_no) <|
   ev_a (ok_ald_n X hP (by decide +kernel : decode cX13_committed 133 = .ok (.aload_n 1, 1)) rfl rfl) <|
   ev_a (ok_invV X hP hR hd2 hcf (ci := 4) ev_y13 rfl (by decide +kernel : decode cX13_committed 134 = .ok (.invokevirtual 77, 3)) ev_w1522 ev_w1519 ev_w1520 ev_w1521 ev_w85 ⟨rfl, ev_dn13⟩ (by decide) rfl) <|
   ev_a (ok_no) <|
   ev_a (ok_no) <|
   ev_a (ok_ast X hP (by decide +kernel : decode cX13_committed 137 = .ok (.astore 6, 2)) (by decide) rfl) <|
   ev_a (ok_no) <|
   ev_a (ok_ald X hP (by decide +kernel : decode cX13_committed 139 = .ok (.aload 6, 2)) rfl) <|
   ev_a (ok_no) <|
   ev_a (ok_invF X hP hR hd2 hcf (ci := 3) (x := ⟨"java/util/Iterator", "hasNext", "()Z"⟩) ev_y4 rfl (by decide +kernel : decode cX13_committed 141 = .ok (.invokeinterface 81 1, 5)) ev_w1551 ev_w1543 ev_w1547 ev_w1549 ev_w98 (by decide) (by decide +kernel) (by decide) rfl) <|
   ev_a (ok_no) <|
   ev_a (ok_no) <| ev_a0) <|
  ev_b (
   ev_a (ok_no) <|
   ev_a (ok_no) <|
   ev_a (ok_if_eq X hP (by decide +kernel : decode cX13_committed 146 = .ok (.ifCond .eq 102, 3)) (by decide) rfl) <|
   ev_a (ok_no) <|
   ev_a (ok_no) <|
   ev_a (ok_ald X hP (by decide +kernel : decode cX13_committed 149 = .ok (.aload 6, 2)) rfl) <|
   ev_a (ok_no) <|
   ev_a (ok_invF X hP hR hd2 hcf (ci := 3) (x := ⟨"java/util/Iterator", "next", "()Ljava/lang/Object;"⟩) ev_y6 rfl (by decide +kernel : decode cX13_committed 151 = .ok (.invokeinterface 87 1, 5)) ev_w1560 ev_w1553 ev_w1556 ev_w1558 ev_w98 (by decide) (by decide +kernel) (by decide) rfl) <|
   ev_a (ok_no) <|
   ev_a (ok_no) <|
   ev_a (ok_no) <|
   ev_a (ok_no) <|
   ev_a (ok_castS X hP (ci := 17) (by decide +kernel : decode cX13_committed 156 = .ok (.checkcast 91, 3)) rfl ev_w1565 rfl) <|
   ev_a (ok_no) <|
   ev_a (ok_no) <|
   ev_a (ok_ast X hP (by decide +kernel : decode cX13_committed 159 = .ok (.astore 7, 2)) (by decide) rfl) <| ev_a0) <|
  ev_b (
   ev_a (ok_no) <|
   ev_a (ok_ald X hP (by decide +kernel : decode cX13_committed 161 = .ok (.aload 7, 2)) rfl) <|
   ev_a (ok_no) <|
   ev_a (ok_ild_n X hP (by decide +kernel : decode cX13_committed 163 = .ok (.iload_n 2, 1)) rfl rfl) <|
   ev_a (ok_invV X hP hR hd2 hcf (ci := 17) ev_y39 rfl (by decide +kernel : decode cX13_committed 164 = .ok (.invokevirtual 107, 3)) ev_w1590 ev_w1587 ev_w1588 ev_w1589 ev_w99 ⟨rfl, ev_dn39⟩ (by decide) rfl) <|
   ev_a (ok_no) <|
   ev_a (ok_no) <|
   ev_a (ok_if_ne X hP (by decide +kernel : decode cX13_committed 167 = .ok (.ifCond .ne 6, 3)) (by decide) rfl) <|
   ev_a (ok_no) <|
   ev_a (ok_no) <|
   ev_a (ok_jmp X hP (by decide +kernel : decode cX13_committed 170 = .ok (.goto (-31), 3)) (by decide)) <|
   ev_a (ok_no) <|
   ev_a (ok_no) <|
   ev_a (ok_ald X hP (by decide +kernel : decode cX13_committed 173 = .ok (.aload 4, 2)) rfl) <|
   ev_a (ok_no) <|
   ev_a (ok_psh_iconst X hP (by decide +kernel : decode cX13_committed 175 = .ok (.iconst 1, 1)) rfl) <| ev_a0) <|
  ev_b (
   ev_a (ok_ialoads X hP (by decide +kernel : decode cX13_committed 176 = .ok (.iaload, 1)) rfl) <|
   ev_a (ok_if_ne X hP (by decide +kernel : decode cX13_committed 177 = .ok (.ifCond .ne 29, 3)) (by decide) rfl) <|
   ev_a (ok_no) <|
   ev_a (ok_no) <|
   ev_a (ok_ald_n X hP (by decide +kernel : decode cX13_committed 180 = .ok (.aload_n 0, 1)) rfl rfl) <|
   ev_a (ok_ald X hP (by decide +kernel : decode cX13_committed 181 = .ok (.aload 7, 2)) rfl) <|
   ev_a (ok_no) <|
   ev_a (ok_getN X hP (ci := 17) (kf := 0) (T := TX12) (by decide +kernel : decode cX13_committed 183 = .ok (.getfield 94, 3)) rfl ev_in17 (by decide) ev_w1571 (Or.inl rfl) rfl) <|
   ev_a (ok_no) <|
   ev_a (ok_no) <|
   ev_a (ok_invV X hP hR hd2 hcf (ci := 18) ev_y52 rfl (by decide +kernel : decode cX13_committed 186 = .ok (.invokevirtual 110, 3)) ev_w1594 ev_w1591 ev_w1593 ev_w42 ev_w82 ⟨rfl, ev_dn52⟩ (by decide) rfl) <|
   ev_a (ok_no) <|
   ev_a (ok_no) <|
   ev_a (ok_ald_n X hP (by decide +kernel : decode cX13_committed 189 = .ok (.aload_n 0, 1)) rfl rfl) <|
   ev_a (ok_ald X hP (by decide +kernel : decode cX13_committed 190 = .ok (.aload 4, 2)) rfl) <|
   ev_a (ok_no) <| ev_a0) <|
  ev_b (
   ev_a (ok_psh_iconst X hP (by decide +kernel : decode cX13_committed 192 = .ok (.iconst 0, 1)) rfl) <|
   ev_a (ok_ialoads X hP (by decide +kernel : decode cX13_committed 193 = .ok (.iaload, 1)) rfl) <|
   ev_a (ok_invV X hP hR hd2 hcf (ci := 18) ev_y52 rfl (by decide +kernel : decode cX13_committed 194 = .ok (.invokevirtual 110, 3)) ev_w1594 ev_w1591 ev_w1593 ev_w42 ev_w82 ⟨rfl, ev_dn52⟩ (by decide) rfl) <|
   ev_a (ok_no) <|
   ev_a (ok_no) <|
   ev_a (ok_icmp_ne X hP (by decide +kernel : decode cX13_committed 197 = .ok (.if_icmp .ne 9, 3)) (by decide) rfl) <|
   ev_a (ok_no) <|
   ev_a (ok_no) <|
   ev_a (ok_ald X hP (by decide +kernel : decode cX13_committed 200 = .ok (.aload 7, 2)) rfl) <|
   ev_a (ok_no) <|
   ev_a (ok_ild_n X hP (by decide +kernel : decode cX13_committed 202 = .ok (.iload_n 2, 1)) rfl rfl) <|
   ev_a (ok_putN X hP (ci := 17) (kf := 3) (T := TX12) tyX12 (by decide +kernel : decode cX13_committed 203 = .ok (.putfield 103, 3)) rfl ev_in17 tyX12_ok nmX12 (by decide) ev_w1576 (Or.inl rfl) rfl rfl rfl) <|
   ev_a (ok_no) <|
   ev_a (ok_no) <|
   ev_a (ok_ald X hP (by decide +kernel : decode cX13_committed 206 = .ok (.aload 4, 2)) rfl) <|
   ev_a (ok_no) <| ev_a0) <|
  ev_b (
   ev_a (ok_psh_iconst X hP (by decide +kernel : decode cX13_committed 208 = .ok (.iconst 1, 1)) rfl) <|
   ev_a (ok_ialoads X hP (by decide +kernel : decode cX13_committed 209 = .ok (.iaload, 1)) rfl) <|
   ev_a (ok_if_le X hP (by decide +kernel : decode cX13_committed 210 = .ok (.ifCond .le 35, 3)) (by decide) rfl) <|
   ev_a (ok_no) <|
   ev_a (ok_no) <|
   ev_a (ok_ald X hP (by decide +kernel : decode cX13_committed 213 = .ok (.aload 7, 2)) rfl) <|
   ev_a (ok_no) <|
   ev_a (ok_getN X hP (ci := 17) (kf := 0) (T := TX12) (by decide +kernel : decode cX13_committed 215 = .ok (.getfield 94, 3)) rfl ev_in17 (by decide) ev_w1571 (Or.inl rfl) rfl) <|
   ev_a (ok_no) <|
   ev_a (ok_no) <|
   ev_a (ok_ald X hP (by decide +kernel : decode cX13_committed 218 = .ok (.aload 4, 2)) rfl) <|
   ev_a (ok_no) <|
   ev_a (ok_psh_iconst X hP (by decide +kernel : decode cX13_committed 220 = .ok (.iconst 0, 1)) rfl) <|
   ev_a (ok_ialoads X hP (by decide +kernel : decode cX13_committed 221 = .ok (.iaload, 1)) rfl) <|
   ev_a (ok_icmp_ne X hP (by decide +kernel : decode cX13_committed 222 = .ok (.if_icmp .ne 23, 3)) (by decide) rfl) <|
   ev_a (ok_no) <| ev_a0) <|
  ev_b (
   ev_a (ok_no) <|
   ev_a (ok_ald X hP (by decide +kernel : decode cX13_committed 225 = .ok (.aload 7, 2)) rfl) <|
   ev_a (ok_no) <|
   ev_a (ok_ald X hP (by decide +kernel : decode cX13_committed 227 = .ok (.aload 7, 2)) rfl) <|
   ev_a (ok_no) <|
   ev_a (ok_getN X hP (ci := 17) (kf := 1) (T := TX12) (by decide +kernel : decode cX13_committed 229 = .ok (.getfield 97, 3)) rfl ev_in17 (by decide) ev_w1572 (Or.inl rfl) rfl) <|
   ev_a (ok_no) <|
   ev_a (ok_no) <|
   ev_a (ok_ald X hP (by decide +kernel : decode cX13_committed 232 = .ok (.aload 4, 2)) rfl) <|
   ev_a (ok_no) <|
   ev_a (ok_psh_iconst X hP (by decide +kernel : decode cX13_committed 234 = .ok (.iconst 1, 1)) rfl) <|
   ev_a (ok_ialoads X hP (by decide +kernel : decode cX13_committed 235 = .ok (.iaload, 1)) rfl) <|
   ev_a (ok_no) <|
   ev_a (ok_no) <|
   ev_a (ok_no) <|
   ev_a (ok_putN X hP (ci := 17) (kf := 1) (T := TX12) tyX12 (by decide +kernel : decode cX13_committed 239 = .ok (.putfield 97, 3)) rfl ev_in17 tyX12_ok nmX12 (by decide) ev_w1572 (Or.inl rfl) rfl rfl rfl) <| ev_a0) <|
  ev_b (
   ev_a (ok_no) <|
   ev_a (ok_no) <|
   ev_a (ok_psh_iconst X hP (by decide +kernel : decode cX13_committed 242 = .ok (.iconst 1, 1)) rfl) <|
   ev_a (ok_ist X hP (by decide +kernel : decode cX13_committed 243 = .ok (.istore 5, 2)) (by decide) rfl) <|
   ev_a (ok_no) <|
   ev_a (ok_jmp X hP (by decide +kernel : decode cX13_committed 245 = .ok (.goto (-106), 3)) (by decide)) <|
   ev_a (ok_no) <|
   ev_a (ok_no) <|
   ev_a (ok_ald X hP (by decide +kernel : decode cX13_committed 248 = .ok (.aload 4, 2)) rfl) <|
   ev_a (ok_no) <|
   ev_a (ok_psh_iconst X hP (by decide +kernel : decode cX13_committed 250 = .ok (.iconst 1, 1)) rfl) <|
   ev_a (ok_ialoads X hP (by decide +kernel : decode cX13_committed 251 = .ok (.iaload, 1)) rfl) <|
   ev_a (ok_if_eq X hP (by decide +kernel : decode cX13_committed 252 = .ok (.ifCond .eq (-142), 3)) (by decide) rfl) <|
   ev_a (ok_no) <|
   ev_a (ok_no) <|
   ev_a (ok_ild X hP (by decide +kernel : decode cX13_committed 255 = .ok (.iload 5, 2)) rfl) <| ev_a0) <|
  ev_b (
   ev_a (ok_no) <|
   ev_a (ok_if_eq X hP (by decide +kernel : decode cX13_committed 257 = .ok (.ifCond .eq 6, 3)) (by decide) rfl) <|
   ev_a (ok_no) <|
   ev_a (ok_no) <|
   ev_a (ok_jmp X hP (by decide +kernel : decode cX13_committed 260 = .ok (.goto (-150), 3)) (by decide)) <|
   ev_a (ok_no) <|
   ev_a (ok_no) <|
   ev_a (ok_new X hP hR (ci := 17) (N := 4) (T := TX12) tyX12 (by decide +kernel : decode cX13_committed 263 = .ok (.new 91, 3)) rfl ev_in17 tyX12_ok ev_w1565 ev_w1566 ev_w99 (by decide +kernel) rfl ⟨rfl, by decide⟩ rfl) <|
   ev_a (ok_no) <|
   ev_a (ok_no) <|
   ev_a (ok_dup X hP (by decide +kernel : decode cX13_committed 266 = .ok (.dup, 1)) rfl) <|
   ev_a (ok_invIN X hP hR hd2 hcf ev_y40 (by decide +kernel : decode cX13_committed 267 = .ok (.invokespecial 93, 3)) ev_w1569 ev_w1567 ev_w1568 ev_w99 rfl ev_dn40 (by decide) rfl) <|
   ev_a (ok_no) <|
   ev_a (ok_no) <|
   ev_a (ok_ast X hP (by decide +kernel : decode cX13_committed 270 = .ok (.astore 6, 2)) (by decide) rfl) <|
   ev_a (ok_no) <| ev_a0) <|
  ev_b (
   ev_a (ok_ald X hP (by decide +kernel : decode cX13_committed 272 = .ok (.aload 6, 2)) rfl) <|
   ev_a (ok_no) <|
   ev_a (ok_ald X hP (by decide +kernel : decode cX13_committed 274 = .ok (.aload 4, 2)) rfl) <|
   ev_a (ok_no) <|
   ev_a (ok_psh_iconst X hP (by decide +kernel : decode cX13_committed 276 = .ok (.iconst 0, 1)) rfl) <|
   ev_a (ok_ialoads X hP (by decide +kernel : decode cX13_committed 277 = .ok (.iaload, 1)) rfl) <|
   ev_a (ok_putN X hP (ci := 17) (kf := 0) (T := TX12) tyX12 (by decide +kernel : decode cX13_committed 278 = .ok (.putfield 94, 3)) rfl ev_in17 tyX12_ok nmX12 (by decide) ev_w1571 (Or.inl rfl) rfl rfl rfl) <|
   ev_a (ok_no) <|
   ev_a (ok_no) <|
   ev_a (ok_ald X hP (by decide +kernel : decode cX13_committed 281 = .ok (.aload 6, 2)) rfl) <|
   ev_a (ok_no) <|
   ev_a (ok_ald X hP (by decide +kernel : decode cX13_committed 283 = .ok (.aload 4, 2)) rfl) <|
   ev_a (ok_no) <|
   ev_a (ok_psh_iconst X hP (by decide +kernel : decode cX13_committed 285 = .ok (.iconst 1, 1)) rfl) <|
   ev_a (ok_ialoads X hP (by decide +kernel : decode cX13_committed 286 = .ok (.iaload, 1)) rfl) <|
   ev_a (ok_putN X hP (ci := 17) (kf := 1) (T := TX12) tyX12 (by decide +kernel : decode cX13_committed 287 = .ok (.putfield 97, 3)) rfl ev_in17 tyX12_ok nmX12 (by decide) ev_w1572 (Or.inl rfl) rfl rfl rfl) <| ev_a0) <|
  ev_b (
   ev_a (ok_no) <|
   ev_a (ok_no) <|
   ev_a (ok_ald X hP (by decide +kernel : decode cX13_committed 290 = .ok (.aload 6, 2)) rfl) <|
   ev_a (ok_no) <|
   ev_a (ok_ild_n X hP (by decide +kernel : decode cX13_committed 292 = .ok (.iload_n 2, 1)) rfl rfl) <|
   ev_a (ok_putN X hP (ci := 17) (kf := 2) (T := TX12) tyX12 (by decide +kernel : decode cX13_committed 293 = .ok (.putfield 100, 3)) rfl ev_in17 tyX12_ok nmX12 (by decide) ev_w1574 (Or.inl rfl) rfl rfl rfl) <|
   ev_a (ok_no) <|
   ev_a (ok_no) <|
   ev_a (ok_ald_n X hP (by decide +kernel : decode cX13_committed 296 = .ok (.aload_n 1, 1)) rfl rfl) <|
   ev_a (ok_ald X hP (by decide +kernel : decode cX13_committed 297 = .ok (.aload 6, 2)) rfl) <|
   ev_a (ok_no) <|
   ev_a (ok_invV X hP hR hd2 hcf (ci := 4) ev_y8 rfl (by decide +kernel : decode cX13_committed 299 = .ok (.invokevirtual 67, 3)) ev_w1448 ev_w1445 ev_w1446 ev_w1447 ev_w85 ⟨rfl, ev_dn8⟩ (by decide) rfl) <|
   ev_a (ok_no) <|
   ev_a (ok_no) <|
   ev_a (ok_drop X hP (by decide +kernel : decode cX13_committed 302 = .ok (.pop, 1)) rfl) <|
   ev_a (ok_jmp X hP (by decide +kernel : decode cX13_committed 303 = .ok (.goto (-193), 3)) (by decide)) <| ev_a0) <|
  ev_b (
   ev_a (ok_no) <|
   ev_a (ok_no) <|
   ev_a (ok_ald_n X hP (by decide +kernel : decode cX13_committed 306 = .ok (.aload_n 1, 1)) rfl rfl) <|
   ev_a (ok_areturn X hP hQ hfin rfl (Or.inl ⟨_, rfl⟩) (by decide +kernel : decode cX13_committed 307 = .ok (.areturn, 1))) <| ev_a0) <|
  ev_b0
set_option maxRecDepth 100000 in
theorem ev_s45 {l : Launch} {d : Nat} {cf : Nat → List Value → ev_W → Option ev_R} {p : Program} {e : Env} {R : Room} {s : State} {m : MethodId} {args : Array Value} {below : List Frame} {meth : Method} {c : Code} {Q : State → Prop} {D : va_G} {G : Nat → ClassId} {ad : Nat → Nat} {A : Nat → Prop} {z wE nE : Nat} {P : Nat → List Value → List Value → ev_W → Nat → Prop} {α : Type} {r : α} {fin : Option Value → ev_W → Nat → Option α} (X : ev_X cX13_digit 2 yX13_digit.cls (some FieldType.int) p s m args meth c D G ad A z) (hP : ev_PP p l e R s m args below meth c Q 2 D G ad A z wE nE P) (hR : wE - z ≤ R.cells ∧ nE ≤ R.slots) (hd2 : d + 3 ≤ R.frames ∧ 64 * (d + 3) ≤ R.locals) (hR1 : 1 ≤ R.frames) (hR2 : 21 ≤ R.locals) (hcf : ev_cf l ev_ys d cf) {Qc : Array Value → State → Outcome → State → Prop} (hQ : Q = MQ below Qc args s (wE - z) nE A) (hfin : ∀ v w n, fin v w n = some r → w.length = wE ∧ n = nE ∧ ∀ H locs, ev_H D G ad A w H → va_S A s.heap H locs → ∀ t : State, t.heap = H → s.WarmedH t.vm → Qc args s (.returned (v.map (ev_v ad))) t) : ev_all2 (ev_ok P r) 0 (ev_o45 cf fin) :=
  ev_b (
   ev_a (ok_ild_n X hP (by decide +kernel : decode cX13_digit 0 = .ok (.iload_n 1, 1)) rfl rfl) <|
   ev_a (ok_if_ne X hP (by decide +kernel : decode cX13_digit 1 = .ok (.ifCond .ne 10, 3)) (by decide) rfl) <|
   ev_a (ok_no) <|
   ev_a (ok_no) <|
   ev_a (ok_ild_n X hP (by decide +kernel : decode cX13_digit 4 = .ok (.iload_n 0, 1)) rfl rfl) <|
   ev_a (ok_psh_bipush X hP (by decide +kernel : decode cX13_digit 5 = .ok (.bipush 100, 2)) rfl) <|
   ev_a (ok_no) <|
   ev_a (ok_idiv X hP (by decide +kernel : decode cX13_digit 7 = .ok (.idiv, 1)) rfl) <|
   ev_a (ok_jmp X hP (by decide +kernel : decode cX13_digit 8 = .ok (.goto 22, 3)) (by decide)) <|
   ev_a (ok_no) <|
   ev_a (ok_no) <|
   ev_a (ok_ild_n X hP (by decide +kernel : decode cX13_digit 11 = .ok (.iload_n 1, 1)) rfl rfl) <|
   ev_a (ok_psh_iconst X hP (by decide +kernel : decode cX13_digit 12 = .ok (.iconst 1, 1)) rfl) <|
   ev_a (ok_icmp_ne X hP (by decide +kernel : decode cX13_digit 13 = .ok (.if_icmp .ne 13, 3)) (by decide) rfl) <|
   ev_a (ok_no) <|
   ev_a (ok_no) <| ev_a0) <|
  ev_b (
   ev_a (ok_ild_n X hP (by decide +kernel : decode cX13_digit 16 = .ok (.iload_n 0, 1)) rfl rfl) <|
   ev_a (ok_psh_bipush X hP (by decide +kernel : decode cX13_digit 17 = .ok (.bipush 10, 2)) rfl) <|
   ev_a (ok_no) <|
   ev_a (ok_idiv X hP (by decide +kernel : decode cX13_digit 19 = .ok (.idiv, 1)) rfl) <|
   ev_a (ok_psh_bipush X hP (by decide +kernel : decode cX13_digit 20 = .ok (.bipush 10, 2)) rfl) <|
   ev_a (ok_no) <|
   ev_a (ok_irem X hP (by decide +kernel : decode cX13_digit 22 = .ok (.irem, 1)) rfl) <|
   ev_a (ok_jmp X hP (by decide +kernel : decode cX13_digit 23 = .ok (.goto 7, 3)) (by decide)) <|
   ev_a (ok_no) <|
   ev_a (ok_no) <|
   ev_a (ok_ild_n X hP (by decide +kernel : decode cX13_digit 26 = .ok (.iload_n 0, 1)) rfl rfl) <|
   ev_a (ok_psh_bipush X hP (by decide +kernel : decode cX13_digit 27 = .ok (.bipush 10, 2)) rfl) <|
   ev_a (ok_no) <|
   ev_a (ok_irem X hP (by decide +kernel : decode cX13_digit 29 = .ok (.irem, 1)) rfl) <|
   ev_a (ok_ireturn X hP hQ hfin rfl (by decide +kernel : decode cX13_digit 30 = .ok (.ireturn, 1))) <| ev_a0) <|
  ev_b0
set_option maxRecDepth 100000 in
theorem ev_s46 {l : Launch} {d : Nat} {cf : Nat → List Value → ev_W → Option ev_R} {p : Program} {e : Env} {R : Room} {s : State} {m : MethodId} {args : Array Value} {below : List Frame} {meth : Method} {c : Code} {Q : State → Prop} {D : va_G} {G : Nat → ClassId} {ad : Nat → Nat} {A : Nat → Prop} {z wE nE : Nat} {P : Nat → List Value → List Value → ev_W → Nat → Prop} {α : Type} {r : α} {fin : Option Value → ev_W → Nat → Option α} (X : ev_X cX13_forget 1 yX13_forget.cls none p s m args meth c D G ad A z) (hP : ev_PP p l e R s m args below meth c Q 1 D G ad A z wE nE P) (hR : wE - z ≤ R.cells ∧ nE ≤ R.slots) (hd2 : d + 3 ≤ R.frames ∧ 64 * (d + 3) ≤ R.locals) (hR1 : 1 ≤ R.frames) (hR2 : 21 ≤ R.locals) (hcf : ev_cf l ev_ys d cf) {Qc : Array Value → State → Outcome → State → Prop} (hQ : Q = MQ below Qc args s (wE - z) nE A) (hfin : ∀ v w n, fin v w n = some r → w.length = wE ∧ n = nE ∧ ∀ H locs, ev_H D G ad A w H → va_S A s.heap H locs → ∀ t : State, t.heap = H → s.WarmedH t.vm → Qc args s (.returned (v.map (ev_v ad))) t) : ev_all2 (ev_ok P r) 0 (ev_o46 cf fin) :=
  ev_b (
   ev_a (ok_ald_n X hP (by decide +kernel : decode cX13_forget 0 = .ok (.aload_n 0, 1)) rfl rfl) <|
   ev_a (ok_psh_null X hP (by decide +kernel : decode cX13_forget 1 = .ok (.aconst_null, 1)) rfl) <|
   ev_a (ok_put X hP (ci := 18) (kf := 9) (T := TX13) tyX13 (by decide +kernel : decode cX13_forget 2 = .ok (.putfield 128, 3)) rfl ev_in18 tyX13_ok nmX13 (by decide) ev_w1392 (Or.inl rfl) rfl rfl rfl) <|
   ev_a (ok_no) <|
   ev_a (ok_no) <|
   ev_a (ok_ald_n X hP (by decide +kernel : decode cX13_forget 5 = .ok (.aload_n 0, 1)) rfl rfl) <|
   ev_a (ok_psh_null X hP (by decide +kernel : decode cX13_forget 6 = .ok (.aconst_null, 1)) rfl) <|
   ev_a (ok_put X hP (ci := 18) (kf := 10) (T := TX13) tyX13 (by decide +kernel : decode cX13_forget 7 = .ok (.putfield 131, 3)) rfl ev_in18 tyX13_ok nmX13 (by decide) ev_w1393 (Or.inl rfl) rfl rfl rfl) <|
   ev_a (ok_no) <|
   ev_a (ok_no) <|
   ev_a (ok_return X hP hQ hfin rfl (by decide +kernel : decode cX13_forget 10 = .ok (.return_, 1))) <| ev_a0) <|
  ev_b0
set_option maxRecDepth 100000 in
theorem ev_s47 {l : Launch} {d : Nat} {cf : Nat → List Value → ev_W → Option ev_R} {p : Program} {e : Env} {R : Room} {s : State} {m : MethodId} {args : Array Value} {below : List Frame} {meth : Method} {c : Code} {Q : State → Prop} {D : va_G} {G : Nat → ClassId} {ad : Nat → Nat} {A : Nat → Prop} {z wE nE : Nat} {P : Nat → List Value → List Value → ev_W → Nat → Prop} {α : Type} {r : α} {fin : Option Value → ev_W → Nat → Option α} (X : ev_X cX13_init 1 yX13_init.cls none p s m args meth c D G ad A z) (hP : ev_PP p l e R s m args below meth c Q 1 D G ad A z wE nE P) (hR : wE - z ≤ R.cells ∧ nE ≤ R.slots) (hd2 : d + 3 ≤ R.frames ∧ 64 * (d + 3) ≤ R.locals) (hR1 : 1 ≤ R.frames) (hR2 : 21 ≤ R.locals) (hcf : ev_cf l ev_ys d cf) (hin2 : meth.name = "<init>") {Qc : Array Value → State → Outcome → State → Prop} (hQ : Q = MQ below Qc args s (wE - z) nE A) (hfin : ∀ v w n, fin v w n = some r → w.length = wE ∧ n = nE ∧ ∀ H locs, ev_H D G ad A w H → va_S A s.heap H locs → ∀ t : State, t.heap = H → s.WarmedH t.vm → Qc args s (.returned (v.map (ev_v ad))) t) : ev_all2 (ev_ok P r) 0 (ev_o47 cf fin) :=
  ev_b (
   ev_a (ok_ald_n X hP (by decide +kernel : decode cX13_init 0 = .ok (.aload_n 0, 1)) rfl rfl) <|
   ev_a (ok_obj X hP hR1 hR2 (by decide +kernel : decode cX13_init 1 = .ok (.invokespecial 1, 3)) ev_w1353 ev_w115 ev_w116 rfl) <|
   ev_a (ok_no) <|
   ev_a (ok_no) <|
   ev_a (ok_ald_n X hP (by decide +kernel : decode cX13_init 4 = .ok (.aload_n 0, 1)) rfl rfl) <|
   ev_a (ok_psh_bipush X hP (by decide +kernel : decode cX13_init 5 = .ok (.bipush 6, 2)) rfl) <|
   ev_a (ok_no) <|
   ev_a (ok_newarray X hP hR (by decide +kernel : decode cX13_init 7 = .ok (.newarray .int, 2)) (Or.inl ⟨rfl, rfl, rfl⟩) ev_w136 rfl) <|
   ev_a (ok_no) <|
   ev_a (ok_dup X hP (by decide +kernel : decode cX13_init 9 = .ok (.dup, 1)) rfl) <|
   ev_a (ok_psh_iconst X hP (by decide +kernel : decode cX13_init 10 = .ok (.iconst 0, 1)) rfl) <|
   ev_a (ok_psh_iconst X hP (by decide +kernel : decode cX13_init 11 = .ok (.iconst 0, 1)) rfl) <|
   ev_a (ok_iastores X hP (by decide +kernel : decode cX13_init 12 = .ok (.iastore, 1)) rfl) <|
   ev_a (ok_dup X hP (by decide +kernel : decode cX13_init 13 = .ok (.dup, 1)) rfl) <|
   ev_a (ok_psh_iconst X hP (by decide +kernel : decode cX13_init 14 = .ok (.iconst 1, 1)) rfl) <|
   ev_a (ok_psh_iconst X hP (by decide +kernel : decode cX13_init 15 = .ok (.iconst 1, 1)) rfl) <| ev_a0) <|
  ev_b (
   ev_a (ok_iastores X hP (by decide +kernel : decode cX13_init 16 = .ok (.iastore, 1)) rfl) <|
   ev_a (ok_dup X hP (by decide +kernel : decode cX13_init 17 = .ok (.dup, 1)) rfl) <|
   ev_a (ok_psh_iconst X hP (by decide +kernel : decode cX13_init 18 = .ok (.iconst 2, 1)) rfl) <|
   ev_a (ok_psh_iconst X hP (by decide +kernel : decode cX13_init 19 = .ok (.iconst 2, 1)) rfl) <|
   ev_a (ok_iastores X hP (by decide +kernel : decode cX13_init 20 = .ok (.iastore, 1)) rfl) <|
   ev_a (ok_dup X hP (by decide +kernel : decode cX13_init 21 = .ok (.dup, 1)) rfl) <|
   ev_a (ok_psh_iconst X hP (by decide +kernel : decode cX13_init 22 = .ok (.iconst 3, 1)) rfl) <|
   ev_a (ok_psh_iconst X hP (by decide +kernel : decode cX13_init 23 = .ok (.iconst 3, 1)) rfl) <|
   ev_a (ok_iastores X hP (by decide +kernel : decode cX13_init 24 = .ok (.iastore, 1)) rfl) <|
   ev_a (ok_dup X hP (by decide +kernel : decode cX13_init 25 = .ok (.dup, 1)) rfl) <|
   ev_a (ok_psh_iconst X hP (by decide +kernel : decode cX13_init 26 = .ok (.iconst 4, 1)) rfl) <|
   ev_a (ok_psh_iconst X hP (by decide +kernel : decode cX13_init 27 = .ok (.iconst 4, 1)) rfl) <|
   ev_a (ok_iastores X hP (by decide +kernel : decode cX13_init 28 = .ok (.iastore, 1)) rfl) <|
   ev_a (ok_dup X hP (by decide +kernel : decode cX13_init 29 = .ok (.dup, 1)) rfl) <|
   ev_a (ok_psh_iconst X hP (by decide +kernel : decode cX13_init 30 = .ok (.iconst 5, 1)) rfl) <|
   ev_a (ok_psh_iconst X hP (by decide +kernel : decode cX13_init 31 = .ok (.iconst 5, 1)) rfl) <| ev_a0) <|
  ev_b (
   ev_a (ok_iastores X hP (by decide +kernel : decode cX13_init 32 = .ok (.iastore, 1)) rfl) <|
   ev_a (ok_putF X hP hin2 (ci := 18) (kf := 1) (T := TX13) tyX13 (by decide +kernel : decode cX13_init 33 = .ok (.putfield 7, 3)) rfl ev_in18 tyX13_ok nmX13 (by decide) ev_w1384 (Or.inl rfl) rfl rfl rfl rfl) <|
   ev_a (ok_no) <|
   ev_a (ok_no) <|
   ev_a (ok_ald_n X hP (by decide +kernel : decode cX13_init 36 = .ok (.aload_n 0, 1)) rfl rfl) <|
   ev_a (ok_new X hP hR (ci := 4) (N := 3) (T := TJx4a65c) tyJx4a65c (by decide +kernel : decode cX13_init 37 = .ok (.new 13, 3)) rfl ev_in4 tyJx4a65c_ok ev_w1354 ev_w1355 ev_w85 (by decide +kernel) rfl ⟨rfl, by decide⟩ rfl) <|
   ev_a (ok_no) <|
   ev_a (ok_no) <|
   ev_a (ok_dup X hP (by decide +kernel : decode cX13_init 40 = .ok (.dup, 1)) rfl) <|
   ev_a (ok_invI X hP hR hd2 hcf ev_y12 (by decide +kernel : decode cX13_init 41 = .ok (.invokespecial 15, 3)) ev_w1358 ev_w1356 ev_w1357 ev_w85 rfl ev_dn12 (by decide) rfl) <|
   ev_a (ok_no) <|
   ev_a (ok_no) <|
   ev_a (ok_putF X hP hin2 (ci := 18) (kf := 3) (T := TX13) tyX13 (by decide +kernel : decode cX13_init 44 = .ok (.putfield 16, 3)) rfl ev_in18 tyX13_ok nmX13 (by decide) ev_w1386 (Or.inl rfl) rfl rfl rfl rfl) <|
   ev_a (ok_no) <|
   ev_a (ok_no) <|
   ev_a (ok_ald_n X hP (by decide +kernel : decode cX13_init 47 = .ok (.aload_n 0, 1)) rfl rfl) <| ev_a0) <|
  ev_b (
   ev_a (ok_new X hP hR (ci := 4) (N := 3) (T := TJx4a65c) tyJx4a65c (by decide +kernel : decode cX13_init 48 = .ok (.new 13, 3)) rfl ev_in4 tyJx4a65c_ok ev_w1354 ev_w1355 ev_w85 (by decide +kernel) rfl ⟨rfl, by decide⟩ rfl) <|
   ev_a (ok_no) <|
   ev_a (ok_no) <|
   ev_a (ok_dup X hP (by decide +kernel : decode cX13_init 51 = .ok (.dup, 1)) rfl) <|
   ev_a (ok_invI X hP hR hd2 hcf ev_y12 (by decide +kernel : decode cX13_init 52 = .ok (.invokespecial 15, 3)) ev_w1358 ev_w1356 ev_w1357 ev_w85 rfl ev_dn12 (by decide) rfl) <|
   ev_a (ok_no) <|
   ev_a (ok_no) <|
   ev_a (ok_putF X hP hin2 (ci := 18) (kf := 4) (T := TX13) tyX13 (by decide +kernel : decode cX13_init 55 = .ok (.putfield 20, 3)) rfl ev_in18 tyX13_ok nmX13 (by decide) ev_w1387 (Or.inl rfl) rfl rfl rfl rfl) <|
   ev_a (ok_no) <|
   ev_a (ok_no) <|
   ev_a (ok_ald_n X hP (by decide +kernel : decode cX13_init 58 = .ok (.aload_n 0, 1)) rfl rfl) <|
   ev_a (ok_new X hP hR (ci := 4) (N := 3) (T := TJx4a65c) tyJx4a65c (by decide +kernel : decode cX13_init 59 = .ok (.new 13, 3)) rfl ev_in4 tyJx4a65c_ok ev_w1354 ev_w1355 ev_w85 (by decide +kernel) rfl ⟨rfl, by decide⟩ rfl) <|
   ev_a (ok_no) <|
   ev_a (ok_no) <|
   ev_a (ok_dup X hP (by decide +kernel : decode cX13_init 62 = .ok (.dup, 1)) rfl) <|
   ev_a (ok_invI X hP hR hd2 hcf ev_y12 (by decide +kernel : decode cX13_init 63 = .ok (.invokespecial 15, 3)) ev_w1358 ev_w1356 ev_w1357 ev_w85 rfl ev_dn12 (by decide) rfl) <| ev_a0) <|
  ev_b (
   ev_a (ok_no) <|
   ev_a (ok_no) <|
   ev_a (ok_putF X hP hin2 (ci := 18) (kf := 5) (T := TX13) tyX13 (by decide +kernel : decode cX13_init 66 = .ok (.putfield 23, 3)) rfl ev_in18 tyX13_ok nmX13 (by decide) ev_w1388 (Or.inl rfl) rfl rfl rfl rfl) <|
   ev_a (ok_no) <|
   ev_a (ok_no) <|
   ev_a (ok_ald_n X hP (by decide +kernel : decode cX13_init 69 = .ok (.aload_n 0, 1)) rfl rfl) <|
   ev_a (ok_new X hP hR (ci := 4) (N := 3) (T := TJx4a65c) tyJx4a65c (by decide +kernel : decode cX13_init 70 = .ok (.new 13, 3)) rfl ev_in4 tyJx4a65c_ok ev_w1354 ev_w1355 ev_w85 (by decide +kernel) rfl ⟨rfl, by decide⟩ rfl) <|
   ev_a (ok_no) <|
   ev_a (ok_no) <|
   ev_a (ok_dup X hP (by decide +kernel : decode cX13_init 73 = .ok (.dup, 1)) rfl) <|
   ev_a (ok_invI X hP hR hd2 hcf ev_y12 (by decide +kernel : decode cX13_init 74 = .ok (.invokespecial 15, 3)) ev_w1358 ev_w1356 ev_w1357 ev_w85 rfl ev_dn12 (by decide) rfl) <|
   ev_a (ok_no) <|
   ev_a (ok_no) <|
   ev_a (ok_putF X hP hin2 (ci := 18) (kf := 6) (T := TX13) tyX13 (by decide +kernel : decode cX13_init 77 = .ok (.putfield 26, 3)) rfl ev_in18 tyX13_ok nmX13 (by decide) ev_w1389 (Or.inl rfl) rfl rfl rfl rfl) <|
   ev_a (ok_no) <|
   ev_a (ok_no) <| ev_a0) <|
  ev_b (
   ev_a (ok_ald_n X hP (by decide +kernel : decode cX13_init 80 = .ok (.aload_n 0, 1)) rfl rfl) <|
   ev_a (ok_psh_iconst X hP (by decide +kernel : decode cX13_init 81 = .ok (.iconst (-1), 1)) rfl) <|
   ev_a (ok_put X hP (ci := 18) (kf := 7) (T := TX13) tyX13 (by decide +kernel : decode cX13_init 82 = .ok (.putfield 29, 3)) rfl ev_in18 tyX13_ok nmX13 (by decide) ev_w1390 (Or.inl rfl) rfl rfl rfl) <|
   ev_a (ok_no) <|
   ev_a (ok_no) <|
   ev_a (ok_return X hP hQ hfin rfl (by decide +kernel : decode cX13_init 85 = .ok (.return_, 1))) <| ev_a0) <|
  ev_b0
set_option maxRecDepth 100000 in
theorem ev_s48 {l : Launch} {d : Nat} {cf : Nat → List Value → ev_W → Option ev_R} {p : Program} {e : Env} {R : Room} {s : State} {m : MethodId} {args : Array Value} {below : List Frame} {meth : Method} {c : Code} {Q : State → Prop} {D : va_G} {G : Nat → ClassId} {ad : Nat → Nat} {A : Nat → Prop} {z wE nE : Nat} {P : Nat → List Value → List Value → ev_W → Nat → Prop} {α : Type} {r : α} {fin : Option Value → ev_W → Nat → Option α} (X : ev_X cX13_is 3 yX13_is.cls (some FieldType.boolean) p s m args meth c D G ad A z) (hP : ev_PP p l e R s m args below meth c Q 3 D G ad A z wE nE P) (hR : wE - z ≤ R.cells ∧ nE ≤ R.slots) (hd2 : d + 3 ≤ R.frames ∧ 64 * (d + 3) ≤ R.locals) (hR1 : 1 ≤ R.frames) (hR2 : 21 ≤ R.locals) (hcf : ev_cf l ev_ys d cf) {Qc : Array Value → State → Outcome → State → Prop} (hQ : Q = MQ below Qc args s (wE - z) nE A) (hfin : ∀ v w n, fin v w n = some r → w.length = wE ∧ n = nE ∧ ∀ H locs, ev_H D G ad A w H → va_S A s.heap H locs → ∀ t : State, t.heap = H → s.WarmedH t.vm → Qc args s (.returned (v.map (ev_v ad))) t) : ev_all2 (ev_ok P r) 0 (ev_o48 cf fin) :=
  ev_b (
   ev_a (ok_ild_n X hP (by decide +kernel : decode cX13_is 0 = .ok (.iload_n 0, 1)) rfl rfl) <|
   ev_a (ok_ild_n X hP (by decide +kernel : decode cX13_is 1 = .ok (.iload_n 1, 1)) rfl rfl) <|
   ev_a (ok_icmp_lt X hP (by decide +kernel : decode cX13_is 2 = .ok (.if_icmp .lt 12, 3)) (by decide) rfl) <|
   ev_a (ok_no) <|
   ev_a (ok_no) <|
   ev_a (ok_ild_n X hP (by decide +kernel : decode cX13_is 5 = .ok (.iload_n 0, 1)) rfl rfl) <|
   ev_a (ok_ild_n X hP (by decide +kernel : decode cX13_is 6 = .ok (.iload_n 2, 1)) rfl rfl) <|
   ev_a (ok_icmp_gt X hP (by decide +kernel : decode cX13_is 7 = .ok (.if_icmp .gt 7, 3)) (by decide) rfl) <|
   ev_a (ok_no) <|
   ev_a (ok_no) <|
   ev_a (ok_psh_iconst X hP (by decide +kernel : decode cX13_is 10 = .ok (.iconst 1, 1)) rfl) <|
   ev_a (ok_jmp X hP (by decide +kernel : decode cX13_is 11 = .ok (.goto 4, 3)) (by decide)) <|
   ev_a (ok_no) <|
   ev_a (ok_no) <|
   ev_a (ok_psh_iconst X hP (by decide +kernel : decode cX13_is 14 = .ok (.iconst 0, 1)) rfl) <|
   ev_a (ok_zreturn X hP hQ hfin rfl (by decide +kernel : decode cX13_is 15 = .ok (.ireturn, 1))) <| ev_a0) <|
  ev_b0
set_option maxRecDepth 100000 in
theorem ev_s49 {l : Launch} {d : Nat} {cf : Nat → List Value → ev_W → Option ev_R} {p : Program} {e : Env} {R : Room} {s : State} {m : MethodId} {args : Array Value} {below : List Frame} {meth : Method} {c : Code} {Q : State → Prop} {D : va_G} {G : Nat → ClassId} {ad : Nat → Nat} {A : Nat → Prop} {z wE nE : Nat} {P : Nat → List Value → List Value → ev_W → Nat → Prop} {α : Type} {r : α} {fin : Option Value → ev_W → Nat → Option α} (X : ev_X cX13_isTriple 1 yX13_isTriple.cls (some FieldType.boolean) p s m args meth c D G ad A z) (hP : ev_PP p l e R s m args below meth c Q 1 D G ad A z wE nE P) (hR : wE - z ≤ R.cells ∧ nE ≤ R.slots) (hd2 : d + 3 ≤ R.frames ∧ 64 * (d + 3) ≤ R.locals) (hR1 : 1 ≤ R.frames) (hR2 : 21 ≤ R.locals) (hcf : ev_cf l ev_ys d cf) {Qc : Array Value → State → Outcome → State → Prop} (hQ : Q = MQ below Qc args s (wE - z) nE A) (hfin : ∀ v w n, fin v w n = some r → w.length = wE ∧ n = nE ∧ ∀ H locs, ev_H D G ad A w H → va_S A s.heap H locs → ∀ t : State, t.heap = H → s.WarmedH t.vm → Qc args s (.returned (v.map (ev_v ad))) t) : ev_all2 (ev_ok P r) 0 (ev_o49 cf fin) :=
  ev_b (
   ev_a (ok_ild_n X hP (by decide +kernel : decode cX13_isTriple 0 = .ok (.iload_n 0, 1)) rfl rfl) <|
   ev_a (ok_psh_iconst X hP (by decide +kernel : decode cX13_isTriple 1 = .ok (.iconst 0, 1)) rfl) <|
   ev_a (ok_psh_sipush X hP (by decide +kernel : decode cX13_isTriple 2 = .ok (.sipush 555, 3)) rfl) <|
   ev_a (ok_no) <|
   ev_a (ok_no) <|
   ev_a (ok_invS X hP hR hd2 hcf ev_y48 (by decide +kernel : decode cX13_isTriple 5 = .ok (.invokestatic 36, 3)) ev_w1433 ev_w1431 ev_w1432 ev_w82 ev_dn48 (by decide) rfl) <|
   ev_a (ok_no) <|
   ev_a (ok_no) <|
   ev_a (ok_if_eq X hP (by decide +kernel : decode cX13_isTriple 8 = .ok (.ifCond .eq 37, 3)) (by decide) rfl) <|
   ev_a (ok_no) <|
   ev_a (ok_no) <|
   ev_a (ok_ild_n X hP (by decide +kernel : decode cX13_isTriple 11 = .ok (.iload_n 0, 1)) rfl rfl) <|
   ev_a (ok_psh_iconst X hP (by decide +kernel : decode cX13_isTriple 12 = .ok (.iconst 0, 1)) rfl) <|
   ev_a (ok_invS X hP hR hd2 hcf ev_y45 (by decide +kernel : decode cX13_isTriple 13 = .ok (.invokestatic 40, 3)) ev_w1436 ev_w1434 ev_w1435 ev_w82 ev_dn45 (by decide) rfl) <|
   ev_a (ok_no) <|
   ev_a (ok_no) <| ev_a0) <|
  ev_b (
   ev_a (ok_psh_bipush X hP (by decide +kernel : decode cX13_isTriple 16 = .ok (.bipush 6, 2)) rfl) <|
   ev_a (ok_no) <|
   ev_a (ok_icmp_ge X hP (by decide +kernel : decode cX13_isTriple 18 = .ok (.if_icmp .ge 27, 3)) (by decide) rfl) <|
   ev_a (ok_no) <|
   ev_a (ok_no) <|
   ev_a (ok_ild_n X hP (by decide +kernel : decode cX13_isTriple 21 = .ok (.iload_n 0, 1)) rfl rfl) <|
   ev_a (ok_psh_iconst X hP (by decide +kernel : decode cX13_isTriple 22 = .ok (.iconst 1, 1)) rfl) <|
   ev_a (ok_invS X hP hR hd2 hcf ev_y45 (by decide +kernel : decode cX13_isTriple 23 = .ok (.invokestatic 40, 3)) ev_w1436 ev_w1434 ev_w1435 ev_w82 ev_dn45 (by decide) rfl) <|
   ev_a (ok_no) <|
   ev_a (ok_no) <|
   ev_a (ok_psh_bipush X hP (by decide +kernel : decode cX13_isTriple 26 = .ok (.bipush 6, 2)) rfl) <|
   ev_a (ok_no) <|
   ev_a (ok_icmp_ge X hP (by decide +kernel : decode cX13_isTriple 28 = .ok (.if_icmp .ge 17, 3)) (by decide) rfl) <|
   ev_a (ok_no) <|
   ev_a (ok_no) <|
   ev_a (ok_ild_n X hP (by decide +kernel : decode cX13_isTriple 31 = .ok (.iload_n 0, 1)) rfl rfl) <| ev_a0) <|
  ev_b (
   ev_a (ok_psh_iconst X hP (by decide +kernel : decode cX13_isTriple 32 = .ok (.iconst 2, 1)) rfl) <|
   ev_a (ok_invS X hP hR hd2 hcf ev_y45 (by decide +kernel : decode cX13_isTriple 33 = .ok (.invokestatic 40, 3)) ev_w1436 ev_w1434 ev_w1435 ev_w82 ev_dn45 (by decide) rfl) <|
   ev_a (ok_no) <|
   ev_a (ok_no) <|
   ev_a (ok_psh_bipush X hP (by decide +kernel : decode cX13_isTriple 36 = .ok (.bipush 6, 2)) rfl) <|
   ev_a (ok_no) <|
   ev_a (ok_icmp_ge X hP (by decide +kernel : decode cX13_isTriple 38 = .ok (.if_icmp .ge 7, 3)) (by decide) rfl) <|
   ev_a (ok_no) <|
   ev_a (ok_no) <|
   ev_a (ok_psh_iconst X hP (by decide +kernel : decode cX13_isTriple 41 = .ok (.iconst 1, 1)) rfl) <|
   ev_a (ok_jmp X hP (by decide +kernel : decode cX13_isTriple 42 = .ok (.goto 4, 3)) (by decide)) <|
   ev_a (ok_no) <|
   ev_a (ok_no) <|
   ev_a (ok_psh_iconst X hP (by decide +kernel : decode cX13_isTriple 45 = .ok (.iconst 0, 1)) rfl) <|
   ev_a (ok_zreturn X hP hQ hfin rfl (by decide +kernel : decode cX13_isTriple 46 = .ok (.ireturn, 1))) <| ev_a0) <|
  ev_b0
set_option maxRecDepth 100000 in
theorem ev_s50 {l : Launch} {d : Nat} {cf : Nat → List Value → ev_W → Option ev_R} {p : Program} {e : Env} {R : Room} {s : State} {m : MethodId} {args : Array Value} {below : List Frame} {meth : Method} {c : Code} {Q : State → Prop} {D : va_G} {G : Nat → ClassId} {ad : Nat → Nat} {A : Nat → Prop} {z wE nE : Nat} {P : Nat → List Value → List Value → ev_W → Nat → Prop} {α : Type} {r : α} {fin : Option Value → ev_W → Nat → Option α} (X : ev_X cX13_newBinding 0 yX13_newBinding.cls (some (FieldType.array FieldType.int)) p s m args meth c D G ad A z) (hP : ev_PP p l e R s m args below meth c Q 0 D G ad A z wE nE P) (hR : wE - z ≤ R.cells ∧ nE ≤ R.slots) (hd2 : d + 3 ≤ R.frames ∧ 64 * (d + 3) ≤ R.locals) (hR1 : 1 ≤ R.frames) (hR2 : 21 ≤ R.locals) (hcf : ev_cf l ev_ys d cf) {Qc : Array Value → State → Outcome → State → Prop} (hQ : Q = MQ below Qc args s (wE - z) nE A) (hfin : ∀ v w n, fin v w n = some r → w.length = wE ∧ n = nE ∧ ∀ H locs, ev_H D G ad A w H → va_S A s.heap H locs → ∀ t : State, t.heap = H → s.WarmedH t.vm → Qc args s (.returned (v.map (ev_v ad))) t) : ev_all2 (ev_ok P r) 0 (ev_o50 cf fin) :=
  ev_b (
   ev_a (ok_psh_iconst X hP (by decide +kernel : decode cX13_newBinding 0 = .ok (.iconst 4, 1)) rfl) <|
   ev_a (ok_newarray X hP hR (by decide +kernel : decode cX13_newBinding 1 = .ok (.newarray .int, 2)) (Or.inl ⟨rfl, rfl, rfl⟩) ev_w136 rfl) <|
   ev_a (ok_no) <|
   ev_a (ok_dup X hP (by decide +kernel : decode cX13_newBinding 3 = .ok (.dup, 1)) rfl) <|
   ev_a (ok_psh_iconst X hP (by decide +kernel : decode cX13_newBinding 4 = .ok (.iconst 0, 1)) rfl) <|
   ev_a (ok_psh_bipush X hP (by decide +kernel : decode cX13_newBinding 5 = .ok (.bipush 9, 2)) rfl) <|
   ev_a (ok_no) <|
   ev_a (ok_iastores X hP (by decide +kernel : decode cX13_newBinding 7 = .ok (.iastore, 1)) rfl) <|
   ev_a (ok_dup X hP (by decide +kernel : decode cX13_newBinding 8 = .ok (.dup, 1)) rfl) <|
   ev_a (ok_psh_iconst X hP (by decide +kernel : decode cX13_newBinding 9 = .ok (.iconst 1, 1)) rfl) <|
   ev_a (ok_psh_bipush X hP (by decide +kernel : decode cX13_newBinding 10 = .ok (.bipush 9, 2)) rfl) <|
   ev_a (ok_no) <|
   ev_a (ok_iastores X hP (by decide +kernel : decode cX13_newBinding 12 = .ok (.iastore, 1)) rfl) <|
   ev_a (ok_dup X hP (by decide +kernel : decode cX13_newBinding 13 = .ok (.dup, 1)) rfl) <|
   ev_a (ok_psh_iconst X hP (by decide +kernel : decode cX13_newBinding 14 = .ok (.iconst 2, 1)) rfl) <|
   ev_a (ok_psh_bipush X hP (by decide +kernel : decode cX13_newBinding 15 = .ok (.bipush 9, 2)) rfl) <| ev_a0) <|
  ev_b (
   ev_a (ok_no) <|
   ev_a (ok_iastores X hP (by decide +kernel : decode cX13_newBinding 17 = .ok (.iastore, 1)) rfl) <|
   ev_a (ok_dup X hP (by decide +kernel : decode cX13_newBinding 18 = .ok (.dup, 1)) rfl) <|
   ev_a (ok_psh_iconst X hP (by decide +kernel : decode cX13_newBinding 19 = .ok (.iconst 3, 1)) rfl) <|
   ev_a (ok_psh_bipush X hP (by decide +kernel : decode cX13_newBinding 20 = .ok (.bipush 9, 2)) rfl) <|
   ev_a (ok_no) <|
   ev_a (ok_iastores X hP (by decide +kernel : decode cX13_newBinding 22 = .ok (.iastore, 1)) rfl) <|
   ev_a (ok_areturn X hP hQ hfin rfl (Or.inr ⟨_, rfl⟩) (by decide +kernel : decode cX13_newBinding 23 = .ok (.areturn, 1))) <| ev_a0) <|
  ev_b0
set_option maxRecDepth 100000 in
theorem ev_s51 {l : Launch} {d : Nat} {cf : Nat → List Value → ev_W → Option ev_R} {p : Program} {e : Env} {R : Room} {s : State} {m : MethodId} {args : Array Value} {below : List Frame} {meth : Method} {c : Code} {Q : State → Prop} {D : va_G} {G : Nat → ClassId} {ad : Nat → Nat} {A : Nat → Prop} {z wE nE : Nat} {P : Nat → List Value → List Value → ev_W → Nat → Prop} {α : Type} {r : α} {fin : Option Value → ev_W → Nat → Option α} (X : ev_X cX13_place 6 yX13_place.cls (some FieldType.int) p s m args meth c D G ad A z) (hP : ev_PP p l e R s m args below meth c Q 6 D G ad A z wE nE P) (hR : wE - z ≤ R.cells ∧ nE ≤ R.slots) (hd2 : d + 3 ≤ R.frames ∧ 64 * (d + 3) ≤ R.locals) (hR1 : 1 ≤ R.frames) (hR2 : 21 ≤ R.locals) (hcf : ev_cf l ev_ys d cf) {Qc : Array Value → State → Outcome → State → Prop} (hQ : Q = MQ below Qc args s (wE - z) nE A) (hfin : ∀ v w n, fin v w n = some r → w.length = wE ∧ n = nE ∧ ∀ H locs, ev_H D G ad A w H → va_S A s.heap H locs → ∀ t : State, t.heap = H → s.WarmedH t.vm → Qc args s (.returned (v.map (ev_v ad))) t) : ev_all2 (ev_ok P r) 0 (ev_o51 cf fin) :=
  ev_b (
   ev_a (ok_psh_iconst X hP (by decide +kernel : decode cX13_place 0 = .ok (.iconst 0, 1)) rfl) <|
   ev_a (ok_ist_n X hP (by decide +kernel : decode cX13_place 1 = .ok (.istore_n 3, 1)) rfl (by decide) rfl) <|
   ev_a (ok_psh_iconst X hP (by decide +kernel : decode cX13_place 2 = .ok (.iconst 0, 1)) rfl) <|
   ev_a (ok_ist X hP (by decide +kernel : decode cX13_place 3 = .ok (.istore 4, 2)) (by decide) rfl) <|
   ev_a (ok_no) <|
   ev_a (ok_ild X hP (by decide +kernel : decode cX13_place 5 = .ok (.iload 4, 2)) rfl) <|
   ev_a (ok_no) <|
   ev_a (ok_psh_iconst X hP (by decide +kernel : decode cX13_place 7 = .ok (.iconst 3, 1)) rfl) <|
   ev_a (ok_icmp_ge X hP (by decide +kernel : decode cX13_place 8 = .ok (.if_icmp .ge 47, 3)) (by decide) rfl) <|
   ev_a (ok_no) <|
   ev_a (ok_no) <|
   ev_a (ok_ild_n X hP (by decide +kernel : decode cX13_place 11 = .ok (.iload_n 1, 1)) rfl rfl) <|
   ev_a (ok_ild X hP (by decide +kernel : decode cX13_place 12 = .ok (.iload 4, 2)) rfl) <|
   ev_a (ok_no) <|
   ev_a (ok_invS X hP hR hd2 hcf ev_y45 (by decide +kernel : decode cX13_place 14 = .ok (.invokestatic 40, 3)) ev_w1436 ev_w1434 ev_w1435 ev_w82 ev_dn45 (by decide) rfl) <|
   ev_a (ok_no) <| ev_a0) <|
  ev_b (
   ev_a (ok_no) <|
   ev_a (ok_ist X hP (by decide +kernel : decode cX13_place 17 = .ok (.istore 5, 2)) (by decide) rfl) <|
   ev_a (ok_no) <|
   ev_a (ok_psh_bipush X hP (by decide +kernel : decode cX13_place 19 = .ok (.bipush 6, 2)) rfl) <|
   ev_a (ok_no) <|
   ev_a (ok_ild_n X hP (by decide +kernel : decode cX13_place 21 = .ok (.iload_n 3, 1)) rfl rfl) <|
   ev_a (ok_imul X hP (by decide +kernel : decode cX13_place 22 = .ok (.imul, 1)) rfl) <|
   ev_a (ok_ild X hP (by decide +kernel : decode cX13_place 23 = .ok (.iload 5, 2)) rfl) <|
   ev_a (ok_no) <|
   ev_a (ok_psh_bipush X hP (by decide +kernel : decode cX13_place 25 = .ok (.bipush 6, 2)) rfl) <|
   ev_a (ok_no) <|
   ev_a (ok_icmp_ge X hP (by decide +kernel : decode cX13_place 27 = .ok (.if_icmp .ge 13, 3)) (by decide) rfl) <|
   ev_a (ok_no) <|
   ev_a (ok_no) <|
   ev_a (ok_ald_n X hP (by decide +kernel : decode cX13_place 30 = .ok (.aload_n 0, 1)) rfl rfl) <|
   ev_a (ok_get X hP (ci := 18) (kf := 1) (T := TX13) (by decide +kernel : decode cX13_place 31 = .ok (.getfield 7, 3)) rfl ev_in18 (by decide) ev_w1384 (Or.inl rfl) rfl) <| ev_a0) <|
  ev_b (
   ev_a (ok_no) <|
   ev_a (ok_no) <|
   ev_a (ok_ild X hP (by decide +kernel : decode cX13_place 34 = .ok (.iload 5, 2)) rfl) <|
   ev_a (ok_no) <|
   ev_a (ok_ialoads X hP (by decide +kernel : decode cX13_place 36 = .ok (.iaload, 1)) rfl) <|
   ev_a (ok_jmp X hP (by decide +kernel : decode cX13_place 37 = .ok (.goto 10, 3)) (by decide)) <|
   ev_a (ok_no) <|
   ev_a (ok_no) <|
   ev_a (ok_ald_n X hP (by decide +kernel : decode cX13_place 40 = .ok (.aload_n 2, 1)) rfl rfl) <|
   ev_a (ok_ild X hP (by decide +kernel : decode cX13_place 41 = .ok (.iload 5, 2)) rfl) <|
   ev_a (ok_no) <|
   ev_a (ok_psh_bipush X hP (by decide +kernel : decode cX13_place 43 = .ok (.bipush 6, 2)) rfl) <|
   ev_a (ok_no) <|
   ev_a (ok_isub X hP (by decide +kernel : decode cX13_place 45 = .ok (.isub, 1)) rfl) <|
   ev_a (ok_ialoads X hP (by decide +kernel : decode cX13_place 46 = .ok (.iaload, 1)) rfl) <|
   ev_a (ok_iadd X hP (by decide +kernel : decode cX13_place 47 = .ok (.iadd, 1)) rfl) <| ev_a0) <|
  ev_b (
   ev_a (ok_ist_n X hP (by decide +kernel : decode cX13_place 48 = .ok (.istore_n 3, 1)) rfl (by decide) rfl) <|
   ev_a (ok_inc X hP (by decide +kernel : decode cX13_place 49 = .ok (.iinc 4 1, 3)) (by decide) rfl) <|
   ev_a (ok_no) <|
   ev_a (ok_no) <|
   ev_a (ok_jmp X hP (by decide +kernel : decode cX13_place 52 = .ok (.goto (-47), 3)) (by decide)) <|
   ev_a (ok_no) <|
   ev_a (ok_no) <|
   ev_a (ok_ild_n X hP (by decide +kernel : decode cX13_place 55 = .ok (.iload_n 3, 1)) rfl rfl) <|
   ev_a (ok_ireturn X hP hQ hfin rfl (by decide +kernel : decode cX13_place 56 = .ok (.ireturn, 1))) <| ev_a0) <|
  ev_b0
set_option maxRecDepth 100000 in
theorem ev_s52 {l : Launch} {d : Nat} {cf : Nat → List Value → ev_W → Option ev_R} {p : Program} {e : Env} {R : Room} {s : State} {m : MethodId} {args : Array Value} {below : List Frame} {meth : Method} {c : Code} {Q : State → Prop} {D : va_G} {G : Nat → ClassId} {ad : Nat → Nat} {A : Nat → Prop} {z wE nE : Nat} {P : Nat → List Value → List Value → ev_W → Nat → Prop} {α : Type} {r : α} {fin : Option Value → ev_W → Nat → Option α} (X : ev_X cX13_place_ 2 yX13_place_.cls (some FieldType.int) p s m args meth c D G ad A z) (hP : ev_PP p l e R s m args below meth c Q 2 D G ad A z wE nE P) (hR : wE - z ≤ R.cells ∧ nE ≤ R.slots) (hd2 : d + 3 ≤ R.frames ∧ 64 * (d + 3) ≤ R.locals) (hR1 : 1 ≤ R.frames) (hR2 : 21 ≤ R.locals) (hcf : ev_cf l ev_ys d cf) {Qc : Array Value → State → Outcome → State → Prop} (hQ : Q = MQ below Qc args s (wE - z) nE A) (hfin : ∀ v w n, fin v w n = some r → w.length = wE ∧ n = nE ∧ ∀ H locs, ev_H D G ad A w H → va_S A s.heap H locs → ∀ t : State, t.heap = H → s.WarmedH t.vm → Qc args s (.returned (v.map (ev_v ad))) t) : ev_all2 (ev_ok P r) 0 (ev_o52 cf fin) :=
  ev_b (
   ev_a (ok_ald_n X hP (by decide +kernel : decode cX13_place_ 0 = .ok (.aload_n 0, 1)) rfl rfl) <|
   ev_a (ok_ild_n X hP (by decide +kernel : decode cX13_place_ 1 = .ok (.iload_n 1, 1)) rfl rfl) <|
   ev_a (ok_invS X hP hR hd2 hcf ev_y50 (by decide +kernel : decode cX13_place_ 2 = .ok (.invokestatic 44, 3)) ev_w1597 ev_w1595 ev_w1596 ev_w82 ev_dn50 (by decide) rfl) <|
   ev_a (ok_no) <|
   ev_a (ok_no) <|
   ev_a (ok_invV X hP hR hd2 hcf (ci := 18) ev_y51 rfl (by decide +kernel : decode cX13_place_ 5 = .ok (.invokevirtual 48, 3)) ev_w1601 ev_w1598 ev_w1600 ev_w43 ev_w82 ⟨rfl, ev_dn51⟩ (by decide) rfl) <|
   ev_a (ok_no) <|
   ev_a (ok_no) <|
   ev_a (ok_ireturn X hP hQ hfin rfl (by decide +kernel : decode cX13_place_ 8 = .ok (.ireturn, 1))) <| ev_a0) <|
  ev_b0
set_option maxRecDepth 100000 in
theorem ev_s53 {l : Launch} {d : Nat} {cf : Nat → List Value → ev_W → Option ev_R} {p : Program} {e : Env} {R : Room} {s : State} {m : MethodId} {args : Array Value} {below : List Frame} {meth : Method} {c : Code} {Q : State → Prop} {D : va_G} {G : Nat → ClassId} {ad : Nat → Nat} {A : Nat → Prop} {z wE nE : Nat} {P : Nat → List Value → List Value → ev_W → Nat → Prop} {α : Type} {r : α} {fin : Option Value → ev_W → Nat → Option α} (X : ev_X cX13_tell 3 yX13_tell.cls (some FieldType.int) p s m args meth c D G ad A z) (hP : ev_PP p l e R s m args below meth c Q 3 D G ad A z wE nE P) (hR : wE - z ≤ R.cells ∧ nE ≤ R.slots) (hd2 : d + 3 ≤ R.frames ∧ 64 * (d + 3) ≤ R.locals) (hR1 : 1 ≤ R.frames) (hR2 : 21 ≤ R.locals) (hcf : ev_cf l ev_ys d cf) {Qc : Array Value → State → Outcome → State → Prop} (hQ : Q = MQ below Qc args s (wE - z) nE A) (hfin : ∀ v w n, fin v w n = some r → w.length = wE ∧ n = nE ∧ ∀ H locs, ev_H D G ad A w H → va_S A s.heap H locs → ∀ t : State, t.heap = H → s.WarmedH t.vm → Qc args s (.returned (v.map (ev_v ad))) t) : ev_all2 (ev_ok P r) 0 (ev_o53 cf fin) :=
  ev_b (
   ev_a (ok_ald_n X hP (by decide +kernel : decode cX13_tell 0 = .ok (.aload_n 0, 1)) rfl rfl) <|
   ev_a (ok_psh_iconst X hP (by decide +kernel : decode cX13_tell 1 = .ok (.iconst 0, 1)) rfl) <|
   ev_a (ok_put X hP (ci := 18) (kf := 0) (T := TX13) tyX13 (by decide +kernel : decode cX13_tell 2 = .ok (.putfield 33, 3)) rfl ev_in18 tyX13_ok nmX13 (by decide) ev_w1383 (Or.inl rfl) rfl rfl rfl) <|
   ev_a (ok_no) <|
   ev_a (ok_no) <|
   ev_a (ok_ild_n X hP (by decide +kernel : decode cX13_tell 5 = .ok (.iload_n 1, 1)) rfl rfl) <|
   ev_a (ok_invS X hP hR hd2 hcf ev_y49 (by decide +kernel : decode cX13_tell 6 = .ok (.invokestatic 56, 3)) ev_w1430 ev_w1428 ev_w1429 ev_w82 ev_dn49 (by decide) rfl) <|
   ev_a (ok_no) <|
   ev_a (ok_no) <|
   ev_a (ok_if_eq X hP (by decide +kernel : decode cX13_tell 9 = .ok (.ifCond .eq 13, 3)) (by decide) rfl) <|
   ev_a (ok_no) <|
   ev_a (ok_no) <|
   ev_a (ok_ild_n X hP (by decide +kernel : decode cX13_tell 12 = .ok (.iload_n 2, 1)) rfl rfl) <|
   ev_a (ok_psh_iconst X hP (by decide +kernel : decode cX13_tell 13 = .ok (.iconst 1, 1)) rfl) <|
   ev_a (ok_psh_bipush X hP (by decide +kernel : decode cX13_tell 14 = .ok (.bipush 9, 2)) rfl) <|
   ev_a (ok_no) <| ev_a0) <|
  ev_b (
   ev_a (ok_invS X hP hR hd2 hcf ev_y48 (by decide +kernel : decode cX13_tell 16 = .ok (.invokestatic 36, 3)) ev_w1433 ev_w1431 ev_w1432 ev_w82 ev_dn48 (by decide) rfl) <|
   ev_a (ok_no) <|
   ev_a (ok_no) <|
   ev_a (ok_if_ne X hP (by decide +kernel : decode cX13_tell 19 = .ok (.ifCond .ne 9, 3)) (by decide) rfl) <|
   ev_a (ok_no) <|
   ev_a (ok_no) <|
   ev_a (ok_ald_n X hP (by decide +kernel : decode cX13_tell 22 = .ok (.aload_n 0, 1)) rfl rfl) <|
   ev_a (ok_psh_iconst X hP (by decide +kernel : decode cX13_tell 23 = .ok (.iconst 1, 1)) rfl) <|
   ev_a (ok_no) <|
   ev_a (ok_no) <|
   ev_a (ok_no) <|
   ev_a (ok_ireturn X hP hQ hfin rfl (by decide +kernel : decode cX13_tell 27 = .ok (.ireturn, 1))) <|
   ev_a (ok_ald_n X hP (by decide +kernel : decode cX13_tell 28 = .ok (.aload_n 0, 1)) rfl rfl) <|
   ev_a (ok_get X hP (ci := 18) (kf := 4) (T := TX13) (by decide +kernel : decode cX13_tell 29 = .ok (.getfield 20, 3)) rfl ev_in18 (by decide) ev_w1387 (Or.inl rfl) rfl) <|
   ev_a (ok_no) <|
   ev_a (ok_no) <| ev_a0) <|
  ev_b (
   ev_a (ok_invV X hP hR hd2 hcf (ci := 4) ev_y14 rfl (by decide +kernel : decode cX13_tell 32 = .ok (.invokevirtual 63, 3)) ev_w1444 ev_w1441 ev_w1442 ev_w1443 ev_w85 ⟨rfl, ev_dn14⟩ (by decide) rfl) <|
   ev_a (ok_no) <|
   ev_a (ok_no) <|
   ev_a (ok_psh_bipush X hP (by decide +kernel : decode cX13_tell 35 = .ok (.bipush 12, 2)) rfl) <|
   ev_a (ok_no) <|
   ev_a (ok_icmp_ne X hP (by decide +kernel : decode cX13_tell 37 = .ok (.if_icmp .ne 9, 3)) (by decide) rfl) <|
   ev_a (ok_no) <|
   ev_a (ok_no) <|
   ev_a (ok_ald_n X hP (by decide +kernel : decode cX13_tell 40 = .ok (.aload_n 0, 1)) rfl rfl) <|
   ev_a (ok_psh_iconst X hP (by decide +kernel : decode cX13_tell 41 = .ok (.iconst 2, 1)) rfl) <|
   ev_a (ok_no) <|
   ev_a (ok_no) <|
   ev_a (ok_no) <|
   ev_a (ok_ireturn X hP hQ hfin rfl (by decide +kernel : decode cX13_tell 45 = .ok (.ireturn, 1))) <|
   ev_a (ok_ald_n X hP (by decide +kernel : decode cX13_tell 46 = .ok (.aload_n 0, 1)) rfl rfl) <|
   ev_a (ok_get X hP (ci := 18) (kf := 4) (T := TX13) (by decide +kernel : decode cX13_tell 47 = .ok (.getfield 20, 3)) rfl ev_in18 (by decide) ev_w1387 (Or.inl rfl) rfl) <| ev_a0) <|
  ev_b (
   ev_a (ok_no) <|
   ev_a (ok_no) <|
   ev_a (ok_psh_iconst X hP (by decide +kernel : decode cX13_tell 50 = .ok (.iconst 2, 1)) rfl) <|
   ev_a (ok_newarray X hP hR (by decide +kernel : decode cX13_tell 51 = .ok (.newarray .int, 2)) (Or.inl ⟨rfl, rfl, rfl⟩) ev_w136 rfl) <|
   ev_a (ok_no) <|
   ev_a (ok_dup X hP (by decide +kernel : decode cX13_tell 53 = .ok (.dup, 1)) rfl) <|
   ev_a (ok_psh_iconst X hP (by decide +kernel : decode cX13_tell 54 = .ok (.iconst 0, 1)) rfl) <|
   ev_a (ok_ild_n X hP (by decide +kernel : decode cX13_tell 55 = .ok (.iload_n 1, 1)) rfl rfl) <|
   ev_a (ok_iastores X hP (by decide +kernel : decode cX13_tell 56 = .ok (.iastore, 1)) rfl) <|
   ev_a (ok_dup X hP (by decide +kernel : decode cX13_tell 57 = .ok (.dup, 1)) rfl) <|
   ev_a (ok_psh_iconst X hP (by decide +kernel : decode cX13_tell 58 = .ok (.iconst 1, 1)) rfl) <|
   ev_a (ok_ild_n X hP (by decide +kernel : decode cX13_tell 59 = .ok (.iload_n 2, 1)) rfl rfl) <|
   ev_a (ok_iastores X hP (by decide +kernel : decode cX13_tell 60 = .ok (.iastore, 1)) rfl) <|
   ev_a (ok_invV X hP hR hd2 hcf (ci := 4) ev_y8 rfl (by decide +kernel : decode cX13_tell 61 = .ok (.invokevirtual 67, 3)) ev_w1448 ev_w1445 ev_w1446 ev_w1447 ev_w85 ⟨rfl, ev_dn8⟩ (by decide) rfl) <|
   ev_a (ok_no) <|
   ev_a (ok_no) <| ev_a0) <|
  ev_b (
   ev_a (ok_drop X hP (by decide +kernel : decode cX13_tell 64 = .ok (.pop, 1)) rfl) <|
   ev_a (ok_ald_n X hP (by decide +kernel : decode cX13_tell 65 = .ok (.aload_n 0, 1)) rfl rfl) <|
   ev_a (ok_get X hP (ci := 18) (kf := 4) (T := TX13) (by decide +kernel : decode cX13_tell 66 = .ok (.getfield 20, 3)) rfl ev_in18 (by decide) ev_w1387 (Or.inl rfl) rfl) <|
   ev_a (ok_no) <|
   ev_a (ok_no) <|
   ev_a (ok_invV X hP hR hd2 hcf (ci := 4) ev_y14 rfl (by decide +kernel : decode cX13_tell 69 = .ok (.invokevirtual 63, 3)) ev_w1444 ev_w1441 ev_w1442 ev_w1443 ev_w85 ⟨rfl, ev_dn14⟩ (by decide) rfl) <|
   ev_a (ok_no) <|
   ev_a (ok_no) <|
   ev_a (ok_ireturn X hP hQ hfin rfl (by decide +kernel : decode cX13_tell 72 = .ok (.ireturn, 1))) <| ev_a0) <|
  ev_b0
set_option maxRecDepth 100000 in
theorem ev_s54 {l : Launch} {d : Nat} {cf : Nat → List Value → ev_W → Option ev_R} {p : Program} {e : Env} {R : Room} {s : State} {m : MethodId} {args : Array Value} {below : List Frame} {meth : Method} {c : Code} {Q : State → Prop} {D : va_G} {G : Nat → ClassId} {ad : Nat → Nat} {A : Nat → Prop} {z wE nE : Nat} {P : Nat → List Value → List Value → ev_W → Nat → Prop} {α : Type} {r : α} {fin : Option Value → ev_W → Nat → Option α} (X : ev_X cX13_thrown 1 yX13_thrown.cls (some FieldType.int) p s m args meth c D G ad A z) (hP : ev_PP p l e R s m args below meth c Q 1 D G ad A z wE nE P) (hR : wE - z ≤ R.cells ∧ nE ≤ R.slots) (hd2 : d + 3 ≤ R.frames ∧ 64 * (d + 3) ≤ R.locals) (hR1 : 1 ≤ R.frames) (hR2 : 21 ≤ R.locals) (hcf : ev_cf l ev_ys d cf) {Qc : Array Value → State → Outcome → State → Prop} (hQ : Q = MQ below Qc args s (wE - z) nE A) (hfin : ∀ v w n, fin v w n = some r → w.length = wE ∧ n = nE ∧ ∀ H locs, ev_H D G ad A w H → va_S A s.heap H locs → ∀ t : State, t.heap = H → s.WarmedH t.vm → Qc args s (.returned (v.map (ev_v ad))) t) : ev_all2 (ev_ok P r) 0 (ev_o54 cf fin) :=
  ev_b (
   ev_a (ok_ald_n X hP (by decide +kernel : decode cX13_thrown 0 = .ok (.aload_n 0, 1)) rfl rfl) <|
   ev_a (ok_get X hP (ci := 18) (kf := 0) (T := TX13) (by decide +kernel : decode cX13_thrown 1 = .ok (.getfield 33, 3)) rfl ev_in18 (by decide) ev_w1383 (Or.inl rfl) rfl) <|
   ev_a (ok_no) <|
   ev_a (ok_no) <|
   ev_a (ok_ireturn X hP hQ hfin rfl (by decide +kernel : decode cX13_thrown 4 = .ok (.ireturn, 1))) <| ev_a0) <|
  ev_b0
set_option maxRecDepth 100000 in
theorem ev_s55 {l : Launch} {d : Nat} {cf : Nat → List Value → ev_W → Option ev_R} {p : Program} {e : Env} {R : Room} {s : State} {m : MethodId} {args : Array Value} {below : List Frame} {meth : Method} {c : Code} {Q : State → Prop} {D : va_G} {G : Nat → ClassId} {ad : Nat → Nat} {A : Nat → Prop} {z wE nE : Nat} {P : Nat → List Value → List Value → ev_W → Nat → Prop} {α : Type} {r : α} {fin : Option Value → ev_W → Nat → Option α} (X : ev_X cX13_told 7 yX13_told.cls (some (FieldType.array FieldType.boolean)) p s m args meth c D G ad A z) (hP : ev_PP p l e R s m args below meth c Q 7 D G ad A z wE nE P) (hR : wE - z ≤ R.cells ∧ nE ≤ R.slots) (hd2 : d + 3 ≤ R.frames ∧ 64 * (d + 3) ≤ R.locals) (hR1 : 1 ≤ R.frames) (hR2 : 21 ≤ R.locals) (hcf : ev_cf l ev_ys d cf) {Qc : Array Value → State → Outcome → State → Prop} (hQ : Q = MQ below Qc args s (wE - z) nE A) (hfin : ∀ v w n, fin v w n = some r → w.length = wE ∧ n = nE ∧ ∀ H locs, ev_H D G ad A w H → va_S A s.heap H locs → ∀ t : State, t.heap = H → s.WarmedH t.vm → Qc args s (.returned (v.map (ev_v ad))) t) : ev_all2 (ev_ok P r) 0 (ev_o55 cf fin) :=
  ev_b (
   ev_a (ok_psh_sipush X hP (by decide +kernel : decode cX13_told 0 = .ok (.sipush 216, 3)) rfl) <|
   ev_a (ok_no) <|
   ev_a (ok_no) <|
   ev_a (ok_newarray X hP hR (by decide +kernel : decode cX13_told 3 = .ok (.newarray .boolean, 2)) (Or.inr ⟨rfl, rfl, rfl⟩) ev_w1615 rfl) <|
   ev_a (ok_no) <|
   ev_a (ok_ast X hP (by decide +kernel : decode cX13_told 5 = .ok (.astore 4, 2)) (by decide) rfl) <|
   ev_a (ok_no) <|
   ev_a (ok_ald_n X hP (by decide +kernel : decode cX13_told 7 = .ok (.aload_n 1, 1)) rfl rfl) <|
   ev_a (ok_invV X hP hR hd2 hcf (ci := 4) ev_y13 rfl (by decide +kernel : decode cX13_told 8 = .ok (.invokevirtual 77, 3)) ev_w1522 ev_w1519 ev_w1520 ev_w1521 ev_w85 ⟨rfl, ev_dn13⟩ (by decide) rfl) <|
   ev_a (ok_no) <|
   ev_a (ok_no) <|
   ev_a (ok_ast X hP (by decide +kernel : decode cX13_told 11 = .ok (.astore 5, 2)) (by decide) rfl) <|
   ev_a (ok_no) <|
   ev_a (ok_ald X hP (by decide +kernel : decode cX13_told 13 = .ok (.aload 5, 2)) rfl) <|
   ev_a (ok_no) <|
   ev_a (ok_invF X hP hR hd2 hcf (ci := 3) (x := ⟨"java/util/Iterator", "hasNext", "()Z"⟩) ev_y4 rfl (by decide +kernel : decode cX13_told 15 = .ok (.invokeinterface 81 1, 5)) ev_w1551 ev_w1543 ev_w1547 ev_w1549 ev_w98 (by decide) (by decide +kernel) (by decide) rfl) <| ev_a0) <|
  ev_b (
   ev_a (ok_no) <|
   ev_a (ok_no) <|
   ev_a (ok_no) <|
   ev_a (ok_no) <|
   ev_a (ok_if_eq X hP (by decide +kernel : decode cX13_told 20 = .ok (.ifCond .eq 49, 3)) (by decide) rfl) <|
   ev_a (ok_no) <|
   ev_a (ok_no) <|
   ev_a (ok_ald X hP (by decide +kernel : decode cX13_told 23 = .ok (.aload 5, 2)) rfl) <|
   ev_a (ok_no) <|
   ev_a (ok_invF X hP hR hd2 hcf (ci := 3) (x := ⟨"java/util/Iterator", "next", "()Ljava/lang/Object;"⟩) ev_y6 rfl (by decide +kernel : decode cX13_told 25 = .ok (.invokeinterface 87 1, 5)) ev_w1560 ev_w1553 ev_w1556 ev_w1558 ev_w98 (by decide) (by decide +kernel) (by decide) rfl) <|
   ev_a (ok_no) <|
   ev_a (ok_no) <|
   ev_a (ok_no) <|
   ev_a (ok_no) <|
   ev_a (ok_castS X hP (ci := 17) (by decide +kernel : decode cX13_told 30 = .ok (.checkcast 91, 3)) rfl ev_w1565 rfl) <|
   ev_a (ok_no) <| ev_a0) <|
  ev_b (
   ev_a (ok_no) <|
   ev_a (ok_ast X hP (by decide +kernel : decode cX13_told 33 = .ok (.astore 6, 2)) (by decide) rfl) <|
   ev_a (ok_no) <|
   ev_a (ok_ald X hP (by decide +kernel : decode cX13_told 35 = .ok (.aload 6, 2)) rfl) <|
   ev_a (ok_no) <|
   ev_a (ok_ild_n X hP (by decide +kernel : decode cX13_told 37 = .ok (.iload_n 2, 1)) rfl rfl) <|
   ev_a (ok_invV X hP hR hd2 hcf (ci := 17) ev_y39 rfl (by decide +kernel : decode cX13_told 38 = .ok (.invokevirtual 107, 3)) ev_w1590 ev_w1587 ev_w1588 ev_w1589 ev_w99 ⟨rfl, ev_dn39⟩ (by decide) rfl) <|
   ev_a (ok_no) <|
   ev_a (ok_no) <|
   ev_a (ok_if_eq X hP (by decide +kernel : decode cX13_told 41 = .ok (.ifCond .eq 25, 3)) (by decide) rfl) <|
   ev_a (ok_no) <|
   ev_a (ok_no) <|
   ev_a (ok_ald X hP (by decide +kernel : decode cX13_told 44 = .ok (.aload 6, 2)) rfl) <|
   ev_a (ok_no) <|
   ev_a (ok_getN X hP (ci := 17) (kf := 1) (T := TX12) (by decide +kernel : decode cX13_told 46 = .ok (.getfield 97, 3)) rfl ev_in17 (by decide) ev_w1572 (Or.inl rfl) rfl) <|
   ev_a (ok_no) <| ev_a0) <|
  ev_b (
   ev_a (ok_no) <|
   ev_a (ok_ild_n X hP (by decide +kernel : decode cX13_told 49 = .ok (.iload_n 3, 1)) rfl rfl) <|
   ev_a (ok_icmp_lt X hP (by decide +kernel : decode cX13_told 50 = .ok (.if_icmp .lt 16, 3)) (by decide) rfl) <|
   ev_a (ok_no) <|
   ev_a (ok_no) <|
   ev_a (ok_ald X hP (by decide +kernel : decode cX13_told 53 = .ok (.aload 4, 2)) rfl) <|
   ev_a (ok_no) <|
   ev_a (ok_ald_n X hP (by decide +kernel : decode cX13_told 55 = .ok (.aload_n 0, 1)) rfl rfl) <|
   ev_a (ok_ald X hP (by decide +kernel : decode cX13_told 56 = .ok (.aload 6, 2)) rfl) <|
   ev_a (ok_no) <|
   ev_a (ok_getN X hP (ci := 17) (kf := 0) (T := TX12) (by decide +kernel : decode cX13_told 58 = .ok (.getfield 94, 3)) rfl ev_in17 (by decide) ev_w1571 (Or.inl rfl) rfl) <|
   ev_a (ok_no) <|
   ev_a (ok_no) <|
   ev_a (ok_invV X hP hR hd2 hcf (ci := 18) ev_y52 rfl (by decide +kernel : decode cX13_told 61 = .ok (.invokevirtual 110, 3)) ev_w1594 ev_w1591 ev_w1593 ev_w42 ev_w82 ⟨rfl, ev_dn52⟩ (by decide) rfl) <|
   ev_a (ok_no) <|
   ev_a (ok_no) <| ev_a0) <|
  ev_b (
   ev_a (ok_psh_iconst X hP (by decide +kernel : decode cX13_told 64 = .ok (.iconst 1, 1)) rfl) <|
   ev_a (ok_bastores X hP (by decide +kernel : decode cX13_told 65 = .ok (.bastore, 1)) rfl) <|
   ev_a (ok_jmp X hP (by decide +kernel : decode cX13_told 66 = .ok (.goto (-53), 3)) (by decide)) <|
   ev_a (ok_no) <|
   ev_a (ok_no) <|
   ev_a (ok_ald X hP (by decide +kernel : decode cX13_told 69 = .ok (.aload 4, 2)) rfl) <|
   ev_a (ok_no) <|
   ev_a (ok_areturn X hP hQ hfin rfl (Or.inr ⟨_, rfl⟩) (by decide +kernel : decode cX13_told 71 = .ok (.areturn, 1))) <| ev_a0) <|
  ev_b0
set_option maxRecDepth 100000 in
theorem ev_s56 {l : Launch} {d : Nat} {cf : Nat → List Value → ev_W → Option ev_R} {p : Program} {e : Env} {R : Room} {s : State} {m : MethodId} {args : Array Value} {below : List Frame} {meth : Method} {c : Code} {Q : State → Prop} {D : va_G} {G : Nat → ClassId} {ad : Nat → Nat} {A : Nat → Prop} {z wE nE : Nat} {P : Nat → List Value → List Value → ev_W → Nat → Prop} {α : Type} {r : α} {fin : Option Value → ev_W → Nat → Option α} (X : ev_X cX13_unsay 2 yX13_unsay.cls (some FieldType.int) p s m args meth c D G ad A z) (hP : ev_PP p l e R s m args below meth c Q 2 D G ad A z wE nE P) (hR : wE - z ≤ R.cells ∧ nE ≤ R.slots) (hd2 : d + 3 ≤ R.frames ∧ 64 * (d + 3) ≤ R.locals) (hR1 : 1 ≤ R.frames) (hR2 : 21 ≤ R.locals) (hcf : ev_cf l ev_ys d cf) {Qc : Array Value → State → Outcome → State → Prop} (hQ : Q = MQ below Qc args s (wE - z) nE A) (hfin : ∀ v w n, fin v w n = some r → w.length = wE ∧ n = nE ∧ ∀ H locs, ev_H D G ad A w H → va_S A s.heap H locs → ∀ t : State, t.heap = H → s.WarmedH t.vm → Qc args s (.returned (v.map (ev_v ad))) t) : ev_all2 (ev_ok P r) 0 (ev_o56 cf fin) :=
  ev_b (
   ev_a (ok_ald_n X hP (by decide +kernel : decode cX13_unsay 0 = .ok (.aload_n 0, 1)) rfl rfl) <|
   ev_a (ok_psh_iconst X hP (by decide +kernel : decode cX13_unsay 1 = .ok (.iconst 0, 1)) rfl) <|
   ev_a (ok_put X hP (ci := 18) (kf := 0) (T := TX13) tyX13 (by decide +kernel : decode cX13_unsay 2 = .ok (.putfield 33, 3)) rfl ev_in18 tyX13_ok nmX13 (by decide) ev_w1383 (Or.inl rfl) rfl rfl rfl) <|
   ev_a (ok_no) <|
   ev_a (ok_no) <|
   ev_a (ok_ild_n X hP (by decide +kernel : decode cX13_unsay 5 = .ok (.iload_n 1, 1)) rfl rfl) <|
   ev_a (ok_invS X hP hR hd2 hcf ev_y49 (by decide +kernel : decode cX13_unsay 6 = .ok (.invokestatic 56, 3)) ev_w1430 ev_w1428 ev_w1429 ev_w82 ev_dn49 (by decide) rfl) <|
   ev_a (ok_no) <|
   ev_a (ok_no) <|
   ev_a (ok_if_ne X hP (by decide +kernel : decode cX13_unsay 9 = .ok (.ifCond .ne 9, 3)) (by decide) rfl) <|
   ev_a (ok_no) <|
   ev_a (ok_no) <|
   ev_a (ok_ald_n X hP (by decide +kernel : decode cX13_unsay 12 = .ok (.aload_n 0, 1)) rfl rfl) <|
   ev_a (ok_psh_iconst X hP (by decide +kernel : decode cX13_unsay 13 = .ok (.iconst 1, 1)) rfl) <|
   ev_a (ok_no) <|
   ev_a (ok_no) <| ev_a0) <|
  ev_b (
   ev_a (ok_no) <|
   ev_a (ok_ireturn X hP hQ hfin rfl (by decide +kernel : decode cX13_unsay 17 = .ok (.ireturn, 1))) <|
   ev_a (ok_ald_n X hP (by decide +kernel : decode cX13_unsay 18 = .ok (.aload_n 0, 1)) rfl rfl) <|
   ev_a (ok_get X hP (ci := 18) (kf := 4) (T := TX13) (by decide +kernel : decode cX13_unsay 19 = .ok (.getfield 20, 3)) rfl ev_in18 (by decide) ev_w1387 (Or.inl rfl) rfl) <|
   ev_a (ok_no) <|
   ev_a (ok_no) <|
   ev_a (ok_invV X hP hR hd2 hcf (ci := 4) ev_y14 rfl (by decide +kernel : decode cX13_unsay 22 = .ok (.invokevirtual 63, 3)) ev_w1444 ev_w1441 ev_w1442 ev_w1443 ev_w85 ⟨rfl, ev_dn14⟩ (by decide) rfl) <|
   ev_a (ok_no) <|
   ev_a (ok_no) <|
   ev_a (ok_psh_bipush X hP (by decide +kernel : decode cX13_unsay 25 = .ok (.bipush 12, 2)) rfl) <|
   ev_a (ok_no) <|
   ev_a (ok_icmp_ne X hP (by decide +kernel : decode cX13_unsay 27 = .ok (.if_icmp .ne 9, 3)) (by decide) rfl) <|
   ev_a (ok_no) <|
   ev_a (ok_no) <|
   ev_a (ok_ald_n X hP (by decide +kernel : decode cX13_unsay 30 = .ok (.aload_n 0, 1)) rfl rfl) <|
   ev_a (ok_psh_iconst X hP (by decide +kernel : decode cX13_unsay 31 = .ok (.iconst 2, 1)) rfl) <| ev_a0) <|
  ev_b (
   ev_a (ok_no) <|
   ev_a (ok_no) <|
   ev_a (ok_no) <|
   ev_a (ok_ireturn X hP hQ hfin rfl (by decide +kernel : decode cX13_unsay 35 = .ok (.ireturn, 1))) <|
   ev_a (ok_ald_n X hP (by decide +kernel : decode cX13_unsay 36 = .ok (.aload_n 0, 1)) rfl rfl) <|
   ev_a (ok_get X hP (ci := 18) (kf := 4) (T := TX13) (by decide +kernel : decode cX13_unsay 37 = .ok (.getfield 20, 3)) rfl ev_in18 (by decide) ev_w1387 (Or.inl rfl) rfl) <|
   ev_a (ok_no) <|
   ev_a (ok_no) <|
   ev_a (ok_psh_iconst X hP (by decide +kernel : decode cX13_unsay 40 = .ok (.iconst 2, 1)) rfl) <|
   ev_a (ok_newarray X hP hR (by decide +kernel : decode cX13_unsay 41 = .ok (.newarray .int, 2)) (Or.inl ⟨rfl, rfl, rfl⟩) ev_w136 rfl) <|
   ev_a (ok_no) <|
   ev_a (ok_dup X hP (by decide +kernel : decode cX13_unsay 43 = .ok (.dup, 1)) rfl) <|
   ev_a (ok_psh_iconst X hP (by decide +kernel : decode cX13_unsay 44 = .ok (.iconst 0, 1)) rfl) <|
   ev_a (ok_ild_n X hP (by decide +kernel : decode cX13_unsay 45 = .ok (.iload_n 1, 1)) rfl rfl) <|
   ev_a (ok_iastores X hP (by decide +kernel : decode cX13_unsay 46 = .ok (.iastore, 1)) rfl) <|
   ev_a (ok_dup X hP (by decide +kernel : decode cX13_unsay 47 = .ok (.dup, 1)) rfl) <| ev_a0) <|
  ev_b (
   ev_a (ok_psh_iconst X hP (by decide +kernel : decode cX13_unsay 48 = .ok (.iconst 1, 1)) rfl) <|
   ev_a (ok_psh_iconst X hP (by decide +kernel : decode cX13_unsay 49 = .ok (.iconst 0, 1)) rfl) <|
   ev_a (ok_iastores X hP (by decide +kernel : decode cX13_unsay 50 = .ok (.iastore, 1)) rfl) <|
   ev_a (ok_invV X hP hR hd2 hcf (ci := 4) ev_y8 rfl (by decide +kernel : decode cX13_unsay 51 = .ok (.invokevirtual 67, 3)) ev_w1448 ev_w1445 ev_w1446 ev_w1447 ev_w85 ⟨rfl, ev_dn8⟩ (by decide) rfl) <|
   ev_a (ok_no) <|
   ev_a (ok_no) <|
   ev_a (ok_drop X hP (by decide +kernel : decode cX13_unsay 54 = .ok (.pop, 1)) rfl) <|
   ev_a (ok_ald_n X hP (by decide +kernel : decode cX13_unsay 55 = .ok (.aload_n 0, 1)) rfl rfl) <|
   ev_a (ok_get X hP (ci := 18) (kf := 4) (T := TX13) (by decide +kernel : decode cX13_unsay 56 = .ok (.getfield 20, 3)) rfl ev_in18 (by decide) ev_w1387 (Or.inl rfl) rfl) <|
   ev_a (ok_no) <|
   ev_a (ok_no) <|
   ev_a (ok_invV X hP hR hd2 hcf (ci := 4) ev_y14 rfl (by decide +kernel : decode cX13_unsay 59 = .ok (.invokevirtual 63, 3)) ev_w1444 ev_w1441 ev_w1442 ev_w1443 ev_w85 ⟨rfl, ev_dn14⟩ (by decide) rfl) <|
   ev_a (ok_no) <|
   ev_a (ok_no) <|
   ev_a (ok_ireturn X hP hQ hfin rfl (by decide +kernel : decode cX13_unsay 62 = .ok (.ireturn, 1))) <| ev_a0) <|
  ev_b0
set_option maxRecDepth 100000 in
theorem ev_s57 {l : Launch} {d : Nat} {cf : Nat → List Value → ev_W → Option ev_R} {p : Program} {e : Env} {R : Room} {s : State} {m : MethodId} {args : Array Value} {below : List Frame} {meth : Method} {c : Code} {Q : State → Prop} {D : va_G} {G : Nat → ClassId} {ad : Nat → Nat} {A : Nat → Prop} {z wE nE : Nat} {P : Nat → List Value → List Value → ev_W → Nat → Prop} {α : Type} {r : α} {fin : Option Value → ev_W → Nat → Option α} (X : ev_X cX1_init 1 yX1_init.cls none p s m args meth c D G ad A z) (hP : ev_PP p l e R s m args below meth c Q 1 D G ad A z wE nE P) (hR : wE - z ≤ R.cells ∧ nE ≤ R.slots) (hd2 : d + 3 ≤ R.frames ∧ 64 * (d + 3) ≤ R.locals) (hR1 : 1 ≤ R.frames) (hR2 : 21 ≤ R.locals) (hcf : ev_cf l ev_ys d cf) (hin2 : meth.name = "<init>") {Qc : Array Value → State → Outcome → State → Prop} (hQ : Q = MQ below Qc args s (wE - z) nE A) (hfin : ∀ v w n, fin v w n = some r → w.length = wE ∧ n = nE ∧ ∀ H locs, ev_H D G ad A w H → va_S A s.heap H locs → ∀ t : State, t.heap = H → s.WarmedH t.vm → Qc args s (.returned (v.map (ev_v ad))) t) : ev_all2 (ev_ok P r) 0 (ev_o57 cf fin) :=
  ev_b (
   ev_a (ok_ald_n X hP (by decide +kernel : decode cX1_init 0 = .ok (.aload_n 0, 1)) rfl rfl) <|
   ev_a (ok_obj X hP hR1 hR2 (by decide +kernel : decode cX1_init 1 = .ok (.invokespecial 3, 3)) ev_w234 ev_w115 ev_w116 rfl) <|
   ev_a (ok_no) <|
   ev_a (ok_no) <|
   ev_a (ok_ald_n X hP (by decide +kernel : decode cX1_init 4 = .ok (.aload_n 0, 1)) rfl rfl) <|
   ev_a (ok_psh_bipush X hP (by decide +kernel : decode cX1_init 5 = .ok (.bipush 10, 2)) rfl) <|
   ev_a (ok_no) <|
   ev_a (ok_newarray X hP hR (by decide +kernel : decode cX1_init 7 = .ok (.newarray .int, 2)) (Or.inl ⟨rfl, rfl, rfl⟩) ev_w136 rfl) <|
   ev_a (ok_no) <|
   ev_a (ok_putF X hP hin2 (ci := 6) (kf := 0) (T := TX1) tyX1 (by decide +kernel : decode cX1_init 9 = .ok (.putfield 9, 3)) rfl ev_in6 tyX1_ok nmX1 (by decide) ev_w235 (Or.inl rfl) rfl rfl rfl rfl) <|
   ev_a (ok_no) <|
   ev_a (ok_no) <|
   ev_a (ok_return X hP hQ hfin rfl (by decide +kernel : decode cX1_init 12 = .ok (.return_, 1))) <| ev_a0) <|
  ev_b0
set_option maxRecDepth 100000 in
theorem ev_s58 {l : Launch} {d : Nat} {cf : Nat → List Value → ev_W → Option ev_R} {p : Program} {e : Env} {R : Room} {s : State} {m : MethodId} {args : Array Value} {below : List Frame} {meth : Method} {c : Code} {Q : State → Prop} {D : va_G} {G : Nat → ClassId} {ad : Nat → Nat} {A : Nat → Prop} {z wE nE : Nat} {P : Nat → List Value → List Value → ev_W → Nat → Prop} {α : Type} {r : α} {fin : Option Value → ev_W → Nat → Option α} (X : ev_X cX2_init 1 yX2_init.cls none p s m args meth c D G ad A z) (hP : ev_PP p l e R s m args below meth c Q 1 D G ad A z wE nE P) (hR : wE - z ≤ R.cells ∧ nE ≤ R.slots) (hd2 : d + 3 ≤ R.frames ∧ 64 * (d + 3) ≤ R.locals) (hR1 : 1 ≤ R.frames) (hR2 : 21 ≤ R.locals) (hcf : ev_cf l ev_ys d cf) (hin2 : meth.name = "<init>") {Qc : Array Value → State → Outcome → State → Prop} (hQ : Q = MQ below Qc args s (wE - z) nE A) (hfin : ∀ v w n, fin v w n = some r → w.length = wE ∧ n = nE ∧ ∀ H locs, ev_H D G ad A w H → va_S A s.heap H locs → ∀ t : State, t.heap = H → s.WarmedH t.vm → Qc args s (.returned (v.map (ev_v ad))) t) : ev_all2 (ev_ok P r) 0 (ev_o58 cf fin) :=
  ev_b (
   ev_a (ok_ald_n X hP (by decide +kernel : decode cX2_init 0 = .ok (.aload_n 0, 1)) rfl rfl) <|
   ev_a (ok_obj X hP hR1 hR2 (by decide +kernel : decode cX2_init 1 = .ok (.invokespecial 3, 3)) ev_w277 ev_w115 ev_w116 rfl) <|
   ev_a (ok_no) <|
   ev_a (ok_no) <|
   ev_a (ok_ald_n X hP (by decide +kernel : decode cX2_init 4 = .ok (.aload_n 0, 1)) rfl rfl) <|
   ev_a (ok_psh_sipush X hP (by decide +kernel : decode cX2_init 5 = .ok (.sipush 556, 3)) rfl) <|
   ev_a (ok_no) <|
   ev_a (ok_no) <|
   ev_a (ok_newarray X hP hR (by decide +kernel : decode cX2_init 8 = .ok (.newarray .int, 2)) (Or.inl ⟨rfl, rfl, rfl⟩) ev_w136 rfl) <|
   ev_a (ok_no) <|
   ev_a (ok_putF X hP hin2 (ci := 7) (kf := 0) (T := TX2) tyX2 (by decide +kernel : decode cX2_init 10 = .ok (.putfield 9, 3)) rfl ev_in7 tyX2_ok nmX2 (by decide) ev_w278 (Or.inl rfl) rfl rfl rfl rfl) <|
   ev_a (ok_no) <|
   ev_a (ok_no) <|
   ev_a (ok_return X hP hQ hfin rfl (by decide +kernel : decode cX2_init 13 = .ok (.return_, 1))) <| ev_a0) <|
  ev_b0
set_option maxRecDepth 100000 in
theorem ev_s59 {l : Launch} {d : Nat} {cf : Nat → List Value → ev_W → Option ev_R} {p : Program} {e : Env} {R : Room} {s : State} {m : MethodId} {args : Array Value} {below : List Frame} {meth : Method} {c : Code} {Q : State → Prop} {D : va_G} {G : Nat → ClassId} {ad : Nat → Nat} {A : Nat → Prop} {z wE nE : Nat} {P : Nat → List Value → List Value → ev_W → Nat → Prop} {α : Type} {r : α} {fin : Option Value → ev_W → Nat → Option α} (X : ev_X cX3_init 1 yX3_init.cls none p s m args meth c D G ad A z) (hP : ev_PP p l e R s m args below meth c Q 1 D G ad A z wE nE P) (hR : wE - z ≤ R.cells ∧ nE ≤ R.slots) (hd2 : d + 3 ≤ R.frames ∧ 64 * (d + 3) ≤ R.locals) (hR1 : 1 ≤ R.frames) (hR2 : 21 ≤ R.locals) (hcf : ev_cf l ev_ys d cf) (hin2 : meth.name = "<init>") {Qc : Array Value → State → Outcome → State → Prop} (hQ : Q = MQ below Qc args s (wE - z) nE A) (hfin : ∀ v w n, fin v w n = some r → w.length = wE ∧ n = nE ∧ ∀ H locs, ev_H D G ad A w H → va_S A s.heap H locs → ∀ t : State, t.heap = H → s.WarmedH t.vm → Qc args s (.returned (v.map (ev_v ad))) t) : ev_all2 (ev_ok P r) 0 (ev_o59 cf fin) :=
  ev_b (
   ev_a (ok_ald_n X hP (by decide +kernel : decode cX3_init 0 = .ok (.aload_n 0, 1)) rfl rfl) <|
   ev_a (ok_obj X hP hR1 hR2 (by decide +kernel : decode cX3_init 1 = .ok (.invokespecial 3, 3)) ev_w228 ev_w115 ev_w116 rfl) <|
   ev_a (ok_no) <|
   ev_a (ok_no) <|
   ev_a (ok_ald_n X hP (by decide +kernel : decode cX3_init 4 = .ok (.aload_n 0, 1)) rfl rfl) <|
   ev_a (ok_psh_sipush X hP (by decide +kernel : decode cX3_init 5 = .ok (.sipush 648, 3)) rfl) <|
   ev_a (ok_no) <|
   ev_a (ok_no) <|
   ev_a (ok_newarray X hP hR (by decide +kernel : decode cX3_init 8 = .ok (.newarray .int, 2)) (Or.inl ⟨rfl, rfl, rfl⟩) ev_w136 rfl) <|
   ev_a (ok_no) <|
   ev_a (ok_putF X hP hin2 (ci := 8) (kf := 0) (T := TX3) tyX3 (by decide +kernel : decode cX3_init 10 = .ok (.putfield 9, 3)) rfl ev_in8 tyX3_ok nmX3 (by decide) ev_w242 (Or.inl rfl) rfl rfl rfl rfl) <|
   ev_a (ok_no) <|
   ev_a (ok_no) <|
   ev_a (ok_ald_n X hP (by decide +kernel : decode cX3_init 13 = .ok (.aload_n 0, 1)) rfl rfl) <|
   ev_a (ok_psh_sipush X hP (by decide +kernel : decode cX3_init 14 = .ok (.sipush 648, 3)) rfl) <|
   ev_a (ok_no) <| ev_a0) <|
  ev_b (
   ev_a (ok_no) <|
   ev_a (ok_newarray X hP hR (by decide +kernel : decode cX3_init 17 = .ok (.newarray .int, 2)) (Or.inl ⟨rfl, rfl, rfl⟩) ev_w136 rfl) <|
   ev_a (ok_no) <|
   ev_a (ok_putF X hP hin2 (ci := 8) (kf := 1) (T := TX3) tyX3 (by decide +kernel : decode cX3_init 19 = .ok (.putfield 15, 3)) rfl ev_in8 tyX3_ok nmX3 (by decide) ev_w244 (Or.inl rfl) rfl rfl rfl rfl) <|
   ev_a (ok_no) <|
   ev_a (ok_no) <|
   ev_a (ok_ald_n X hP (by decide +kernel : decode cX3_init 22 = .ok (.aload_n 0, 1)) rfl rfl) <|
   ev_a (ok_psh_sipush X hP (by decide +kernel : decode cX3_init 23 = .ok (.sipush 648, 3)) rfl) <|
   ev_a (ok_no) <|
   ev_a (ok_no) <|
   ev_a (ok_newarray X hP hR (by decide +kernel : decode cX3_init 26 = .ok (.newarray .int, 2)) (Or.inl ⟨rfl, rfl, rfl⟩) ev_w136 rfl) <|
   ev_a (ok_no) <|
   ev_a (ok_putF X hP hin2 (ci := 8) (kf := 2) (T := TX3) tyX3 (by decide +kernel : decode cX3_init 28 = .ok (.putfield 18, 3)) rfl ev_in8 tyX3_ok nmX3 (by decide) ev_w247 (Or.inl rfl) rfl rfl rfl rfl) <|
   ev_a (ok_no) <|
   ev_a (ok_no) <|
   ev_a (ok_ald_n X hP (by decide +kernel : decode cX3_init 31 = .ok (.aload_n 0, 1)) rfl rfl) <| ev_a0) <|
  ev_b (
   ev_a (ok_psh_sipush X hP (by decide +kernel : decode cX3_init 32 = .ok (.sipush 648, 3)) rfl) <|
   ev_a (ok_no) <|
   ev_a (ok_no) <|
   ev_a (ok_newarray X hP hR (by decide +kernel : decode cX3_init 35 = .ok (.newarray .int, 2)) (Or.inl ⟨rfl, rfl, rfl⟩) ev_w136 rfl) <|
   ev_a (ok_no) <|
   ev_a (ok_putF X hP hin2 (ci := 8) (kf := 3) (T := TX3) tyX3 (by decide +kernel : decode cX3_init 37 = .ok (.putfield 21, 3)) rfl ev_in8 tyX3_ok nmX3 (by decide) ev_w251 (Or.inl rfl) rfl rfl rfl rfl) <|
   ev_a (ok_no) <|
   ev_a (ok_no) <|
   ev_a (ok_ald_n X hP (by decide +kernel : decode cX3_init 40 = .ok (.aload_n 0, 1)) rfl rfl) <|
   ev_a (ok_new X hP hR (ci := 6) (N := 2) (T := TX1) tyX1 (by decide +kernel : decode cX3_init 41 = .ok (.new 24, 3)) rfl ev_in6 tyX1_ok ev_w229 ev_w230 ev_w78 (by decide +kernel) rfl ⟨rfl, by decide⟩ rfl) <|
   ev_a (ok_no) <|
   ev_a (ok_no) <|
   ev_a (ok_dup X hP (by decide +kernel : decode cX3_init 44 = .ok (.dup, 1)) rfl) <|
   ev_a (ok_invIN X hP hR hd2 hcf ev_y57 (by decide +kernel : decode cX3_init 45 = .ok (.invokespecial 26, 3)) ev_w233 ev_w231 ev_w232 ev_w78 rfl ev_dn57 (by decide) rfl) <|
   ev_a (ok_no) <|
   ev_a (ok_no) <| ev_a0) <|
  ev_b (
   ev_a (ok_putF X hP hin2 (ci := 8) (kf := 4) (T := TX3) tyX3 (by decide +kernel : decode cX3_init 48 = .ok (.putfield 27, 3)) rfl ev_in8 tyX3_ok nmX3 (by decide) ev_w255 (Or.inl rfl) rfl rfl rfl rfl) <|
   ev_a (ok_no) <|
   ev_a (ok_no) <|
   ev_a (ok_return X hP hQ hfin rfl (by decide +kernel : decode cX3_init 51 = .ok (.return_, 1))) <| ev_a0) <|
  ev_b0
set_option maxRecDepth 100000 in
theorem ev_s60 {l : Launch} {d : Nat} {cf : Nat → List Value → ev_W → Option ev_R} {p : Program} {e : Env} {R : Room} {s : State} {m : MethodId} {args : Array Value} {below : List Frame} {meth : Method} {c : Code} {Q : State → Prop} {D : va_G} {G : Nat → ClassId} {ad : Nat → Nat} {A : Nat → Prop} {z wE nE : Nat} {P : Nat → List Value → List Value → ev_W → Nat → Prop} {α : Type} {r : α} {fin : Option Value → ev_W → Nat → Option α} (X : ev_X cX4_headOf 2 yX4_headOf.cls (some FieldType.int) p s m args meth c D G ad A z) (hP : ev_PP p l e R s m args below meth c Q 2 D G ad A z wE nE P) (hR : wE - z ≤ R.cells ∧ nE ≤ R.slots) (hd2 : d + 3 ≤ R.frames ∧ 64 * (d + 3) ≤ R.locals) (hR1 : 1 ≤ R.frames) (hR2 : 21 ≤ R.locals) (hcf : ev_cf l ev_ys d cf) {Qc : Array Value → State → Outcome → State → Prop} (hQ : Q = MQ below Qc args s (wE - z) nE A) (hfin : ∀ v w n, fin v w n = some r → w.length = wE ∧ n = nE ∧ ∀ H locs, ev_H D G ad A w H → va_S A s.heap H locs → ∀ t : State, t.heap = H → s.WarmedH t.vm → Qc args s (.returned (v.map (ev_v ad))) t) : ev_all2 (ev_ok P r) 0 (ev_o60 cf fin) :=
  ev_b (
   ev_a (ok_ald_n X hP (by decide +kernel : decode cX4_headOf 0 = .ok (.aload_n 0, 1)) rfl rfl) <|
   ev_a (ok_get X hP (ci := 9) (kf := 0) (T := TX4) (by decide +kernel : decode cX4_headOf 1 = .ok (.getfield 9, 3)) rfl ev_in9 (by decide) ev_w127 (Or.inl rfl) rfl) <|
   ev_a (ok_no) <|
   ev_a (ok_no) <|
   ev_a (ok_ild_n X hP (by decide +kernel : decode cX4_headOf 4 = .ok (.iload_n 1, 1)) rfl rfl) <|
   ev_a (ok_psh_iconst X hP (by decide +kernel : decode cX4_headOf 5 = .ok (.iconst 0, 1)) rfl) <|
   ev_a (ok_invSN X hP hR hd2 hcf ev_y24 (by decide +kernel : decode cX4_headOf 6 = .ok (.invokestatic 32, 3)) ev_w423 ev_w421 ev_w422 ev_w71 ev_dn24 (by decide) rfl) <|
   ev_a (ok_no) <|
   ev_a (ok_no) <|
   ev_a (ok_ireturn X hP hQ hfin rfl (by decide +kernel : decode cX4_headOf 9 = .ok (.ireturn, 1))) <| ev_a0) <|
  ev_b0
set_option maxRecDepth 100000 in
theorem ev_s61 {l : Launch} {d : Nat} {cf : Nat → List Value → ev_W → Option ev_R} {p : Program} {e : Env} {R : Room} {s : State} {m : MethodId} {args : Array Value} {below : List Frame} {meth : Method} {c : Code} {Q : State → Prop} {D : va_G} {G : Nat → ClassId} {ad : Nat → Nat} {A : Nat → Prop} {z wE nE : Nat} {P : Nat → List Value → List Value → ev_W → Nat → Prop} {α : Type} {r : α} {fin : Option Value → ev_W → Nat → Option α} (X : ev_X cX4_headsOf 2 yX4_headsOf.cls (some FieldType.int) p s m args meth c D G ad A z) (hP : ev_PP p l e R s m args below meth c Q 2 D G ad A z wE nE P) (hR : wE - z ≤ R.cells ∧ nE ≤ R.slots) (hd2 : d + 3 ≤ R.frames ∧ 64 * (d + 3) ≤ R.locals) (hR1 : 1 ≤ R.frames) (hR2 : 21 ≤ R.locals) (hcf : ev_cf l ev_ys d cf) {Qc : Array Value → State → Outcome → State → Prop} (hQ : Q = MQ below Qc args s (wE - z) nE A) (hfin : ∀ v w n, fin v w n = some r → w.length = wE ∧ n = nE ∧ ∀ H locs, ev_H D G ad A w H → va_S A s.heap H locs → ∀ t : State, t.heap = H → s.WarmedH t.vm → Qc args s (.returned (v.map (ev_v ad))) t) : ev_all2 (ev_ok P r) 0 (ev_o61 cf fin) :=
  ev_b (
   ev_a (ok_ald_n X hP (by decide +kernel : decode cX4_headsOf 0 = .ok (.aload_n 0, 1)) rfl rfl) <|
   ev_a (ok_ild_n X hP (by decide +kernel : decode cX4_headsOf 1 = .ok (.iload_n 1, 1)) rfl rfl) <|
   ev_a (ok_psh_bipush X hP (by decide +kernel : decode cX4_headsOf 2 = .ok (.bipush 100, 2)) rfl) <|
   ev_a (ok_no) <|
   ev_a (ok_idiv X hP (by decide +kernel : decode cX4_headsOf 4 = .ok (.idiv, 1)) rfl) <|
   ev_a (ok_invV X hP hR hd2 hcf (ci := 9) ev_y60 rfl (by decide +kernel : decode cX4_headsOf 5 = .ok (.invokevirtual 18, 3)) ev_w420 ev_w417 ev_w418 ev_w419 ev_w72 ⟨rfl, ev_dn60⟩ (by decide) rfl) <|
   ev_a (ok_no) <|
   ev_a (ok_no) <|
   ev_a (ok_psh_bipush X hP (by decide +kernel : decode cX4_headsOf 8 = .ok (.bipush 100, 2)) rfl) <|
   ev_a (ok_no) <|
   ev_a (ok_imul X hP (by decide +kernel : decode cX4_headsOf 10 = .ok (.imul, 1)) rfl) <|
   ev_a (ok_ald_n X hP (by decide +kernel : decode cX4_headsOf 11 = .ok (.aload_n 0, 1)) rfl rfl) <|
   ev_a (ok_ild_n X hP (by decide +kernel : decode cX4_headsOf 12 = .ok (.iload_n 1, 1)) rfl rfl) <|
   ev_a (ok_psh_bipush X hP (by decide +kernel : decode cX4_headsOf 13 = .ok (.bipush 10, 2)) rfl) <|
   ev_a (ok_no) <|
   ev_a (ok_idiv X hP (by decide +kernel : decode cX4_headsOf 15 = .ok (.idiv, 1)) rfl) <| ev_a0) <|
  ev_b (
   ev_a (ok_psh_bipush X hP (by decide +kernel : decode cX4_headsOf 16 = .ok (.bipush 10, 2)) rfl) <|
   ev_a (ok_no) <|
   ev_a (ok_irem X hP (by decide +kernel : decode cX4_headsOf 18 = .ok (.irem, 1)) rfl) <|
   ev_a (ok_invV X hP hR hd2 hcf (ci := 9) ev_y60 rfl (by decide +kernel : decode cX4_headsOf 19 = .ok (.invokevirtual 18, 3)) ev_w420 ev_w417 ev_w418 ev_w419 ev_w72 ⟨rfl, ev_dn60⟩ (by decide) rfl) <|
   ev_a (ok_no) <|
   ev_a (ok_no) <|
   ev_a (ok_psh_bipush X hP (by decide +kernel : decode cX4_headsOf 22 = .ok (.bipush 10, 2)) rfl) <|
   ev_a (ok_no) <|
   ev_a (ok_imul X hP (by decide +kernel : decode cX4_headsOf 24 = .ok (.imul, 1)) rfl) <|
   ev_a (ok_iadd X hP (by decide +kernel : decode cX4_headsOf 25 = .ok (.iadd, 1)) rfl) <|
   ev_a (ok_ald_n X hP (by decide +kernel : decode cX4_headsOf 26 = .ok (.aload_n 0, 1)) rfl rfl) <|
   ev_a (ok_ild_n X hP (by decide +kernel : decode cX4_headsOf 27 = .ok (.iload_n 1, 1)) rfl rfl) <|
   ev_a (ok_psh_bipush X hP (by decide +kernel : decode cX4_headsOf 28 = .ok (.bipush 10, 2)) rfl) <|
   ev_a (ok_no) <|
   ev_a (ok_irem X hP (by decide +kernel : decode cX4_headsOf 30 = .ok (.irem, 1)) rfl) <|
   ev_a (ok_invV X hP hR hd2 hcf (ci := 9) ev_y60 rfl (by decide +kernel : decode cX4_headsOf 31 = .ok (.invokevirtual 18, 3)) ev_w420 ev_w417 ev_w418 ev_w419 ev_w72 ⟨rfl, ev_dn60⟩ (by decide) rfl) <| ev_a0) <|
  ev_b (
   ev_a (ok_no) <|
   ev_a (ok_no) <|
   ev_a (ok_iadd X hP (by decide +kernel : decode cX4_headsOf 34 = .ok (.iadd, 1)) rfl) <|
   ev_a (ok_ireturn X hP hQ hfin rfl (by decide +kernel : decode cX4_headsOf 35 = .ok (.ireturn, 1))) <| ev_a0) <|
  ev_b0
set_option maxRecDepth 100000 in
theorem ev_s62 {l : Launch} {d : Nat} {cf : Nat → List Value → ev_W → Option ev_R} {p : Program} {e : Env} {R : Room} {s : State} {m : MethodId} {args : Array Value} {below : List Frame} {meth : Method} {c : Code} {Q : State → Prop} {D : va_G} {G : Nat → ClassId} {ad : Nat → Nat} {A : Nat → Prop} {z wE nE : Nat} {P : Nat → List Value → List Value → ev_W → Nat → Prop} {α : Type} {r : α} {fin : Option Value → ev_W → Nat → Option α} (X : ev_X cX4_init 1 yX4_init.cls none p s m args meth c D G ad A z) (hP : ev_PP p l e R s m args below meth c Q 1 D G ad A z wE nE P) (hR : wE - z ≤ R.cells ∧ nE ≤ R.slots) (hd2 : d + 3 ≤ R.frames ∧ 64 * (d + 3) ≤ R.locals) (hR1 : 1 ≤ R.frames) (hR2 : 21 ≤ R.locals) (hcf : ev_cf l ev_ys d cf) (hin2 : meth.name = "<init>") {Qc : Array Value → State → Outcome → State → Prop} (hQ : Q = MQ below Qc args s (wE - z) nE A) (hfin : ∀ v w n, fin v w n = some r → w.length = wE ∧ n = nE ∧ ∀ H locs, ev_H D G ad A w H → va_S A s.heap H locs → ∀ t : State, t.heap = H → s.WarmedH t.vm → Qc args s (.returned (v.map (ev_v ad))) t) : ev_all2 (ev_ok P r) 0 (ev_o62 cf fin) :=
  ev_b (
   ev_a (ok_ald_n X hP (by decide +kernel : decode cX4_init 0 = .ok (.aload_n 0, 1)) rfl rfl) <|
   ev_a (ok_obj X hP hR1 hR2 (by decide +kernel : decode cX4_init 1 = .ok (.invokespecial 3, 3)) ev_w122 ev_w115 ev_w116 rfl) <|
   ev_a (ok_no) <|
   ev_a (ok_no) <|
   ev_a (ok_ald_n X hP (by decide +kernel : decode cX4_init 4 = .ok (.aload_n 0, 1)) rfl rfl) <|
   ev_a (ok_psh_bipush X hP (by decide +kernel : decode cX4_init 5 = .ok (.bipush 6, 2)) rfl) <|
   ev_a (ok_no) <|
   ev_a (ok_newarray X hP hR (by decide +kernel : decode cX4_init 7 = .ok (.newarray .int, 2)) (Or.inl ⟨rfl, rfl, rfl⟩) ev_w136 rfl) <|
   ev_a (ok_no) <|
   ev_a (ok_putF X hP hin2 (ci := 9) (kf := 0) (T := TX4) tyX4 (by decide +kernel : decode cX4_init 9 = .ok (.putfield 9, 3)) rfl ev_in9 tyX4_ok nmX4 (by decide) ev_w127 (Or.inl rfl) rfl rfl rfl rfl) <|
   ev_a (ok_no) <|
   ev_a (ok_no) <|
   ev_a (ok_ald_n X hP (by decide +kernel : decode cX4_init 12 = .ok (.aload_n 0, 1)) rfl rfl) <|
   ev_a (ok_invV X hP hR hd2 hcf (ci := 9) ev_y63 rfl (by decide +kernel : decode cX4_init 13 = .ok (.invokevirtual 15, 3)) ev_w126 ev_w123 ev_w124 ev_w125 ev_w72 ⟨rfl, ev_dn63⟩ (by decide) rfl) <|
   ev_a (ok_no) <|
   ev_a (ok_no) <| ev_a0) <|
  ev_b (
   ev_a (ok_return X hP hQ hfin rfl (by decide +kernel : decode cX4_init 16 = .ok (.return_, 1))) <| ev_a0) <|
  ev_b0
set_option maxRecDepth 100000 in
theorem ev_s63 {l : Launch} {d : Nat} {cf : Nat → List Value → ev_W → Option ev_R} {p : Program} {e : Env} {R : Room} {s : State} {m : MethodId} {args : Array Value} {below : List Frame} {meth : Method} {c : Code} {Q : State → Prop} {D : va_G} {G : Nat → ClassId} {ad : Nat → Nat} {A : Nat → Prop} {z wE nE : Nat} {P : Nat → List Value → List Value → ev_W → Nat → Prop} {α : Type} {r : α} {fin : Option Value → ev_W → Nat → Option α} (X : ev_X cX4_separate 2 yX4_separate.cls none p s m args meth c D G ad A z) (hP : ev_PP p l e R s m args below meth c Q 2 D G ad A z wE nE P) (hR : wE - z ≤ R.cells ∧ nE ≤ R.slots) (hd2 : d + 3 ≤ R.frames ∧ 64 * (d + 3) ≤ R.locals) (hR1 : 1 ≤ R.frames) (hR2 : 21 ≤ R.locals) (hcf : ev_cf l ev_ys d cf) {Qc : Array Value → State → Outcome → State → Prop} (hQ : Q = MQ below Qc args s (wE - z) nE A) (hfin : ∀ v w n, fin v w n = some r → w.length = wE ∧ n = nE ∧ ∀ H locs, ev_H D G ad A w H → va_S A s.heap H locs → ∀ t : State, t.heap = H → s.WarmedH t.vm → Qc args s (.returned (v.map (ev_v ad))) t) : ev_all2 (ev_ok P r) 0 (ev_o63 cf fin) :=
  ev_b (
   ev_a (ok_psh_iconst X hP (by decide +kernel : decode cX4_separate 0 = .ok (.iconst 0, 1)) rfl) <|
   ev_a (ok_ist_n X hP (by decide +kernel : decode cX4_separate 1 = .ok (.istore_n 1, 1)) rfl (by decide) rfl) <|
   ev_a (ok_ild_n X hP (by decide +kernel : decode cX4_separate 2 = .ok (.iload_n 1, 1)) rfl rfl) <|
   ev_a (ok_ald_n X hP (by decide +kernel : decode cX4_separate 3 = .ok (.aload_n 0, 1)) rfl rfl) <|
   ev_a (ok_get X hP (ci := 9) (kf := 0) (T := TX4) (by decide +kernel : decode cX4_separate 4 = .ok (.getfield 9, 3)) rfl ev_in9 (by decide) ev_w127 (Or.inl rfl) rfl) <|
   ev_a (ok_no) <|
   ev_a (ok_no) <|
   ev_a (ok_aln X hP (by decide +kernel : decode cX4_separate 7 = .ok (.arraylength, 1)) rfl) <|
   ev_a (ok_icmp_ge X hP (by decide +kernel : decode cX4_separate 8 = .ok (.if_icmp .ge 16, 3)) (by decide) rfl) <|
   ev_a (ok_no) <|
   ev_a (ok_no) <|
   ev_a (ok_ald_n X hP (by decide +kernel : decode cX4_separate 11 = .ok (.aload_n 0, 1)) rfl rfl) <|
   ev_a (ok_get X hP (ci := 9) (kf := 0) (T := TX4) (by decide +kernel : decode cX4_separate 12 = .ok (.getfield 9, 3)) rfl ev_in9 (by decide) ev_w127 (Or.inl rfl) rfl) <|
   ev_a (ok_no) <|
   ev_a (ok_no) <|
   ev_a (ok_ild_n X hP (by decide +kernel : decode cX4_separate 15 = .ok (.iload_n 1, 1)) rfl rfl) <| ev_a0) <|
  ev_b (
   ev_a (ok_ild_n X hP (by decide +kernel : decode cX4_separate 16 = .ok (.iload_n 1, 1)) rfl rfl) <|
   ev_a (ok_iastores X hP (by decide +kernel : decode cX4_separate 17 = .ok (.iastore, 1)) rfl) <|
   ev_a (ok_inc X hP (by decide +kernel : decode cX4_separate 18 = .ok (.iinc 1 1, 3)) (by decide) rfl) <|
   ev_a (ok_no) <|
   ev_a (ok_no) <|
   ev_a (ok_jmp X hP (by decide +kernel : decode cX4_separate 21 = .ok (.goto (-19), 3)) (by decide)) <|
   ev_a (ok_no) <|
   ev_a (ok_no) <|
   ev_a (ok_return X hP hQ hfin rfl (by decide +kernel : decode cX4_separate 24 = .ok (.return_, 1))) <| ev_a0) <|
  ev_b0
set_option maxRecDepth 100000 in
theorem ev_s64 {l : Launch} {d : Nat} {cf : Nat → List Value → ev_W → Option ev_R} {p : Program} {e : Env} {R : Room} {s : State} {m : MethodId} {args : Array Value} {below : List Frame} {meth : Method} {c : Code} {Q : State → Prop} {D : va_G} {G : Nat → ClassId} {ad : Nat → Nat} {A : Nat → Prop} {z wE nE : Nat} {P : Nat → List Value → List Value → ev_W → Nat → Prop} {α : Type} {r : α} {fin : Option Value → ev_W → Nat → Option α} (X : ev_X cX5_init 1 yX5_init.cls none p s m args meth c D G ad A z) (hP : ev_PP p l e R s m args below meth c Q 1 D G ad A z wE nE P) (hR : wE - z ≤ R.cells ∧ nE ≤ R.slots) (hd2 : d + 3 ≤ R.frames ∧ 64 * (d + 3) ≤ R.locals) (hR1 : 1 ≤ R.frames) (hR2 : 21 ≤ R.locals) (hcf : ev_cf l ev_ys d cf) (hin2 : meth.name = "<init>") {Qc : Array Value → State → Outcome → State → Prop} (hQ : Q = MQ below Qc args s (wE - z) nE A) (hfin : ∀ v w n, fin v w n = some r → w.length = wE ∧ n = nE ∧ ∀ H locs, ev_H D G ad A w H → va_S A s.heap H locs → ∀ t : State, t.heap = H → s.WarmedH t.vm → Qc args s (.returned (v.map (ev_v ad))) t) : ev_all2 (ev_ok P r) 0 (ev_o64 cf fin) :=
  ev_b (
   ev_a (ok_ald_n X hP (by decide +kernel : decode cX5_init 0 = .ok (.aload_n 0, 1)) rfl rfl) <|
   ev_a (ok_obj X hP hR1 hR2 (by decide +kernel : decode cX5_init 1 = .ok (.invokespecial 3, 3)) ev_w295 ev_w115 ev_w116 rfl) <|
   ev_a (ok_no) <|
   ev_a (ok_no) <|
   ev_a (ok_ald_n X hP (by decide +kernel : decode cX5_init 4 = .ok (.aload_n 0, 1)) rfl rfl) <|
   ev_a (ok_psh_sipush X hP (by decide +kernel : decode cX5_init 5 = .ok (.sipush 556, 3)) rfl) <|
   ev_a (ok_no) <|
   ev_a (ok_no) <|
   ev_a (ok_newarray X hP hR (by decide +kernel : decode cX5_init 8 = .ok (.newarray .int, 2)) (Or.inl ⟨rfl, rfl, rfl⟩) ev_w136 rfl) <|
   ev_a (ok_no) <|
   ev_a (ok_putF X hP hin2 (ci := 10) (kf := 0) (T := TX5) tyX5 (by decide +kernel : decode cX5_init 10 = .ok (.putfield 9, 3)) rfl ev_in10 tyX5_ok nmX5 (by decide) ev_w296 (Or.inl rfl) rfl rfl rfl rfl) <|
   ev_a (ok_no) <|
   ev_a (ok_no) <|
   ev_a (ok_ald_n X hP (by decide +kernel : decode cX5_init 13 = .ok (.aload_n 0, 1)) rfl rfl) <|
   ev_a (ok_psh_sipush X hP (by decide +kernel : decode cX5_init 14 = .ok (.sipush 556, 3)) rfl) <|
   ev_a (ok_no) <| ev_a0) <|
  ev_b (
   ev_a (ok_no) <|
   ev_a (ok_newarray X hP hR (by decide +kernel : decode cX5_init 17 = .ok (.newarray .int, 2)) (Or.inl ⟨rfl, rfl, rfl⟩) ev_w136 rfl) <|
   ev_a (ok_no) <|
   ev_a (ok_putF X hP hin2 (ci := 10) (kf := 1) (T := TX5) tyX5 (by decide +kernel : decode cX5_init 19 = .ok (.putfield 15, 3)) rfl ev_in10 tyX5_ok nmX5 (by decide) ev_w298 (Or.inl rfl) rfl rfl rfl rfl) <|
   ev_a (ok_no) <|
   ev_a (ok_no) <|
   ev_a (ok_ald_n X hP (by decide +kernel : decode cX5_init 22 = .ok (.aload_n 0, 1)) rfl rfl) <|
   ev_a (ok_psh_sipush X hP (by decide +kernel : decode cX5_init 23 = .ok (.sipush 556, 3)) rfl) <|
   ev_a (ok_no) <|
   ev_a (ok_no) <|
   ev_a (ok_newarray X hP hR (by decide +kernel : decode cX5_init 26 = .ok (.newarray .int, 2)) (Or.inl ⟨rfl, rfl, rfl⟩) ev_w136 rfl) <|
   ev_a (ok_no) <|
   ev_a (ok_putF X hP hin2 (ci := 10) (kf := 2) (T := TX5) tyX5 (by decide +kernel : decode cX5_init 28 = .ok (.putfield 18, 3)) rfl ev_in10 tyX5_ok nmX5 (by decide) ev_w300 (Or.inl rfl) rfl rfl rfl rfl) <|
   ev_a (ok_no) <|
   ev_a (ok_no) <|
   ev_a (ok_return X hP hQ hfin rfl (by decide +kernel : decode cX5_init 31 = .ok (.return_, 1))) <| ev_a0) <|
  ev_b0
set_option maxRecDepth 100000 in
theorem ev_s65 {l : Launch} {d : Nat} {cf : Nat → List Value → ev_W → Option ev_R} {p : Program} {e : Env} {R : Room} {s : State} {m : MethodId} {args : Array Value} {below : List Frame} {meth : Method} {c : Code} {Q : State → Prop} {D : va_G} {G : Nat → ClassId} {ad : Nat → Nat} {A : Nat → Prop} {z wE nE : Nat} {P : Nat → List Value → List Value → ev_W → Nat → Prop} {α : Type} {r : α} {fin : Option Value → ev_W → Nat → Option α} (X : ev_X cX6_init 1 yX6_init.cls none p s m args meth c D G ad A z) (hP : ev_PP p l e R s m args below meth c Q 1 D G ad A z wE nE P) (hR : wE - z ≤ R.cells ∧ nE ≤ R.slots) (hd2 : d + 3 ≤ R.frames ∧ 64 * (d + 3) ≤ R.locals) (hR1 : 1 ≤ R.frames) (hR2 : 21 ≤ R.locals) (hcf : ev_cf l ev_ys d cf) (hin2 : meth.name = "<init>") {Qc : Array Value → State → Outcome → State → Prop} (hQ : Q = MQ below Qc args s (wE - z) nE A) (hfin : ∀ v w n, fin v w n = some r → w.length = wE ∧ n = nE ∧ ∀ H locs, ev_H D G ad A w H → va_S A s.heap H locs → ∀ t : State, t.heap = H → s.WarmedH t.vm → Qc args s (.returned (v.map (ev_v ad))) t) : ev_all2 (ev_ok P r) 0 (ev_o65 cf fin) :=
  ev_b (
   ev_a (ok_ald_n X hP (by decide +kernel : decode cX6_init 0 = .ok (.aload_n 0, 1)) rfl rfl) <|
   ev_a (ok_obj X hP hR1 hR2 (by decide +kernel : decode cX6_init 1 = .ok (.invokespecial 3, 3)) ev_w314 ev_w115 ev_w116 rfl) <|
   ev_a (ok_no) <|
   ev_a (ok_no) <|
   ev_a (ok_ald_n X hP (by decide +kernel : decode cX6_init 4 = .ok (.aload_n 0, 1)) rfl rfl) <|
   ev_a (ok_psh_iconst X hP (by decide +kernel : decode cX6_init 5 = .ok (.iconst 3, 1)) rfl) <|
   ev_a (ok_newarray X hP hR (by decide +kernel : decode cX6_init 6 = .ok (.newarray .int, 2)) (Or.inl ⟨rfl, rfl, rfl⟩) ev_w136 rfl) <|
   ev_a (ok_no) <|
   ev_a (ok_putF X hP hin2 (ci := 11) (kf := 0) (T := TX6) tyX6 (by decide +kernel : decode cX6_init 8 = .ok (.putfield 9, 3)) rfl ev_in11 tyX6_ok nmX6 (by decide) ev_w317 (Or.inl rfl) rfl rfl rfl rfl) <|
   ev_a (ok_no) <|
   ev_a (ok_no) <|
   ev_a (ok_ald_n X hP (by decide +kernel : decode cX6_init 11 = .ok (.aload_n 0, 1)) rfl rfl) <|
   ev_a (ok_psh_iconst X hP (by decide +kernel : decode cX6_init 12 = .ok (.iconst 3, 1)) rfl) <|
   ev_a (ok_newarray X hP hR (by decide +kernel : decode cX6_init 13 = .ok (.newarray .int, 2)) (Or.inl ⟨rfl, rfl, rfl⟩) ev_w136 rfl) <|
   ev_a (ok_no) <|
   ev_a (ok_putF X hP hin2 (ci := 11) (kf := 1) (T := TX6) tyX6 (by decide +kernel : decode cX6_init 15 = .ok (.putfield 15, 3)) rfl ev_in11 tyX6_ok nmX6 (by decide) ev_w318 (Or.inl rfl) rfl rfl rfl rfl) <| ev_a0) <|
  ev_b (
   ev_a (ok_no) <|
   ev_a (ok_no) <|
   ev_a (ok_ald_n X hP (by decide +kernel : decode cX6_init 18 = .ok (.aload_n 0, 1)) rfl rfl) <|
   ev_a (ok_psh_sipush X hP (by decide +kernel : decode cX6_init 19 = .ok (.sipush 1296, 3)) rfl) <|
   ev_a (ok_no) <|
   ev_a (ok_no) <|
   ev_a (ok_newarray X hP hR (by decide +kernel : decode cX6_init 22 = .ok (.newarray .int, 2)) (Or.inl ⟨rfl, rfl, rfl⟩) ev_w136 rfl) <|
   ev_a (ok_no) <|
   ev_a (ok_putF X hP hin2 (ci := 11) (kf := 2) (T := TX6) tyX6 (by decide +kernel : decode cX6_init 24 = .ok (.putfield 18, 3)) rfl ev_in11 tyX6_ok nmX6 (by decide) ev_w319 (Or.inl rfl) rfl rfl rfl rfl) <|
   ev_a (ok_no) <|
   ev_a (ok_no) <|
   ev_a (ok_ald_n X hP (by decide +kernel : decode cX6_init 27 = .ok (.aload_n 0, 1)) rfl rfl) <|
   ev_a (ok_new X hP hR (ci := 6) (N := 2) (T := TX1) tyX1 (by decide +kernel : decode cX6_init 28 = .ok (.new 21, 3)) rfl ev_in6 tyX1_ok ev_w315 ev_w230 ev_w78 (by decide +kernel) rfl ⟨rfl, by decide⟩ rfl) <|
   ev_a (ok_no) <|
   ev_a (ok_no) <|
   ev_a (ok_dup X hP (by decide +kernel : decode cX6_init 31 = .ok (.dup, 1)) rfl) <| ev_a0) <|
  ev_b (
   ev_a (ok_invIN X hP hR hd2 hcf ev_y57 (by decide +kernel : decode cX6_init 32 = .ok (.invokespecial 23, 3)) ev_w233 ev_w316 ev_w232 ev_w78 rfl ev_dn57 (by decide) rfl) <|
   ev_a (ok_no) <|
   ev_a (ok_no) <|
   ev_a (ok_putF X hP hin2 (ci := 11) (kf := 3) (T := TX6) tyX6 (by decide +kernel : decode cX6_init 35 = .ok (.putfield 24, 3)) rfl ev_in11 tyX6_ok nmX6 (by decide) ev_w321 (Or.inl rfl) rfl rfl rfl rfl) <|
   ev_a (ok_no) <|
   ev_a (ok_no) <|
   ev_a (ok_ald_n X hP (by decide +kernel : decode cX6_init 38 = .ok (.aload_n 0, 1)) rfl rfl) <|
   ev_a (ok_new X hP hR (ci := 6) (N := 2) (T := TX1) tyX1 (by decide +kernel : decode cX6_init 39 = .ok (.new 21, 3)) rfl ev_in6 tyX1_ok ev_w315 ev_w230 ev_w78 (by decide +kernel) rfl ⟨rfl, by decide⟩ rfl) <|
   ev_a (ok_no) <|
   ev_a (ok_no) <|
   ev_a (ok_dup X hP (by decide +kernel : decode cX6_init 42 = .ok (.dup, 1)) rfl) <|
   ev_a (ok_invIN X hP hR hd2 hcf ev_y57 (by decide +kernel : decode cX6_init 43 = .ok (.invokespecial 23, 3)) ev_w233 ev_w316 ev_w232 ev_w78 rfl ev_dn57 (by decide) rfl) <|
   ev_a (ok_no) <|
   ev_a (ok_no) <|
   ev_a (ok_putF X hP hin2 (ci := 11) (kf := 4) (T := TX6) tyX6 (by decide +kernel : decode cX6_init 46 = .ok (.putfield 28, 3)) rfl ev_in11 tyX6_ok nmX6 (by decide) ev_w322 (Or.inl rfl) rfl rfl rfl rfl) <|
   ev_a (ok_no) <| ev_a0) <|
  ev_b (
   ev_a (ok_no) <|
   ev_a (ok_ald_n X hP (by decide +kernel : decode cX6_init 49 = .ok (.aload_n 0, 1)) rfl rfl) <|
   ev_a (ok_psh_iconst X hP (by decide +kernel : decode cX6_init 50 = .ok (.iconst (-1), 1)) rfl) <|
   ev_a (ok_put X hP (ci := 11) (kf := 7) (T := TX6) tyX6 (by decide +kernel : decode cX6_init 51 = .ok (.putfield 31, 3)) rfl ev_in11 tyX6_ok nmX6 (by decide) ev_w326 (Or.inl rfl) rfl rfl rfl) <|
   ev_a (ok_no) <|
   ev_a (ok_no) <|
   ev_a (ok_return X hP hQ hfin rfl (by decide +kernel : decode cX6_init 54 = .ok (.return_, 1))) <| ev_a0) <|
  ev_b0
set_option maxRecDepth 100000 in
theorem ev_s66 {l : Launch} {d : Nat} {cf : Nat → List Value → ev_W → Option ev_R} {p : Program} {e : Env} {R : Room} {s : State} {m : MethodId} {args : Array Value} {below : List Frame} {meth : Method} {c : Code} {Q : State → Prop} {D : va_G} {G : Nat → ClassId} {ad : Nat → Nat} {A : Nat → Prop} {z wE nE : Nat} {P : Nat → List Value → List Value → ev_W → Nat → Prop} {α : Type} {r : α} {fin : Option Value → ev_W → Nat → Option α} (X : ev_X cX7_begin 6 yX7_begin.cls none p s m args meth c D G ad A z) (hP : ev_PP p l e R s m args below meth c Q 6 D G ad A z wE nE P) (hR : wE - z ≤ R.cells ∧ nE ≤ R.slots) (hd2 : d + 3 ≤ R.frames ∧ 64 * (d + 3) ≤ R.locals) (hR1 : 1 ≤ R.frames) (hR2 : 21 ≤ R.locals) (hcf : ev_cf l ev_ys d cf) {Qc : Array Value → State → Outcome → State → Prop} (hQ : Q = MQ below Qc args s (wE - z) nE A) (hfin : ∀ v w n, fin v w n = some r → w.length = wE ∧ n = nE ∧ ∀ H locs, ev_H D G ad A w H → va_S A s.heap H locs → ∀ t : State, t.heap = H → s.WarmedH t.vm → Qc args s (.returned (v.map (ev_v ad))) t) : ev_all2 (ev_ok P r) 0 (ev_o66 cf fin) :=
  ev_b (
   ev_a (ok_ald_n X hP (by decide +kernel : decode cX7_begin 0 = .ok (.aload_n 0, 1)) rfl rfl) <|
   ev_a (ok_ild_n X hP (by decide +kernel : decode cX7_begin 1 = .ok (.iload_n 1, 1)) rfl rfl) <|
   ev_a (ok_invV X hP hR hd2 hcf (ci := 12) ev_y72 rfl (by decide +kernel : decode cX7_begin 2 = .ok (.invokevirtual 66, 3)) ev_w680 ev_w677 ev_w679 ev_w22 ev_w74 ⟨rfl, ev_dn72⟩ (by decide) rfl) <|
   ev_a (ok_no) <|
   ev_a (ok_no) <|
   ev_a (ok_ist X hP (by decide +kernel : decode cX7_begin 5 = .ok (.istore 5, 2)) (by decide) rfl) <|
   ev_a (ok_no) <|
   ev_a (ok_ild X hP (by decide +kernel : decode cX7_begin 7 = .ok (.iload 5, 2)) rfl) <|
   ev_a (ok_no) <|
   ev_a (ok_psh_iconst X hP (by decide +kernel : decode cX7_begin 9 = .ok (.iconst (-1), 1)) rfl) <|
   ev_a (ok_icmp_eq X hP (by decide +kernel : decode cX7_begin 10 = .ok (.if_icmp .eq 27, 3)) (by decide) rfl) <|
   ev_a (ok_no) <|
   ev_a (ok_no) <|
   ev_a (ok_ald_n X hP (by decide +kernel : decode cX7_begin 13 = .ok (.aload_n 0, 1)) rfl rfl) <|
   ev_a (ok_get X hP (ci := 12) (kf := 2) (T := TX7) (by decide +kernel : decode cX7_begin 14 = .ok (.getfield 18, 3)) rfl ev_in12 (by decide) ev_w167 (Or.inl rfl) rfl) <|
   ev_a (ok_no) <| ev_a0) <|
  ev_b (
   ev_a (ok_no) <|
   ev_a (ok_ild X hP (by decide +kernel : decode cX7_begin 17 = .ok (.iload 5, 2)) rfl) <|
   ev_a (ok_no) <|
   ev_a (ok_ild_n X hP (by decide +kernel : decode cX7_begin 19 = .ok (.iload_n 3, 1)) rfl rfl) <|
   ev_a (ok_ald_n X hP (by decide +kernel : decode cX7_begin 20 = .ok (.aload_n 0, 1)) rfl rfl) <|
   ev_a (ok_get X hP (ci := 12) (kf := 2) (T := TX7) (by decide +kernel : decode cX7_begin 21 = .ok (.getfield 18, 3)) rfl ev_in12 (by decide) ev_w167 (Or.inl rfl) rfl) <|
   ev_a (ok_no) <|
   ev_a (ok_no) <|
   ev_a (ok_ild X hP (by decide +kernel : decode cX7_begin 24 = .ok (.iload 5, 2)) rfl) <|
   ev_a (ok_no) <|
   ev_a (ok_psh_iconst X hP (by decide +kernel : decode cX7_begin 26 = .ok (.iconst 0, 1)) rfl) <|
   ev_a (ok_invSN X hP hR hd2 hcf ev_y24 (by decide +kernel : decode cX7_begin 27 = .ok (.invokestatic 35, 3)) ev_w423 ev_w433 ev_w422 ev_w71 ev_dn24 (by decide) rfl) <|
   ev_a (ok_no) <|
   ev_a (ok_no) <|
   ev_a (ok_no) <|
   ev_a (ok_no) <| ev_a0) <|
  ev_b (
   ev_a (ok_no) <|
   ev_a (ok_invSN X hP hR hd2 hcf ev_y33 (by decide +kernel : decode cX7_begin 33 = .ok (.invokestatic 45, 3)) ev_w440 ev_w438 ev_w439 ev_w71 ev_dn33 (by decide) rfl) <|
   ev_a (ok_no) <|
   ev_a (ok_no) <|
   ev_a (ok_return X hP hQ hfin rfl (by decide +kernel : decode cX7_begin 36 = .ok (.return_, 1))) <|
   ev_a (ok_ald_n X hP (by decide +kernel : decode cX7_begin 37 = .ok (.aload_n 0, 1)) rfl rfl) <|
   ev_a (ok_get X hP (ci := 12) (kf := 0) (T := TX7) (by decide +kernel : decode cX7_begin 38 = .ok (.getfield 11, 3)) rfl ev_in12 (by decide) ev_w163 (Or.inl rfl) rfl) <|
   ev_a (ok_no) <|
   ev_a (ok_no) <|
   ev_a (ok_ald_n X hP (by decide +kernel : decode cX7_begin 41 = .ok (.aload_n 0, 1)) rfl rfl) <|
   ev_a (ok_get X hP (ci := 12) (kf := 5) (T := TX7) (by decide +kernel : decode cX7_begin 42 = .ok (.getfield 27, 3)) rfl ev_in12 (by decide) ev_w171 (Or.inl rfl) rfl) <|
   ev_a (ok_no) <|
   ev_a (ok_no) <|
   ev_a (ok_ild_n X hP (by decide +kernel : decode cX7_begin 45 = .ok (.iload_n 1, 1)) rfl rfl) <|
   ev_a (ok_invSN X hP hR hd2 hcf ev_y33 (by decide +kernel : decode cX7_begin 46 = .ok (.invokestatic 45, 3)) ev_w440 ev_w438 ev_w439 ev_w71 ev_dn33 (by decide) rfl) <|
   ev_a (ok_no) <| ev_a0) <|
  ev_b (
   ev_a (ok_no) <|
   ev_a (ok_ald_n X hP (by decide +kernel : decode cX7_begin 49 = .ok (.aload_n 0, 1)) rfl rfl) <|
   ev_a (ok_get X hP (ci := 12) (kf := 1) (T := TX7) (by decide +kernel : decode cX7_begin 50 = .ok (.getfield 15, 3)) rfl ev_in12 (by decide) ev_w164 (Or.inl rfl) rfl) <|
   ev_a (ok_no) <|
   ev_a (ok_no) <|
   ev_a (ok_ald_n X hP (by decide +kernel : decode cX7_begin 53 = .ok (.aload_n 0, 1)) rfl rfl) <|
   ev_a (ok_get X hP (ci := 12) (kf := 5) (T := TX7) (by decide +kernel : decode cX7_begin 54 = .ok (.getfield 27, 3)) rfl ev_in12 (by decide) ev_w171 (Or.inl rfl) rfl) <|
   ev_a (ok_no) <|
   ev_a (ok_no) <|
   ev_a (ok_ild_n X hP (by decide +kernel : decode cX7_begin 57 = .ok (.iload_n 2, 1)) rfl rfl) <|
   ev_a (ok_invSN X hP hR hd2 hcf ev_y33 (by decide +kernel : decode cX7_begin 58 = .ok (.invokestatic 45, 3)) ev_w440 ev_w438 ev_w439 ev_w71 ev_dn33 (by decide) rfl) <|
   ev_a (ok_no) <|
   ev_a (ok_no) <|
   ev_a (ok_ald_n X hP (by decide +kernel : decode cX7_begin 61 = .ok (.aload_n 0, 1)) rfl rfl) <|
   ev_a (ok_get X hP (ci := 12) (kf := 2) (T := TX7) (by decide +kernel : decode cX7_begin 62 = .ok (.getfield 18, 3)) rfl ev_in12 (by decide) ev_w167 (Or.inl rfl) rfl) <|
   ev_a (ok_no) <| ev_a0) <|
  ev_b (
   ev_a (ok_no) <|
   ev_a (ok_ald_n X hP (by decide +kernel : decode cX7_begin 65 = .ok (.aload_n 0, 1)) rfl rfl) <|
   ev_a (ok_get X hP (ci := 12) (kf := 5) (T := TX7) (by decide +kernel : decode cX7_begin 66 = .ok (.getfield 27, 3)) rfl ev_in12 (by decide) ev_w171 (Or.inl rfl) rfl) <|
   ev_a (ok_no) <|
   ev_a (ok_no) <|
   ev_a (ok_ild_n X hP (by decide +kernel : decode cX7_begin 69 = .ok (.iload_n 3, 1)) rfl rfl) <|
   ev_a (ok_invSN X hP hR hd2 hcf ev_y33 (by decide +kernel : decode cX7_begin 70 = .ok (.invokestatic 45, 3)) ev_w440 ev_w438 ev_w439 ev_w71 ev_dn33 (by decide) rfl) <|
   ev_a (ok_no) <|
   ev_a (ok_no) <|
   ev_a (ok_ald_n X hP (by decide +kernel : decode cX7_begin 73 = .ok (.aload_n 0, 1)) rfl rfl) <|
   ev_a (ok_get X hP (ci := 12) (kf := 3) (T := TX7) (by decide +kernel : decode cX7_begin 74 = .ok (.getfield 21, 3)) rfl ev_in12 (by decide) ev_w169 (Or.inl rfl) rfl) <|
   ev_a (ok_no) <|
   ev_a (ok_no) <|
   ev_a (ok_ald_n X hP (by decide +kernel : decode cX7_begin 77 = .ok (.aload_n 0, 1)) rfl rfl) <|
   ev_a (ok_get X hP (ci := 12) (kf := 5) (T := TX7) (by decide +kernel : decode cX7_begin 78 = .ok (.getfield 27, 3)) rfl ev_in12 (by decide) ev_w171 (Or.inl rfl) rfl) <|
   ev_a (ok_no) <| ev_a0) <|
  ev_b (
   ev_a (ok_no) <|
   ev_a (ok_ild X hP (by decide +kernel : decode cX7_begin 81 = .ok (.iload 4, 2)) rfl) <|
   ev_a (ok_no) <|
   ev_a (ok_invSN X hP hR hd2 hcf ev_y33 (by decide +kernel : decode cX7_begin 83 = .ok (.invokestatic 45, 3)) ev_w440 ev_w438 ev_w439 ev_w71 ev_dn33 (by decide) rfl) <|
   ev_a (ok_no) <|
   ev_a (ok_no) <|
   ev_a (ok_ald_n X hP (by decide +kernel : decode cX7_begin 86 = .ok (.aload_n 0, 1)) rfl rfl) <|
   ev_a (ok_get X hP (ci := 12) (kf := 4) (T := TX7) (by decide +kernel : decode cX7_begin 87 = .ok (.getfield 24, 3)) rfl ev_in12 (by decide) ev_w170 (Or.inl rfl) rfl) <|
   ev_a (ok_no) <|
   ev_a (ok_no) <|
   ev_a (ok_ald_n X hP (by decide +kernel : decode cX7_begin 90 = .ok (.aload_n 0, 1)) rfl rfl) <|
   ev_a (ok_get X hP (ci := 12) (kf := 5) (T := TX7) (by decide +kernel : decode cX7_begin 91 = .ok (.getfield 27, 3)) rfl ev_in12 (by decide) ev_w171 (Or.inl rfl) rfl) <|
   ev_a (ok_no) <|
   ev_a (ok_no) <|
   ev_a (ok_psh_iconst X hP (by decide +kernel : decode cX7_begin 94 = .ok (.iconst (-1), 1)) rfl) <|
   ev_a (ok_invSN X hP hR hd2 hcf ev_y33 (by decide +kernel : decode cX7_begin 95 = .ok (.invokestatic 45, 3)) ev_w440 ev_w438 ev_w439 ev_w71 ev_dn33 (by decide) rfl) <| ev_a0) <|
  ev_b (
   ev_a (ok_no) <|
   ev_a (ok_no) <|
   ev_a (ok_ald_n X hP (by decide +kernel : decode cX7_begin 98 = .ok (.aload_n 0, 1)) rfl rfl) <|
   ev_a (ok_dup X hP (by decide +kernel : decode cX7_begin 99 = .ok (.dup, 1)) rfl) <|
   ev_a (ok_get X hP (ci := 12) (kf := 5) (T := TX7) (by decide +kernel : decode cX7_begin 100 = .ok (.getfield 27, 3)) rfl ev_in12 (by decide) ev_w171 (Or.inl rfl) rfl) <|
   ev_a (ok_no) <|
   ev_a (ok_no) <|
   ev_a (ok_psh_iconst X hP (by decide +kernel : decode cX7_begin 103 = .ok (.iconst 1, 1)) rfl) <|
   ev_a (ok_iadd X hP (by decide +kernel : decode cX7_begin 104 = .ok (.iadd, 1)) rfl) <|
   ev_a (ok_put X hP (ci := 12) (kf := 5) (T := TX7) tyX7 (by decide +kernel : decode cX7_begin 105 = .ok (.putfield 27, 3)) rfl ev_in12 tyX7_ok nmX7 (by decide) ev_w171 (Or.inl rfl) rfl rfl rfl) <|
   ev_a (ok_no) <|
   ev_a (ok_no) <|
   ev_a (ok_return X hP hQ hfin rfl (by decide +kernel : decode cX7_begin 108 = .ok (.return_, 1))) <| ev_a0) <|
  ev_b0
set_option maxRecDepth 100000 in
theorem ev_s67 {l : Launch} {d : Nat} {cf : Nat → List Value → ev_W → Option ev_R} {p : Program} {e : Env} {R : Room} {s : State} {m : MethodId} {args : Array Value} {below : List Frame} {meth : Method} {c : Code} {Q : State → Prop} {D : va_G} {G : Nat → ClassId} {ad : Nat → Nat} {A : Nat → Prop} {z wE nE : Nat} {P : Nat → List Value → List Value → ev_W → Nat → Prop} {α : Type} {r : α} {fin : Option Value → ev_W → Nat → Option α} (X : ev_X cX7_copyFrom 2 yX7_copyFrom.cls none p s m args meth c D G ad A z) (hP : ev_PP p l e R s m args below meth c Q 2 D G ad A z wE nE P) (hR : wE - z ≤ R.cells ∧ nE ≤ R.slots) (hd2 : d + 3 ≤ R.frames ∧ 64 * (d + 3) ≤ R.locals) (hR1 : 1 ≤ R.frames) (hR2 : 21 ≤ R.locals) (hcf : ev_cf l ev_ys d cf) {Qc : Array Value → State → Outcome → State → Prop} (hQ : Q = MQ below Qc args s (wE - z) nE A) (hfin : ∀ v w n, fin v w n = some r → w.length = wE ∧ n = nE ∧ ∀ H locs, ev_H D G ad A w H → va_S A s.heap H locs → ∀ t : State, t.heap = H → s.WarmedH t.vm → Qc args s (.returned (v.map (ev_v ad))) t) : ev_all2 (ev_ok P r) 0 (ev_o67 cf fin) :=
  ev_b (
   ev_a (ok_ald_n X hP (by decide +kernel : decode cX7_copyFrom 0 = .ok (.aload_n 0, 1)) rfl rfl) <|
   ev_a (ok_ald_n X hP (by decide +kernel : decode cX7_copyFrom 1 = .ok (.aload_n 1, 1)) rfl rfl) <|
   ev_a (ok_get X hP (ci := 12) (kf := 5) (T := TX7) (by decide +kernel : decode cX7_copyFrom 2 = .ok (.getfield 27, 3)) rfl ev_in12 (by decide) ev_w171 (Or.inl rfl) rfl) <|
   ev_a (ok_no) <|
   ev_a (ok_no) <|
   ev_a (ok_put X hP (ci := 12) (kf := 5) (T := TX7) tyX7 (by decide +kernel : decode cX7_copyFrom 5 = .ok (.putfield 27, 3)) rfl ev_in12 tyX7_ok nmX7 (by decide) ev_w171 (Or.inl rfl) rfl rfl rfl) <|
   ev_a (ok_no) <|
   ev_a (ok_no) <|
   ev_a (ok_ald_n X hP (by decide +kernel : decode cX7_copyFrom 8 = .ok (.aload_n 1, 1)) rfl rfl) <|
   ev_a (ok_get X hP (ci := 12) (kf := 0) (T := TX7) (by decide +kernel : decode cX7_copyFrom 9 = .ok (.getfield 11, 3)) rfl ev_in12 (by decide) ev_w163 (Or.inl rfl) rfl) <|
   ev_a (ok_no) <|
   ev_a (ok_no) <|
   ev_a (ok_ald_n X hP (by decide +kernel : decode cX7_copyFrom 12 = .ok (.aload_n 0, 1)) rfl rfl) <|
   ev_a (ok_get X hP (ci := 12) (kf := 0) (T := TX7) (by decide +kernel : decode cX7_copyFrom 13 = .ok (.getfield 11, 3)) rfl ev_in12 (by decide) ev_w163 (Or.inl rfl) rfl) <|
   ev_a (ok_no) <|
   ev_a (ok_no) <| ev_a0) <|
  ev_b (
   ev_a (ok_ald_n X hP (by decide +kernel : decode cX7_copyFrom 16 = .ok (.aload_n 0, 1)) rfl rfl) <|
   ev_a (ok_get X hP (ci := 12) (kf := 5) (T := TX7) (by decide +kernel : decode cX7_copyFrom 17 = .ok (.getfield 27, 3)) rfl ev_in12 (by decide) ev_w171 (Or.inl rfl) rfl) <|
   ev_a (ok_no) <|
   ev_a (ok_no) <|
   ev_a (ok_invSN X hP hR hd2 hcf ev_y29 (by decide +kernel : decode cX7_copyFrom 20 = .ok (.invokestatic 31, 3)) ev_w616 ev_w664 ev_w615 ev_w71 ev_dn29 (by decide) rfl) <|
   ev_a (ok_no) <|
   ev_a (ok_no) <|
   ev_a (ok_ald_n X hP (by decide +kernel : decode cX7_copyFrom 23 = .ok (.aload_n 1, 1)) rfl rfl) <|
   ev_a (ok_get X hP (ci := 12) (kf := 1) (T := TX7) (by decide +kernel : decode cX7_copyFrom 24 = .ok (.getfield 15, 3)) rfl ev_in12 (by decide) ev_w164 (Or.inl rfl) rfl) <|
   ev_a (ok_no) <|
   ev_a (ok_no) <|
   ev_a (ok_ald_n X hP (by decide +kernel : decode cX7_copyFrom 27 = .ok (.aload_n 0, 1)) rfl rfl) <|
   ev_a (ok_get X hP (ci := 12) (kf := 1) (T := TX7) (by decide +kernel : decode cX7_copyFrom 28 = .ok (.getfield 15, 3)) rfl ev_in12 (by decide) ev_w164 (Or.inl rfl) rfl) <|
   ev_a (ok_no) <|
   ev_a (ok_no) <|
   ev_a (ok_ald_n X hP (by decide +kernel : decode cX7_copyFrom 31 = .ok (.aload_n 0, 1)) rfl rfl) <| ev_a0) <|
  ev_b (
   ev_a (ok_get X hP (ci := 12) (kf := 5) (T := TX7) (by decide +kernel : decode cX7_copyFrom 32 = .ok (.getfield 27, 3)) rfl ev_in12 (by decide) ev_w171 (Or.inl rfl) rfl) <|
   ev_a (ok_no) <|
   ev_a (ok_no) <|
   ev_a (ok_invSN X hP hR hd2 hcf ev_y29 (by decide +kernel : decode cX7_copyFrom 35 = .ok (.invokestatic 31, 3)) ev_w616 ev_w664 ev_w615 ev_w71 ev_dn29 (by decide) rfl) <|
   ev_a (ok_no) <|
   ev_a (ok_no) <|
   ev_a (ok_ald_n X hP (by decide +kernel : decode cX7_copyFrom 38 = .ok (.aload_n 1, 1)) rfl rfl) <|
   ev_a (ok_get X hP (ci := 12) (kf := 2) (T := TX7) (by decide +kernel : decode cX7_copyFrom 39 = .ok (.getfield 18, 3)) rfl ev_in12 (by decide) ev_w167 (Or.inl rfl) rfl) <|
   ev_a (ok_no) <|
   ev_a (ok_no) <|
   ev_a (ok_ald_n X hP (by decide +kernel : decode cX7_copyFrom 42 = .ok (.aload_n 0, 1)) rfl rfl) <|
   ev_a (ok_get X hP (ci := 12) (kf := 2) (T := TX7) (by decide +kernel : decode cX7_copyFrom 43 = .ok (.getfield 18, 3)) rfl ev_in12 (by decide) ev_w167 (Or.inl rfl) rfl) <|
   ev_a (ok_no) <|
   ev_a (ok_no) <|
   ev_a (ok_ald_n X hP (by decide +kernel : decode cX7_copyFrom 46 = .ok (.aload_n 0, 1)) rfl rfl) <|
   ev_a (ok_get X hP (ci := 12) (kf := 5) (T := TX7) (by decide +kernel : decode cX7_copyFrom 47 = .ok (.getfield 27, 3)) rfl ev_in12 (by decide) ev_w171 (Or.inl rfl) rfl) <| ev_a0) <|
  ev_b (
   ev_a (ok_no) <|
   ev_a (ok_no) <|
   ev_a (ok_invSN X hP hR hd2 hcf ev_y29 (by decide +kernel : decode cX7_copyFrom 50 = .ok (.invokestatic 31, 3)) ev_w616 ev_w664 ev_w615 ev_w71 ev_dn29 (by decide) rfl) <|
   ev_a (ok_no) <|
   ev_a (ok_no) <|
   ev_a (ok_ald_n X hP (by decide +kernel : decode cX7_copyFrom 53 = .ok (.aload_n 1, 1)) rfl rfl) <|
   ev_a (ok_get X hP (ci := 12) (kf := 3) (T := TX7) (by decide +kernel : decode cX7_copyFrom 54 = .ok (.getfield 21, 3)) rfl ev_in12 (by decide) ev_w169 (Or.inl rfl) rfl) <|
   ev_a (ok_no) <|
   ev_a (ok_no) <|
   ev_a (ok_ald_n X hP (by decide +kernel : decode cX7_copyFrom 57 = .ok (.aload_n 0, 1)) rfl rfl) <|
   ev_a (ok_get X hP (ci := 12) (kf := 3) (T := TX7) (by decide +kernel : decode cX7_copyFrom 58 = .ok (.getfield 21, 3)) rfl ev_in12 (by decide) ev_w169 (Or.inl rfl) rfl) <|
   ev_a (ok_no) <|
   ev_a (ok_no) <|
   ev_a (ok_ald_n X hP (by decide +kernel : decode cX7_copyFrom 61 = .ok (.aload_n 0, 1)) rfl rfl) <|
   ev_a (ok_get X hP (ci := 12) (kf := 5) (T := TX7) (by decide +kernel : decode cX7_copyFrom 62 = .ok (.getfield 27, 3)) rfl ev_in12 (by decide) ev_w171 (Or.inl rfl) rfl) <|
   ev_a (ok_no) <| ev_a0) <|
  ev_b (
   ev_a (ok_no) <|
   ev_a (ok_invSN X hP hR hd2 hcf ev_y29 (by decide +kernel : decode cX7_copyFrom 65 = .ok (.invokestatic 31, 3)) ev_w616 ev_w664 ev_w615 ev_w71 ev_dn29 (by decide) rfl) <|
   ev_a (ok_no) <|
   ev_a (ok_no) <|
   ev_a (ok_ald_n X hP (by decide +kernel : decode cX7_copyFrom 68 = .ok (.aload_n 1, 1)) rfl rfl) <|
   ev_a (ok_get X hP (ci := 12) (kf := 4) (T := TX7) (by decide +kernel : decode cX7_copyFrom 69 = .ok (.getfield 24, 3)) rfl ev_in12 (by decide) ev_w170 (Or.inl rfl) rfl) <|
   ev_a (ok_no) <|
   ev_a (ok_no) <|
   ev_a (ok_ald_n X hP (by decide +kernel : decode cX7_copyFrom 72 = .ok (.aload_n 0, 1)) rfl rfl) <|
   ev_a (ok_get X hP (ci := 12) (kf := 4) (T := TX7) (by decide +kernel : decode cX7_copyFrom 73 = .ok (.getfield 24, 3)) rfl ev_in12 (by decide) ev_w170 (Or.inl rfl) rfl) <|
   ev_a (ok_no) <|
   ev_a (ok_no) <|
   ev_a (ok_ald_n X hP (by decide +kernel : decode cX7_copyFrom 76 = .ok (.aload_n 0, 1)) rfl rfl) <|
   ev_a (ok_get X hP (ci := 12) (kf := 5) (T := TX7) (by decide +kernel : decode cX7_copyFrom 77 = .ok (.getfield 27, 3)) rfl ev_in12 (by decide) ev_w171 (Or.inl rfl) rfl) <|
   ev_a (ok_no) <|
   ev_a (ok_no) <| ev_a0) <|
  ev_b (
   ev_a (ok_invSN X hP hR hd2 hcf ev_y29 (by decide +kernel : decode cX7_copyFrom 80 = .ok (.invokestatic 31, 3)) ev_w616 ev_w664 ev_w615 ev_w71 ev_dn29 (by decide) rfl) <|
   ev_a (ok_no) <|
   ev_a (ok_no) <|
   ev_a (ok_return X hP hQ hfin rfl (by decide +kernel : decode cX7_copyFrom 83 = .ok (.return_, 1))) <| ev_a0) <|
  ev_b0
set_option maxRecDepth 100000 in
theorem ev_s68 {l : Launch} {d : Nat} {cf : Nat → List Value → ev_W → Option ev_R} {p : Program} {e : Env} {R : Room} {s : State} {m : MethodId} {args : Array Value} {below : List Frame} {meth : Method} {c : Code} {Q : State → Prop} {D : va_G} {G : Nat → ClassId} {ad : Nat → Nat} {A : Nat → Prop} {z wE nE : Nat} {P : Nat → List Value → List Value → ev_W → Nat → Prop} {α : Type} {r : α} {fin : Option Value → ev_W → Nat → Option α} (X : ev_X cX7_end 4 yX7_end.cls none p s m args meth c D G ad A z) (hP : ev_PP p l e R s m args below meth c Q 4 D G ad A z wE nE P) (hR : wE - z ≤ R.cells ∧ nE ≤ R.slots) (hd2 : d + 3 ≤ R.frames ∧ 64 * (d + 3) ≤ R.locals) (hR1 : 1 ≤ R.frames) (hR2 : 21 ≤ R.locals) (hcf : ev_cf l ev_ys d cf) {Qc : Array Value → State → Outcome → State → Prop} (hQ : Q = MQ below Qc args s (wE - z) nE A) (hfin : ∀ v w n, fin v w n = some r → w.length = wE ∧ n = nE ∧ ∀ H locs, ev_H D G ad A w H → va_S A s.heap H locs → ∀ t : State, t.heap = H → s.WarmedH t.vm → Qc args s (.returned (v.map (ev_v ad))) t) : ev_all2 (ev_ok P r) 0 (ev_o68 cf fin) :=
  ev_b (
   ev_a (ok_psh_iconst X hP (by decide +kernel : decode cX7_end 0 = .ok (.iconst 0, 1)) rfl) <|
   ev_a (ok_ist_n X hP (by decide +kernel : decode cX7_end 1 = .ok (.istore_n 3, 1)) rfl (by decide) rfl) <|
   ev_a (ok_ild_n X hP (by decide +kernel : decode cX7_end 2 = .ok (.iload_n 3, 1)) rfl rfl) <|
   ev_a (ok_ald_n X hP (by decide +kernel : decode cX7_end 3 = .ok (.aload_n 0, 1)) rfl rfl) <|
   ev_a (ok_get X hP (ci := 12) (kf := 5) (T := TX7) (by decide +kernel : decode cX7_end 4 = .ok (.getfield 27, 3)) rfl ev_in12 (by decide) ev_w171 (Or.inl rfl) rfl) <|
   ev_a (ok_no) <|
   ev_a (ok_no) <|
   ev_a (ok_icmp_ge X hP (by decide +kernel : decode cX7_end 7 = .ok (.if_icmp .ge 39, 3)) (by decide) rfl) <|
   ev_a (ok_no) <|
   ev_a (ok_no) <|
   ev_a (ok_ald_n X hP (by decide +kernel : decode cX7_end 10 = .ok (.aload_n 0, 1)) rfl rfl) <|
   ev_a (ok_ild_n X hP (by decide +kernel : decode cX7_end 11 = .ok (.iload_n 3, 1)) rfl rfl) <|
   ev_a (ok_invV X hP hR hd2 hcf (ci := 12) ev_y71 rfl (by decide +kernel : decode cX7_end 12 = .ok (.invokevirtual 62, 3)) ev_w463 ev_w460 ev_w461 ev_w462 ev_w74 ⟨rfl, ev_dn71⟩ (by decide) rfl) <|
   ev_a (ok_no) <|
   ev_a (ok_no) <|
   ev_a (ok_if_eq X hP (by decide +kernel : decode cX7_end 15 = .ok (.ifCond .eq 25, 3)) (by decide) rfl) <| ev_a0) <|
  ev_b (
   ev_a (ok_no) <|
   ev_a (ok_no) <|
   ev_a (ok_ald_n X hP (by decide +kernel : decode cX7_end 18 = .ok (.aload_n 0, 1)) rfl rfl) <|
   ev_a (ok_get X hP (ci := 12) (kf := 1) (T := TX7) (by decide +kernel : decode cX7_end 19 = .ok (.getfield 15, 3)) rfl ev_in12 (by decide) ev_w164 (Or.inl rfl) rfl) <|
   ev_a (ok_no) <|
   ev_a (ok_no) <|
   ev_a (ok_ild_n X hP (by decide +kernel : decode cX7_end 22 = .ok (.iload_n 3, 1)) rfl rfl) <|
   ev_a (ok_psh_iconst X hP (by decide +kernel : decode cX7_end 23 = .ok (.iconst (-1), 1)) rfl) <|
   ev_a (ok_invSN X hP hR hd2 hcf ev_y24 (by decide +kernel : decode cX7_end 24 = .ok (.invokestatic 35, 3)) ev_w423 ev_w433 ev_w422 ev_w71 ev_dn24 (by decide) rfl) <|
   ev_a (ok_no) <|
   ev_a (ok_no) <|
   ev_a (ok_ild_n X hP (by decide +kernel : decode cX7_end 27 = .ok (.iload_n 1, 1)) rfl rfl) <|
   ev_a (ok_icmp_ne X hP (by decide +kernel : decode cX7_end 28 = .ok (.if_icmp .ne 12, 3)) (by decide) rfl) <|
   ev_a (ok_no) <|
   ev_a (ok_no) <|
   ev_a (ok_ald_n X hP (by decide +kernel : decode cX7_end 31 = .ok (.aload_n 0, 1)) rfl rfl) <| ev_a0) <|
  ev_b (
   ev_a (ok_get X hP (ci := 12) (kf := 4) (T := TX7) (by decide +kernel : decode cX7_end 32 = .ok (.getfield 24, 3)) rfl ev_in12 (by decide) ev_w170 (Or.inl rfl) rfl) <|
   ev_a (ok_no) <|
   ev_a (ok_no) <|
   ev_a (ok_ild_n X hP (by decide +kernel : decode cX7_end 35 = .ok (.iload_n 3, 1)) rfl rfl) <|
   ev_a (ok_ild_n X hP (by decide +kernel : decode cX7_end 36 = .ok (.iload_n 2, 1)) rfl rfl) <|
   ev_a (ok_invSN X hP hR hd2 hcf ev_y33 (by decide +kernel : decode cX7_end 37 = .ok (.invokestatic 45, 3)) ev_w440 ev_w438 ev_w439 ev_w71 ev_dn33 (by decide) rfl) <|
   ev_a (ok_no) <|
   ev_a (ok_no) <|
   ev_a (ok_inc X hP (by decide +kernel : decode cX7_end 40 = .ok (.iinc 3 1, 3)) (by decide) rfl) <|
   ev_a (ok_no) <|
   ev_a (ok_no) <|
   ev_a (ok_jmp X hP (by decide +kernel : decode cX7_end 43 = .ok (.goto (-41), 3)) (by decide)) <|
   ev_a (ok_no) <|
   ev_a (ok_no) <|
   ev_a (ok_return X hP hQ hfin rfl (by decide +kernel : decode cX7_end 46 = .ok (.return_, 1))) <| ev_a0) <|
  ev_b0
set_option maxRecDepth 100000 in
theorem ev_s69 {l : Launch} {d : Nat} {cf : Nat → List Value → ev_W → Option ev_R} {p : Program} {e : Env} {R : Room} {s : State} {m : MethodId} {args : Array Value} {below : List Frame} {meth : Method} {c : Code} {Q : State → Prop} {D : va_G} {G : Nat → ClassId} {ad : Nat → Nat} {A : Nat → Prop} {z wE nE : Nat} {P : Nat → List Value → List Value → ev_W → Nat → Prop} {α : Type} {r : α} {fin : Option Value → ev_W → Nat → Option α} (X : ev_X cX7_holdsIn 3 yX7_holdsIn.cls (some FieldType.boolean) p s m args meth c D G ad A z) (hP : ev_PP p l e R s m args below meth c Q 3 D G ad A z wE nE P) (hR : wE - z ≤ R.cells ∧ nE ≤ R.slots) (hd2 : d + 3 ≤ R.frames ∧ 64 * (d + 3) ≤ R.locals) (hR1 : 1 ≤ R.frames) (hR2 : 21 ≤ R.locals) (hcf : ev_cf l ev_ys d cf) {Qc : Array Value → State → Outcome → State → Prop} (hQ : Q = MQ below Qc args s (wE - z) nE A) (hfin : ∀ v w n, fin v w n = some r → w.length = wE ∧ n = nE ∧ ∀ H locs, ev_H D G ad A w H → va_S A s.heap H locs → ∀ t : State, t.heap = H → s.WarmedH t.vm → Qc args s (.returned (v.map (ev_v ad))) t) : ev_all2 (ev_ok P r) 0 (ev_o69 cf fin) :=
  ev_b (
   ev_a (ok_ald_n X hP (by decide +kernel : decode cX7_holdsIn 0 = .ok (.aload_n 0, 1)) rfl rfl) <|
   ev_a (ok_get X hP (ci := 12) (kf := 3) (T := TX7) (by decide +kernel : decode cX7_holdsIn 1 = .ok (.getfield 21, 3)) rfl ev_in12 (by decide) ev_w169 (Or.inl rfl) rfl) <|
   ev_a (ok_no) <|
   ev_a (ok_no) <|
   ev_a (ok_ild_n X hP (by decide +kernel : decode cX7_holdsIn 4 = .ok (.iload_n 1, 1)) rfl rfl) <|
   ev_a (ok_psh_iconst X hP (by decide +kernel : decode cX7_holdsIn 5 = .ok (.iconst 0, 1)) rfl) <|
   ev_a (ok_invSN X hP hR hd2 hcf ev_y24 (by decide +kernel : decode cX7_holdsIn 6 = .ok (.invokestatic 35, 3)) ev_w423 ev_w433 ev_w422 ev_w71 ev_dn24 (by decide) rfl) <|
   ev_a (ok_no) <|
   ev_a (ok_no) <|
   ev_a (ok_ild_n X hP (by decide +kernel : decode cX7_holdsIn 9 = .ok (.iload_n 2, 1)) rfl rfl) <|
   ev_a (ok_icmp_gt X hP (by decide +kernel : decode cX7_holdsIn 10 = .ok (.if_icmp .gt 28, 3)) (by decide) rfl) <|
   ev_a (ok_no) <|
   ev_a (ok_no) <|
   ev_a (ok_ald_n X hP (by decide +kernel : decode cX7_holdsIn 13 = .ok (.aload_n 0, 1)) rfl rfl) <|
   ev_a (ok_ild_n X hP (by decide +kernel : decode cX7_holdsIn 14 = .ok (.iload_n 1, 1)) rfl rfl) <|
   ev_a (ok_invV X hP hR hd2 hcf (ci := 12) ev_y71 rfl (by decide +kernel : decode cX7_holdsIn 15 = .ok (.invokevirtual 62, 3)) ev_w463 ev_w460 ev_w461 ev_w462 ev_w74 ⟨rfl, ev_dn71⟩ (by decide) rfl) <| ev_a0) <|
  ev_b (
   ev_a (ok_no) <|
   ev_a (ok_no) <|
   ev_a (ok_if_ne X hP (by decide +kernel : decode cX7_holdsIn 18 = .ok (.ifCond .ne 16, 3)) (by decide) rfl) <|
   ev_a (ok_no) <|
   ev_a (ok_no) <|
   ev_a (ok_ild_n X hP (by decide +kernel : decode cX7_holdsIn 21 = .ok (.iload_n 2, 1)) rfl rfl) <|
   ev_a (ok_ald_n X hP (by decide +kernel : decode cX7_holdsIn 22 = .ok (.aload_n 0, 1)) rfl rfl) <|
   ev_a (ok_get X hP (ci := 12) (kf := 4) (T := TX7) (by decide +kernel : decode cX7_holdsIn 23 = .ok (.getfield 24, 3)) rfl ev_in12 (by decide) ev_w170 (Or.inl rfl) rfl) <|
   ev_a (ok_no) <|
   ev_a (ok_no) <|
   ev_a (ok_ild_n X hP (by decide +kernel : decode cX7_holdsIn 26 = .ok (.iload_n 1, 1)) rfl rfl) <|
   ev_a (ok_psh_iconst X hP (by decide +kernel : decode cX7_holdsIn 27 = .ok (.iconst 0, 1)) rfl) <|
   ev_a (ok_invSN X hP hR hd2 hcf ev_y24 (by decide +kernel : decode cX7_holdsIn 28 = .ok (.invokestatic 35, 3)) ev_w423 ev_w433 ev_w422 ev_w71 ev_dn24 (by decide) rfl) <|
   ev_a (ok_no) <|
   ev_a (ok_no) <|
   ev_a (ok_icmp_ge X hP (by decide +kernel : decode cX7_holdsIn 31 = .ok (.if_icmp .ge 7, 3)) (by decide) rfl) <| ev_a0) <|
  ev_b (
   ev_a (ok_no) <|
   ev_a (ok_no) <|
   ev_a (ok_psh_iconst X hP (by decide +kernel : decode cX7_holdsIn 34 = .ok (.iconst 1, 1)) rfl) <|
   ev_a (ok_jmp X hP (by decide +kernel : decode cX7_holdsIn 35 = .ok (.goto 4, 3)) (by decide)) <|
   ev_a (ok_no) <|
   ev_a (ok_no) <|
   ev_a (ok_psh_iconst X hP (by decide +kernel : decode cX7_holdsIn 38 = .ok (.iconst 0, 1)) rfl) <|
   ev_a (ok_zreturn X hP hQ hfin rfl (by decide +kernel : decode cX7_holdsIn 39 = .ok (.ireturn, 1))) <| ev_a0) <|
  ev_b0
set_option maxRecDepth 100000 in
theorem ev_s70 {l : Launch} {d : Nat} {cf : Nat → List Value → ev_W → Option ev_R} {p : Program} {e : Env} {R : Room} {s : State} {m : MethodId} {args : Array Value} {below : List Frame} {meth : Method} {c : Code} {Q : State → Prop} {D : va_G} {G : Nat → ClassId} {ad : Nat → Nat} {A : Nat → Prop} {z wE nE : Nat} {P : Nat → List Value → List Value → ev_W → Nat → Prop} {α : Type} {r : α} {fin : Option Value → ev_W → Nat → Option α} (X : ev_X cX7_init 1 yX7_init.cls none p s m args meth c D G ad A z) (hP : ev_PP p l e R s m args below meth c Q 1 D G ad A z wE nE P) (hR : wE - z ≤ R.cells ∧ nE ≤ R.slots) (hd2 : d + 3 ≤ R.frames ∧ 64 * (d + 3) ≤ R.locals) (hR1 : 1 ≤ R.frames) (hR2 : 21 ≤ R.locals) (hcf : ev_cf l ev_ys d cf) (hin2 : meth.name = "<init>") {Qc : Array Value → State → Outcome → State → Prop} (hQ : Q = MQ below Qc args s (wE - z) nE A) (hfin : ∀ v w n, fin v w n = some r → w.length = wE ∧ n = nE ∧ ∀ H locs, ev_H D G ad A w H → va_S A s.heap H locs → ∀ t : State, t.heap = H → s.WarmedH t.vm → Qc args s (.returned (v.map (ev_v ad))) t) : ev_all2 (ev_ok P r) 0 (ev_o70 cf fin) :=
  ev_b (
   ev_a (ok_ald_n X hP (by decide +kernel : decode cX7_init 0 = .ok (.aload_n 0, 1)) rfl rfl) <|
   ev_a (ok_obj X hP hR1 hR2 (by decide +kernel : decode cX7_init 1 = .ok (.invokespecial 3, 3)) ev_w162 ev_w115 ev_w116 rfl) <|
   ev_a (ok_no) <|
   ev_a (ok_no) <|
   ev_a (ok_ald_n X hP (by decide +kernel : decode cX7_init 4 = .ok (.aload_n 0, 1)) rfl rfl) <|
   ev_a (ok_psh_bipush X hP (by decide +kernel : decode cX7_init 5 = .ok (.bipush 72, 2)) rfl) <|
   ev_a (ok_no) <|
   ev_a (ok_newarray X hP hR (by decide +kernel : decode cX7_init 7 = .ok (.newarray .int, 2)) (Or.inl ⟨rfl, rfl, rfl⟩) ev_w136 rfl) <|
   ev_a (ok_no) <|
   ev_a (ok_putF X hP hin2 (ci := 12) (kf := 0) (T := TX7) tyX7 (by decide +kernel : decode cX7_init 9 = .ok (.putfield 11, 3)) rfl ev_in12 tyX7_ok nmX7 (by decide) ev_w163 (Or.inl rfl) rfl rfl rfl rfl) <|
   ev_a (ok_no) <|
   ev_a (ok_no) <|
   ev_a (ok_ald_n X hP (by decide +kernel : decode cX7_init 12 = .ok (.aload_n 0, 1)) rfl rfl) <|
   ev_a (ok_psh_bipush X hP (by decide +kernel : decode cX7_init 13 = .ok (.bipush 72, 2)) rfl) <|
   ev_a (ok_no) <|
   ev_a (ok_newarray X hP hR (by decide +kernel : decode cX7_init 15 = .ok (.newarray .int, 2)) (Or.inl ⟨rfl, rfl, rfl⟩) ev_w136 rfl) <| ev_a0) <|
  ev_b (
   ev_a (ok_no) <|
   ev_a (ok_putF X hP hin2 (ci := 12) (kf := 1) (T := TX7) tyX7 (by decide +kernel : decode cX7_init 17 = .ok (.putfield 15, 3)) rfl ev_in12 tyX7_ok nmX7 (by decide) ev_w164 (Or.inl rfl) rfl rfl rfl rfl) <|
   ev_a (ok_no) <|
   ev_a (ok_no) <|
   ev_a (ok_ald_n X hP (by decide +kernel : decode cX7_init 20 = .ok (.aload_n 0, 1)) rfl rfl) <|
   ev_a (ok_psh_bipush X hP (by decide +kernel : decode cX7_init 21 = .ok (.bipush 72, 2)) rfl) <|
   ev_a (ok_no) <|
   ev_a (ok_newarray X hP hR (by decide +kernel : decode cX7_init 23 = .ok (.newarray .int, 2)) (Or.inl ⟨rfl, rfl, rfl⟩) ev_w136 rfl) <|
   ev_a (ok_no) <|
   ev_a (ok_putF X hP hin2 (ci := 12) (kf := 2) (T := TX7) tyX7 (by decide +kernel : decode cX7_init 25 = .ok (.putfield 18, 3)) rfl ev_in12 tyX7_ok nmX7 (by decide) ev_w167 (Or.inl rfl) rfl rfl rfl rfl) <|
   ev_a (ok_no) <|
   ev_a (ok_no) <|
   ev_a (ok_ald_n X hP (by decide +kernel : decode cX7_init 28 = .ok (.aload_n 0, 1)) rfl rfl) <|
   ev_a (ok_psh_bipush X hP (by decide +kernel : decode cX7_init 29 = .ok (.bipush 72, 2)) rfl) <|
   ev_a (ok_no) <|
   ev_a (ok_newarray X hP hR (by decide +kernel : decode cX7_init 31 = .ok (.newarray .int, 2)) (Or.inl ⟨rfl, rfl, rfl⟩) ev_w136 rfl) <| ev_a0) <|
  ev_b (
   ev_a (ok_no) <|
   ev_a (ok_putF X hP hin2 (ci := 12) (kf := 3) (T := TX7) tyX7 (by decide +kernel : decode cX7_init 33 = .ok (.putfield 21, 3)) rfl ev_in12 tyX7_ok nmX7 (by decide) ev_w169 (Or.inl rfl) rfl rfl rfl rfl) <|
   ev_a (ok_no) <|
   ev_a (ok_no) <|
   ev_a (ok_ald_n X hP (by decide +kernel : decode cX7_init 36 = .ok (.aload_n 0, 1)) rfl rfl) <|
   ev_a (ok_psh_bipush X hP (by decide +kernel : decode cX7_init 37 = .ok (.bipush 72, 2)) rfl) <|
   ev_a (ok_no) <|
   ev_a (ok_newarray X hP hR (by decide +kernel : decode cX7_init 39 = .ok (.newarray .int, 2)) (Or.inl ⟨rfl, rfl, rfl⟩) ev_w136 rfl) <|
   ev_a (ok_no) <|
   ev_a (ok_putF X hP hin2 (ci := 12) (kf := 4) (T := TX7) tyX7 (by decide +kernel : decode cX7_init 41 = .ok (.putfield 24, 3)) rfl ev_in12 tyX7_ok nmX7 (by decide) ev_w170 (Or.inl rfl) rfl rfl rfl rfl) <|
   ev_a (ok_no) <|
   ev_a (ok_no) <|
   ev_a (ok_return X hP hQ hfin rfl (by decide +kernel : decode cX7_init 44 = .ok (.return_, 1))) <| ev_a0) <|
  ev_b0
set_option maxRecDepth 100000 in
theorem ev_s71 {l : Launch} {d : Nat} {cf : Nat → List Value → ev_W → Option ev_R} {p : Program} {e : Env} {R : Room} {s : State} {m : MethodId} {args : Array Value} {below : List Frame} {meth : Method} {c : Code} {Q : State → Prop} {D : va_G} {G : Nat → ClassId} {ad : Nat → Nat} {A : Nat → Prop} {z wE nE : Nat} {P : Nat → List Value → List Value → ev_W → Nat → Prop} {α : Type} {r : α} {fin : Option Value → ev_W → Nat → Option α} (X : ev_X cX7_isOpen 2 yX7_isOpen.cls (some FieldType.boolean) p s m args meth c D G ad A z) (hP : ev_PP p l e R s m args below meth c Q 2 D G ad A z wE nE P) (hR : wE - z ≤ R.cells ∧ nE ≤ R.slots) (hd2 : d + 3 ≤ R.frames ∧ 64 * (d + 3) ≤ R.locals) (hR1 : 1 ≤ R.frames) (hR2 : 21 ≤ R.locals) (hcf : ev_cf l ev_ys d cf) {Qc : Array Value → State → Outcome → State → Prop} (hQ : Q = MQ below Qc args s (wE - z) nE A) (hfin : ∀ v w n, fin v w n = some r → w.length = wE ∧ n = nE ∧ ∀ H locs, ev_H D G ad A w H → va_S A s.heap H locs → ∀ t : State, t.heap = H → s.WarmedH t.vm → Qc args s (.returned (v.map (ev_v ad))) t) : ev_all2 (ev_ok P r) 0 (ev_o71 cf fin) :=
  ev_b (
   ev_a (ok_ald_n X hP (by decide +kernel : decode cX7_isOpen 0 = .ok (.aload_n 0, 1)) rfl rfl) <|
   ev_a (ok_get X hP (ci := 12) (kf := 4) (T := TX7) (by decide +kernel : decode cX7_isOpen 1 = .ok (.getfield 24, 3)) rfl ev_in12 (by decide) ev_w170 (Or.inl rfl) rfl) <|
   ev_a (ok_no) <|
   ev_a (ok_no) <|
   ev_a (ok_ild_n X hP (by decide +kernel : decode cX7_isOpen 4 = .ok (.iload_n 1, 1)) rfl rfl) <|
   ev_a (ok_psh_iconst X hP (by decide +kernel : decode cX7_isOpen 5 = .ok (.iconst 0, 1)) rfl) <|
   ev_a (ok_invSN X hP hR hd2 hcf ev_y24 (by decide +kernel : decode cX7_isOpen 6 = .ok (.invokestatic 35, 3)) ev_w423 ev_w433 ev_w422 ev_w71 ev_dn24 (by decide) rfl) <|
   ev_a (ok_no) <|
   ev_a (ok_no) <|
   ev_a (ok_psh_iconst X hP (by decide +kernel : decode cX7_isOpen 9 = .ok (.iconst (-1), 1)) rfl) <|
   ev_a (ok_icmp_ne X hP (by decide +kernel : decode cX7_isOpen 10 = .ok (.if_icmp .ne 7, 3)) (by decide) rfl) <|
   ev_a (ok_no) <|
   ev_a (ok_no) <|
   ev_a (ok_psh_iconst X hP (by decide +kernel : decode cX7_isOpen 13 = .ok (.iconst 1, 1)) rfl) <|
   ev_a (ok_jmp X hP (by decide +kernel : decode cX7_isOpen 14 = .ok (.goto 4, 3)) (by decide)) <|
   ev_a (ok_no) <| ev_a0) <|
  ev_b (
   ev_a (ok_no) <|
   ev_a (ok_psh_iconst X hP (by decide +kernel : decode cX7_isOpen 17 = .ok (.iconst 0, 1)) rfl) <|
   ev_a (ok_zreturn X hP hQ hfin rfl (by decide +kernel : decode cX7_isOpen 18 = .ok (.ireturn, 1))) <| ev_a0) <|
  ev_b0
set_option maxRecDepth 100000 in
theorem ev_s72 {l : Launch} {d : Nat} {cf : Nat → List Value → ev_W → Option ev_R} {p : Program} {e : Env} {R : Room} {s : State} {m : MethodId} {args : Array Value} {below : List Frame} {meth : Method} {c : Code} {Q : State → Prop} {D : va_G} {G : Nat → ClassId} {ad : Nat → Nat} {A : Nat → Prop} {z wE nE : Nat} {P : Nat → List Value → List Value → ev_W → Nat → Prop} {α : Type} {r : α} {fin : Option Value → ev_W → Nat → Option α} (X : ev_X cX7_openRowOf 3 yX7_openRowOf.cls (some FieldType.int) p s m args meth c D G ad A z) (hP : ev_PP p l e R s m args below meth c Q 3 D G ad A z wE nE P) (hR : wE - z ≤ R.cells ∧ nE ≤ R.slots) (hd2 : d + 3 ≤ R.frames ∧ 64 * (d + 3) ≤ R.locals) (hR1 : 1 ≤ R.frames) (hR2 : 21 ≤ R.locals) (hcf : ev_cf l ev_ys d cf) {Qc : Array Value → State → Outcome → State → Prop} (hQ : Q = MQ below Qc args s (wE - z) nE A) (hfin : ∀ v w n, fin v w n = some r → w.length = wE ∧ n = nE ∧ ∀ H locs, ev_H D G ad A w H → va_S A s.heap H locs → ∀ t : State, t.heap = H → s.WarmedH t.vm → Qc args s (.returned (v.map (ev_v ad))) t) : ev_all2 (ev_ok P r) 0 (ev_o72 cf fin) :=
  ev_b (
   ev_a (ok_psh_iconst X hP (by decide +kernel : decode cX7_openRowOf 0 = .ok (.iconst 0, 1)) rfl) <|
   ev_a (ok_ist_n X hP (by decide +kernel : decode cX7_openRowOf 1 = .ok (.istore_n 2, 1)) rfl (by decide) rfl) <|
   ev_a (ok_ild_n X hP (by decide +kernel : decode cX7_openRowOf 2 = .ok (.iload_n 2, 1)) rfl rfl) <|
   ev_a (ok_ald_n X hP (by decide +kernel : decode cX7_openRowOf 3 = .ok (.aload_n 0, 1)) rfl rfl) <|
   ev_a (ok_get X hP (ci := 12) (kf := 5) (T := TX7) (by decide +kernel : decode cX7_openRowOf 4 = .ok (.getfield 27, 3)) rfl ev_in12 (by decide) ev_w171 (Or.inl rfl) rfl) <|
   ev_a (ok_no) <|
   ev_a (ok_no) <|
   ev_a (ok_icmp_ge X hP (by decide +kernel : decode cX7_openRowOf 7 = .ok (.if_icmp .ge 32, 3)) (by decide) rfl) <|
   ev_a (ok_no) <|
   ev_a (ok_no) <|
   ev_a (ok_ald_n X hP (by decide +kernel : decode cX7_openRowOf 10 = .ok (.aload_n 0, 1)) rfl rfl) <|
   ev_a (ok_ild_n X hP (by decide +kernel : decode cX7_openRowOf 11 = .ok (.iload_n 2, 1)) rfl rfl) <|
   ev_a (ok_invV X hP hR hd2 hcf (ci := 12) ev_y71 rfl (by decide +kernel : decode cX7_openRowOf 12 = .ok (.invokevirtual 62, 3)) ev_w463 ev_w460 ev_w461 ev_w462 ev_w74 ⟨rfl, ev_dn71⟩ (by decide) rfl) <|
   ev_a (ok_no) <|
   ev_a (ok_no) <|
   ev_a (ok_if_eq X hP (by decide +kernel : decode cX7_openRowOf 15 = .ok (.ifCond .eq 18, 3)) (by decide) rfl) <| ev_a0) <|
  ev_b (
   ev_a (ok_no) <|
   ev_a (ok_no) <|
   ev_a (ok_ald_n X hP (by decide +kernel : decode cX7_openRowOf 18 = .ok (.aload_n 0, 1)) rfl rfl) <|
   ev_a (ok_get X hP (ci := 12) (kf := 0) (T := TX7) (by decide +kernel : decode cX7_openRowOf 19 = .ok (.getfield 11, 3)) rfl ev_in12 (by decide) ev_w163 (Or.inl rfl) rfl) <|
   ev_a (ok_no) <|
   ev_a (ok_no) <|
   ev_a (ok_ild_n X hP (by decide +kernel : decode cX7_openRowOf 22 = .ok (.iload_n 2, 1)) rfl rfl) <|
   ev_a (ok_psh_iconst X hP (by decide +kernel : decode cX7_openRowOf 23 = .ok (.iconst (-1), 1)) rfl) <|
   ev_a (ok_invSN X hP hR hd2 hcf ev_y24 (by decide +kernel : decode cX7_openRowOf 24 = .ok (.invokestatic 35, 3)) ev_w423 ev_w433 ev_w422 ev_w71 ev_dn24 (by decide) rfl) <|
   ev_a (ok_no) <|
   ev_a (ok_no) <|
   ev_a (ok_ild_n X hP (by decide +kernel : decode cX7_openRowOf 27 = .ok (.iload_n 1, 1)) rfl rfl) <|
   ev_a (ok_icmp_ne X hP (by decide +kernel : decode cX7_openRowOf 28 = .ok (.if_icmp .ne 5, 3)) (by decide) rfl) <|
   ev_a (ok_no) <|
   ev_a (ok_no) <|
   ev_a (ok_ild_n X hP (by decide +kernel : decode cX7_openRowOf 31 = .ok (.iload_n 2, 1)) rfl rfl) <| ev_a0) <|
  ev_b (
   ev_a (ok_ireturn X hP hQ hfin rfl (by decide +kernel : decode cX7_openRowOf 32 = .ok (.ireturn, 1))) <|
   ev_a (ok_inc X hP (by decide +kernel : decode cX7_openRowOf 33 = .ok (.iinc 2 1, 3)) (by decide) rfl) <|
   ev_a (ok_no) <|
   ev_a (ok_no) <|
   ev_a (ok_jmp X hP (by decide +kernel : decode cX7_openRowOf 36 = .ok (.goto (-34), 3)) (by decide)) <|
   ev_a (ok_no) <|
   ev_a (ok_no) <|
   ev_a (ok_psh_iconst X hP (by decide +kernel : decode cX7_openRowOf 39 = .ok (.iconst (-1), 1)) rfl) <|
   ev_a (ok_ireturn X hP hQ hfin rfl (by decide +kernel : decode cX7_openRowOf 40 = .ok (.ireturn, 1))) <| ev_a0) <|
  ev_b0
set_option maxRecDepth 100000 in
theorem ev_s73 {l : Launch} {d : Nat} {cf : Nat → List Value → ev_W → Option ev_R} {p : Program} {e : Env} {R : Room} {s : State} {m : MethodId} {args : Array Value} {below : List Frame} {meth : Method} {c : Code} {Q : State → Prop} {D : va_G} {G : Nat → ClassId} {ad : Nat → Nat} {A : Nat → Prop} {z wE nE : Nat} {P : Nat → List Value → List Value → ev_W → Nat → Prop} {α : Type} {r : α} {fin : Option Value → ev_W → Nat → Option α} (X : ev_X cX7_take 7 yX7_take.cls none p s m args meth c D G ad A z) (hP : ev_PP p l e R s m args below meth c Q 7 D G ad A z wE nE P) (hR : wE - z ≤ R.cells ∧ nE ≤ R.slots) (hd2 : d + 3 ≤ R.frames ∧ 64 * (d + 3) ≤ R.locals) (hR1 : 1 ≤ R.frames) (hR2 : 21 ≤ R.locals) (hcf : ev_cf l ev_ys d cf) {Qc : Array Value → State → Outcome → State → Prop} (hQ : Q = MQ below Qc args s (wE - z) nE A) (hfin : ∀ v w n, fin v w n = some r → w.length = wE ∧ n = nE ∧ ∀ H locs, ev_H D G ad A w H → va_S A s.heap H locs → ∀ t : State, t.heap = H → s.WarmedH t.vm → Qc args s (.returned (v.map (ev_v ad))) t) : ev_all2 (ev_ok P r) 0 (ev_o73 cf fin) :=
  ev_b (
   ev_a (ok_psh_iconst X hP (by decide +kernel : decode cX7_take 0 = .ok (.iconst 0, 1)) rfl) <|
   ev_a (ok_ist X hP (by decide +kernel : decode cX7_take 1 = .ok (.istore 4, 2)) (by decide) rfl) <|
   ev_a (ok_no) <|
   ev_a (ok_ild X hP (by decide +kernel : decode cX7_take 3 = .ok (.iload 4, 2)) rfl) <|
   ev_a (ok_no) <|
   ev_a (ok_ald_n X hP (by decide +kernel : decode cX7_take 5 = .ok (.aload_n 1, 1)) rfl rfl) <|
   ev_a (ok_getN X hP (ci := 5) (kf := 2) (T := TX0) (by decide +kernel : decode cX7_take 6 = .ok (.getfield 49, 3)) rfl ev_in5 (by decide) ev_w148 (Or.inl rfl) rfl) <|
   ev_a (ok_no) <|
   ev_a (ok_no) <|
   ev_a (ok_icmp_ge X hP (by decide +kernel : decode cX7_take 9 = .ok (.if_icmp .ge 67, 3)) (by decide) rfl) <|
   ev_a (ok_no) <|
   ev_a (ok_no) <|
   ev_a (ok_ald_n X hP (by decide +kernel : decode cX7_take 12 = .ok (.aload_n 1, 1)) rfl rfl) <|
   ev_a (ok_getN X hP (ci := 5) (kf := 0) (T := TX0) (by decide +kernel : decode cX7_take 13 = .ok (.getfield 52, 3)) rfl ev_in5 (by decide) ev_w144 (Or.inl rfl) rfl) <|
   ev_a (ok_no) <|
   ev_a (ok_no) <| ev_a0) <|
  ev_b (
   ev_a (ok_ild X hP (by decide +kernel : decode cX7_take 16 = .ok (.iload 4, 2)) rfl) <|
   ev_a (ok_no) <|
   ev_a (ok_psh_iconst X hP (by decide +kernel : decode cX7_take 18 = .ok (.iconst 0, 1)) rfl) <|
   ev_a (ok_invSN X hP hR hd2 hcf ev_y24 (by decide +kernel : decode cX7_take 19 = .ok (.invokestatic 35, 3)) ev_w423 ev_w433 ev_w422 ev_w71 ev_dn24 (by decide) rfl) <|
   ev_a (ok_no) <|
   ev_a (ok_no) <|
   ev_a (ok_ist X hP (by decide +kernel : decode cX7_take 22 = .ok (.istore 5, 2)) (by decide) rfl) <|
   ev_a (ok_no) <|
   ev_a (ok_ald_n X hP (by decide +kernel : decode cX7_take 24 = .ok (.aload_n 1, 1)) rfl rfl) <|
   ev_a (ok_getN X hP (ci := 5) (kf := 1) (T := TX0) (by decide +kernel : decode cX7_take 25 = .ok (.getfield 53, 3)) rfl ev_in5 (by decide) ev_w146 (Or.inl rfl) rfl) <|
   ev_a (ok_no) <|
   ev_a (ok_no) <|
   ev_a (ok_ild X hP (by decide +kernel : decode cX7_take 28 = .ok (.iload 4, 2)) rfl) <|
   ev_a (ok_no) <|
   ev_a (ok_psh_iconst X hP (by decide +kernel : decode cX7_take 30 = .ok (.iconst 0, 1)) rfl) <|
   ev_a (ok_invSN X hP hR hd2 hcf ev_y24 (by decide +kernel : decode cX7_take 31 = .ok (.invokestatic 35, 3)) ev_w423 ev_w433 ev_w422 ev_w71 ev_dn24 (by decide) rfl) <| ev_a0) <|
  ev_b (
   ev_a (ok_no) <|
   ev_a (ok_no) <|
   ev_a (ok_ist X hP (by decide +kernel : decode cX7_take 34 = .ok (.istore 6, 2)) (by decide) rfl) <|
   ev_a (ok_no) <|
   ev_a (ok_ild X hP (by decide +kernel : decode cX7_take 36 = .ok (.iload 6, 2)) rfl) <|
   ev_a (ok_no) <|
   ev_a (ok_if_ne X hP (by decide +kernel : decode cX7_take 38 = .ok (.ifCond .ne 17, 3)) (by decide) rfl) <|
   ev_a (ok_no) <|
   ev_a (ok_no) <|
   ev_a (ok_ald_n X hP (by decide +kernel : decode cX7_take 41 = .ok (.aload_n 0, 1)) rfl rfl) <|
   ev_a (ok_ald_n X hP (by decide +kernel : decode cX7_take 42 = .ok (.aload_n 3, 1)) rfl rfl) <|
   ev_a (ok_ild X hP (by decide +kernel : decode cX7_take 43 = .ok (.iload 5, 2)) rfl) <|
   ev_a (ok_no) <|
   ev_a (ok_invV X hP hR hd2 hcf (ci := 9) ev_y61 rfl (by decide +kernel : decode cX7_take 45 = .ok (.invokevirtual 39, 3)) ev_w437 ev_w434 ev_w435 ev_w436 ev_w72 ⟨rfl, ev_dn61⟩ (by decide) rfl) <|
   ev_a (ok_no) <|
   ev_a (ok_no) <| ev_a0) <|
  ev_b (
   ev_a (ok_ild_n X hP (by decide +kernel : decode cX7_take 48 = .ok (.iload_n 2, 1)) rfl rfl) <|
   ev_a (ok_invV X hP hR hd2 hcf (ci := 12) ev_y68 rfl (by decide +kernel : decode cX7_take 49 = .ok (.invokevirtual 54, 3)) ev_w672 ev_w669 ev_w671 ev_w20 ev_w74 ⟨rfl, ev_dn68⟩ (by decide) rfl) <|
   ev_a (ok_no) <|
   ev_a (ok_no) <|
   ev_a (ok_jmp X hP (by decide +kernel : decode cX7_take 52 = .ok (.goto 18, 3)) (by decide)) <|
   ev_a (ok_no) <|
   ev_a (ok_no) <|
   ev_a (ok_ald_n X hP (by decide +kernel : decode cX7_take 55 = .ok (.aload_n 0, 1)) rfl rfl) <|
   ev_a (ok_ild X hP (by decide +kernel : decode cX7_take 56 = .ok (.iload 5, 2)) rfl) <|
   ev_a (ok_no) <|
   ev_a (ok_ald_n X hP (by decide +kernel : decode cX7_take 58 = .ok (.aload_n 3, 1)) rfl rfl) <|
   ev_a (ok_ild X hP (by decide +kernel : decode cX7_take 59 = .ok (.iload 5, 2)) rfl) <|
   ev_a (ok_no) <|
   ev_a (ok_invV X hP hR hd2 hcf (ci := 9) ev_y61 rfl (by decide +kernel : decode cX7_take 61 = .ok (.invokevirtual 39, 3)) ev_w437 ev_w434 ev_w435 ev_w436 ev_w72 ⟨rfl, ev_dn61⟩ (by decide) rfl) <|
   ev_a (ok_no) <|
   ev_a (ok_no) <| ev_a0) <|
  ev_b (
   ev_a (ok_ild X hP (by decide +kernel : decode cX7_take 64 = .ok (.iload 6, 2)) rfl) <|
   ev_a (ok_no) <|
   ev_a (ok_ild_n X hP (by decide +kernel : decode cX7_take 66 = .ok (.iload_n 2, 1)) rfl rfl) <|
   ev_a (ok_invV X hP hR hd2 hcf (ci := 12) ev_y66 rfl (by decide +kernel : decode cX7_take 67 = .ok (.invokevirtual 58, 3)) ev_w676 ev_w673 ev_w675 ev_w21 ev_w74 ⟨rfl, ev_dn66⟩ (by decide) rfl) <|
   ev_a (ok_no) <|
   ev_a (ok_no) <|
   ev_a (ok_inc X hP (by decide +kernel : decode cX7_take 70 = .ok (.iinc 4 1, 3)) (by decide) rfl) <|
   ev_a (ok_no) <|
   ev_a (ok_no) <|
   ev_a (ok_jmp X hP (by decide +kernel : decode cX7_take 73 = .ok (.goto (-70), 3)) (by decide)) <|
   ev_a (ok_no) <|
   ev_a (ok_no) <|
   ev_a (ok_return X hP hQ hfin rfl (by decide +kernel : decode cX7_take 76 = .ok (.return_, 1))) <| ev_a0) <|
  ev_b0
set_option maxRecDepth 100000 in
theorem ev_s74 {l : Launch} {d : Nat} {cf : Nat → List Value → ev_W → Option ev_R} {p : Program} {e : Env} {R : Room} {s : State} {m : MethodId} {args : Array Value} {below : List Frame} {meth : Method} {c : Code} {Q : State → Prop} {D : va_G} {G : Nat → ClassId} {ad : Nat → Nat} {A : Nat → Prop} {z wE nE : Nat} {P : Nat → List Value → List Value → ev_W → Nat → Prop} {α : Type} {r : α} {fin : Option Value → ev_W → Nat → Option α} (X : ev_X cX8_init 1 yX8_init.cls none p s m args meth c D G ad A z) (hP : ev_PP p l e R s m args below meth c Q 1 D G ad A z wE nE P) (hR : wE - z ≤ R.cells ∧ nE ≤ R.slots) (hd2 : d + 3 ≤ R.frames ∧ 64 * (d + 3) ≤ R.locals) (hR1 : 1 ≤ R.frames) (hR2 : 21 ≤ R.locals) (hcf : ev_cf l ev_ys d cf) (hin2 : meth.name = "<init>") {Qc : Array Value → State → Outcome → State → Prop} (hQ : Q = MQ below Qc args s (wE - z) nE A) (hfin : ∀ v w n, fin v w n = some r → w.length = wE ∧ n = nE ∧ ∀ H locs, ev_H D G ad A w H → va_S A s.heap H locs → ∀ t : State, t.heap = H → s.WarmedH t.vm → Qc args s (.returned (v.map (ev_v ad))) t) : ev_all2 (ev_ok P r) 0 (ev_o74 cf fin) :=
  ev_b (
   ev_a (ok_ald_n X hP (by decide +kernel : decode cX8_init 0 = .ok (.aload_n 0, 1)) rfl rfl) <|
   ev_a (ok_obj X hP hR1 hR2 (by decide +kernel : decode cX8_init 1 = .ok (.invokespecial 3, 3)) ev_w203 ev_w115 ev_w116 rfl) <|
   ev_a (ok_no) <|
   ev_a (ok_no) <|
   ev_a (ok_ald_n X hP (by decide +kernel : decode cX8_init 4 = .ok (.aload_n 0, 1)) rfl rfl) <|
   ev_a (ok_psh_iconst X hP (by decide +kernel : decode cX8_init 5 = .ok (.iconst 3, 1)) rfl) <|
   ev_a (ok_newarray X hP hR (by decide +kernel : decode cX8_init 6 = .ok (.newarray .int, 2)) (Or.inl ⟨rfl, rfl, rfl⟩) ev_w136 rfl) <|
   ev_a (ok_no) <|
   ev_a (ok_putF X hP hin2 (ci := 13) (kf := 0) (T := TX8) tyX8 (by decide +kernel : decode cX8_init 8 = .ok (.putfield 9, 3)) rfl ev_in13 tyX8_ok nmX8 (by decide) ev_w204 (Or.inl rfl) rfl rfl rfl rfl) <|
   ev_a (ok_no) <|
   ev_a (ok_no) <|
   ev_a (ok_ald_n X hP (by decide +kernel : decode cX8_init 11 = .ok (.aload_n 0, 1)) rfl rfl) <|
   ev_a (ok_psh_iconst X hP (by decide +kernel : decode cX8_init 12 = .ok (.iconst 3, 1)) rfl) <|
   ev_a (ok_newarray X hP hR (by decide +kernel : decode cX8_init 13 = .ok (.newarray .int, 2)) (Or.inl ⟨rfl, rfl, rfl⟩) ev_w136 rfl) <|
   ev_a (ok_no) <|
   ev_a (ok_putF X hP hin2 (ci := 13) (kf := 1) (T := TX8) tyX8 (by decide +kernel : decode cX8_init 15 = .ok (.putfield 15, 3)) rfl ev_in13 tyX8_ok nmX8 (by decide) ev_w206 (Or.inl rfl) rfl rfl rfl rfl) <| ev_a0) <|
  ev_b (
   ev_a (ok_no) <|
   ev_a (ok_no) <|
   ev_a (ok_ald_n X hP (by decide +kernel : decode cX8_init 18 = .ok (.aload_n 0, 1)) rfl rfl) <|
   ev_a (ok_psh_iconst X hP (by decide +kernel : decode cX8_init 19 = .ok (.iconst 3, 1)) rfl) <|
   ev_a (ok_newarray X hP hR (by decide +kernel : decode cX8_init 20 = .ok (.newarray .int, 2)) (Or.inl ⟨rfl, rfl, rfl⟩) ev_w136 rfl) <|
   ev_a (ok_no) <|
   ev_a (ok_putF X hP hin2 (ci := 13) (kf := 2) (T := TX8) tyX8 (by decide +kernel : decode cX8_init 22 = .ok (.putfield 18, 3)) rfl ev_in13 tyX8_ok nmX8 (by decide) ev_w208 (Or.inl rfl) rfl rfl rfl rfl) <|
   ev_a (ok_no) <|
   ev_a (ok_no) <|
   ev_a (ok_return X hP hQ hfin rfl (by decide +kernel : decode cX8_init 25 = .ok (.return_, 1))) <| ev_a0) <|
  ev_b0
set_option maxRecDepth 100000 in
theorem ev_s75 {l : Launch} {d : Nat} {cf : Nat → List Value → ev_W → Option ev_R} {p : Program} {e : Env} {R : Room} {s : State} {m : MethodId} {args : Array Value} {below : List Frame} {meth : Method} {c : Code} {Q : State → Prop} {D : va_G} {G : Nat → ClassId} {ad : Nat → Nat} {A : Nat → Prop} {z wE nE : Nat} {P : Nat → List Value → List Value → ev_W → Nat → Prop} {α : Type} {r : α} {fin : Option Value → ev_W → Nat → Option α} (X : ev_X cX9_brokenHeads 4 yX9_brokenHeads.cls (some FieldType.int) p s m args meth c D G ad A z) (hP : ev_PP p l e R s m args below meth c Q 4 D G ad A z wE nE P) (hR : wE - z ≤ R.cells ∧ nE ≤ R.slots) (hd2 : d + 3 ≤ R.frames ∧ 64 * (d + 3) ≤ R.locals) (hR1 : 1 ≤ R.frames) (hR2 : 21 ≤ R.locals) (hcf : ev_cf l ev_ys d cf) {Qc : Array Value → State → Outcome → State → Prop} (hQ : Q = MQ below Qc args s (wE - z) nE A) (hfin : ∀ v w n, fin v w n = some r → w.length = wE ∧ n = nE ∧ ∀ H locs, ev_H D G ad A w H → va_S A s.heap H locs → ∀ t : State, t.heap = H → s.WarmedH t.vm → Qc args s (.returned (v.map (ev_v ad))) t) : ev_all2 (ev_ok P r) 0 (ev_o75 cf fin) :=
  ev_b (
   ev_a (ok_psh_iconst X hP (by decide +kernel : decode cX9_brokenHeads 0 = .ok (.iconst 0, 1)) rfl) <|
   ev_a (ok_ist_n X hP (by decide +kernel : decode cX9_brokenHeads 1 = .ok (.istore_n 2, 1)) rfl (by decide) rfl) <|
   ev_a (ok_psh_iconst X hP (by decide +kernel : decode cX9_brokenHeads 2 = .ok (.iconst 0, 1)) rfl) <|
   ev_a (ok_ist_n X hP (by decide +kernel : decode cX9_brokenHeads 3 = .ok (.istore_n 3, 1)) rfl (by decide) rfl) <|
   ev_a (ok_ild_n X hP (by decide +kernel : decode cX9_brokenHeads 4 = .ok (.iload_n 3, 1)) rfl rfl) <|
   ev_a (ok_psh_bipush X hP (by decide +kernel : decode cX9_brokenHeads 5 = .ok (.bipush 6, 2)) rfl) <|
   ev_a (ok_no) <|
   ev_a (ok_icmp_ge X hP (by decide +kernel : decode cX9_brokenHeads 7 = .ok (.if_icmp .ge 21, 3)) (by decide) rfl) <|
   ev_a (ok_no) <|
   ev_a (ok_no) <|
   ev_a (ok_ald_n X hP (by decide +kernel : decode cX9_brokenHeads 10 = .ok (.aload_n 0, 1)) rfl rfl) <|
   ev_a (ok_ild_n X hP (by decide +kernel : decode cX9_brokenHeads 11 = .ok (.iload_n 3, 1)) rfl rfl) <|
   ev_a (ok_ald_n X hP (by decide +kernel : decode cX9_brokenHeads 12 = .ok (.aload_n 1, 1)) rfl rfl) <|
   ev_a (ok_invV X hP hR hd2 hcf (ci := 14) ev_y78 rfl (by decide +kernel : decode cX9_brokenHeads 13 = .ok (.invokevirtual 49, 3)) ev_w691 ev_w688 ev_w690 ev_w23 ev_w75 ⟨rfl, ev_dn78⟩ (by decide) rfl) <|
   ev_a (ok_no) <|
   ev_a (ok_no) <| ev_a0) <|
  ev_b (
   ev_a (ok_if_eq X hP (by decide +kernel : decode cX9_brokenHeads 16 = .ok (.ifCond .eq 6, 3)) (by decide) rfl) <|
   ev_a (ok_no) <|
   ev_a (ok_no) <|
   ev_a (ok_inc X hP (by decide +kernel : decode cX9_brokenHeads 19 = .ok (.iinc 2 1, 3)) (by decide) rfl) <|
   ev_a (ok_no) <|
   ev_a (ok_no) <|
   ev_a (ok_inc X hP (by decide +kernel : decode cX9_brokenHeads 22 = .ok (.iinc 3 1, 3)) (by decide) rfl) <|
   ev_a (ok_no) <|
   ev_a (ok_no) <|
   ev_a (ok_jmp X hP (by decide +kernel : decode cX9_brokenHeads 25 = .ok (.goto (-21), 3)) (by decide)) <|
   ev_a (ok_no) <|
   ev_a (ok_no) <|
   ev_a (ok_ild_n X hP (by decide +kernel : decode cX9_brokenHeads 28 = .ok (.iload_n 2, 1)) rfl rfl) <|
   ev_a (ok_ireturn X hP hQ hfin rfl (by decide +kernel : decode cX9_brokenHeads 29 = .ok (.ireturn, 1))) <| ev_a0) <|
  ev_b0
set_option maxRecDepth 100000 in
theorem ev_s76 {l : Launch} {d : Nat} {cf : Nat → List Value → ev_W → Option ev_R} {p : Program} {e : Env} {R : Room} {s : State} {m : MethodId} {args : Array Value} {below : List Frame} {meth : Method} {c : Code} {Q : State → Prop} {D : va_G} {G : Nat → ClassId} {ad : Nat → Nat} {A : Nat → Prop} {z wE nE : Nat} {P : Nat → List Value → List Value → ev_W → Nat → Prop} {α : Type} {r : α} {fin : Option Value → ev_W → Nat → Option α} (X : ev_X cX9_gather 6 yX9_gather.cls none p s m args meth c D G ad A z) (hP : ev_PP p l e R s m args below meth c Q 6 D G ad A z wE nE P) (hR : wE - z ≤ R.cells ∧ nE ≤ R.slots) (hd2 : d + 3 ≤ R.frames ∧ 64 * (d + 3) ≤ R.locals) (hR1 : 1 ≤ R.frames) (hR2 : 21 ≤ R.locals) (hcf : ev_cf l ev_ys d cf) {Qc : Array Value → State → Outcome → State → Prop} (hQ : Q = MQ below Qc args s (wE - z) nE A) (hfin : ∀ v w n, fin v w n = some r → w.length = wE ∧ n = nE ∧ ∀ H locs, ev_H D G ad A w H → va_S A s.heap H locs → ∀ t : State, t.heap = H → s.WarmedH t.vm → Qc args s (.returned (v.map (ev_v ad))) t) : ev_all2 (ev_ok P r) 0 (ev_o76 cf fin) :=
  ev_b (
   ev_a (ok_ald_n X hP (by decide +kernel : decode cX9_gather 0 = .ok (.aload_n 0, 1)) rfl rfl) <|
   ev_a (ok_get X hP (ci := 14) (kf := 0) (T := TX9) (by decide +kernel : decode cX9_gather 1 = .ok (.getfield 9, 3)) rfl ev_in14 (by decide) ev_w194 (Or.inl rfl) rfl) <|
   ev_a (ok_no) <|
   ev_a (ok_no) <|
   ev_a (ok_psh_iconst X hP (by decide +kernel : decode cX9_gather 4 = .ok (.iconst 0, 1)) rfl) <|
   ev_a (ok_invSN X hP hR hd2 hcf ev_y30 (by decide +kernel : decode cX9_gather 5 = .ok (.invokestatic 15, 3)) ev_w455 ev_w453 ev_w454 ev_w71 ev_dn30 (by decide) rfl) <|
   ev_a (ok_no) <|
   ev_a (ok_no) <|
   ev_a (ok_psh_iconst X hP (by decide +kernel : decode cX9_gather 8 = .ok (.iconst 0, 1)) rfl) <|
   ev_a (ok_ist_n X hP (by decide +kernel : decode cX9_gather 9 = .ok (.istore_n 3, 1)) rfl (by decide) rfl) <|
   ev_a (ok_ild_n X hP (by decide +kernel : decode cX9_gather 10 = .ok (.iload_n 3, 1)) rfl rfl) <|
   ev_a (ok_ald_n X hP (by decide +kernel : decode cX9_gather 11 = .ok (.aload_n 1, 1)) rfl rfl) <|
   ev_a (ok_getN X hP (ci := 12) (kf := 5) (T := TX7) (by decide +kernel : decode cX9_gather 12 = .ok (.getfield 19, 3)) rfl ev_in12 (by decide) ev_w172 (Or.inl rfl) rfl) <|
   ev_a (ok_no) <|
   ev_a (ok_no) <|
   ev_a (ok_icmp_ge X hP (by decide +kernel : decode cX9_gather 15 = .ok (.if_icmp .ge 63, 3)) (by decide) rfl) <| ev_a0) <|
  ev_b (
   ev_a (ok_no) <|
   ev_a (ok_no) <|
   ev_a (ok_ald_n X hP (by decide +kernel : decode cX9_gather 18 = .ok (.aload_n 1, 1)) rfl rfl) <|
   ev_a (ok_ild_n X hP (by decide +kernel : decode cX9_gather 19 = .ok (.iload_n 3, 1)) rfl rfl) <|
   ev_a (ok_ild_n X hP (by decide +kernel : decode cX9_gather 20 = .ok (.iload_n 2, 1)) rfl rfl) <|
   ev_a (ok_invV X hP hR hd2 hcf (ci := 12) ev_y69 rfl (by decide +kernel : decode cX9_gather 21 = .ok (.invokevirtual 25, 3)) ev_w459 ev_w456 ev_w457 ev_w458 ev_w74 ⟨rfl, ev_dn69⟩ (by decide) rfl) <|
   ev_a (ok_no) <|
   ev_a (ok_no) <|
   ev_a (ok_if_eq X hP (by decide +kernel : decode cX9_gather 24 = .ok (.ifCond .eq 48, 3)) (by decide) rfl) <|
   ev_a (ok_no) <|
   ev_a (ok_no) <|
   ev_a (ok_ald_n X hP (by decide +kernel : decode cX9_gather 27 = .ok (.aload_n 1, 1)) rfl rfl) <|
   ev_a (ok_getN X hP (ci := 12) (kf := 1) (T := TX7) (by decide +kernel : decode cX9_gather 28 = .ok (.getfield 29, 3)) rfl ev_in12 (by decide) ev_w165 (Or.inl rfl) rfl) <|
   ev_a (ok_no) <|
   ev_a (ok_no) <|
   ev_a (ok_ild_n X hP (by decide +kernel : decode cX9_gather 31 = .ok (.iload_n 3, 1)) rfl rfl) <| ev_a0) <|
  ev_b (
   ev_a (ok_psh_iconst X hP (by decide +kernel : decode cX9_gather 32 = .ok (.iconst 0, 1)) rfl) <|
   ev_a (ok_invSN X hP hR hd2 hcf ev_y24 (by decide +kernel : decode cX9_gather 33 = .ok (.invokestatic 32, 3)) ev_w423 ev_w464 ev_w422 ev_w71 ev_dn24 (by decide) rfl) <|
   ev_a (ok_no) <|
   ev_a (ok_no) <|
   ev_a (ok_ist X hP (by decide +kernel : decode cX9_gather 36 = .ok (.istore 4, 2)) (by decide) rfl) <|
   ev_a (ok_no) <|
   ev_a (ok_ild X hP (by decide +kernel : decode cX9_gather 38 = .ok (.iload 4, 2)) rfl) <|
   ev_a (ok_no) <|
   ev_a (ok_psh_bipush X hP (by decide +kernel : decode cX9_gather 40 = .ok (.bipush 10, 2)) rfl) <|
   ev_a (ok_no) <|
   ev_a (ok_idiv X hP (by decide +kernel : decode cX9_gather 42 = .ok (.idiv, 1)) rfl) <|
   ev_a (ok_ist X hP (by decide +kernel : decode cX9_gather 43 = .ok (.istore 5, 2)) (by decide) rfl) <|
   ev_a (ok_no) <|
   ev_a (ok_ald_n X hP (by decide +kernel : decode cX9_gather 45 = .ok (.aload_n 0, 1)) rfl rfl) <|
   ev_a (ok_get X hP (ci := 14) (kf := 0) (T := TX9) (by decide +kernel : decode cX9_gather 46 = .ok (.getfield 9, 3)) rfl ev_in14 (by decide) ev_w194 (Or.inl rfl) rfl) <|
   ev_a (ok_no) <| ev_a0) <|
  ev_b (
   ev_a (ok_no) <|
   ev_a (ok_ild X hP (by decide +kernel : decode cX9_gather 49 = .ok (.iload 5, 2)) rfl) <|
   ev_a (ok_no) <|
   ev_a (ok_ald_n X hP (by decide +kernel : decode cX9_gather 51 = .ok (.aload_n 0, 1)) rfl rfl) <|
   ev_a (ok_get X hP (ci := 14) (kf := 0) (T := TX9) (by decide +kernel : decode cX9_gather 52 = .ok (.getfield 9, 3)) rfl ev_in14 (by decide) ev_w194 (Or.inl rfl) rfl) <|
   ev_a (ok_no) <|
   ev_a (ok_no) <|
   ev_a (ok_ild X hP (by decide +kernel : decode cX9_gather 55 = .ok (.iload 5, 2)) rfl) <|
   ev_a (ok_no) <|
   ev_a (ok_psh_iconst X hP (by decide +kernel : decode cX9_gather 57 = .ok (.iconst 0, 1)) rfl) <|
   ev_a (ok_invSN X hP hR hd2 hcf ev_y24 (by decide +kernel : decode cX9_gather 58 = .ok (.invokestatic 32, 3)) ev_w423 ev_w464 ev_w422 ev_w71 ev_dn24 (by decide) rfl) <|
   ev_a (ok_no) <|
   ev_a (ok_no) <|
   ev_a (ok_psh_iconst X hP (by decide +kernel : decode cX9_gather 61 = .ok (.iconst 1, 1)) rfl) <|
   ev_a (ok_ild X hP (by decide +kernel : decode cX9_gather 62 = .ok (.iload 4, 2)) rfl) <|
   ev_a (ok_no) <| ev_a0) <|
  ev_b (
   ev_a (ok_psh_bipush X hP (by decide +kernel : decode cX9_gather 64 = .ok (.bipush 10, 2)) rfl) <|
   ev_a (ok_no) <|
   ev_a (ok_irem X hP (by decide +kernel : decode cX9_gather 66 = .ok (.irem, 1)) rfl) <|
   ev_a (ok_ishl X hP (by decide +kernel : decode cX9_gather 67 = .ok (.ishl, 1)) rfl) <|
   ev_a (ok_ior X hP (by decide +kernel : decode cX9_gather 68 = .ok (.ior, 1)) rfl) <|
   ev_a (ok_invSN X hP hR hd2 hcf ev_y33 (by decide +kernel : decode cX9_gather 69 = .ok (.invokestatic 36, 3)) ev_w440 ev_w465 ev_w439 ev_w71 ev_dn33 (by decide) rfl) <|
   ev_a (ok_no) <|
   ev_a (ok_no) <|
   ev_a (ok_inc X hP (by decide +kernel : decode cX9_gather 72 = .ok (.iinc 3 1, 3)) (by decide) rfl) <|
   ev_a (ok_no) <|
   ev_a (ok_no) <|
   ev_a (ok_jmp X hP (by decide +kernel : decode cX9_gather 75 = .ok (.goto (-65), 3)) (by decide)) <|
   ev_a (ok_no) <|
   ev_a (ok_no) <|
   ev_a (ok_return X hP hQ hfin rfl (by decide +kernel : decode cX9_gather 78 = .ok (.return_, 1))) <| ev_a0) <|
  ev_b0
set_option maxRecDepth 100000 in
theorem ev_s77 {l : Launch} {d : Nat} {cf : Nat → List Value → ev_W → Option ev_R} {p : Program} {e : Env} {R : Room} {s : State} {m : MethodId} {args : Array Value} {below : List Frame} {meth : Method} {c : Code} {Q : State → Prop} {D : va_G} {G : Nat → ClassId} {ad : Nat → Nat} {A : Nat → Prop} {z wE nE : Nat} {P : Nat → List Value → List Value → ev_W → Nat → Prop} {α : Type} {r : α} {fin : Option Value → ev_W → Nat → Option α} (X : ev_X cX9_init 1 yX9_init.cls none p s m args meth c D G ad A z) (hP : ev_PP p l e R s m args below meth c Q 1 D G ad A z wE nE P) (hR : wE - z ≤ R.cells ∧ nE ≤ R.slots) (hd2 : d + 3 ≤ R.frames ∧ 64 * (d + 3) ≤ R.locals) (hR1 : 1 ≤ R.frames) (hR2 : 21 ≤ R.locals) (hcf : ev_cf l ev_ys d cf) (hin2 : meth.name = "<init>") {Qc : Array Value → State → Outcome → State → Prop} (hQ : Q = MQ below Qc args s (wE - z) nE A) (hfin : ∀ v w n, fin v w n = some r → w.length = wE ∧ n = nE ∧ ∀ H locs, ev_H D G ad A w H → va_S A s.heap H locs → ∀ t : State, t.heap = H → s.WarmedH t.vm → Qc args s (.returned (v.map (ev_v ad))) t) : ev_all2 (ev_ok P r) 0 (ev_o77 cf fin) :=
  ev_b (
   ev_a (ok_ald_n X hP (by decide +kernel : decode cX9_init 0 = .ok (.aload_n 0, 1)) rfl rfl) <|
   ev_a (ok_obj X hP hR1 hR2 (by decide +kernel : decode cX9_init 1 = .ok (.invokespecial 3, 3)) ev_w193 ev_w115 ev_w116 rfl) <|
   ev_a (ok_no) <|
   ev_a (ok_no) <|
   ev_a (ok_ald_n X hP (by decide +kernel : decode cX9_init 4 = .ok (.aload_n 0, 1)) rfl rfl) <|
   ev_a (ok_psh_bipush X hP (by decide +kernel : decode cX9_init 5 = .ok (.bipush 56, 2)) rfl) <|
   ev_a (ok_no) <|
   ev_a (ok_newarray X hP hR (by decide +kernel : decode cX9_init 7 = .ok (.newarray .int, 2)) (Or.inl ⟨rfl, rfl, rfl⟩) ev_w136 rfl) <|
   ev_a (ok_no) <|
   ev_a (ok_putF X hP hin2 (ci := 14) (kf := 0) (T := TX9) tyX9 (by decide +kernel : decode cX9_init 9 = .ok (.putfield 9, 3)) rfl ev_in14 tyX9_ok nmX9 (by decide) ev_w194 (Or.inl rfl) rfl rfl rfl rfl) <|
   ev_a (ok_no) <|
   ev_a (ok_no) <|
   ev_a (ok_return X hP hQ hfin rfl (by decide +kernel : decode cX9_init 12 = .ok (.return_, 1))) <| ev_a0) <|
  ev_b0
set_option maxRecDepth 100000 in
theorem ev_s78 {l : Launch} {d : Nat} {cf : Nat → List Value → ev_W → Option ev_R} {p : Program} {e : Env} {R : Room} {s : State} {m : MethodId} {args : Array Value} {below : List Frame} {meth : Method} {c : Code} {Q : State → Prop} {D : va_G} {G : Nat → ClassId} {ad : Nat → Nat} {A : Nat → Prop} {z wE nE : Nat} {P : Nat → List Value → List Value → ev_W → Nat → Prop} {α : Type} {r : α} {fin : Option Value → ev_W → Nat → Option α} (X : ev_X cX9_isBrokenFor 5 yX9_isBrokenFor.cls (some FieldType.boolean) p s m args meth c D G ad A z) (hP : ev_PP p l e R s m args below meth c Q 5 D G ad A z wE nE P) (hR : wE - z ≤ R.cells ∧ nE ≤ R.slots) (hd2 : d + 3 ≤ R.frames ∧ 64 * (d + 3) ≤ R.locals) (hR1 : 1 ≤ R.frames) (hR2 : 21 ≤ R.locals) (hcf : ev_cf l ev_ys d cf) {Qc : Array Value → State → Outcome → State → Prop} (hQ : Q = MQ below Qc args s (wE - z) nE A) (hfin : ∀ v w n, fin v w n = some r → w.length = wE ∧ n = nE ∧ ∀ H locs, ev_H D G ad A w H → va_S A s.heap H locs → ∀ t : State, t.heap = H → s.WarmedH t.vm → Qc args s (.returned (v.map (ev_v ad))) t) : ev_all2 (ev_ok P r) 0 (ev_o78 cf fin) :=
  ev_b (
   ev_a (ok_psh_iconst X hP (by decide +kernel : decode cX9_isBrokenFor 0 = .ok (.iconst 0, 1)) rfl) <|
   ev_a (ok_ist_n X hP (by decide +kernel : decode cX9_isBrokenFor 1 = .ok (.istore_n 3, 1)) rfl (by decide) rfl) <|
   ev_a (ok_ild_n X hP (by decide +kernel : decode cX9_isBrokenFor 2 = .ok (.iload_n 3, 1)) rfl rfl) <|
   ev_a (ok_psh_bipush X hP (by decide +kernel : decode cX9_isBrokenFor 3 = .ok (.bipush 6, 2)) rfl) <|
   ev_a (ok_no) <|
   ev_a (ok_icmp_ge X hP (by decide +kernel : decode cX9_isBrokenFor 5 = .ok (.if_icmp .ge 51, 3)) (by decide) rfl) <|
   ev_a (ok_no) <|
   ev_a (ok_no) <|
   ev_a (ok_ild_n X hP (by decide +kernel : decode cX9_isBrokenFor 8 = .ok (.iload_n 1, 1)) rfl rfl) <|
   ev_a (ok_psh_bipush X hP (by decide +kernel : decode cX9_isBrokenFor 9 = .ok (.bipush 10, 2)) rfl) <|
   ev_a (ok_no) <|
   ev_a (ok_imul X hP (by decide +kernel : decode cX9_isBrokenFor 11 = .ok (.imul, 1)) rfl) <|
   ev_a (ok_ald_n X hP (by decide +kernel : decode cX9_isBrokenFor 12 = .ok (.aload_n 2, 1)) rfl rfl) <|
   ev_a (ok_ild_n X hP (by decide +kernel : decode cX9_isBrokenFor 13 = .ok (.iload_n 3, 1)) rfl rfl) <|
   ev_a (ok_invV X hP hR hd2 hcf (ci := 9) ev_y60 rfl (by decide +kernel : decode cX9_isBrokenFor 14 = .ok (.invokevirtual 53, 3)) ev_w420 ev_w692 ev_w418 ev_w419 ev_w72 ⟨rfl, ev_dn60⟩ (by decide) rfl) <|
   ev_a (ok_no) <| ev_a0) <|
  ev_b (
   ev_a (ok_no) <|
   ev_a (ok_iadd X hP (by decide +kernel : decode cX9_isBrokenFor 17 = .ok (.iadd, 1)) rfl) <|
   ev_a (ok_ist X hP (by decide +kernel : decode cX9_isBrokenFor 18 = .ok (.istore 4, 2)) (by decide) rfl) <|
   ev_a (ok_no) <|
   ev_a (ok_ald_n X hP (by decide +kernel : decode cX9_isBrokenFor 20 = .ok (.aload_n 2, 1)) rfl rfl) <|
   ev_a (ok_getN X hP (ci := 9) (kf := 1) (T := TX4) (by decide +kernel : decode cX9_isBrokenFor 21 = .ok (.getfield 58, 3)) rfl ev_in9 (by decide) ev_w129 (Or.inl rfl) rfl) <|
   ev_a (ok_no) <|
   ev_a (ok_no) <|
   ev_a (ok_ild_n X hP (by decide +kernel : decode cX9_isBrokenFor 24 = .ok (.iload_n 3, 1)) rfl rfl) <|
   ev_a (ok_invSN X hP hR hd2 hcf ev_y32 (by decide +kernel : decode cX9_isBrokenFor 25 = .ok (.invokestatic 40, 3)) ev_w510 ev_w537 ev_w509 ev_w71 ev_dn32 (by decide) rfl) <|
   ev_a (ok_no) <|
   ev_a (ok_no) <|
   ev_a (ok_if_eq X hP (by decide +kernel : decode cX9_isBrokenFor 28 = .ok (.ifCond .eq 22, 3)) (by decide) rfl) <|
   ev_a (ok_no) <|
   ev_a (ok_no) <|
   ev_a (ok_ald_n X hP (by decide +kernel : decode cX9_isBrokenFor 31 = .ok (.aload_n 0, 1)) rfl rfl) <| ev_a0) <|
  ev_b (
   ev_a (ok_get X hP (ci := 14) (kf := 0) (T := TX9) (by decide +kernel : decode cX9_isBrokenFor 32 = .ok (.getfield 9, 3)) rfl ev_in14 (by decide) ev_w194 (Or.inl rfl) rfl) <|
   ev_a (ok_no) <|
   ev_a (ok_no) <|
   ev_a (ok_ild X hP (by decide +kernel : decode cX9_isBrokenFor 35 = .ok (.iload 4, 2)) rfl) <|
   ev_a (ok_no) <|
   ev_a (ok_psh_iconst X hP (by decide +kernel : decode cX9_isBrokenFor 37 = .ok (.iconst 0, 1)) rfl) <|
   ev_a (ok_invSN X hP hR hd2 hcf ev_y24 (by decide +kernel : decode cX9_isBrokenFor 38 = .ok (.invokestatic 32, 3)) ev_w423 ev_w464 ev_w422 ev_w71 ev_dn24 (by decide) rfl) <|
   ev_a (ok_no) <|
   ev_a (ok_no) <|
   ev_a (ok_no) <|
   ev_a (ok_no) <|
   ev_a (ok_no) <|
   ev_a (ok_psh_iconst X hP (by decide +kernel : decode cX9_isBrokenFor 44 = .ok (.iconst 1, 1)) rfl) <|
   ev_a (ok_icmp_le X hP (by decide +kernel : decode cX9_isBrokenFor 45 = .ok (.if_icmp .le 5, 3)) (by decide) rfl) <|
   ev_a (ok_no) <|
   ev_a (ok_no) <| ev_a0) <|
  ev_b (
   ev_a (ok_psh_iconst X hP (by decide +kernel : decode cX9_isBrokenFor 48 = .ok (.iconst 1, 1)) rfl) <|
   ev_a (ok_zreturn X hP hQ hfin rfl (by decide +kernel : decode cX9_isBrokenFor 49 = .ok (.ireturn, 1))) <|
   ev_a (ok_inc X hP (by decide +kernel : decode cX9_isBrokenFor 50 = .ok (.iinc 3 1, 3)) (by decide) rfl) <|
   ev_a (ok_no) <|
   ev_a (ok_no) <|
   ev_a (ok_jmp X hP (by decide +kernel : decode cX9_isBrokenFor 53 = .ok (.goto (-51), 3)) (by decide)) <|
   ev_a (ok_no) <|
   ev_a (ok_no) <|
   ev_a (ok_psh_iconst X hP (by decide +kernel : decode cX9_isBrokenFor 56 = .ok (.iconst 0, 1)) rfl) <|
   ev_a (ok_zreturn X hP hQ hfin rfl (by decide +kernel : decode cX9_isBrokenFor 57 = .ok (.ireturn, 1))) <| ev_a0) <|
  ev_b0
