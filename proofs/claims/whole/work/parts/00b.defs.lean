/-- PassChain.byteOf(II)I -/
def z_PC_byteOf (N : Nat) (x0 : Int) (x1 : Int) (A : zA) : Option Int := some (zan (zuh x0 (8 * x1)) 255)
/-- PassChain$Parser.append(C)V -/
def z_Pa_append (N : Nat) (x1 : Int) (A : zA) : Option zA := (if (zi A 5 1) < 120 then zwc A 6 120 (zi A 5 1) x1 fun A2 => zlet (zsi A2 5 1 ((zi A2 5 1) + 1)) fun A3 => some A3 else some A)
/-- PassChain.put(II)Z -/
def z_PC_put_66_b (r66 : Int → Int → zA → Option (Int × zA)) (N : Nat) (x1 : Int) (x3 : Int) (A : zA) : Option (Int × zA) := (if x3 < 0 then some (1, A) else zbP (z_PC_byteOf N x1 x3 A) fun v2 => zbV (z_Pa_append N (zch v2) A) fun A3 => r66 x1 (zw (x3 + (-1))) A3)
def z_PC_put_66_l (N : Nat) : Nat → Int → Int → zA → Option (Int × zA)
  | 0 => fun _ _ _ => none
  | n + 1 => fun x1 x3 A => z_PC_put_66_b (z_PC_put_66_l N n) N x1 x3 A
def z_PC_put_66 (N : Nat) (x1 : Int) (x3 : Int) (A : zA) : Option (Int × zA) := z_PC_put_66_l N N x1 x3 A
def z_PC_put_28_b (r28 : Int → Int → Int → zA → Option (Int × zA)) (N : Nat) (x1 : Int) (x2 : Int) (x3 : Int) (A : zA) : Option (Int × zA) := (if x3 < x2 then zbP (z_PC_byteOf N x1 x3 A) fun v2 => (if v2 < 32 then some (0, A) else (if 126 < v2 then some (0, A) else r28 x1 x2 (zw (x3 + 1)) A)) else z_PC_put_66 N x1 (zw (x2 - 1)) A)
def z_PC_put_28_l (N : Nat) : Nat → Int → Int → Int → zA → Option (Int × zA)
  | 0 => fun _ _ _ _ => none
  | n + 1 => fun x1 x2 x3 A => z_PC_put_28_b (z_PC_put_28_l N n) N x1 x2 x3 A
def z_PC_put_28 (N : Nat) (x1 : Int) (x2 : Int) (x3 : Int) (A : zA) : Option (Int × zA) := z_PC_put_28_l N N x1 x2 x3 A
def z_PC_put (N : Nat) (x1 : Int) (x2 : Int) (A : zA) : Option (Int × zA) := (if x2 < 1 then some (0, A) else (if 4 < x2 then some (0, A) else (if 120 < (zw ((zi A 5 1) + x2)) then some (0, A) else z_PC_put_28 N x1 x2 0 A)))
/-- PassChainModel.put(II)Z -/
def z_M_put_73_b (r73 : Int → Int → zA → Option (Int × zA)) (N : Nat) (x1 : Int) (x3 : Int) (A : zA) : Option (Int × zA) := (if x3 < 0 then some (1, A) else zwr A 227 128 (zi A 226 1) (zan (zhr x1 (8 * x3)) 255) fun A2 => zlet (zsi A2 226 1 ((zi A2 226 1) + 1)) fun A3 => r73 x1 (zw (x3 + (-1))) A3)
def z_M_put_73_l (N : Nat) : Nat → Int → Int → zA → Option (Int × zA)
  | 0 => fun _ _ _ => none
  | n + 1 => fun x1 x3 A => z_M_put_73_b (z_M_put_73_l N n) N x1 x3 A
def z_M_put_73 (N : Nat) (x1 : Int) (x3 : Int) (A : zA) : Option (Int × zA) := z_M_put_73_l N N x1 x3 A
def z_M_put_30_b (r30 : Int → Int → Int → zA → Option (Int × zA)) (N : Nat) (x1 : Int) (x2 : Int) (x3 : Int) (A : zA) : Option (Int × zA) := (if x3 < x2 then (if (zan (zhr x1 (8 * x3)) 255) < 32 then some (0, A) else (if 126 < (zan (zhr x1 (8 * x3)) 255) then some (0, A) else r30 x1 x2 (zw (x3 + 1)) A)) else z_M_put_73 N x1 (zw (x2 - 1)) A)
def z_M_put_30_l (N : Nat) : Nat → Int → Int → Int → zA → Option (Int × zA)
  | 0 => fun _ _ _ _ => none
  | n + 1 => fun x1 x2 x3 A => z_M_put_30_b (z_M_put_30_l N n) N x1 x2 x3 A
def z_M_put_30 (N : Nat) (x1 : Int) (x2 : Int) (x3 : Int) (A : zA) : Option (Int × zA) := z_M_put_30_l N N x1 x2 x3 A
def z_M_put (N : Nat) (x1 : Int) (x2 : Int) (A : zA) : Option (Int × zA) := zlet (zsi A 226 0 0) fun A1 => (if x2 < 1 then some (0, A1) else (if 4 < x2 then some (0, A1) else (if 120 < (zw ((zi A1 226 1) + x2)) then some (0, A1) else z_M_put_30 N x1 x2 0 A1)))
/-- PassChain$Part.clear(I)V -/
def z_Pt_clear (N : Nat) (x0 : Nat) (x1 : Int) (A : zA) : Option zA := zlet (zsi A x0 2 0) fun A1 => zlet (zsi A1 x0 3 x1) fun A2 => some A2
/-- PassChain$Rows.clear()V -/
def z_Ro_clear_7_b (r7 : Nat → Int → zA → Option zA) (N : Nat) (x0 : Nat) (x1 : Int) (A : zA) : Option zA := (if x1 < 4 then zgf x0 0 fun p2 => zfe p2 x1 fun p3 => zcs p3 (false, 3, 4) <| zbV (z_Pt_clear N p3 7 A) fun A4 => r7 x0 (zw (x1 + 1)) A4 else some A)
def z_Ro_clear_7_l (N : Nat) : Nat → Nat → Int → zA → Option zA
  | 0 => fun _ _ _ => none
  | n + 1 => fun x0 x1 A => z_Ro_clear_7_b (z_Ro_clear_7_l N n) N x0 x1 A
def z_Ro_clear_7 (N : Nat) (x0 : Nat) (x1 : Int) (A : zA) : Option zA := z_Ro_clear_7_l N N x0 x1 A
def z_Ro_clear (N : Nat) (x0 : Nat) (A : zA) : Option zA := zlet (zsi A x0 1 0) fun A1 => z_Ro_clear_7 N x0 0 A1
/-- PassChain$Parser.peek()C -/
def z_Pa_peek (N : Nat) (A : zA) : Option Int := (if (zi A 5 2) < (zi A 5 1) then zrd A 6 120 (zi A 5 2) fun v2 => (if 0 ≤ v2 ∧ v2 ≤ 65535 then some v2 else none) else some 0)
/-- PassChain$Parser.beginsProcedure(I)Z -/
def z_Pa_beginsProcedure (N : Nat) (x1 : Int) (A : zA) : Option Int := (if (zi A 5 3) = 0 then zbP (z_Pa_peek N A) fun v2 => (if v2 = (zw (80 + x1)) then (if (zw ((zi A 5 2) + 1)) < (zi A 5 1) then zrd A 6 120 ((zi A 5 2) + 1) fun v5 => (if v5 = 123 then some 1 else some 0) else some 0) else some 0) else some 0)
/-- PassChain$Parser.expect(C)V -/
def z_Pa_expect (N : Nat) (x1 : Int) (A : zA) : Option zA := zbP (z_Pa_peek N A) fun v1 => (if v1 = x1 then zlet (zsi A 5 2 ((zi A 5 2) + 1)) fun A3 => some A3 else zlet (zsi A 5 3 1) fun A4 => some A4)
/-- PassChain$Parser.fresh(LPassChain$Part;)I -/
def z_Pa_fresh (N : Nat) (x1 : Nat) (A : zA) : Option (Int × zA) := zlet (zsi A x1 3 ((zi A x1 3) + 1)) fun A1 => some ((zi A x1 3), A1)
/-- java/util/Arrays.copyOf([II)[I -/
def z_Ar_copyOf (N : Nat) (x0 : Nat) (x1 : Int) (A : zA) : Option (Nat × zA) := zln A x0 fun v1 => (if x1 = v1 then none else zna A 0 x1 fun p3 A4 => zln A4 x0 fun v5 => zcy A4 x0 0 p3 0 (zmn v5 x1) fun A6 => some (p3, A6))
/-- PassChain$Part.makeRoom(I)V -/
def z_Pt_makeRoom (N : Nat) (x0 : Nat) (x1 : Int) (A : zA) : Option zA := zgr A x0 1 fun p1 => zln A p1 fun v2 => (if v2 < x1 then zgr A x0 1 fun p4 => zln A p4 fun v5 => zgr A x0 0 fun p6 => zbR (z_Ar_copyOf N p6 (zw ((zmx x1 (zw (2 * v5))) * 5)) A) fun p7 A8 => zlet (zsr A8 x0 0 (some p7)) fun A9 => zgr A9 x0 1 fun p10 => zbR (z_Ar_copyOf N p10 (zmx x1 (zw (2 * v5))) A9) fun p11 A12 => zlet (zsr A12 x0 1 (some p11)) fun A13 => some A13 else some A)
/-- PassChain$Part.add(III)V -/
def z_Pt_add (N : Nat) (x0 : Nat) (x1 : Int) (x2 : Int) (x3 : Int) (A : zA) : Option zA := (if (zi A x0 2) < 240 then zbV (z_Pt_makeRoom N x0 (zw ((zi A x0 2) + 1)) A) fun A2 => zgr A2 x0 0 fun p3 => zwD A2 p3 (zw ((zi A2 x0 2) * 5)) x1 fun A4 => zgr A4 x0 0 fun p5 => zwD A4 p5 ((zw ((zi A2 x0 2) * 5)) + 1) x2 fun A6 => zgr A6 x0 0 fun p7 => zwD A6 p7 ((zw ((zi A2 x0 2) * 5)) + 2) x3 fun A8 => zgr A8 x0 0 fun p9 => zwD A8 p9 ((zw ((zi A2 x0 2) * 5)) + 3) 0 fun A10 => zgr A10 x0 0 fun p11 => zwD A10 p11 ((zw ((zi A2 x0 2) * 5)) + 4) 0 fun A12 => zlet (zsi A12 x0 2 ((zi A12 x0 2) + 1)) fun A13 => some A13 else some A)
/-- PassChain$Part.setNumber(III)V -/
def z_Pt_setNumber (N : Nat) (x0 : Nat) (x1 : Int) (x2 : Int) (x3 : Int) (A : zA) : Option zA := (if x1 < 0 then some A else (if x1 < (zi A x0 2) then (if x2 < 0 then some A else (if x2 < 4 then zgr A x0 0 fun p5 => zwD A p5 (((x1 * 5) + 1) + x2) x3 fun A6 => some A6 else some A)) else some A))
/-- PassChain$Parser.work(LPassChain$Part;III)I -/
def z_Pa_work (N : Nat) (x1 : Nat) (x2 : Int) (x3 : Int) (x4 : Int) (A : zA) : Option (Int × zA) := zbI (z_Pa_fresh N x1 A) fun v1 A2 => zbV (z_Pt_add N x1 2 v1 x2 A2) fun A3 => zbV (z_Pt_setNumber N x1 (zw ((zi A3 x1 2) - 1)) 2 x3 A3) fun A4 => zbV (z_Pt_setNumber N x1 (zw ((zi A4 x1 2) - 1)) 3 x4 A4) fun A5 => some (v1, A5)
/-- PassChain$Parser.constant(LPassChain$Part;I)I -/
def z_Pa_constant (N : Nat) (x1 : Nat) (x2 : Int) (A : zA) : Option (Int × zA) := zbI (z_Pa_fresh N x1 A) fun v1 A2 => zbV (z_Pt_add N x1 0 v1 x2 A2) fun A3 => some (v1, A3)
/-- PassChain$Parser.digits()I -/
def z_Pa_digits_4_b (r4 : Int → Int → zA → Option (Int × zA)) (N : Nat) (x1 : Int) (x2 : Int) (A : zA) : Option (Int × zA) := (if x2 < 5 then zbP (z_Pa_peek N A) fun v2 => (if v2 < 48 then some (x1, A) else zbP (z_Pa_peek N A) fun v4 => (if 57 < v4 then some (x1, A) else zbP (z_Pa_peek N A) fun v6 => zlet (zsi A 5 2 ((zi A 5 2) + 1)) fun A7 => r4 (zw ((10 * x1) + (v6 - 48))) (zw (x2 + 1)) A7)) else some (x1, A))
def z_Pa_digits_4_l (N : Nat) : Nat → Int → Int → zA → Option (Int × zA)
  | 0 => fun _ _ _ => none
  | n + 1 => fun x1 x2 A => z_Pa_digits_4_b (z_Pa_digits_4_l N n) N x1 x2 A
def z_Pa_digits_4 (N : Nat) (x1 : Int) (x2 : Int) (A : zA) : Option (Int × zA) := z_Pa_digits_4_l N N x1 x2 A
def z_Pa_digits (N : Nat) (A : zA) : Option (Int × zA) := z_Pa_digits_4 N 0 0 A
/-- PassChain$Parser.isVariable(C)Z -/
def z_Pa_isVariable (N : Nat) (x0 : Int) (A : zA) : Option Int := (if x0 < 97 then some 0 else (if 102 < x0 then some 0 else some 1))
/-- PassChain$Parser.product(LPassChain$Part;I)I -/
def z_Pa_product_56 (rec : Nat → Int → zA → Option (Int × zA)) (r10 : Nat → Int → Int → Int → zA → Option (Int × zA)) (N : Nat) (x1 : Nat) (x2 : Int) (x3 : Int) (x4 : Int) (s0 : Int) (A : zA) : Option (Int × zA) := zlet (zsi A 5 2 ((zi A 5 2) + 1)) fun A1 => zbI (rec x1 x2 A1) fun v2 A3 => zbI (z_Pa_work N x1 x3 v2 s0 A3) fun v4 A5 => r10 x1 x2 v4 (zw (x4 + 1)) A5
def z_Pa_product_42 (rec : Nat → Int → zA → Option (Int × zA)) (r10 : Nat → Int → Int → Int → zA → Option (Int × zA)) (N : Nat) (x1 : Nat) (x2 : Int) (x3 : Int) (x4 : Int) (A : zA) : Option (Int × zA) := zbP (z_Pa_peek N A) fun v1 => (if v1 = 42 then z_Pa_product_56 rec r10 N x1 x2 x3 x4 2 A else z_Pa_product_56 rec r10 N x1 x2 x3 x4 3 A)
def z_Pa_product_10_b (rec : Nat → Int → zA → Option (Int × zA)) (r10 : Nat → Int → Int → Int → zA → Option (Int × zA)) (N : Nat) (x1 : Nat) (x2 : Int) (x3 : Int) (x4 : Int) (A : zA) : Option (Int × zA) := (if x4 < 120 then (if (zi A 5 3) = 0 then zbP (z_Pa_peek N A) fun v3 => (if v3 = 42 then z_Pa_product_42 rec r10 N x1 x2 x3 x4 A else zbP (z_Pa_peek N A) fun v5 => (if v5 = 47 then z_Pa_product_42 rec r10 N x1 x2 x3 x4 A else some (x3, A))) else some (x3, A)) else some (x3, A))
def z_Pa_product_10_l (rec : Nat → Int → zA → Option (Int × zA)) (N : Nat) : Nat → Nat → Int → Int → Int → zA → Option (Int × zA)
  | 0 => fun _ _ _ _ _ => none
  | n + 1 => fun x1 x2 x3 x4 A => z_Pa_product_10_b rec (z_Pa_product_10_l rec N n) N x1 x2 x3 x4 A
def z_Pa_product_10 (rec : Nat → Int → zA → Option (Int × zA)) (N : Nat) (x1 : Nat) (x2 : Int) (x3 : Int) (x4 : Int) (A : zA) : Option (Int × zA) := z_Pa_product_10_l rec N N x1 x2 x3 x4 A
def z_Pa_product (rec : Nat → Int → zA → Option (Int × zA)) (N : Nat) (x1 : Nat) (x2 : Int) (A : zA) : Option (Int × zA) := zbI (rec x1 x2 A) fun v1 A2 => z_Pa_product_10 rec N x1 x2 v1 0 A2
/-- PassChain$Parser.sum(LPassChain$Part;I)I -/
def z_Pa_sum_56 (rec : Nat → Int → zA → Option (Int × zA)) (r10 : Nat → Int → Int → Int → zA → Option (Int × zA)) (N : Nat) (x1 : Nat) (x2 : Int) (x3 : Int) (x4 : Int) (s0 : Int) (A : zA) : Option (Int × zA) := zlet (zsi A 5 2 ((zi A 5 2) + 1)) fun A1 => zbI (z_Pa_product rec N x1 x2 A1) fun v2 A3 => zbI (z_Pa_work N x1 x3 v2 s0 A3) fun v4 A5 => r10 x1 x2 v4 (zw (x4 + 1)) A5
def z_Pa_sum_42 (rec : Nat → Int → zA → Option (Int × zA)) (r10 : Nat → Int → Int → Int → zA → Option (Int × zA)) (N : Nat) (x1 : Nat) (x2 : Int) (x3 : Int) (x4 : Int) (A : zA) : Option (Int × zA) := zbP (z_Pa_peek N A) fun v1 => (if v1 = 43 then z_Pa_sum_56 rec r10 N x1 x2 x3 x4 0 A else z_Pa_sum_56 rec r10 N x1 x2 x3 x4 1 A)
def z_Pa_sum_10_b (rec : Nat → Int → zA → Option (Int × zA)) (r10 : Nat → Int → Int → Int → zA → Option (Int × zA)) (N : Nat) (x1 : Nat) (x2 : Int) (x3 : Int) (x4 : Int) (A : zA) : Option (Int × zA) := (if x4 < 120 then (if (zi A 5 3) = 0 then zbP (z_Pa_peek N A) fun v3 => (if v3 = 43 then z_Pa_sum_42 rec r10 N x1 x2 x3 x4 A else zbP (z_Pa_peek N A) fun v5 => (if v5 = 45 then z_Pa_sum_42 rec r10 N x1 x2 x3 x4 A else some (x3, A))) else some (x3, A)) else some (x3, A))
def z_Pa_sum_10_l (rec : Nat → Int → zA → Option (Int × zA)) (N : Nat) : Nat → Nat → Int → Int → Int → zA → Option (Int × zA)
  | 0 => fun _ _ _ _ _ => none
  | n + 1 => fun x1 x2 x3 x4 A => z_Pa_sum_10_b rec (z_Pa_sum_10_l rec N n) N x1 x2 x3 x4 A
def z_Pa_sum_10 (rec : Nat → Int → zA → Option (Int × zA)) (N : Nat) (x1 : Nat) (x2 : Int) (x3 : Int) (x4 : Int) (A : zA) : Option (Int × zA) := z_Pa_sum_10_l rec N N x1 x2 x3 x4 A
def z_Pa_sum (rec : Nat → Int → zA → Option (Int × zA)) (N : Nat) (x1 : Nat) (x2 : Int) (A : zA) : Option (Int × zA) := zbI (z_Pa_product rec N x1 x2 A) fun v1 A2 => z_Pa_sum_10 rec N x1 x2 v1 0 A2
/-- PassChain$Parser.expression(LPassChain$Part;I)I -/
def z_Pa_expression_67 (rec : Nat → Int → zA → Option (Int × zA)) (N : Nat) (s1 : Nat) (s2 : Int) (s3 : Int) (s4 : Int) (A : zA) : Option (Int × zA) := zbI (z_Pa_work N s1 s2 s3 s4 A) fun v1 A2 => some (v1, A2)
def z_Pa_expression_36 (rec : Nat → Int → zA → Option (Int × zA)) (N : Nat) (x1 : Nat) (x2 : Int) (x3 : Int) (x4 : Int) (A : zA) : Option (Int × zA) := zlet (zsi A 5 2 ((zi A 5 2) + 1)) fun A1 => zbI (z_Pa_sum rec N x1 x2 A1) fun v2 A3 => (if x4 = 60 then z_Pa_expression_67 rec N x1 x3 v2 4 A3 else z_Pa_expression_67 rec N x1 x3 v2 5 A3)
def z_Pa_expression (rec : Nat → Int → zA → Option (Int × zA)) (N : Nat) (x1 : Nat) (x2 : Int) (A : zA) : Option (Int × zA) := zbI (z_Pa_sum rec N x1 x2 A) fun v1 A2 => zbP (z_Pa_peek N A2) fun v3 => (if (zi A2 5 3) = 0 then (if v3 = 60 then z_Pa_expression_36 rec N x1 x2 v1 v3 A2 else (if v3 = 61 then z_Pa_expression_36 rec N x1 x2 v1 v3 A2 else some (v1, A2))) else some (v1, A2))
/-- PassChain$Parser.nested(LPassChain$Part;CI)I -/
def z_Pa_nested (rec : Nat → Int → zA → Option (Int × zA)) (N : Nat) (x1 : Nat) (x2 : Int) (x3 : Int) (A : zA) : Option (Int × zA) := (if x2 = 40 then zbI (z_Pa_expression rec N x1 x3 A) fun v1 A2 => zbV (z_Pa_expect N 41 A2) fun A3 => some (v1, A3) else (if x2 = 45 then zbI (z_Pa_constant N x1 0 A) fun v5 A6 => zbI (rec x1 x3 A6) fun v7 A8 => zbI (z_Pa_work N x1 v5 v7 1 A8) fun v9 A10 => some (v9, A10) else (if x2 = 65 then zbV (z_Pa_expect N 91 A) fun A12 => zbI (z_Pa_expression rec N x1 x3 A12) fun v13 A14 => zbV (z_Pa_expect N 93 A14) fun A15 => zbI (z_Pa_fresh N x1 A15) fun v16 A17 => zbV (z_Pt_add N x1 3 v16 v13 A17) fun A18 => some (v16, A18) else zlet (zsi A 5 3 1) fun A20 => some (0, A20))))
/-- PassChain$Parser.factor(LPassChain$Part;I)I -/
def z_Pa_factorR_65 (rec : Nat → Int → zA → Option (Int × zA)) (N : Nat) (x1 : Nat) (x2 : Int) (x3 : Int) (A : zA) : Option (Int × zA) := (if (zi A 5 3) = 0 then (if x2 < 5 then zbI (z_Pa_nested rec N x1 x3 (zw (x2 + 1)) A) fun v3 A4 => some (v3, A4) else zlet (zsi A 5 3 1) fun A5 => some (0, A5)) else zlet (zsi A 5 3 1) fun A6 => some (0, A6))
def z_Pa_factorR_27 (rec : Nat → Int → zA → Option (Int × zA)) (N : Nat) (x1 : Nat) (x2 : Int) (x3 : Int) (A : zA) : Option (Int × zA) := zlet (zsi A 5 2 ((zi A 5 2) + 1)) fun A1 => zbP (z_Pa_isVariable N x3 A1) fun v2 => (if v2 = 0 then (if x3 = 120 then (if (zi A1 5 4) = 0 then some (6, A1) else z_Pa_factorR_65 rec N x1 x2 x3 A1) else z_Pa_factorR_65 rec N x1 x2 x3 A1) else some ((zw (x3 - 97)), A1))
def z_Pa_factorR (rec : Nat → Int → zA → Option (Int × zA)) (N : Nat) (x1 : Nat) (x2 : Int) (A : zA) : Option (Int × zA) := zbP (z_Pa_peek N A) fun v1 => (if v1 < 48 then z_Pa_factorR_27 rec N x1 x2 v1 A else (if 57 < v1 then z_Pa_factorR_27 rec N x1 x2 v1 A else zbI (z_Pa_digits N A) fun v4 A5 => zbI (z_Pa_constant N x1 v4 A5) fun v6 A7 => some (v6, A7)))
def z_Pa_factor_l (N : Nat) : Nat → Nat → Int → zA → Option (Int × zA)
  | 0 => fun _ _ _ => none
  | M + 1 => fun x1 x2 A => z_Pa_factorR (z_Pa_factor_l N M) N x1 x2 A
def z_Pa_factor (N : Nat) (x1 : Nat) (x2 : Int) (A : zA) : Option (Int × zA) := z_Pa_factor_l N 8 x1 x2 A
/-- PassChain$Parser.store(LPassChain$Part;)V -/
def z_Pa_store (N : Nat) (x1 : Nat) (A : zA) : Option zA := zbV (z_Pa_expect N 91 A) fun A1 => zbI (z_Pa_expression (z_Pa_factor N) N x1 0 A1) fun v2 A3 => zbV (z_Pa_expect N 93 A3) fun A4 => zbV (z_Pa_expect N 61 A4) fun A5 => zbI (z_Pa_expression (z_Pa_factor N) N x1 0 A5) fun v6 A7 => zbV (z_Pa_expect N 59 A7) fun A8 => zbV (z_Pt_add N x1 4 v2 v6 A8) fun A9 => some A9
/-- PassChain$Parser.variable()I -/
def z_Pa_variable (N : Nat) (A : zA) : Option (Int × zA) := zbP (z_Pa_peek N A) fun v1 => zbV (z_Pa_expect N v1 A) fun A2 => zbP (z_Pa_isVariable N v1 A2) fun v3 => (if v3 = 0 then zlet (zsi A2 5 3 1) fun A5 => some ((zw (v1 - 97)), A5) else some ((zw (v1 - 97)), A2))
/-- PassChain$Parser.call(LPassChain$Part;I)V -/
def z_Pa_call_13 (N : Nat) (x1 : Nat) (x2 : Int) (A : zA) : Option zA := zbV (z_Pa_expect N 40 A) fun A1 => zbI (z_Pa_expression (z_Pa_factor N) N x1 0 A1) fun v2 A3 => zbV (z_Pa_expect N 41 A3) fun A4 => zbV (z_Pa_expect N 59 A4) fun A5 => zbV (z_Pt_add N x1 7 v2 x2 A5) fun A6 => some A6
def z_Pa_call (N : Nat) (x1 : Nat) (x2 : Int) (A : zA) : Option zA := (if x2 < (zi A 5 5) then z_Pa_call_13 N x1 x2 A else zlet (zsi A 5 3 1) fun A2 => z_Pa_call_13 N x1 x2 A2)
/-- PassChain$Parser.assignment(LPassChain$Part;C)V -/
def z_Pa_assignment_12 (N : Nat) (x1 : Nat) (x2 : Int) (A : zA) : Option zA := zbV (z_Pa_expect N 61 A) fun A1 => zbI (z_Pa_expression (z_Pa_factor N) N x1 0 A1) fun v2 A3 => zbV (z_Pt_add N x1 1 (zw (x2 - 97)) v2 A3) fun A4 => zbV (z_Pa_expect N 59 A4) fun A5 => some A5
def z_Pa_assignment (N : Nat) (x1 : Nat) (x2 : Int) (A : zA) : Option zA := zbP (z_Pa_isVariable N x2 A) fun v1 => (if v1 = 0 then zlet (zsi A 5 3 1) fun A3 => z_Pa_assignment_12 N x1 x2 A3 else z_Pa_assignment_12 N x1 x2 A)
/-- PassChain$Parser.statements(LPassChain$Part;I)V -/
def z_Pa_statements_2_b (rec : Nat → Int → zA → Option zA) (r2 : Nat → Int → Int → zA → Option zA) (N : Nat) (x1 : Nat) (x2 : Int) (x3 : Int) (A : zA) : Option zA := (if x3 < 120 then (if (zi A 5 3) = 0 then (if (zi A 5 2) < (zi A 5 1) then zbP (z_Pa_peek N A) fun v4 => (if v4 = 125 then some A else zbV (rec x1 x2 A) fun A6 => r2 x1 x2 (zw (x3 + 1)) A6) else some A) else some A) else some A)
def z_Pa_statements_2_l (rec : Nat → Int → zA → Option zA) (N : Nat) : Nat → Nat → Int → Int → zA → Option zA
  | 0 => fun _ _ _ _ => none
  | n + 1 => fun x1 x2 x3 A => z_Pa_statements_2_b rec (z_Pa_statements_2_l rec N n) N x1 x2 x3 A
def z_Pa_statements_2 (rec : Nat → Int → zA → Option zA) (N : Nat) (x1 : Nat) (x2 : Int) (x3 : Int) (A : zA) : Option zA := z_Pa_statements_2_l rec N N x1 x2 x3 A
def z_Pa_statements (rec : Nat → Int → zA → Option zA) (N : Nat) (x1 : Nat) (x2 : Int) (A : zA) : Option zA := z_Pa_statements_2 rec N x1 x2 0 A
/-- PassChain$Parser.block(LPassChain$Part;I)V -/
def z_Pa_block (rec : Nat → Int → zA → Option zA) (N : Nat) (x1 : Nat) (x2 : Int) (A : zA) : Option zA := (if 5 < x2 then zlet (zsi A 5 3 1) fun A2 => some A2 else zbV (z_Pa_expect N 123 A) fun A3 => zbV (z_Pa_statements rec N x1 x2 A3) fun A4 => zbV (z_Pa_expect N 125 A4) fun A5 => some A5)
/-- PassChain$Parser.choice(LPassChain$Part;I)V -/
def z_Pa_choice (rec : Nat → Int → zA → Option zA) (N : Nat) (x1 : Nat) (x2 : Int) (A : zA) : Option zA := zbI (z_Pa_expression (z_Pa_factor N) N x1 0 A) fun v1 A2 => zbV (z_Pt_add N x1 8 v1 0 A2) fun A3 => zbV (z_Pa_block rec N x1 (zw (x2 + 1)) A3) fun A4 => zbV (z_Pt_add N x1 9 0 0 A4) fun A5 => zbV (z_Pa_block rec N x1 (zw (x2 + 1)) A5) fun A6 => zbV (z_Pt_add N x1 12 0 0 A6) fun A7 => some A7
/-- PassChain$Parser.loop(LPassChain$Part;I)V -/
def z_Pa_loop (rec : Nat → Int → zA → Option zA) (N : Nat) (x1 : Nat) (x2 : Int) (A : zA) : Option zA := zbV (z_Pt_add N x1 10 0 0 A) fun A1 => zbI (z_Pa_expression (z_Pa_factor N) N x1 0 A1) fun v2 A3 => zbV (z_Pt_add N x1 11 v2 0 A3) fun A4 => zbV (z_Pa_block rec N x1 (zw (x2 + 1)) A4) fun A5 => zbV (z_Pt_add N x1 12 0 0 A5) fun A6 => some A6
/-- PassChain$Parser.statement(LPassChain$Part;I)V -/
def z_Pa_statementR (rec : Nat → Int → zA → Option zA) (N : Nat) (x1 : Nat) (x2 : Int) (A : zA) : Option zA := zbP (z_Pa_peek N A) fun v1 => zlet (zsi A 5 2 ((zi A 5 2) + 1)) fun A2 => (if v1 = 33 then zbI (z_Pa_expression (z_Pa_factor N) N x1 0 A2) fun v3 A4 => zbV (z_Pt_add N x1 6 v3 0 A4) fun A5 => zbV (z_Pa_expect N 59 A5) fun A6 => some A6 else (if v1 = 63 then zbI (z_Pa_variable N A2) fun v8 A9 => zbV (z_Pt_add N x1 5 v8 0 A9) fun A10 => zbV (z_Pa_expect N 59 A10) fun A11 => some A11 else (if v1 = 65 then zbV (z_Pa_store N x1 A2) fun A13 => some A13 else (if v1 = 73 then zbV (z_Pa_choice rec N x1 x2 A2) fun A15 => some A15 else (if v1 = 80 then zbV (z_Pa_call N x1 (zw (v1 - 80)) A2) fun A17 => some A17 else (if v1 = 81 then zbV (z_Pa_call N x1 (zw (v1 - 80)) A2) fun A19 => some A19 else (if v1 = 82 then zbV (z_Pa_call N x1 (zw (v1 - 80)) A2) fun A21 => some A21 else (if v1 = 87 then zbV (z_Pa_loop rec N x1 x2 A2) fun A23 => some A23 else zbV (z_Pa_assignment N x1 v1 A2) fun A25 => some A25))))))))
def z_Pa_statement_l (N : Nat) : Nat → Nat → Int → zA → Option zA
  | 0 => fun _ _ _ => none
  | M + 1 => fun x1 x2 A => z_Pa_statementR (z_Pa_statement_l N M) N x1 x2 A
def z_Pa_statement (N : Nat) (x1 : Nat) (x2 : Int) (A : zA) : Option zA := z_Pa_statement_l N 8 x1 x2 A
/-- PassChain$Part.kind(I)I -/
def z_Pt_kind (N : Nat) (x0 : Nat) (x1 : Int) (A : zA) : Option Int := (if x1 < 0 then some 12 else (if x1 < (zi A x0 2) then zgr A x0 0 fun p3 => zrD A p3 (x1 * 5) fun v4 => some v4 else some 12))
/-- PassChain$Part.has(I)Z -/
def z_Pt_has (N : Nat) (x0 : Nat) (x1 : Int) (A : zA) : Option Int := (if x1 < 0 then some 0 else (if x1 < (zi A x0 2) then some 1 else some 0))
/-- PassChain$Part.link()V -/
def z_Pt_link_30 (r4 : Nat → Int → Int → zA → Option zA) (N : Nat) (x0 : Nat) (x1 : Int) (x2 : Int) (A : zA) : Option zA := zgr A x0 1 fun p1 => zwD A p1 x2 x1 fun A2 => r4 x0 x2 (zw (x2 + 1)) A2
def z_Pt_link_62 (r4 : Nat → Int → Int → zA → Option zA) (N : Nat) (x0 : Nat) (x1 : Int) (x2 : Int) (A : zA) : Option zA := zgr A x0 1 fun p1 => zgr A x0 1 fun p2 => zrD A p2 x1 fun v3 => zwD A p1 x2 v3 fun A4 => zgr A4 x0 1 fun p5 => zwD A4 p5 x1 x2 fun A6 => r4 x0 x1 (zw (x2 + 1)) A6
def z_Pt_link_145 (r4 : Nat → Int → Int → zA → Option zA) (N : Nat) (x0 : Nat) (x1 : Int) (x2 : Int) (x5 : Int) (A : zA) : Option zA := zgr A x0 1 fun p1 => zwD A p1 x2 x1 fun A2 => r4 x0 x5 (zw (x2 + 1)) A2
def z_Pt_link_126 (r4 : Nat → Int → Int → zA → Option zA) (N : Nat) (x0 : Nat) (x1 : Int) (x2 : Int) (x4 : Int) (s0 : Int) (A : zA) : Option zA := zbP (z_Pt_has N x0 x4 A) fun v1 => (if v1 = 0 then z_Pt_link_145 r4 N x0 x1 x2 s0 A else zgr A x0 1 fun p3 => zwD A p3 x4 x2 fun A4 => z_Pt_link_145 r4 N x0 x1 x2 s0 A4)
def z_Pt_link_84 (r4 : Nat → Int → Int → zA → Option zA) (N : Nat) (x0 : Nat) (x1 : Int) (x2 : Int) (x3 : Int) (A : zA) : Option zA := zbP (z_Pt_has N x0 x1 A) fun v1 => (if v1 = 0 then r4 x0 x1 (zw (x2 + 1)) A else (if x3 = 12 then zgr A x0 1 fun p4 => zrD A p4 x1 fun v5 => zbP (z_Pt_has N x0 v5 A) fun v6 => (if v6 = 0 then z_Pt_link_126 r4 N x0 x1 x2 v5 (-1) A else zgr A x0 1 fun p8 => zrD A p8 v5 fun v9 => z_Pt_link_126 r4 N x0 x1 x2 v5 v9 A) else r4 x0 x1 (zw (x2 + 1)) A))
def z_Pt_link_4_b (r4 : Nat → Int → Int → zA → Option zA) (N : Nat) (x0 : Nat) (x1 : Int) (x2 : Int) (A : zA) : Option zA := (if x2 < (zi A x0 2) then zbP (z_Pt_kind N x0 x2 A) fun v2 => (if v2 = 8 then z_Pt_link_30 r4 N x0 x1 x2 A else (if v2 = 10 then z_Pt_link_30 r4 N x0 x1 x2 A else zbP (z_Pt_has N x0 x1 A) fun v5 => (if v5 = 0 then z_Pt_link_84 r4 N x0 x1 x2 v2 A else (if v2 = 9 then z_Pt_link_62 r4 N x0 x1 x2 A else (if v2 = 11 then z_Pt_link_62 r4 N x0 x1 x2 A else z_Pt_link_84 r4 N x0 x1 x2 v2 A))))) else some A)
def z_Pt_link_4_l (N : Nat) : Nat → Nat → Int → Int → zA → Option zA
  | 0 => fun _ _ _ _ => none
  | n + 1 => fun x0 x1 x2 A => z_Pt_link_4_b (z_Pt_link_4_l N n) N x0 x1 x2 A
def z_Pt_link_4 (N : Nat) (x0 : Nat) (x1 : Int) (x2 : Int) (A : zA) : Option zA := z_Pt_link_4_l N N x0 x1 x2 A
def z_Pt_link (N : Nat) (x0 : Nat) (A : zA) : Option zA := z_Pt_link_4 N x0 (-1) 0 A
/-- PassChain$Parser.reads(LPassChain$Rows;)Z -/
def z_Pa_reads_119_b (r119 : Nat → Int → zA → Option (Int × zA)) (N : Nat) (x1 : Nat) (x2 : Int) (A : zA) : Option (Int × zA) := (if x2 < 4 then zgf x1 0 fun p2 => zfe p2 x2 fun p3 => zcs p3 (false, 3, 4) <| zbV (z_Pt_link N p3 A) fun A4 => r119 x1 (zw (x2 + 1)) A4 else some (1, A))
def z_Pa_reads_119_l (N : Nat) : Nat → Nat → Int → zA → Option (Int × zA)
  | 0 => fun _ _ _ => none
  | n + 1 => fun x1 x2 A => z_Pa_reads_119_b (z_Pa_reads_119_l N n) N x1 x2 A
def z_Pa_reads_119 (N : Nat) (x1 : Nat) (x2 : Int) (A : zA) : Option (Int × zA) := z_Pa_reads_119_l N N x1 x2 A
def z_Pa_reads_73 (N : Nat) (x1 : Nat) (A : zA) : Option (Int × zA) := zlet (zsi A 5 4 1) fun A1 => zlet (zsi A1 5 5 (zi A1 x1 1)) fun A2 => zgf x1 0 fun p3 => zfe p3 3 fun p4 => zcs p4 (false, 3, 4) <| zbV (z_Pa_statements (z_Pa_statement N) N p4 0 A2) fun A5 => (if (zi A5 5 3) = 0 then (if (zi A5 5 2) < (zi A5 5 1) then some (0, A5) else z_Pa_reads_119 N x1 0 A5) else some (0, A5))
def z_Pa_reads_21_b (r21 : Nat → Int → zA → Option (Int × zA)) (N : Nat) (x1 : Nat) (x2 : Int) (A : zA) : Option (Int × zA) := (if x2 < 3 then zbP (z_Pa_beginsProcedure N x2 A) fun v2 => (if v2 = 0 then z_Pa_reads_73 N x1 A else zlet (zsi A 5 2 ((zi A 5 2) + 1)) fun A4 => zlet (zsi A4 5 5 x2) fun A5 => zgf x1 0 fun p6 => zfe p6 x2 fun p7 => zcs p7 (false, 3, 4) <| zbV (z_Pa_block (z_Pa_statement N) N p7 1 A5) fun A8 => zlet (zsi A8 x1 1 (x2 + 1)) fun A9 => r21 x1 (zw (x2 + 1)) A9) else z_Pa_reads_73 N x1 A)
def z_Pa_reads_21_l (N : Nat) : Nat → Nat → Int → zA → Option (Int × zA)
  | 0 => fun _ _ _ => none
  | n + 1 => fun x1 x2 A => z_Pa_reads_21_b (z_Pa_reads_21_l N n) N x1 x2 A
def z_Pa_reads_21 (N : Nat) (x1 : Nat) (x2 : Int) (A : zA) : Option (Int × zA) := z_Pa_reads_21_l N N x1 x2 A
def z_Pa_reads (N : Nat) (x1 : Nat) (A : zA) : Option (Int × zA) := zlet (zsi A 5 2 0) fun A1 => zlet (zsi A1 5 3 0) fun A2 => zlet (zsi A2 5 4 0) fun A3 => zbV (z_Ro_clear N x1 A3) fun A4 => z_Pa_reads_21 N x1 0 A4
/-- PassChain$Rows.has(I)Z -/
def z_Ro_has (N : Nat) (x0 : Nat) (x1 : Int) (A : zA) : Option Int := (if x1 = 3 then some 1 else (if x1 < 0 then some 0 else (if x1 < (zi A x0 1) then some 1 else some 0)))
/-- PassChain$Part.number(II)I -/
def z_Pt_number_26 (N : Nat) (x0 : Nat) (x1 : Int) (x2 : Int) (s0 : Int) (A : zA) : Option Int := (if s0 = 0 then some 0 else zgr A x0 0 fun p2 => zrD A p2 (((x1 * 5) + 1) + x2) fun v3 => some v3)
def z_Pt_number (N : Nat) (x0 : Nat) (x1 : Int) (x2 : Int) (A : zA) : Option Int := (if x1 < 0 then z_Pt_number_26 N x0 x1 x2 0 A else (if x1 < (zi A x0 2) then (if x2 < 0 then z_Pt_number_26 N x0 x1 x2 0 A else (if x2 < 4 then z_Pt_number_26 N x0 x1 x2 1 A else z_Pt_number_26 N x0 x1 x2 0 A)) else z_Pt_number_26 N x0 x1 x2 0 A))
/-- PassChain$Rows.ofCalled([II)I -/
def z_Ro_ofCalled (N : Nat) (x0 : Nat) (x1 : Int) (A : zA) : Option Int := (if x1 < 0 then some 0 else (if x1 < 3 then zrD A x0 x1 fun v3 => some v3 else some 0))
/-- PassChain$Rows.sizeOf(LPassChain$Part;[I)I -/
def z_Ro_sizeOf_7_b (r7 : Nat → Nat → Int → Int → zA → Option Int) (N : Nat) (x0 : Nat) (x1 : Nat) (x2 : Int) (x3 : Int) (A : zA) : Option Int := (if x3 < (zi A x0 2) then zbP (z_Pt_kind N x0 x3 A) fun v2 => (if v2 = 7 then zbP (z_Pt_number N x0 x3 1 A) fun v4 => zbP (z_Ro_ofCalled N x1 v4 A) fun v5 => r7 x0 x1 (zw (x2 + v5)) (zw (x3 + 1)) A else r7 x0 x1 x2 (zw (x3 + 1)) A) else some x2)
def z_Ro_sizeOf_7_l (N : Nat) : Nat → Nat → Nat → Int → Int → zA → Option Int
  | 0 => fun _ _ _ _ _ => none
  | n + 1 => fun x0 x1 x2 x3 A => z_Ro_sizeOf_7_b (z_Ro_sizeOf_7_l N n) N x0 x1 x2 x3 A
def z_Ro_sizeOf_7 (N : Nat) (x0 : Nat) (x1 : Nat) (x2 : Int) (x3 : Int) (A : zA) : Option Int := z_Ro_sizeOf_7_l N N x0 x1 x2 x3 A
def z_Ro_sizeOf (N : Nat) (x0 : Nat) (x1 : Nat) (A : zA) : Option Int := z_Ro_sizeOf_7 N x0 x1 (zi A x0 2) 0 A
/-- PassChain$Part.mate(I)I -/
def z_Pt_mate (N : Nat) (x0 : Nat) (x1 : Int) (A : zA) : Option Int := (if x1 < 0 then some x1 else (if x1 < (zi A x0 2) then zgr A x0 1 fun p3 => zrD A p3 x1 fun v4 => some v4 else some x1))
/-- PassChain$Rows.whileDepth(LPassChain$Part;[I)I -/
def z_Ro_whileDepth_71 (r7 : Nat → Nat → Int → Int → Int → zA → Option Int) (N : Nat) (x0 : Nat) (x1 : Nat) (x2 : Int) (x3 : Int) (x4 : Int) (A : zA) : Option Int := zbP (z_Pt_kind N x0 x4 A) fun v1 => (if v1 = 7 then zbP (z_Pt_number N x0 x4 1 A) fun v3 => zbP (z_Ro_ofCalled N x1 v3 A) fun v4 => r7 x0 x1 x2 (zmx x3 (zw (x2 + v4))) (zw (x4 + 1)) A else r7 x0 x1 x2 x3 (zw (x4 + 1)) A)
def z_Ro_whileDepth_7_b (r7 : Nat → Nat → Int → Int → Int → zA → Option Int) (N : Nat) (x0 : Nat) (x1 : Nat) (x2 : Int) (x3 : Int) (x4 : Int) (A : zA) : Option Int := (if x4 < (zi A x0 2) then zbP (z_Pt_kind N x0 x4 A) fun v2 => (if v2 = 10 then r7 x0 x1 (zw (x2 + 1)) (zmx x3 (zw (x2 + 1))) (zw (x4 + 1)) A else zbP (z_Pt_kind N x0 x4 A) fun v4 => (if v4 = 12 then zbP (z_Pt_mate N x0 x4 A) fun v6 => zbP (z_Pt_kind N x0 v6 A) fun v7 => (if v7 = 10 then r7 x0 x1 (zw (x2 + (-1))) x3 (zw (x4 + 1)) A else z_Ro_whileDepth_71 r7 N x0 x1 x2 x3 x4 A) else z_Ro_whileDepth_71 r7 N x0 x1 x2 x3 x4 A)) else some x3)
def z_Ro_whileDepth_7_l (N : Nat) : Nat → Nat → Nat → Int → Int → Int → zA → Option Int
  | 0 => fun _ _ _ _ _ _ => none
  | n + 1 => fun x0 x1 x2 x3 x4 A => z_Ro_whileDepth_7_b (z_Ro_whileDepth_7_l N n) N x0 x1 x2 x3 x4 A
def z_Ro_whileDepth_7 (N : Nat) (x0 : Nat) (x1 : Nat) (x2 : Int) (x3 : Int) (x4 : Int) (A : zA) : Option Int := z_Ro_whileDepth_7_l N N x0 x1 x2 x3 x4 A
def z_Ro_whileDepth (N : Nat) (x0 : Nat) (x1 : Nat) (A : zA) : Option Int := z_Ro_whileDepth_7 N x0 x1 0 0 0 A
/-- PassChain$Rows.withinLimits()Z -/
def z_Ro_withinLimits_13_b (r13 : Nat → Nat → Nat → Int → Int → zA → Option (Int × zA)) (N : Nat) (x0 : Nat) (x1 : Nat) (x2 : Nat) (x3 : Int) (x4 : Int) (A : zA) : Option (Int × zA) := (if x4 < 4 then zbP (z_Ro_has N x0 x4 A) fun v2 => (if v2 = 0 then r13 x0 x1 x2 x3 (zw (x4 + 1)) A else zgf x0 0 fun p4 => zfe p4 x4 fun p5 => zcs p5 (false, 3, 4) <| zbP (z_Ro_sizeOf N p5 x1 A) fun v6 => zwD A x1 x4 v6 fun A7 => zgf x0 0 fun p8 => zfe p8 x4 fun p9 => zcs p9 (false, 3, 4) <| zbP (z_Ro_whileDepth N p9 x2 A7) fun v10 => zwD A7 x2 x4 v10 fun A11 => (if x3 = 0 then r13 x0 x1 x2 0 (zw (x4 + 1)) A11 else zgf x0 0 fun p13 => zfe p13 x4 fun p14 => zcs p14 (false, 3, 4) <| (if 60 < (zi A11 p14 3) then r13 x0 x1 x2 0 (zw (x4 + 1)) A11 else zrD A11 x1 x4 fun v16 => (if 150 < v16 then r13 x0 x1 x2 0 (zw (x4 + 1)) A11 else zrD A11 x2 x4 fun v18 => (if 3 < v18 then r13 x0 x1 x2 0 (zw (x4 + 1)) A11 else r13 x0 x1 x2 1 (zw (x4 + 1)) A11))))) else (if x3 = 0 ∨ x3 = 1 then some (x3, A) else none))
def z_Ro_withinLimits_13_l (N : Nat) : Nat → Nat → Nat → Nat → Int → Int → zA → Option (Int × zA)
  | 0 => fun _ _ _ _ _ _ => none
  | n + 1 => fun x0 x1 x2 x3 x4 A => z_Ro_withinLimits_13_b (z_Ro_withinLimits_13_l N n) N x0 x1 x2 x3 x4 A
def z_Ro_withinLimits_13 (N : Nat) (x0 : Nat) (x1 : Nat) (x2 : Nat) (x3 : Int) (x4 : Int) (A : zA) : Option (Int × zA) := z_Ro_withinLimits_13_l N N x0 x1 x2 x3 x4 A
def z_Ro_withinLimits (N : Nat) (x0 : Nat) (A : zA) : Option (Int × zA) := zna A 0 4 fun p1 A2 => zna A2 0 4 fun p3 A4 => z_Ro_withinLimits_13 N x0 p1 p3 1 0 A4
/-- PassChain$Part.become(LPassChain$Part;)V -/
def z_Pt_become (N : Nat) (x0 : Nat) (x1 : Nat) (A : zA) : Option zA := zbV (z_Pt_makeRoom N x0 (zi A x1 2) A) fun A1 => zgr A1 x1 0 fun p2 => zgr A1 x0 0 fun p3 => zcy A1 p2 0 p3 0 ((zi A1 x1 2) * 5) fun A4 => zgr A4 x1 1 fun p5 => zgr A4 x0 1 fun p6 => zcy A4 p5 0 p6 0 (zi A4 x1 2) fun A7 => zlet (zsi A7 x0 2 (zi A7 x1 2)) fun A8 => zlet (zsi A8 x0 3 (zi A8 x1 3)) fun A9 => some A9
/-- PassChain$Rows.become(LPassChain$Rows;)V -/
def z_Ro_become_10_b (r10 : Nat → Nat → Int → zA → Option zA) (N : Nat) (x0 : Nat) (x1 : Nat) (x2 : Int) (A : zA) : Option zA := (if x2 < 4 then zbP (z_Ro_has N x1 x2 A) fun v2 => (if v2 = 0 then r10 x0 x1 (zw (x2 + 1)) A else zgf x0 0 fun p4 => zfe p4 x2 fun p5 => zcs p5 (false, 3, 4) <| zgf x1 0 fun p6 => zfe p6 x2 fun p7 => zcs p7 (false, 3, 4) <| zbV (z_Pt_become N p5 p7 A) fun A8 => r10 x0 x1 (zw (x2 + 1)) A8) else some A)
def z_Ro_become_10_l (N : Nat) : Nat → Nat → Nat → Int → zA → Option zA
  | 0 => fun _ _ _ _ => none
  | n + 1 => fun x0 x1 x2 A => z_Ro_become_10_b (z_Ro_become_10_l N n) N x0 x1 x2 A
def z_Ro_become_10 (N : Nat) (x0 : Nat) (x1 : Nat) (x2 : Int) (A : zA) : Option zA := z_Ro_become_10_l N N x0 x1 x2 A
def z_Ro_become (N : Nat) (x0 : Nat) (x1 : Nat) (A : zA) : Option zA := zlet (zsi A x0 1 (zi A x1 1)) fun A1 => z_Ro_become_10 N x0 x1 0 A1
/-- PassChain.compile()I -/
def z_PC_compile (N : Nat) (A : zA) : Option ((Int ⊕ Nat) × zA) := zgr A 4 3 fun p1 => zcs p1 (false, 2, 2) <| zbI (z_Pa_reads N p1 A) fun v2 A3 => zlet (zsi A3 5 1 0) fun A4 => (if v2 = 0 then some (.inr 0, znw A4 (false, 100, 0)) else zgr A4 4 3 fun p6 => zcs p6 (false, 2, 2) <| zbI (z_Ro_withinLimits N p6 A4) fun v7 A8 => (if v7 = 0 then some (.inr 1, znw A8 (false, 101, 0)) else zgr A8 4 3 fun p10 => zcs p10 (false, 2, 2) <| zbV (z_Ro_become N 7 p10 A8) fun A11 => zgr A11 4 2 fun p12 => zcs p12 (false, 2, 2) <| zgr A11 4 3 fun p13 => zcs p13 (false, 2, 2) <| zbV (z_Ro_become N p12 p13 A11) fun A14 => zlet (zsi A14 4 9 0) fun A15 => zlet (zsi A15 4 11 0) fun A16 => zlet (zsi A16 4 12 0) fun A17 => zgr A17 4 2 fun p18 => zcs p18 (false, 2, 2) <| zgf p18 0 fun p19 => zfe p19 3 fun p20 => zcs p20 (false, 3, 4) <| some (.inl (zi A17 p20 2), A17)))
/-- PassChainLaw.compile(LPassChain;[J)I -/
def z_Lw_compile (N : Nat) (A : zA) : Option (Int × zA) := zbX (z_PC_compile N A) (fun v1 A2 => zwl A2 295 1 0 (zil v1) fun A6 => some (0, A6)) (fun n5 A4 => (if n5 = 0 then some (1, A4) else (if n5 = 1 then some (2, A4) else none)))
/-- PassChainModel.row(II)I -/
def z_M_row (N : Nat) (x0 : Int) (x1 : Int) (A : zA) : Option Int := some (zw ((4 * x0) + x1))
/-- PassChainModel.look()I -/
def z_M_look (N : Nat) (A : zA) : Option Int := (if (zi A 226 13) < (zi A 226 1) then zrd A 227 128 (zi A 226 13) fun v2 => some v2 else some 0)
/-- PassChainModel.place(III)I -/
def z_M_place (N : Nat) (x0 : Int) (x1 : Int) (x2 : Int) (A : zA) : Option Int := some (zw (5 * ((240 * ((4 * x0) + x1)) + x2)))
/-- PassChainModel.emit(IIIIIII)V -/
def z_M_emit (N : Nat) (x1 : Int) (x2 : Int) (x3 : Int) (x4 : Int) (x5 : Int) (x6 : Int) (x7 : Int) (A : zA) : Option zA := zbP (z_M_row N x1 x2 A) fun v1 => zrd A 229 12 v1 fun v2 => zbP (z_M_place N x1 x2 v2 A) fun v3 => zwr A 228 14400 v3 x3 fun A4 => zwr A4 228 14400 (v3 + 1) x4 fun A5 => zwr A5 228 14400 (v3 + 2) x5 fun A6 => zwr A6 228 14400 (v3 + 3) x6 fun A7 => zwr A7 228 14400 (v3 + 4) x7 fun A8 => zbP (z_M_row N x1 x2 A8) fun v9 => zrd A8 229 12 v9 fun v10 => zwr A8 229 12 v9 (v10 + 1) fun A11 => some A11
/-- PassChainModel.need(I)V -/
def z_M_need (N : Nat) (x1 : Int) (A : zA) : Option zA := zbP (z_M_look N A) fun v1 => (if v1 = x1 then zlet (zsi A 226 13 ((zi A 226 13) + 1)) fun A3 => some A3 else zlet (zsi A 226 16 1) fun A4 => zlet (zsi A4 226 13 ((zi A4 226 13) + 1)) fun A5 => some A5)
/-- PassChainModel.enter(I)V -/
def z_M_enter (N : Nat) (x1 : Int) (A : zA) : Option zA := zbV (z_M_need N 123 A) fun A1 => (if (zi A1 226 17) < 5 then zwr A1 234 8 (zi A1 226 17) x1 fun A3 => zlet (zsi A3 226 17 ((zi A3 226 17) + 1)) fun A4 => some A4 else zlet (zsi A1 226 16 1) fun A5 => some A5)
/-- PassChainModel.leave()V -/
def z_M_leave (N : Nat) (A : zA) : Option zA := zlet (zsi A 226 13 ((zi A 226 13) + 1)) fun A1 => zrd A1 234 8 ((zi A1 226 17) - 1) fun v2 => zlet (zsi A1 226 17 ((zi A1 226 17) - 1)) fun A3 => (if v2 = 1 then zbV (z_M_emit N 1 (zi A3 226 14) 9 0 0 0 0 A3) fun A5 => zbV (z_M_enter N 2 A5) fun A6 => some A6 else (if v2 = 4 then zlet (zsi A3 226 15 ((zi A3 226 15) + 1)) fun A8 => zlet (zsi A8 226 14 3) fun A9 => some A9 else zbV (z_M_emit N 1 (zi A3 226 14) 12 0 0 0 0 A3) fun A10 => some A10))
/-- PassChainModel.isVariable(I)Z -/
def z_M_isVariable (N : Nat) (x1 : Int) (A : zA) : Option Int := (if x1 < 97 then some 0 else (if 102 < x1 then some 0 else some 1))
/-- PassChainModel.isDigit(I)Z -/
def z_M_isDigit (N : Nat) (x1 : Int) (A : zA) : Option Int := (if x1 < 48 then some 0 else (if 57 < x1 then some 0 else some 1))
/-- PassChainModel.fresh()I -/
def z_M_fresh (N : Nat) (A : zA) : Option (Int × zA) := zbP (z_M_row N 1 (zi A 226 14) A) fun v1 => zrd A 230 12 v1 fun v2 => zwr A 230 12 v1 (v2 + 1) fun A3 => zbP (z_M_row N 1 (zi A3 226 14) A3) fun v4 => zrd A3 230 12 v4 fun v5 => some ((zw (v5 - 1)), A3)
/-- PassChainModel.push(I)V -/
def z_M_push (N : Nat) (x1 : Int) (A : zA) : Option zA := zwr A 236 128 (zi A 226 20) x1 fun A1 => zlet (zsi A1 226 20 ((zi A1 226 20) + 1)) fun A2 => some A2
/-- PassChainModel.opens(I)V -/
def z_M_opens (N : Nat) (x1 : Int) (A : zA) : Option zA := zwr A 235 128 (zi A 226 19) x1 fun A1 => zlet (zsi A1 226 19 ((zi A1 226 19) + 1)) fun A2 => zlet (zsi A2 226 21 ((zi A2 226 21) + 1)) fun A3 => (if 5 < (zi A3 226 21) then zlet (zsi A3 226 16 1) fun A5 => some A5 else some A3)
/-- PassChainModel.work(I)V -/
def z_M_work (N : Nat) (x1 : Int) (A : zA) : Option zA := zlet (zsi A 226 20 ((zi A 226 20) - 1)) fun A1 => zbI (z_M_fresh N A1) fun v2 A3 => zrd A3 236 128 ((zi A3 226 20) - 1) fun v4 => zrd A3 236 128 (zi A3 226 20) fun v5 => zbV (z_M_emit N 1 (zi A3 226 14) 2 v2 v4 v5 x1 A3) fun A6 => zwr A6 236 128 ((zi A6 226 20) - 1) v2 fun A7 => some A7
/-- PassChainModel.whole()V -/
def z_M_whole_0_b (r0 : zA → Option zA) (N : Nat) (A : zA) : Option zA := (if 0 < (zi A 226 19) then zrd A 235 128 ((zi A 226 19) - 1) fun v2 => (if v2 = 0 then zlet (zsi A 226 19 ((zi A 226 19) - 1)) fun A4 => zlet (zsi A4 226 21 ((zi A4 226 21) - 1)) fun A5 => zbV (z_M_work N 1 A5) fun A6 => r0 A6 else some A) else some A)
def z_M_whole_0_l (N : Nat) : Nat → zA → Option zA
  | 0 => fun _ => none
  | n + 1 => fun A => z_M_whole_0_b (z_M_whole_0_l N n) N A
def z_M_whole_0 (N : Nat) (A : zA) : Option zA := z_M_whole_0_l N N A
def z_M_whole (N : Nat) (A : zA) : Option zA := z_M_whole_0 N A
/-- PassChainModel.factor()Z -/
def z_M_factor_236 (N : Nat) (A : zA) : Option (Int × zA) := (if (zi A 226 16) = 0 then zbV (z_M_whole N A) fun A2 => some (0, A2) else some (0, A))
def z_M_factor_75 (N : Nat) (x2 : Int) (A : zA) : Option (Int × zA) := zbI (z_M_fresh N A) fun v1 A2 => zbV (z_M_push N v1 A2) fun A3 => zrd A3 236 128 ((zi A3 226 20) - 1) fun v4 => zbV (z_M_emit N 1 (zi A3 226 14) 0 v4 x2 0 0 A3) fun A5 => z_M_factor_236 N A5
def z_M_factor_30_b (r30 : Int → Int → zA → Option (Int × zA)) (N : Nat) (x2 : Int) (x3 : Int) (A : zA) : Option (Int × zA) := (if x3 < 5 then zbP (z_M_look N A) fun v2 => zbP (z_M_isDigit N v2 A) fun v3 => (if v3 = 0 then z_M_factor_75 N x2 A else zbP (z_M_look N A) fun v5 => zlet (zsi A 226 13 ((zi A 226 13) + 1)) fun A6 => r30 (zw (((10 * x2) + v5) - 48)) (zw (x3 + 1)) A6) else z_M_factor_75 N x2 A)
def z_M_factor_30_l (N : Nat) : Nat → Int → Int → zA → Option (Int × zA)
  | 0 => fun _ _ _ => none
  | n + 1 => fun x2 x3 A => z_M_factor_30_b (z_M_factor_30_l N n) N x2 x3 A
def z_M_factor_30 (N : Nat) (x2 : Int) (x3 : Int) (A : zA) : Option (Int × zA) := z_M_factor_30_l N N x2 x3 A
def z_M_factor_148 (N : Nat) (s1 : Int) (A : zA) : Option (Int × zA) := zbV (z_M_push N s1 A) fun A1 => z_M_factor_236 N A1
def z_M_factor_132 (N : Nat) (x1 : Int) (A : zA) : Option (Int × zA) := (if x1 = 120 then z_M_factor_148 N 6 A else z_M_factor_148 N (zw (x1 - 97)) A)
def z_M_factor_154 (N : Nat) (x1 : Int) (A : zA) : Option (Int × zA) := (if x1 = 40 then zbV (z_M_opens N 1 A) fun A2 => some (1, A2) else (if x1 = 65 then zbV (z_M_need N 91 A) fun A4 => zbV (z_M_opens N 2 A4) fun A5 => some (1, A5) else (if x1 = 45 then zbI (z_M_fresh N A) fun v7 A8 => zbV (z_M_push N v7 A8) fun A9 => zrd A9 236 128 ((zi A9 226 20) - 1) fun v10 => zbV (z_M_emit N 1 (zi A9 226 14) 0 v10 0 0 0 A9) fun A11 => zbV (z_M_opens N 0 A11) fun A12 => some (1, A12) else zlet (zsi A 226 16 1) fun A13 => z_M_factor_236 N A13)))
def z_M_factor (N : Nat) (A : zA) : Option (Int × zA) := zbP (z_M_look N A) fun v1 => zlet (zsi A 226 13 ((zi A 226 13) + 1)) fun A2 => zbP (z_M_isDigit N v1 A2) fun v3 => (if v3 = 0 then zbP (z_M_isVariable N v1 A2) fun v5 => (if v5 = 0 then (if v1 = 120 then (if (zi A2 226 14) = 3 then z_M_factor_154 N v1 A2 else z_M_factor_132 N v1 A2) else z_M_factor_154 N v1 A2) else z_M_factor_132 N v1 A2) else z_M_factor_30 N (zw (v1 - 48)) 1 A2)
/-- PassChainModel.operatorOf(I)I -/
def z_M_operatorOf (N : Nat) (x0 : Int) (A : zA) : Option Int := (if x0 = 43 then some 0 else (if x0 = 45 then some 1 else (if x0 = 42 then some 2 else (if x0 = 47 then some 3 else (if x0 = 60 then some 4 else (if x0 = 61 then some 5 else some (-1)))))))
/-- PassChainModel.strength(I)I -/
def z_M_strength (N : Nat) (x0 : Int) (A : zA) : Option Int := (if x0 = 2 then some 3 else (if x0 = 3 then some 3 else (if x0 < 2 then some 2 else some 1)))
/-- PassChainModel.reduce(I)V -/
def z_M_reduce_0_b (r0 : Int → zA → Option zA) (N : Nat) (x1 : Int) (A : zA) : Option zA := (if 0 < (zi A 226 19) then zrd A 235 128 ((zi A 226 19) - 1) fun v2 => (if v2 < 10 then some A else zrd A 235 128 ((zi A 226 19) - 1) fun v4 => zbP (z_M_strength N (zw (v4 - 10)) A) fun v5 => (if v5 < x1 then some A else zlet (zsi A 226 19 ((zi A 226 19) - 1)) fun A7 => zrd A7 235 128 (zi A7 226 19) fun v8 => zbV (z_M_work N (zw (v8 - 10)) A7) fun A9 => r0 x1 A9)) else some A)
def z_M_reduce_0_l (N : Nat) : Nat → Int → zA → Option zA
  | 0 => fun _ _ => none
  | n + 1 => fun x1 A => z_M_reduce_0_b (z_M_reduce_0_l N n) N x1 A
def z_M_reduce_0 (N : Nat) (x1 : Int) (A : zA) : Option zA := z_M_reduce_0_l N N x1 A
def z_M_reduce (N : Nat) (x1 : Int) (A : zA) : Option zA := z_M_reduce_0 N x1 A
/-- PassChainModel.behind()I -/
def z_M_behind_70 (N : Nat) (x2 : Int) (A : zA) : Option (Int × zA) := zwr A 235 128 (zi A 226 19) (10 + x2) fun A1 => zlet (zsi A1 226 19 ((zi A1 226 19) + 1)) fun A2 => zlet (zsi A2 226 13 ((zi A2 226 13) + 1)) fun A3 => some (0, A3)
def z_M_behind_31 (N : Nat) (x2 : Int) (s1 : Int) (A : zA) : Option (Int × zA) := zbV (z_M_reduce N s1 A) fun A1 => zbP (z_M_strength N x2 A1) fun v2 => (if v2 = 1 then (if 0 < (zi A1 226 19) then zrd A1 235 128 ((zi A1 226 19) - 1) fun v5 => (if v5 < 14 then z_M_behind_70 N x2 A1 else zlet (zsi A1 226 16 1) fun A7 => z_M_behind_70 N x2 A7) else z_M_behind_70 N x2 A1) else z_M_behind_70 N x2 A1)
def z_M_behind_246 (N : Nat) (A : zA) : Option (Int × zA) := zbV (z_M_whole N A) fun A1 => some (1, A1)
def z_M_behind_131 (N : Nat) (s0 : Int) (A : zA) : Option (Int × zA) := (if (zi A 226 19) = 0 then some (2, A) else (if s0 = 0 then zlet (zsi A 226 16 1) fun A3 => some (2, A3) else zrd A 235 128 ((zi A 226 19) - 1) fun v4 => (if v4 = s0 then zlet (zsi A 226 19 ((zi A 226 19) - 1)) fun A6 => zlet (zsi A6 226 21 ((zi A6 226 21) - 1)) fun A7 => zlet (zsi A7 226 13 ((zi A7 226 13) + 1)) fun A8 => (if s0 = 2 then zbI (z_M_fresh N A8) fun v10 A11 => zrd A11 236 128 ((zi A11 226 20) - 1) fun v12 => zbV (z_M_emit N 1 (zi A11 226 14) 3 v10 v12 0 0 A11) fun A13 => zwr A13 236 128 ((zi A13 226 20) - 1) v10 fun A14 => z_M_behind_246 N A14 else z_M_behind_246 N A8) else zlet (zsi A 226 16 1) fun A15 => some (2, A15))))
def z_M_behind (N : Nat) (A : zA) : Option (Int × zA) := zbP (z_M_look N A) fun v1 => zbP (z_M_operatorOf N v1 A) fun v2 => (if v2 < 0 then zbV (z_M_reduce N 1 A) fun A4 => (if v1 = 41 then z_M_behind_131 N 1 A4 else (if v1 = 93 then z_M_behind_131 N 2 A4 else z_M_behind_131 N 0 A4)) else zbP (z_M_strength N v2 A) fun v7 => (if v7 = 1 then z_M_behind_31 N v2 2 A else zbP (z_M_strength N v2 A) fun v9 => z_M_behind_31 N v2 v9 A))
/-- PassChainModel.expression()I -/
def z_M_expression_56 (r19 : Int → Int → zA → Option (Int × zA)) (N : Nat) (x3 : Int) (s0 : Int) (A : zA) : Option (Int × zA) := (if x3 = 2 then r19 s0 0 A else r19 s0 1 A)
def z_M_expression_71 (N : Nat) (A : zA) : Option (Int × zA) := (if (zi A 226 16) = 0 then zrd A 236 128 0 fun v2 => some (v2, A) else some (0, A))
def z_M_expression_19_b (r19 : Int → Int → zA → Option (Int × zA)) (N : Nat) (x1 : Int) (x2 : Int) (A : zA) : Option (Int × zA) := (if x2 = 0 then z_M_expression_71 N A else (if (zi A 226 16) = 0 then (if x1 = 0 then zbI (z_M_behind N A) fun v4 A5 => (if v4 = 0 then z_M_expression_56 r19 N v4 1 A5 else z_M_expression_56 r19 N v4 0 A5) else zbI (z_M_factor N A) fun v7 A8 => r19 v7 x2 A8) else z_M_expression_71 N A))
def z_M_expression_19_l (N : Nat) : Nat → Int → Int → zA → Option (Int × zA)
  | 0 => fun _ _ _ => none
  | n + 1 => fun x1 x2 A => z_M_expression_19_b (z_M_expression_19_l N n) N x1 x2 A
def z_M_expression_19 (N : Nat) (x1 : Int) (x2 : Int) (A : zA) : Option (Int × zA) := z_M_expression_19_l N N x1 x2 A
def z_M_expression (N : Nat) (A : zA) : Option (Int × zA) := zlet (zsi A 226 19 0) fun A1 => zlet (zsi A1 226 20 0) fun A2 => zlet (zsi A2 226 21 0) fun A3 => z_M_expression_19 N 1 1 A3
/-- PassChainModel.nested(I)V -/
def z_M_nested_138 (N : Nat) (x1 : Int) (s0 : Int) (A : zA) : Option zA := zbV (z_M_emit N 1 (zi A 226 14) 7 s0 (zw (x1 - 80)) 0 0 A) fun A1 => zbV (z_M_need N 41 A1) fun A2 => zbV (z_M_need N 59 A2) fun A3 => some A3
def z_M_nested_114 (N : Nat) (x1 : Int) (s0 : Int) (s1 : Int) (A : zA) : Option zA := (if s0 < s1 then zbV (z_M_need N 40 A) fun A2 => (if (zi A2 226 16) = 0 then zbI (z_M_expression N A2) fun v4 A5 => z_M_nested_138 N x1 v4 A5 else z_M_nested_138 N x1 0 A2) else zlet (zsi A 226 16 1) fun A6 => some A6)
def z_M_nested (N : Nat) (x1 : Int) (A : zA) : Option zA := (if x1 = 73 then zbI (z_M_expression N A) fun v2 A3 => zbV (z_M_emit N 1 (zi A 226 14) 8 v2 0 0 0 A3) fun A4 => zbV (z_M_enter N 1 A4) fun A5 => some A5 else (if x1 = 87 then zbV (z_M_emit N 1 (zi A 226 14) 10 0 0 0 0 A) fun A7 => zbI (z_M_expression N A7) fun v8 A9 => zbV (z_M_emit N 1 (zi A7 226 14) 11 v8 0 0 0 A9) fun A10 => zbV (z_M_enter N 3 A10) fun A11 => some A11 else (if x1 < 80 then zlet (zsi A 226 16 1) fun A13 => some A13 else (if 82 < x1 then zlet (zsi A 226 16 1) fun A15 => some A15 else (if (zi A 226 14) = 3 then z_M_nested_114 N x1 (zw (x1 - 80)) (zi A 226 15) A else z_M_nested_114 N x1 (zw (x1 - 80)) (zi A 226 14) A)))))
/-- PassChainModel.statement()V -/
def z_M_statement_104 (N : Nat) (x2 : Int) (s0 : Int) (A : zA) : Option zA := zbV (z_M_emit N 1 (zi A 226 14) 4 x2 s0 0 0 A) fun A1 => zbV (z_M_need N 59 A1) fun A2 => some A2
def z_M_statement_183 (N : Nat) (A : zA) : Option zA := zbP (z_M_look N A) fun v1 => zbV (z_M_emit N 1 (zi A 226 14) 5 (zw (v1 - 97)) 0 0 0 A) fun A2 => zlet (zsi A2 226 13 ((zi A2 226 13) + 1)) fun A3 => zbV (z_M_need N 59 A3) fun A4 => some A4
def z_M_statement (N : Nat) (A : zA) : Option zA := zbP (z_M_look N A) fun v1 => zlet (zsi A 226 13 ((zi A 226 13) + 1)) fun A2 => zbP (z_M_isVariable N v1 A2) fun v3 => (if v3 = 0 then (if v1 = 65 then zbV (z_M_need N 91 A2) fun A6 => zbI (z_M_expression N A6) fun v7 A8 => zbV (z_M_need N 93 A8) fun A9 => zbV (z_M_need N 61 A9) fun A10 => (if (zi A10 226 16) = 0 then zbI (z_M_expression N A10) fun v12 A13 => z_M_statement_104 N v7 v12 A13 else z_M_statement_104 N v7 0 A10) else (if v1 = 33 then zbI (z_M_expression N A2) fun v15 A16 => zbV (z_M_emit N 1 (zi A2 226 14) 6 v15 0 0 0 A16) fun A17 => zbV (z_M_need N 59 A17) fun A18 => some A18 else (if v1 = 63 then zbP (z_M_look N A2) fun v20 => zbP (z_M_isVariable N v20 A2) fun v21 => (if v21 = 0 then zlet (zsi A2 226 16 1) fun A23 => z_M_statement_183 N A23 else z_M_statement_183 N A2) else zbV (z_M_nested N v1 A2) fun A24 => some A24))) else zbV (z_M_need N 61 A2) fun A25 => zbI (z_M_expression N A25) fun v26 A27 => zbV (z_M_emit N 1 (zi A27 226 14) 1 (zw (v1 - 97)) v26 0 0 A27) fun A28 => zbV (z_M_need N 59 A28) fun A29 => some A29)
/-- PassChainModel.parse()V -/
def z_M_parse_208 (r63 : Int → zA → Option zA) (N : Nat) (s0 : Int) (A : zA) : Option zA := zbV (z_M_statement N A) fun A1 => r63 s0 A1
def z_M_parse_192 (r63 : Int → zA → Option zA) (N : Nat) (x1 : Int) (A : zA) : Option zA := (if x1 = 0 then (if (zi A 226 17) = 0 then z_M_parse_208 r63 N 1 A else z_M_parse_208 r63 N 0 A) else z_M_parse_208 r63 N 1 A)
def z_M_parse_104 (r63 : Int → zA → Option zA) (N : Nat) (x1 : Int) (A : zA) : Option zA := (if x1 = 0 then (if (zi A 226 17) = 0 then (if (zi A 226 15) < 3 then zbP (z_M_look N A) fun v4 => (if v4 = (zw (80 + (zi A 226 15))) then (if (zw ((zi A 226 13) + 1)) < (zi A 226 1) then zrd A 227 128 ((zi A 226 13) + 1) fun v7 => (if v7 = 123 then zlet (zsi A 226 14 (zi A 226 15)) fun A9 => zlet (zsi A9 226 13 ((zi A9 226 13) + 1)) fun A10 => zbV (z_M_enter N 4 A10) fun A11 => r63 x1 A11 else z_M_parse_192 r63 N x1 A) else z_M_parse_192 r63 N x1 A) else z_M_parse_192 r63 N x1 A) else z_M_parse_192 r63 N x1 A) else z_M_parse_192 r63 N x1 A) else z_M_parse_192 r63 N x1 A)
def z_M_parse_216 (N : Nat) (A : zA) : Option zA := (if (zi A 226 16) = 0 then (if 0 < (zi A 226 17) then zlet (zsi A 226 16 1) fun A3 => some A3 else zlet (zsi A 226 16 0) fun A4 => some A4) else zlet (zsi A 226 16 1) fun A5 => some A5)
def z_M_parse_63_b (r63 : Int → zA → Option zA) (N : Nat) (x1 : Int) (A : zA) : Option zA := (if (zi A 226 16) = 0 then (if (zi A 226 13) < (zi A 226 1) then (if 0 < (zi A 226 17) then zbP (z_M_look N A) fun v4 => (if v4 = 125 then zbV (z_M_leave N A) fun A6 => r63 x1 A6 else z_M_parse_104 r63 N x1 A) else z_M_parse_104 r63 N x1 A) else z_M_parse_216 N A) else z_M_parse_216 N A)
def z_M_parse_63_l (N : Nat) : Nat → Int → zA → Option zA
  | 0 => fun _ _ => none
  | n + 1 => fun x1 A => z_M_parse_63_b (z_M_parse_63_l N n) N x1 A
def z_M_parse_63 (N : Nat) (x1 : Int) (A : zA) : Option zA := z_M_parse_63_l N N x1 A
def z_M_parse_36 (N : Nat) (A : zA) : Option zA := zlet (zsi A 226 13 0) fun A1 => zlet (zsi A1 226 14 3) fun A2 => zlet (zsi A2 226 15 0) fun A3 => zlet (zsi A3 226 16 0) fun A4 => zlet (zsi A4 226 17 0) fun A5 => z_M_parse_63 N 0 A5
def z_M_parse_2_b (r2 : Int → zA → Option zA) (N : Nat) (x1 : Int) (A : zA) : Option zA := (if x1 < 4 then zbP (z_M_row N 1 x1 A) fun v2 => zwr A 229 12 v2 0 fun A3 => zbP (z_M_row N 1 x1 A3) fun v4 => zwr A3 230 12 v4 7 fun A5 => r2 (zw (x1 + 1)) A5 else z_M_parse_36 N A)
def z_M_parse_2_l (N : Nat) : Nat → Int → zA → Option zA
  | 0 => fun _ _ => none
  | n + 1 => fun x1 A => z_M_parse_2_b (z_M_parse_2_l N n) N x1 A
def z_M_parse_2 (N : Nat) (x1 : Int) (A : zA) : Option zA := z_M_parse_2_l N N x1 A
def z_M_parse (N : Nat) (A : zA) : Option zA := z_M_parse_2 N 0 A
/-- PassChainModel.fail(I)I -/
def z_M_fail (N : Nat) (x1 : Int) (A : zA) : Option (Int × zA) := zlet (zsi A 226 0 x1) fun A1 => some (0, A1)
/-- PassChainModel.field(IIII)I -/
def z_M_field (N : Nat) (x1 : Int) (x2 : Int) (x3 : Int) (x4 : Int) (A : zA) : Option Int := zbP (z_M_place N x1 x2 x3 A) fun v1 => zrd A 228 14400 (v1 + x4) fun v2 => some v2
/-- PassChainModel.total(I[I)I -/
def z_M_total_237_14_b (r14 : Int → Int → Int → zA → Option Int) (N : Nat) (x1 : Int) (x3 : Int) (x4 : Int) (A : zA) : Option Int := zbP (z_M_row N 1 x1 A) fun v1 => zrd A 229 12 v1 fun v2 => (if x4 < v2 then zbP (z_M_field N 1 x1 x4 0 A) fun v4 => (if v4 = 7 then zbP (z_M_field N 1 x1 x4 2 A) fun v6 => zrd A 237 4 v6 fun v7 => r14 x1 (zw (x3 + v7)) (zw (x4 + 1)) A else r14 x1 (zw (x3 + 0)) (zw (x4 + 1)) A) else some x3)
def z_M_total_237_14_l (N : Nat) : Nat → Int → Int → Int → zA → Option Int
  | 0 => fun _ _ _ _ => none
  | n + 1 => fun x1 x3 x4 A => z_M_total_237_14_b (z_M_total_237_14_l N n) N x1 x3 x4 A
def z_M_total_237_14 (N : Nat) (x1 : Int) (x3 : Int) (x4 : Int) (A : zA) : Option Int := z_M_total_237_14_l N N x1 x3 x4 A
def z_M_total_237 (N : Nat) (x1 : Int) (A : zA) : Option Int := zbP (z_M_row N 1 x1 A) fun v1 => zrd A 229 12 v1 fun v2 => z_M_total_237_14 N x1 v2 0 A
/-- PassChainModel.nest(I)I -/
def z_M_nest_133 (r10 : Int → Int → Int → Int → Int → zA → Option (Int × zA)) (N : Nat) (x1 : Int) (x2 : Int) (x3 : Int) (x4 : Int) (x5 : Int) (s0 : Int) (s1 : Int) (A : zA) : Option (Int × zA) := (if x2 < (zw (s0 + s1)) then r10 x1 (zw (s0 + s1)) x3 x4 (zw (x5 + 1)) A else r10 x1 x2 x3 x4 (zw (x5 + 1)) A)
def z_M_nest_107 (r10 : Int → Int → Int → Int → Int → zA → Option (Int × zA)) (N : Nat) (x1 : Int) (x2 : Int) (x3 : Int) (x4 : Int) (x5 : Int) (x6 : Int) (A : zA) : Option (Int × zA) := (if x6 = 7 then zbP (z_M_field N 1 x1 x5 2 A) fun v2 => zrd A 238 4 v2 fun v3 => z_M_nest_133 r10 N x1 x2 x3 x4 x5 x3 v3 A else z_M_nest_133 r10 N x1 x2 x3 x4 x5 x3 0 A)
def z_M_nest_75 (r10 : Int → Int → Int → Int → Int → zA → Option (Int × zA)) (N : Nat) (x1 : Int) (x2 : Int) (x4 : Int) (x5 : Int) (x6 : Int) (s0 : Int) (s1 : Int) (A : zA) : Option (Int × zA) := (if x6 = 12 then zrd A 233 240 (x4 + (-1)) fun v2 => (if v2 = 10 then z_M_nest_107 r10 N x1 x2 (zw ((zw (s0 + s1)) - 1)) (zw (x4 + (-1))) x5 x6 A else z_M_nest_107 r10 N x1 x2 (zw ((zw (s0 + s1)) - 0)) (zw (x4 + (-1))) x5 x6 A) else z_M_nest_107 r10 N x1 x2 (zw (s0 + s1)) x4 x5 x6 A)
def z_M_nest_50 (r10 : Int → Int → Int → Int → Int → zA → Option (Int × zA)) (N : Nat) (x1 : Int) (x2 : Int) (x3 : Int) (x4 : Int) (x5 : Int) (x6 : Int) (A : zA) : Option (Int × zA) := zwr A 233 240 x4 x6 fun A1 => (if x6 = 10 then z_M_nest_75 r10 N x1 x2 (zw (x4 + 1)) x5 x6 x3 1 A1 else z_M_nest_75 r10 N x1 x2 (zw (x4 + 1)) x5 x6 x3 0 A1)
def z_M_nest_10_b (r10 : Int → Int → Int → Int → Int → zA → Option (Int × zA)) (N : Nat) (x1 : Int) (x2 : Int) (x3 : Int) (x4 : Int) (x5 : Int) (A : zA) : Option (Int × zA) := zbP (z_M_row N 1 x1 A) fun v1 => zrd A 229 12 v1 fun v2 => (if x5 < v2 then zbP (z_M_field N 1 x1 x5 0 A) fun v4 => (if v4 = 10 then z_M_nest_50 r10 N x1 x2 x3 x4 x5 v4 A else (if v4 = 8 then z_M_nest_50 r10 N x1 x2 x3 x4 x5 v4 A else (if v4 = 10 then z_M_nest_75 r10 N x1 x2 x4 x5 v4 x3 1 A else z_M_nest_75 r10 N x1 x2 x4 x5 v4 x3 0 A))) else some (x2, A))
def z_M_nest_10_l (N : Nat) : Nat → Int → Int → Int → Int → Int → zA → Option (Int × zA)
  | 0 => fun _ _ _ _ _ _ => none
  | n + 1 => fun x1 x2 x3 x4 x5 A => z_M_nest_10_b (z_M_nest_10_l N n) N x1 x2 x3 x4 x5 A
def z_M_nest_10 (N : Nat) (x1 : Int) (x2 : Int) (x3 : Int) (x4 : Int) (x5 : Int) (A : zA) : Option (Int × zA) := z_M_nest_10_l N N x1 x2 x3 x4 x5 A
def z_M_nest (N : Nat) (x1 : Int) (A : zA) : Option (Int × zA) := z_M_nest_10 N x1 0 0 0 0 A
/-- PassChainModel.copyItem(II)V -/
def z_M_copyItem_2_b (r2 : Int → Int → Int → zA → Option zA) (N : Nat) (x1 : Int) (x2 : Int) (x3 : Int) (A : zA) : Option zA := (if x3 < 5 then zrd A 228 14400 (x1 + x3) fun v2 => zwr A 228 14400 (x2 + x3) v2 fun A3 => r2 x1 x2 (zw (x3 + 1)) A3 else some A)
def z_M_copyItem_2_l (N : Nat) : Nat → Int → Int → Int → zA → Option zA
  | 0 => fun _ _ _ _ => none
  | n + 1 => fun x1 x2 x3 A => z_M_copyItem_2_b (z_M_copyItem_2_l N n) N x1 x2 x3 A
def z_M_copyItem_2 (N : Nat) (x1 : Int) (x2 : Int) (x3 : Int) (A : zA) : Option zA := z_M_copyItem_2_l N N x1 x2 x3 A
def z_M_copyItem (N : Nat) (x1 : Int) (x2 : Int) (A : zA) : Option zA := z_M_copyItem_2 N x1 x2 0 A
/-- PassChainModel.copyPart(III)V -/
def z_M_copyPart_43_b (r43 : Int → Int → Int → Int → zA → Option zA) (N : Nat) (x1 : Int) (x2 : Int) (x3 : Int) (x4 : Int) (A : zA) : Option zA := zbP (z_M_row N x1 x3 A) fun v1 => zrd A 229 12 v1 fun v2 => (if x4 < v2 then zbP (z_M_place N x1 x3 x4 A) fun v4 => zbP (z_M_place N x2 x3 x4 A) fun v5 => zbV (z_M_copyItem N v4 v5 A) fun A6 => r43 x1 x2 x3 (zw (x4 + 1)) A6 else some A)
def z_M_copyPart_43_l (N : Nat) : Nat → Int → Int → Int → Int → zA → Option zA
  | 0 => fun _ _ _ _ _ => none
  | n + 1 => fun x1 x2 x3 x4 A => z_M_copyPart_43_b (z_M_copyPart_43_l N n) N x1 x2 x3 x4 A
def z_M_copyPart_43 (N : Nat) (x1 : Int) (x2 : Int) (x3 : Int) (x4 : Int) (A : zA) : Option zA := z_M_copyPart_43_l N N x1 x2 x3 x4 A
def z_M_copyPart (N : Nat) (x1 : Int) (x2 : Int) (x3 : Int) (A : zA) : Option zA := zbP (z_M_row N x2 x3 A) fun v1 => zbP (z_M_row N x1 x3 A) fun v2 => zrd A 229 12 v2 fun v3 => zwr A 229 12 v1 v3 fun A4 => zbP (z_M_row N x2 x3 A4) fun v5 => zbP (z_M_row N x1 x3 A4) fun v6 => zrd A4 230 12 v6 fun v7 => zwr A4 230 12 v5 v7 fun A8 => z_M_copyPart_43 N x1 x2 x3 0 A8
/-- PassChainModel.copyState(II)V -/
def z_M_copyState_2_b (r2 : Int → Int → Int → zA → Option zA) (N : Nat) (x1 : Int) (x2 : Int) (x3 : Int) (A : zA) : Option zA := (if x3 < 4 then zbV (z_M_copyPart N x1 x2 x3 A) fun A2 => r2 x1 x2 (zw (x3 + 1)) A2 else some A)
def z_M_copyState_2_l (N : Nat) : Nat → Int → Int → Int → zA → Option zA
  | 0 => fun _ _ _ _ => none
  | n + 1 => fun x1 x2 x3 A => z_M_copyState_2_b (z_M_copyState_2_l N n) N x1 x2 x3 A
def z_M_copyState_2 (N : Nat) (x1 : Int) (x2 : Int) (x3 : Int) (A : zA) : Option zA := z_M_copyState_2_l N N x1 x2 x3 A
def z_M_copyState (N : Nat) (x1 : Int) (x2 : Int) (A : zA) : Option zA := z_M_copyState_2 N x1 x2 0 A
/-- PassChainModel.compile()I -/
def z_M_compile_95 (r31 : Int → Int → zA → Option (Int × zA)) (N : Nat) (x1 : Int) (x2 : Int) (s1 : Int) (s2 : Int) (A : zA) : Option (Int × zA) := zwr A 238 4 s1 s2 fun A1 => (if x1 = 0 then r31 0 (zw (x2 + 1)) A1 else zrd A1 238 4 x2 fun v3 => (if 3 < v3 then r31 0 (zw (x2 + 1)) A1 else zrd A1 237 4 x2 fun v5 => (if 150 < v5 then r31 0 (zw (x2 + 1)) A1 else zbP (z_M_row N 1 x2 A1) fun v7 => zrd A1 230 12 v7 fun v8 => (if 60 < v8 then r31 0 (zw (x2 + 1)) A1 else r31 1 (zw (x2 + 1)) A1))))
def z_M_compile_86 (r31 : Int → Int → zA → Option (Int × zA)) (N : Nat) (x1 : Int) (x2 : Int) (s1 : Int) (A : zA) : Option (Int × zA) := zbI (z_M_nest N x2 A) fun v1 A2 => z_M_compile_95 r31 N x1 x2 s1 v1 A2
def z_M_compile_67 (r31 : Int → Int → zA → Option (Int × zA)) (N : Nat) (x1 : Int) (x2 : Int) (s1 : Int) (s2 : Int) (A : zA) : Option (Int × zA) := zwr A 237 4 s1 s2 fun A1 => (if x2 < (zi A1 226 15) then z_M_compile_86 r31 N x1 x2 x2 A1 else (if x2 = 3 then z_M_compile_86 r31 N x1 x2 x2 A1 else z_M_compile_95 r31 N x1 x2 x2 0 A1))
def z_M_compile_54 (r31 : Int → Int → zA → Option (Int × zA)) (N : Nat) (x1 : Int) (x2 : Int) (s1 : Int) (A : zA) : Option (Int × zA) := zbP (z_M_total_237 N x2 A) fun v1 => z_M_compile_67 r31 N x1 x2 s1 v1 A
def z_M_compile_149 (N : Nat) (x1 : Int) (A : zA) : Option (Int × zA) := (if x1 = 0 then zbI (z_M_fail N 2 A) fun v2 A3 => some (v2, A3) else zlet (zsi A 226 6 (zi A 226 15)) fun A4 => zlet (zsi A4 226 7 0) fun A5 => zlet (zsi A5 226 8 0) fun A6 => zbV (z_M_copyState N 1 0 A6) fun A7 => zbV (z_M_copyState N 1 2 A7) fun A8 => zbP (z_M_row N 0 3 A8) fun v9 => zrd A8 229 12 v9 fun v10 => some (v10, A8))
def z_M_compile_31_b (r31 : Int → Int → zA → Option (Int × zA)) (N : Nat) (x1 : Int) (x2 : Int) (A : zA) : Option (Int × zA) := (if x2 < 4 then (if x2 < (zi A 226 15) then z_M_compile_54 r31 N x1 x2 x2 A else (if x2 = 3 then z_M_compile_54 r31 N x1 x2 x2 A else z_M_compile_67 r31 N x1 x2 x2 0 A)) else z_M_compile_149 N x1 A)
def z_M_compile_31_l (N : Nat) : Nat → Int → Int → zA → Option (Int × zA)
  | 0 => fun _ _ _ => none
  | n + 1 => fun x1 x2 A => z_M_compile_31_b (z_M_compile_31_l N n) N x1 x2 A
def z_M_compile_31 (N : Nat) (x1 : Int) (x2 : Int) (A : zA) : Option (Int × zA) := z_M_compile_31_l N N x1 x2 A
def z_M_compile (N : Nat) (A : zA) : Option (Int × zA) := zlet (zsi A 226 0 0) fun A1 => zbV (z_M_parse N A1) fun A2 => zlet (zsi A2 226 1 0) fun A3 => (if (zi A3 226 16) = 0 then z_M_compile_31 N 1 0 A3 else zbI (z_M_fail N 1 A3) fun v5 A6 => some (v5, A6))
/-- PassChainModel.thrown()I -/
def z_M_thrown (N : Nat) (A : zA) : Option Int := some (zi A 226 0)
/-- java/util/Arrays.fill([JJ)V -/
def z_Ar_fill2_6_b (r6 : Nat → Int64 → Int → Int → zA → Option zA) (N : Nat) (x0 : Nat) (x1 : Int64) (x3 : Int) (x4 : Int) (A : zA) : Option zA := (if x3 < x4 then zwDl A x0 x3 x1 fun A2 => r6 x0 x1 (zw (x3 + 1)) x4 A2 else some A)
def z_Ar_fill2_6_l (N : Nat) : Nat → Nat → Int64 → Int → Int → zA → Option zA
  | 0 => fun _ _ _ _ _ => none
  | n + 1 => fun x0 x1 x3 x4 A => z_Ar_fill2_6_b (z_Ar_fill2_6_l N n) N x0 x1 x3 x4 A
def z_Ar_fill2_6 (N : Nat) (x0 : Nat) (x1 : Int64) (x3 : Int) (x4 : Int) (A : zA) : Option zA := z_Ar_fill2_6_l N N x0 x1 x3 x4 A
def z_Ar_fill2 (N : Nat) (x0 : Nat) (x1 : Int64) (A : zA) : Option zA := zln A x0 fun v1 => z_Ar_fill2_6 N x0 x1 0 v1 A
/-- PassChain$Part.register(II)I -/
def z_Pt_register_47 (N : Nat) (s0 : Int) (A : zA) : Option Int := (if s0 < 0 then some 0 else (if s0 < 60 then some s0 else some 0))
def z_Pt_register_26 (N : Nat) (x0 : Nat) (x1 : Int) (x2 : Int) (s0 : Int) (A : zA) : Option Int := (if s0 = 0 then z_Pt_register_47 N 0 A else zgr A x0 0 fun p2 => zrD A p2 (((x1 * 5) + 1) + x2) fun v3 => z_Pt_register_47 N v3 A)
def z_Pt_register (N : Nat) (x0 : Nat) (x1 : Int) (x2 : Int) (A : zA) : Option Int := (if x1 < 0 then z_Pt_register_26 N x0 x1 x2 0 A else (if x1 < (zi A x0 2) then (if x2 < 0 then z_Pt_register_26 N x0 x1 x2 0 A else (if x2 < 4 then z_Pt_register_26 N x0 x1 x2 1 A else z_Pt_register_26 N x0 x1 x2 0 A)) else z_Pt_register_26 N x0 x1 x2 0 A))
/-- PassChain$Part.addCopy(LPassChain$Part;I)V -/
def z_Pt_addCopy (N : Nat) (x0 : Nat) (x1 : Nat) (x2 : Int) (A : zA) : Option zA := zbP (z_Pt_has N x1 x2 A) fun v1 => (if v1 = 0 then some A else (if (zi A x0 2) < 240 then zbV (z_Pt_makeRoom N x0 (zw ((zi A x0 2) + 1)) A) fun A4 => zgr A4 x1 0 fun p5 => zgr A4 x0 0 fun p6 => zcy A4 p5 (x2 * 5) p6 ((zi A4 x0 2) * 5) 5 fun A7 => zlet (zsi A7 x0 2 ((zi A7 x0 2) + 1)) fun A8 => some A8 else some A))
/-- PassChain$Constants.levelIsThere()Z -/
def z_Co_levelIsThere (N : Nat) (A : zA) : Option Int := (if (zi A 49 4) < 1 then some 0 else (if 24 < (zi A 49 4) then some 0 else some 1))
/-- PassChain$Constants.keep([[J)V -/
def z_Co_keep (N : Nat) (x1 : Nat) (A : zA) : Option zA := zbP (z_Co_levelIsThere N A) fun v1 => (if v1 = 0 then some A else zfe x1 ((zi A 49 4) - 1) fun p3 => zcy A 50 0 p3 0 60 fun A4 => some A4)
/-- PassChain$Constants.goOverIf(LPassChain$Part;ILPassChain$Part;)I -/
def z_Co_goOverIf (N : Nat) (x1 : Nat) (x2 : Int) (x3 : Nat) (A : zA) : Option (Int × zA) := zbP (z_Pt_register N x1 x2 0 A) fun v1 => zrl A 50 60 v1 fun v2 => (if ((lg_cmp v2 (Int64.ofNat 4294967296)).toInt) = 0 then zbV (z_Pt_addCopy N x3 x1 x2 A) fun A4 => zlet (zsi A4 49 4 ((zi A4 49 4) + 1)) fun A5 => zbV (z_Co_keep N 51 A5) fun A6 => some (x2, A6) else zlet (zsi A 49 5 ((zi A 49 5) + 1)) fun A7 => zbP (z_Pt_mate N x1 x2 A7) fun v8 => zbP (z_Pt_mate N x1 v8 A7) fun v9 => zbP (z_Pt_has N x1 v8 A7) fun v10 => (if v10 = 0 then (if ((lg_cmp v2 (Int64.ofNat 0)).toInt) = 0 then some (v8, A7) else some (x2, A7)) else zbP (z_Pt_has N x1 v9 A7) fun v13 => (if v13 = 0 then (if ((lg_cmp v2 (Int64.ofNat 0)).toInt) = 0 then some (v8, A7) else some (x2, A7)) else zwr A7 101 240 v8 1 fun A16 => zwr A16 101 240 v9 1 fun A17 => (if ((lg_cmp v2 (Int64.ofNat 0)).toInt) = 0 then some (v8, A17) else some (x2, A17)))))
/-- PassChain$Constants.recall([[J)V -/
def z_Co_recall (N : Nat) (x1 : Nat) (A : zA) : Option zA := zbP (z_Co_levelIsThere N A) fun v1 => (if v1 = 0 then some A else zfe x1 ((zi A 49 4) - 1) fun p3 => zcy A p3 0 50 0 60 fun A4 => some A4)
/-- PassChain$Constants.turnToLatter()V -/
def z_Co_turnToLatter (N : Nat) (A : zA) : Option zA := zbV (z_Co_keep N 76 A) fun A1 => zbV (z_Co_recall N 51 A1) fun A2 => some A2
/-- PassChain$Part.endOf(I)I -/
def z_Pt_endOf (N : Nat) (x0 : Nat) (x1 : Int) (A : zA) : Option Int := zbP (z_Pt_mate N x0 x1 A) fun v1 => zbP (z_Pt_mate N x0 v1 A) fun v2 => some v2
/-- PassChain$Part.written(I)I -/
def z_Pt_written_16 (N : Nat) (x0 : Nat) (x1 : Int) (A : zA) : Option Int := zbP (z_Pt_register N x0 x1 0 A) fun v1 => some v1
def z_Pt_written (N : Nat) (x0 : Nat) (x1 : Int) (A : zA) : Option Int := zbP (z_Pt_kind N x0 x1 A) fun v1 => (if 3 < v1 then (if v1 = 5 then z_Pt_written_16 N x0 x1 A else some (-1)) else z_Pt_written_16 N x0 x1 A)
/-- java/util/Arrays.rangeCheck(III)V -/
def z_Ar_rangeCheck (N : Nat) (x0 : Int) (x1 : Int) (x2 : Int) (A : zA) : Option zA := (if x2 < x1 then none else (if x1 < 0 then none else (if x0 < x2 then none else some A)))
/-- java/util/Arrays.fill([JIIJ)V -/
def z_Ar_fill3_10_b (r10 : Nat → Int → Int64 → Int → zA → Option zA) (N : Nat) (x0 : Nat) (x2 : Int) (x3 : Int64) (x5 : Int) (A : zA) : Option zA := (if x5 < x2 then zwDl A x0 x5 x3 fun A2 => r10 x0 x2 x3 (zw (x5 + 1)) A2 else some A)
def z_Ar_fill3_10_l (N : Nat) : Nat → Nat → Int → Int64 → Int → zA → Option zA
  | 0 => fun _ _ _ _ _ => none
  | n + 1 => fun x0 x2 x3 x5 A => z_Ar_fill3_10_b (z_Ar_fill3_10_l N n) N x0 x2 x3 x5 A
def z_Ar_fill3_10 (N : Nat) (x0 : Nat) (x2 : Int) (x3 : Int64) (x5 : Int) (A : zA) : Option zA := z_Ar_fill3_10_l N N x0 x2 x3 x5 A
def z_Ar_fill3 (N : Nat) (x0 : Nat) (x1 : Int) (x2 : Int) (x3 : Int64) (A : zA) : Option zA := zln A x0 fun v1 => zbV (z_Ar_rangeCheck N v1 x1 x2 A) fun A2 => z_Ar_fill3_10 N x0 x2 x3 x1 A2
/-- PassChain$Constants.forgetCommon()V -/
def z_Co_forgetCommon (N : Nat) (A : zA) : Option zA := zbV (z_Ar_fill3 N 50 0 6 (Int64.ofNat 4294967296) A) fun A1 => some A1
/-- PassChain$Constants.forgetWritten(LPassChain$Part;I)V -/
def z_Co_forgetWritten_11_b (r11 : Nat → Int → Int → zA → Option zA) (N : Nat) (x1 : Nat) (x3 : Int) (x4 : Int) (A : zA) : Option zA := (if x4 < x3 then zbP (z_Pt_written N x1 x4 A) fun v2 => (if v2 < 0 then zbP (z_Pt_kind N x1 x4 A) fun v4 => (if v4 = 7 then zbV (z_Co_forgetCommon N A) fun A6 => r11 x1 x3 (zw (x4 + 1)) A6 else r11 x1 x3 (zw (x4 + 1)) A) else zwl A 50 60 v2 (Int64.ofNat 4294967296) fun A7 => r11 x1 x3 (zw (x4 + 1)) A7) else some A)
def z_Co_forgetWritten_11_l (N : Nat) : Nat → Nat → Int → Int → zA → Option zA
  | 0 => fun _ _ _ _ => none
  | n + 1 => fun x1 x3 x4 A => z_Co_forgetWritten_11_b (z_Co_forgetWritten_11_l N n) N x1 x3 x4 A
def z_Co_forgetWritten_11 (N : Nat) (x1 : Nat) (x3 : Int) (x4 : Int) (A : zA) : Option zA := z_Co_forgetWritten_11_l N N x1 x3 x4 A
def z_Co_forgetWritten (N : Nat) (x1 : Nat) (x2 : Int) (A : zA) : Option zA := zbP (z_Pt_endOf N x1 x2 A) fun v1 => z_Co_forgetWritten_11 N x1 v1 (zw (x2 + 1)) A
/-- PassChain$Constants.close(Z)V -/
def z_Co_close_24_b (r24 : Int → zA → Option zA) (N : Nat) (x2 : Int) (A : zA) : Option zA := (if x2 < 60 then zrl A 50 60 x2 fun v2 => zfe 76 ((zi A 49 4) - 1) fun p3 => zrDl A p3 x2 fun v4 => (if ((lg_cmp v2 v4).toInt) = 0 then r24 (zw (x2 + 1)) A else zwl A 50 60 x2 (Int64.ofNat 4294967296) fun A6 => r24 (zw (x2 + 1)) A6) else zlet (zsi A 49 4 ((zi A 49 4) - 1)) fun A7 => some A7)
def z_Co_close_24_l (N : Nat) : Nat → Int → zA → Option zA
  | 0 => fun _ _ => none
  | n + 1 => fun x2 A => z_Co_close_24_b (z_Co_close_24_l N n) N x2 A
def z_Co_close_24 (N : Nat) (x2 : Int) (A : zA) : Option zA := z_Co_close_24_l N N x2 A
def z_Co_close (N : Nat) (x1 : Int) (A : zA) : Option zA := (if x1 = 0 then zbV (z_Co_recall N 51 A) fun A2 => zlet (zsi A2 49 4 ((zi A2 49 4) - 1)) fun A3 => some A3 else zbP (z_Co_levelIsThere N A) fun v4 => (if v4 = 0 then zlet (zsi A 49 4 ((zi A 49 4) - 1)) fun A6 => some A6 else z_Co_close_24 N 0 A))
/-- PassChain.workOf(III)I -/
def z_PC_workOf (N : Nat) (x0 : Int) (x1 : Int) (x2 : Int) (A : zA) : Option Int := (if x0 = 0 then some (zw (x1 + x2)) else (if x0 = 1 then some (zw (x1 - x2)) else (if x0 = 2 then some (zw (x1 * x2)) else (if x0 = 3 then (if x2 = 0 then some 0 else if zw x2 = 0 then none else some (zdv x1 x2)) else (if x0 = 4 then (if x1 < x2 then some 1 else some 0) else (if x1 = x2 then some 1 else some 0))))))
/-- PassChain$Constants.worked(IJJ)J -/
def z_Co_worked_31 (N : Nat) (x0 : Int) (x1 : Int64) (x3 : Int64) (A : zA) : Option Int64 := zbP (z_PC_workOf N x0 (x1.toInt32.toInt) (x3.toInt32.toInt) A) fun v1 => some (zil v1)
def z_Co_worked (N : Nat) (x0 : Int) (x1 : Int64) (x3 : Int64) (A : zA) : Option Int64 := (if ((lg_cmp x1 (Int64.ofNat 4294967296)).toInt) = 0 then some (Int64.ofNat 4294967296) else (if ((lg_cmp x3 (Int64.ofNat 4294967296)).toInt) = 0 then some (Int64.ofNat 4294967296) else (if x0 = 3 then (if ((lg_cmp x3 (Int64.ofNat 0)).toInt) = 0 then some (Int64.ofNat 4294967296) else z_Co_worked_31 N x0 x1 x3 A) else z_Co_worked_31 N x0 x1 x3 A)))
/-- PassChain$Constants.valueWritten(LPassChain$Part;I)J -/
def z_Co_valueWritten (N : Nat) (x1 : Nat) (x2 : Int) (A : zA) : Option Int64 := zbP (z_Pt_kind N x1 x2 A) fun v1 => (if v1 = 0 then zbP (z_Pt_number N x1 x2 1 A) fun v2 => some (zil v2) else (if v1 = 1 then zbP (z_Pt_register N x1 x2 1 A) fun v4 => zrl A 50 60 v4 fun v5 => some v5 else (if v1 = 2 then zbP (z_Pt_number N x1 x2 3 A) fun v7 => zbP (z_Pt_register N x1 x2 1 A) fun v8 => zrl A 50 60 v8 fun v9 => zbP (z_Pt_register N x1 x2 2 A) fun v10 => zrl A 50 60 v10 fun v11 => zbJ (z_Co_worked N v7 v9 v11 A) fun v12 => some v12 else some (Int64.ofNat 4294967296))))
/-- PassChain$Constants.goOverPlain(LPassChain$Part;ILPassChain$Part;)V -/
def z_Co_goOverPlain_66 (N : Nat) (x1 : Nat) (x2 : Int) (x4 : Int64) (x6 : Int) (A : zA) : Option zA := (if x6 < 0 then zbP (z_Pt_kind N x1 x2 A) fun v2 => (if v2 = 7 then zbV (z_Co_forgetCommon N A) fun A4 => some A4 else some A) else zwl A 50 60 x6 x4 fun A5 => some A5)
def z_Co_goOverPlain_60 (N : Nat) (x1 : Nat) (x2 : Int) (x3 : Nat) (x4 : Int64) (x6 : Int) (A : zA) : Option zA := zbV (z_Pt_addCopy N x3 x1 x2 A) fun A1 => z_Co_goOverPlain_66 N x1 x2 x4 x6 A1
def z_Co_goOverPlain (N : Nat) (x1 : Nat) (x2 : Int) (x3 : Nat) (A : zA) : Option zA := zbJ (z_Co_valueWritten N x1 x2 A) fun v1 => zbP (z_Pt_written N x1 x2 A) fun v2 => (if v2 < 0 then z_Co_goOverPlain_60 N x1 x2 x3 v1 v2 A else (if ((lg_cmp v1 (Int64.ofNat 4294967296)).toInt) = 0 then z_Co_goOverPlain_60 N x1 x2 x3 v1 v2 A else zbP (z_Pt_kind N x1 x2 A) fun v5 => (if v5 = 0 then z_Co_goOverPlain_60 N x1 x2 x3 v1 v2 A else zbV (z_Pt_add N x3 0 v2 (v1.toInt32.toInt) A) fun A7 => zlet (zsi A7 49 5 ((zi A7 49 5) + 1)) fun A8 => z_Co_goOverPlain_66 N x1 x2 v1 v2 A8)))
/-- PassChain$Constants.goOver(LPassChain$Part;ILPassChain$Part;)I -/
def z_Co_goOver_146 (N : Nat) (x1 : Nat) (x2 : Int) (x3 : Nat) (A : zA) : Option (Int × zA) := zbV (z_Pt_addCopy N x3 x1 x2 A) fun A1 => some (x2, A1)
def z_Co_goOver_131 (N : Nat) (x1 : Nat) (x2 : Int) (x3 : Nat) (s1 : Int) (A : zA) : Option (Int × zA) := zbV (z_Co_close N s1 A) fun A1 => z_Co_goOver_146 N x1 x2 x3 A1
def z_Co_goOver (N : Nat) (x1 : Nat) (x2 : Int) (x3 : Nat) (A : zA) : Option (Int × zA) := zbP (z_Pt_kind N x1 x2 A) fun v1 => (if v1 = 8 then zbI (z_Co_goOverIf N x1 x2 x3 A) fun v2 A3 => some (v2, A3) else (if v1 = 9 then zrd A 101 240 x2 fun v5 => (if v5 = 0 then zbV (z_Co_turnToLatter N A) fun A7 => z_Co_goOver_146 N x1 x2 x3 A7 else zbP (z_Pt_mate N x1 x2 A) fun v8 => some (v8, A)) else (if v1 = 10 then zbV (z_Co_forgetWritten N x1 x2 A) fun A10 => zlet (zsi A10 49 4 ((zi A10 49 4) + 1)) fun A11 => z_Co_goOver_146 N x1 x2 x3 A11 else (if v1 = 11 then zbV (z_Co_keep N 51 A) fun A13 => z_Co_goOver_146 N x1 x2 x3 A13 else (if v1 = 12 then zrd A 101 240 x2 fun v15 => (if v15 = 0 then zbP (z_Pt_mate N x1 x2 A) fun v17 => zbP (z_Pt_kind N x1 v17 A) fun v18 => (if v18 = 8 then z_Co_goOver_131 N x1 x2 x3 1 A else z_Co_goOver_131 N x1 x2 x3 0 A) else some (x2, A)) else zbV (z_Co_goOverPlain N x1 x2 x3 A) fun A21 => some (x2, A21))))))
/-- PassChain$Constants.fold(LPassChain$Part;LPassChain$Part;Z)I -/
def z_Co_fold_94 (N : Nat) (x2 : Nat) (A : zA) : Option (Int × zA) := zbV (z_Pt_link N x2 A) fun A1 => some ((zi A1 49 5), A1)
def z_Co_fold_64_b (r64 : Nat → Nat → Int → zA → Option (Int × zA)) (N : Nat) (x1 : Nat) (x2 : Nat) (x4 : Int) (A : zA) : Option (Int × zA) := (if x4 < (zi A x1 2) then zbI (z_Co_goOver N x1 x4 x2 A) fun v2 A3 => r64 x1 x2 (zw ((zmx x4 v2) + 1)) A3 else z_Co_fold_94 N x2 A)
def z_Co_fold_64_l (N : Nat) : Nat → Nat → Nat → Int → zA → Option (Int × zA)
  | 0 => fun _ _ _ _ => none
  | n + 1 => fun x1 x2 x4 A => z_Co_fold_64_b (z_Co_fold_64_l N n) N x1 x2 x4 A
def z_Co_fold_64 (N : Nat) (x1 : Nat) (x2 : Nat) (x4 : Int) (A : zA) : Option (Int × zA) := z_Co_fold_64_l N N x1 x2 x4 A
def z_Co_fold_29_b (r29 : Nat → Nat → Int → zA → Option (Int × zA)) (N : Nat) (x1 : Nat) (x2 : Nat) (x4 : Int) (A : zA) : Option (Int × zA) := (if x4 < 240 then zwr A 101 240 x4 0 fun A2 => r29 x1 x2 (zw (x4 + 1)) A2 else zlet (zsi A 49 4 0) fun A3 => zlet (zsi A3 49 5 0) fun A4 => z_Co_fold_64 N x1 x2 0 A4)
def z_Co_fold_29_l (N : Nat) : Nat → Nat → Nat → Int → zA → Option (Int × zA)
  | 0 => fun _ _ _ _ => none
  | n + 1 => fun x1 x2 x4 A => z_Co_fold_29_b (z_Co_fold_29_l N n) N x1 x2 x4 A
def z_Co_fold_29 (N : Nat) (x1 : Nat) (x2 : Nat) (x4 : Int) (A : zA) : Option (Int × zA) := z_Co_fold_29_l N N x1 x2 x4 A
def z_Co_fold_23 (N : Nat) (x1 : Nat) (x2 : Nat) (s1 : Int64) (A : zA) : Option (Int × zA) := zbV (z_Ar_fill2 N 50 s1 A) fun A1 => z_Co_fold_29 N x1 x2 0 A1
def z_Co_fold (N : Nat) (x1 : Nat) (x2 : Nat) (x3 : Int) (A : zA) : Option (Int × zA) := zbV (z_Pt_clear N x2 (zi A x1 3) A) fun A1 => (if x3 = 0 then z_Co_fold_23 N x1 x2 (Int64.ofNat 4294967296) A1 else z_Co_fold_23 N x1 x2 (Int64.ofNat 0) A1)
/-- PassChain$Things.dropTo(I)V -/
def z_Th_dropTo_7_b (r7 : Nat → Int → Int → zA → Option zA) (N : Nat) (x0 : Nat) (x1 : Int) (x2 : Int) (A : zA) : Option zA := (if x2 < x1 then some A else (if x2 < 0 then some A else zgr A x0 1 fun p3 => zgr A x0 0 fun p4 => zrD A p4 ((x2 * 7) + 5) fun v5 => zwD A p3 v5 0 fun A6 => zlet (zsi A6 x0 2 ((zi A6 x0 2) - 1)) fun A7 => r7 x0 x1 (zw (x2 + (-1))) A7))
def z_Th_dropTo_7_l (N : Nat) : Nat → Nat → Int → Int → zA → Option zA
  | 0 => fun _ _ _ _ => none
  | n + 1 => fun x0 x1 x2 A => z_Th_dropTo_7_b (z_Th_dropTo_7_l N n) N x0 x1 x2 A
def z_Th_dropTo_7 (N : Nat) (x0 : Nat) (x1 : Int) (x2 : Int) (A : zA) : Option zA := z_Th_dropTo_7_l N N x0 x1 x2 A
def z_Th_dropTo (N : Nat) (x0 : Nat) (x1 : Int) (A : zA) : Option zA := z_Th_dropTo_7 N x0 x1 (zw ((zi A x0 2) - 1)) A
/-- PassChain$Things.slotFor(IIIII)I -/
def z_Th_slotFor_18_b (r18 : Nat → Int → Int → Int → Int → Int → Int → Int → zA → Option Int) (N : Nat) (x0 : Nat) (x2 : Int) (x3 : Int) (x4 : Int) (x5 : Int) (x6 : Int) (x7 : Int) (x8 : Int) (A : zA) : Option Int := (if x8 < x6 then zgr A x0 1 fun p2 => zrD A p2 x7 fun v3 => (if v3 = 0 then some x7 else zgr A x0 1 fun p5 => zrD A p5 x7 fun v6 => zgr A x0 0 fun p7 => zrD A p7 (zw ((v6 - 1) * 7)) fun v8 => (if v8 = x2 then zgr A x0 0 fun p10 => zrD A p10 ((zw ((v6 - 1) * 7)) + 1) fun v11 => (if v11 = x3 then zgr A x0 0 fun p13 => zrD A p13 ((zw ((v6 - 1) * 7)) + 2) fun v14 => (if v14 = x4 then zgr A x0 0 fun p16 => zrD A p16 ((zw ((v6 - 1) * 7)) + 3) fun v17 => (if v17 = x5 then some x7 else r18 x0 x2 x3 x4 x5 x6 (zan (x7 + 1) x6) (zw (x8 + 1)) A) else r18 x0 x2 x3 x4 x5 x6 (zan (x7 + 1) x6) (zw (x8 + 1)) A) else r18 x0 x2 x3 x4 x5 x6 (zan (x7 + 1) x6) (zw (x8 + 1)) A) else r18 x0 x2 x3 x4 x5 x6 (zan (x7 + 1) x6) (zw (x8 + 1)) A)) else some x7)
def z_Th_slotFor_18_l (N : Nat) : Nat → Nat → Int → Int → Int → Int → Int → Int → Int → zA → Option Int
  | 0 => fun _ _ _ _ _ _ _ _ _ => none
  | n + 1 => fun x0 x2 x3 x4 x5 x6 x7 x8 A => z_Th_slotFor_18_b (z_Th_slotFor_18_l N n) N x0 x2 x3 x4 x5 x6 x7 x8 A
def z_Th_slotFor_18 (N : Nat) (x0 : Nat) (x2 : Int) (x3 : Int) (x4 : Int) (x5 : Int) (x6 : Int) (x7 : Int) (x8 : Int) (A : zA) : Option Int := z_Th_slotFor_18_l N N x0 x2 x3 x4 x5 x6 x7 x8 A
def z_Th_slotFor (N : Nat) (x0 : Nat) (x1 : Int) (x2 : Int) (x3 : Int) (x4 : Int) (x5 : Int) (A : zA) : Option Int := zgr A x0 1 fun p1 => zln A p1 fun v2 => z_Th_slotFor_18 N x0 x2 x3 x4 x5 (zw (v2 - 1)) (zan x1 (zw (v2 - 1))) 0 A
/-- PassChain$Things.grow()V -/
def z_Th_grow_93 (r41 : Nat → Int → Int → zA → Option zA) (N : Nat) (x0 : Nat) (x1 : Int) (x2 : Int) (x3 : Int) (A : zA) : Option zA := zgr A x0 1 fun p1 => zwD A p1 x3 (x2 + 1) fun A2 => zgr A2 x0 0 fun p3 => zwD A2 p3 ((x2 * 7) + 5) x3 fun A4 => r41 x0 x1 (zw (x2 + 1)) A4
def z_Th_grow_66_b (r41 : Nat → Int → Int → zA → Option zA) (r66 : Nat → Int → Int → Int → Int → zA → Option zA) (N : Nat) (x0 : Nat) (x1 : Int) (x2 : Int) (x3 : Int) (x4 : Int) (A : zA) : Option zA := (if x4 < x1 then zgr A x0 1 fun p2 => zrD A p2 x3 fun v3 => (if v3 = 0 then z_Th_grow_93 r41 N x0 x1 x2 x3 A else r66 x0 x1 x2 (zan (x3 + 1) x1) (zw (x4 + 1)) A) else z_Th_grow_93 r41 N x0 x1 x2 x3 A)
def z_Th_grow_66_l (r41 : Nat → Int → Int → zA → Option zA) (N : Nat) : Nat → Nat → Int → Int → Int → Int → zA → Option zA
  | 0 => fun _ _ _ _ _ _ => none
  | n + 1 => fun x0 x1 x2 x3 x4 A => z_Th_grow_66_b r41 (z_Th_grow_66_l r41 N n) N x0 x1 x2 x3 x4 A
def z_Th_grow_66 (r41 : Nat → Int → Int → zA → Option zA) (N : Nat) (x0 : Nat) (x1 : Int) (x2 : Int) (x3 : Int) (x4 : Int) (A : zA) : Option zA := z_Th_grow_66_l r41 N N x0 x1 x2 x3 x4 A
def z_Th_grow_41_b (r41 : Nat → Int → Int → zA → Option zA) (N : Nat) (x0 : Nat) (x1 : Int) (x2 : Int) (A : zA) : Option zA := (if x2 < (zi A x0 2) then zgr A x0 0 fun p2 => zrD A p2 ((x2 * 7) + 4) fun v3 => z_Th_grow_66 r41 N x0 x1 x2 (zan v3 x1) 0 A else some A)
def z_Th_grow_41_l (N : Nat) : Nat → Nat → Int → Int → zA → Option zA
  | 0 => fun _ _ _ _ => none
  | n + 1 => fun x0 x1 x2 A => z_Th_grow_41_b (z_Th_grow_41_l N n) N x0 x1 x2 A
def z_Th_grow_41 (N : Nat) (x0 : Nat) (x1 : Int) (x2 : Int) (A : zA) : Option zA := z_Th_grow_41_l N N x0 x1 x2 A
def z_Th_grow (N : Nat) (x0 : Nat) (A : zA) : Option zA := zgr A x0 0 fun p1 => zgr A x0 0 fun p2 => zln A p2 fun v3 => zbR (z_Ar_copyOf N p1 (zw (v3 * 2)) A) fun p4 A5 => zlet (zsr A5 x0 0 (some p4)) fun A6 => zgr A6 x0 1 fun p7 => zln A6 p7 fun v8 => zna A6 0 (v8 * 2) fun p9 A10 => zlet (zsr A10 x0 1 (some p9)) fun A11 => zgr A11 x0 1 fun p12 => zln A11 p12 fun v13 => z_Th_grow_41 N x0 (zw (v13 - 1)) 0 A11
/-- PassChain$Things.make(IIII)I -/
def z_Th_make_110 (N : Nat) (x0 : Nat) (x1 : Int) (x2 : Int) (x3 : Int) (x4 : Int) (x5 : Int) (x6 : Int) (A : zA) : Option (Int × zA) := zgr A x0 0 fun p1 => zwD A p1 (zw ((zi A x0 2) * 7)) x1 fun A2 => zgr A2 x0 0 fun p3 => zwD A2 p3 ((zw ((zi A x0 2) * 7)) + 1) x2 fun A4 => zgr A4 x0 0 fun p5 => zwD A4 p5 ((zw ((zi A x0 2) * 7)) + 2) x3 fun A6 => zgr A6 x0 0 fun p7 => zwD A6 p7 ((zw ((zi A x0 2) * 7)) + 3) x4 fun A8 => zgr A8 x0 0 fun p9 => zwD A8 p9 ((zw ((zi A x0 2) * 7)) + 4) x5 fun A10 => zgr A10 x0 0 fun p11 => zwD A10 p11 ((zw ((zi A x0 2) * 7)) + 5) x6 fun A12 => zgr A12 x0 0 fun p13 => zwD A12 p13 ((zw ((zi A x0 2) * 7)) + 6) (-2) fun A14 => zlet (zsi A14 x0 2 ((zi A14 x0 2) + 1)) fun A15 => zgr A15 x0 1 fun p16 => zwD A15 p16 x6 (zi A15 x0 2) fun A17 => some ((zw ((zi A17 x0 2) - 1)), A17)
def z_Th_make (N : Nat) (x0 : Nat) (x1 : Int) (x2 : Int) (x3 : Int) (x4 : Int) (A : zA) : Option (Int × zA) := zbP (z_Th_slotFor N x0 (zxr (zw ((((((x1 * 31) + x2) * (-1640531535)) + x3) * (-2048144789)) + (x4 * (-1028477387)))) (zuh (zw ((((((x1 * 31) + x2) * (-1640531535)) + x3) * (-2048144789)) + (x4 * (-1028477387)))) 15)) x1 x2 x3 x4 A) fun v1 => zgr A x0 1 fun p2 => zrD A p2 v1 fun v3 => (if v3 = 0 then (if (zi A x0 2) < 65536 then zgr A x0 0 fun p6 => zln A p6 fun v7 => (if v7 < (zw (((zi A x0 2) + 1) * 7)) then zbV (z_Th_grow N x0 A) fun A9 => zbP (z_Th_slotFor N x0 (zxr (zw ((((((x1 * 31) + x2) * (-1640531535)) + x3) * (-2048144789)) + (x4 * (-1028477387)))) (zuh (zw ((((((x1 * 31) + x2) * (-1640531535)) + x3) * (-2048144789)) + (x4 * (-1028477387)))) 15)) x1 x2 x3 x4 A9) fun v10 => z_Th_make_110 N x0 x1 x2 x3 x4 (zxr (zw ((((((x1 * 31) + x2) * (-1640531535)) + x3) * (-2048144789)) + (x4 * (-1028477387)))) (zuh (zw ((((((x1 * 31) + x2) * (-1640531535)) + x3) * (-2048144789)) + (x4 * (-1028477387)))) 15)) v10 A9 else z_Th_make_110 N x0 x1 x2 x3 x4 (zxr (zw ((((((x1 * 31) + x2) * (-1640531535)) + x3) * (-2048144789)) + (x4 * (-1028477387)))) (zuh (zw ((((((x1 * 31) + x2) * (-1640531535)) + x3) * (-2048144789)) + (x4 * (-1028477387)))) 15)) v1 A) else some (0, A)) else zgr A x0 1 fun p11 => zrD A p11 v1 fun v12 => some ((zw (v12 - 1)), A))
/-- PassChain$Names.beginAnew()V -/
def z_Na_beginAnew_20_b (r20 : Int → zA → Option zA) (N : Nat) (x1 : Int) (A : zA) : Option zA := (if x1 < (zi A 102 2) then zbI (z_Th_make N 103 8 x1 0 0 A) fun v2 A3 => zwr A3 106 60 x1 v2 fun A4 => r20 (zw (x1 + 1)) A4 else some A)
def z_Na_beginAnew_20_l (N : Nat) : Nat → Int → zA → Option zA
  | 0 => fun _ _ => none
  | n + 1 => fun x1 A => z_Na_beginAnew_20_b (z_Na_beginAnew_20_l N n) N x1 A
def z_Na_beginAnew_20 (N : Nat) (x1 : Int) (A : zA) : Option zA := z_Na_beginAnew_20_l N N x1 A
def z_Na_beginAnew (N : Nat) (A : zA) : Option zA := zbV (z_Th_dropTo N 103 0 A) fun A1 => zlet (zsi A1 102 3 0) fun A2 => zlet (zsi A2 102 4 0) fun A3 => z_Na_beginAnew_20 N 0 A3
/-- PassChain$Part.reads(I)I -/
def z_Pt_reads (N : Nat) (x0 : Nat) (x1 : Int) (A : zA) : Option Int := zbP (z_Pt_kind N x0 x1 A) fun v1 => zrd A 1 13 v1 fun v2 => some v2
/-- PassChain$Part.readNumber(II)I -/
def z_Pt_readNumber (N : Nat) (x0 : Nat) (x1 : Int) (x2 : Int) (A : zA) : Option Int := zbP (z_Pt_kind N x0 x1 A) fun v1 => zrd A 2 13 v1 fun v2 => some (zw (v2 + x2))
/-- PassChain$Names.leastWith(I)I -/
def z_Na_leastWith_2_b (r2 : Int → Int → zA → Option Int) (N : Nat) (x1 : Int) (x2 : Int) (A : zA) : Option Int := (if x2 < (zi A 102 2) then zrd A 106 60 x2 fun v2 => (if v2 = x1 then some x2 else r2 x1 (zw (x2 + 1)) A) else some (-1))
def z_Na_leastWith_2_l (N : Nat) : Nat → Int → Int → zA → Option Int
  | 0 => fun _ _ _ => none
  | n + 1 => fun x1 x2 A => z_Na_leastWith_2_b (z_Na_leastWith_2_l N n) N x1 x2 A
def z_Na_leastWith_2 (N : Nat) (x1 : Int) (x2 : Int) (A : zA) : Option Int := z_Na_leastWith_2_l N N x1 x2 A
def z_Na_leastWith (N : Nat) (x1 : Int) (A : zA) : Option Int := z_Na_leastWith_2 N x1 0 A
/-- PassChain$Names.readLeast(LPassChain$Part;I)Z -/
def z_Na_readLeast_5_b (r5 : Nat → Int → Int → Int → zA → Option (Int × zA)) (N : Nat) (x1 : Nat) (x2 : Int) (x3 : Int) (x4 : Int) (A : zA) : Option (Int × zA) := zbP (z_Pt_reads N x1 x2 A) fun v1 => (if x4 < v1 then zbP (z_Pt_readNumber N x1 x2 x4 A) fun v3 => zbP (z_Pt_register N x1 x2 v3 A) fun v4 => zrd A 106 60 v4 fun v5 => zbP (z_Na_leastWith N v5 A) fun v6 => (if v6 < 0 then r5 x1 x2 x3 (zw (x4 + 1)) A else (if v6 = v4 then r5 x1 x2 x3 (zw (x4 + 1)) A else zbV (z_Pt_setNumber N x1 x2 v3 v6 A) fun A9 => r5 x1 x2 1 (zw (x4 + 1)) A9)) else (if x3 = 0 ∨ x3 = 1 then some (x3, A) else none))
def z_Na_readLeast_5_l (N : Nat) : Nat → Nat → Int → Int → Int → zA → Option (Int × zA)
  | 0 => fun _ _ _ _ _ => none
  | n + 1 => fun x1 x2 x3 x4 A => z_Na_readLeast_5_b (z_Na_readLeast_5_l N n) N x1 x2 x3 x4 A
def z_Na_readLeast_5 (N : Nat) (x1 : Nat) (x2 : Int) (x3 : Int) (x4 : Int) (A : zA) : Option (Int × zA) := z_Na_readLeast_5_l N N x1 x2 x3 x4 A
def z_Na_readLeast (N : Nat) (x1 : Nat) (x2 : Int) (A : zA) : Option (Int × zA) := z_Na_readLeast_5 N x1 x2 0 0 A
/-- PassChain$Part.becomeMove(III)V -/
def z_Pt_becomeMove (N : Nat) (x0 : Nat) (x1 : Int) (x2 : Int) (x3 : Int) (A : zA) : Option zA := zbP (z_Pt_has N x0 x1 A) fun v1 => (if v1 = 0 then some A else zgr A x0 0 fun p3 => zwD A p3 (x1 * 5) 1 fun A4 => zbV (z_Pt_setNumber N x0 x1 0 x2 A4) fun A5 => zbV (z_Pt_setNumber N x0 x1 1 x3 A5) fun A6 => some A6)
/-- PassChain$Names.becomesMove(LPassChain$Part;II)Z -/
def z_Na_becomesMove (N : Nat) (x1 : Nat) (x2 : Int) (x3 : Int) (A : zA) : Option (Int × zA) := zbP (z_Pt_register N x1 x2 0 A) fun v1 => zbP (z_Na_leastWith N x3 A) fun v2 => zwr A 106 60 v1 x3 fun A3 => (if v2 < 0 then some (0, A3) else zbV (z_Pt_becomeMove N x1 x2 v1 v2 A3) fun A5 => some (1, A5))
/-- PassChain$Names.goOver(LPassChain$Part;I)Z -/
def z_Na_goOver (N : Nat) (x1 : Nat) (x2 : Int) (A : zA) : Option (Int × zA) := zbP (z_Pt_register N x1 x2 0 A) fun v1 => zbP (z_Pt_register N x1 x2 1 A) fun v2 => zrd A 106 60 v2 fun v3 => zbP (z_Pt_kind N x1 x2 A) fun v4 => (if v4 = 0 then zbP (z_Pt_number N x1 x2 1 A) fun v5 => zbI (z_Th_make N 103 0 v5 0 0 A) fun v6 A7 => zwr A7 106 60 v1 v6 fun A8 => some (0, A8) else (if v4 = 1 then zwr A 106 60 v1 v3 fun A10 => some (0, A10) else (if v4 = 2 then zbP (z_Pt_register N x1 x2 2 A) fun v12 => zrd A 106 60 v12 fun v13 => zbP (z_Pt_number N x1 x2 3 A) fun v14 => zbI (z_Th_make N 103 1 v14 v3 v13 A) fun v15 A16 => zbI (z_Na_becomesMove N x1 x2 v15 A16) fun v17 A18 => (if v17 = 0 ∨ v17 = 1 then some (v17, A18) else none) else (if v4 = 3 then zbI (z_Th_make N 103 2 v3 (zi A 102 3) 0 A) fun v20 A21 => zbI (z_Na_becomesMove N x1 x2 v20 A21) fun v22 A23 => (if v22 = 0 ∨ v22 = 1 then some (v22, A23) else none) else (if v4 = 4 then zlet (zsi A 102 3 ((zi A 102 3) + 1)) fun A25 => some (0, A25) else (if v4 = 5 then zbI (z_Th_make N 103 5 (zi A 102 4) 0 0 A) fun v27 A28 => zwr A28 106 60 v1 v27 fun A29 => zlet (zsi A29 102 4 ((zi A29 102 4) + 1)) fun A30 => some (0, A30) else (if v4 = 6 then some (0, A) else zbV (z_Na_beginAnew N A) fun A33 => some (0, A33))))))))
/-- PassChain$Names.share(LPassChain$Part;)I -/
def z_Na_share_21_b (r21 : Nat → Int → Int → zA → Option (Int × zA)) (N : Nat) (x1 : Nat) (x2 : Int) (x3 : Int) (A : zA) : Option (Int × zA) := (if x3 < (zi A x1 2) then zbI (z_Na_readLeast N x1 x3 A) fun v2 A3 => zbI (z_Na_goOver N x1 x3 A3) fun v4 A5 => (if v2 = 0 then (if v4 = 0 then r21 x1 x2 (zw (x3 + 1)) A5 else r21 x1 (zw (x2 + 1)) (zw (x3 + 1)) A5) else r21 x1 (zw (x2 + 1)) (zw (x3 + 1)) A5) else some (x2, A))
def z_Na_share_21_l (N : Nat) : Nat → Nat → Int → Int → zA → Option (Int × zA)
  | 0 => fun _ _ _ _ => none
  | n + 1 => fun x1 x2 x3 A => z_Na_share_21_b (z_Na_share_21_l N n) N x1 x2 x3 A
def z_Na_share_21 (N : Nat) (x1 : Nat) (x2 : Int) (x3 : Int) (A : zA) : Option (Int × zA) := z_Na_share_21_l N N x1 x2 x3 A
def z_Na_share (N : Nat) (x1 : Nat) (A : zA) : Option (Int × zA) := zlet (zsi A 102 2 (zmn (zi A x1 3) 60)) fun A1 => zbV (z_Na_beginAnew N A1) fun A2 => z_Na_share_21 N x1 0 0 A2
/-- PassChain$Mover.neededAt(I)J -/
def z_Mv_neededAt (N : Nat) (x1 : Int) (A : zA) : Option Int64 := (if x1 < 0 then some (Int64.ofNat 0) else (if x1 < 241 then zrl A 108 241 x1 fun v3 => some v3 else some (Int64.ofNat 0)))
/-- PassChain$Mover.readBits(LPassChain$Part;I)J -/
def z_Mv_readBits_5_b (r5 : Nat → Int → Int64 → Int → zA → Option Int64) (N : Nat) (x0 : Nat) (x1 : Int) (x2 : Int64) (x4 : Int) (A : zA) : Option Int64 := zbP (z_Pt_reads N x0 x1 A) fun v1 => (if x4 < v1 then zbP (z_Pt_readNumber N x0 x1 x4 A) fun v3 => zbP (z_Pt_register N x0 x1 v3 A) fun v4 => r5 x0 x1 (x2 ||| (zlsl (Int64.ofNat 1) v4)) (zw (x4 + 1)) A else some x2)
def z_Mv_readBits_5_l (N : Nat) : Nat → Nat → Int → Int64 → Int → zA → Option Int64
  | 0 => fun _ _ _ _ _ => none
  | n + 1 => fun x0 x1 x2 x4 A => z_Mv_readBits_5_b (z_Mv_readBits_5_l N n) N x0 x1 x2 x4 A
def z_Mv_readBits_5 (N : Nat) (x0 : Nat) (x1 : Int) (x2 : Int64) (x4 : Int) (A : zA) : Option Int64 := z_Mv_readBits_5_l N N x0 x1 x2 x4 A
def z_Mv_readBits (N : Nat) (x0 : Nat) (x1 : Int) (A : zA) : Option Int64 := z_Mv_readBits_5 N x0 x1 (Int64.ofNat 0) 0 A
/-- PassChain$Part.isHarmless(I)Z -/
def z_Pt_isHarmless (N : Nat) (x0 : Nat) (x1 : Int) (A : zA) : Option Int := zbP (z_Pt_kind N x0 x1 A) fun v1 => (if v1 = 0 then some 1 else (if v1 = 1 then some 1 else (if v1 = 2 then zbP (z_Pt_number N x0 x1 3 A) fun v5 => (if v5 = 3 then some 0 else some 1) else some 0)))
/-- PassChain$Mover.isNeeded(IJ)Z -/
def z_Mv_isNeeded (N : Nat) (x0 : Int) (x1 : Int64) (A : zA) : Option Int := (if x0 < 0 then some 0 else (if ((lg_cmp ((zlus x1 x0) &&& (Int64.ofNat 1)) (Int64.ofNat 0)).toInt) = 0 then some 0 else some 1))
/-- PassChain$Mover.neededAheadOfPlain(LPassChain$Part;IJJ)J -/
def z_Mv_neededAheadOfPlain_36 (N : Nat) (x2 : Int64) (x4 : Int64) (x6 : Int) (A : zA) : Option Int64 := some ((x2 &&& ((zlsl (Int64.ofNat 1) x6) ^^^ (Int64.ofNat 18446744073709551615))) ||| x4)
def z_Mv_neededAheadOfPlain (N : Nat) (x0 : Nat) (x1 : Int) (x2 : Int64) (x4 : Int64) (A : zA) : Option Int64 := zbP (z_Pt_written N x0 x1 A) fun v1 => (if v1 < 0 then some (x2 ||| x4) else zbP (z_Pt_isHarmless N x0 x1 A) fun v3 => (if v3 = 0 then z_Mv_neededAheadOfPlain_36 N x2 x4 v1 A else zbP (z_Mv_isNeeded N v1 x2 A) fun v5 => (if v5 = 0 then some x2 else z_Mv_neededAheadOfPlain_36 N x2 x4 v1 A)))
/-- PassChain$Mover.neededAhead(LPassChain$Part;I)J -/
def z_Mv_neededAhead (N : Nat) (x1 : Nat) (x2 : Int) (A : zA) : Option Int64 := zbJ (z_Mv_neededAt N (zw (x2 + 1)) A) fun v1 => zbJ (z_Mv_readBits N x1 x2 A) fun v2 => zbP (z_Pt_mate N x1 x2 A) fun v3 => zbP (z_Pt_kind N x1 x2 A) fun v4 => (if v4 = 7 then some ((v1 ||| (Int64.ofNat 63)) ||| v2) else (if v4 = 8 then zbJ (z_Mv_neededAt N (zw (v3 + 1)) A) fun v6 => some ((v1 ||| v6) ||| v2) else (if v4 = 9 then zbJ (z_Mv_neededAt N v3 A) fun v8 => some v8 else (if v4 = 11 then zbJ (z_Mv_neededAt N (zw (v3 + 1)) A) fun v10 => some ((v1 ||| v10) ||| v2) else (if v4 = 12 then zbP (z_Pt_kind N x1 v3 A) fun v12 => (if v12 = 10 then zbJ (z_Mv_neededAt N v3 A) fun v14 => some v14 else some v1) else zbJ (z_Mv_neededAheadOfPlain N x1 x2 v1 v2 A) fun v16 => some v16)))))
/-- PassChain$Mover.findNeeded(LPassChain$Part;Z)V -/
def z_Mv_findNeeded_91 (r38 : Nat → Int → Int → zA → Option zA) (r60 : Nat → Int → Int → Int → zA → Option zA) (N : Nat) (x1 : Nat) (x4 : Int) (x5 : Int) (x6 : Int64) (A : zA) : Option zA := zwl A 108 241 x5 x6 fun A1 => r60 x1 1 x4 (zw (x5 + (-1))) A1
def z_Mv_findNeeded_60_b (r38 : Nat → Int → Int → zA → Option zA) (r60 : Nat → Int → Int → Int → zA → Option zA) (N : Nat) (x1 : Nat) (x3 : Int) (x4 : Int) (x5 : Int) (A : zA) : Option zA := (if x5 < 0 then r38 x1 x3 (zw (x4 + 1)) A else zbJ (z_Mv_neededAhead N x1 x5 A) fun v2 => (if x3 = 0 then zrl A 108 241 x5 fun v4 => (if ((lg_cmp v2 v4).toInt) = 0 then zwl A 108 241 x5 v2 fun A6 => r60 x1 0 x4 (zw (x5 + (-1))) A6 else z_Mv_findNeeded_91 r38 r60 N x1 x4 x5 v2 A) else z_Mv_findNeeded_91 r38 r60 N x1 x4 x5 v2 A))
def z_Mv_findNeeded_60_l (r38 : Nat → Int → Int → zA → Option zA) (N : Nat) : Nat → Nat → Int → Int → Int → zA → Option zA
  | 0 => fun _ _ _ _ _ => none
  | n + 1 => fun x1 x3 x4 x5 A => z_Mv_findNeeded_60_b r38 (z_Mv_findNeeded_60_l r38 N n) N x1 x3 x4 x5 A
def z_Mv_findNeeded_60 (r38 : Nat → Int → Int → zA → Option zA) (N : Nat) (x1 : Nat) (x3 : Int) (x4 : Int) (x5 : Int) (A : zA) : Option zA := z_Mv_findNeeded_60_l r38 N N x1 x3 x4 x5 A
def z_Mv_findNeeded_38_b (r38 : Nat → Int → Int → zA → Option zA) (N : Nat) (x1 : Nat) (x3 : Int) (x4 : Int) (A : zA) : Option zA := (if x3 = 0 then some A else (if x4 < 9000 then z_Mv_findNeeded_60 r38 N x1 0 x4 (zw ((zi A x1 2) - 1)) A else some A))
def z_Mv_findNeeded_38_l (N : Nat) : Nat → Nat → Int → Int → zA → Option zA
  | 0 => fun _ _ _ _ => none
  | n + 1 => fun x1 x3 x4 A => z_Mv_findNeeded_38_b (z_Mv_findNeeded_38_l N n) N x1 x3 x4 A
def z_Mv_findNeeded_38 (N : Nat) (x1 : Nat) (x3 : Int) (x4 : Int) (A : zA) : Option zA := z_Mv_findNeeded_38_l N N x1 x3 x4 A
def z_Mv_findNeeded (N : Nat) (x1 : Nat) (x2 : Int) (A : zA) : Option zA := zbV (z_Ar_fill3 N 108 0 (zi A x1 2) (Int64.ofNat 0) A) fun A1 => (if x2 = 0 then zwl A1 108 241 (zi A1 x1 2) (Int64.ofNat 0) fun A3 => z_Mv_findNeeded_38 N x1 1 0 A3 else zwl A1 108 241 (zi A1 x1 2) (Int64.ofNat 63) fun A4 => z_Mv_findNeeded_38 N x1 1 0 A4)
/-- PassChain$Mover.drop(LPassChain$Part;LPassChain$Part;Z)I -/
def z_Mv_drop_55 (r17 : Nat → Nat → Int → zA → Option (Int × zA)) (N : Nat) (x1 : Nat) (x2 : Nat) (x4 : Int) (A : zA) : Option (Int × zA) := zbV (z_Pt_addCopy N x2 x1 x4 A) fun A1 => r17 x1 x2 (zw (x4 + 1)) A1
def z_Mv_drop_68 (N : Nat) (x1 : Nat) (x2 : Nat) (A : zA) : Option (Int × zA) := zbV (z_Pt_link N x2 A) fun A1 => some ((zw ((zi A1 x1 2) - (zi A1 x2 2))), A1)
def z_Mv_drop_17_b (r17 : Nat → Nat → Int → zA → Option (Int × zA)) (N : Nat) (x1 : Nat) (x2 : Nat) (x4 : Int) (A : zA) : Option (Int × zA) := (if x4 < (zi A x1 2) then zbP (z_Pt_isHarmless N x1 x4 A) fun v2 => (if v2 = 0 then z_Mv_drop_55 r17 N x1 x2 x4 A else zbP (z_Pt_written N x1 x4 A) fun v4 => zbJ (z_Mv_neededAt N (zw (x4 + 1)) A) fun v5 => zbP (z_Mv_isNeeded N v4 v5 A) fun v6 => (if v6 = 0 then r17 x1 x2 (zw (x4 + 1)) A else z_Mv_drop_55 r17 N x1 x2 x4 A)) else z_Mv_drop_68 N x1 x2 A)
def z_Mv_drop_17_l (N : Nat) : Nat → Nat → Nat → Int → zA → Option (Int × zA)
  | 0 => fun _ _ _ _ => none
  | n + 1 => fun x1 x2 x4 A => z_Mv_drop_17_b (z_Mv_drop_17_l N n) N x1 x2 x4 A
def z_Mv_drop_17 (N : Nat) (x1 : Nat) (x2 : Nat) (x4 : Int) (A : zA) : Option (Int × zA) := z_Mv_drop_17_l N N x1 x2 x4 A
def z_Mv_drop (N : Nat) (x1 : Nat) (x2 : Nat) (x3 : Int) (A : zA) : Option (Int × zA) := zbV (z_Mv_findNeeded N x1 x3 A) fun A1 => zbV (z_Pt_clear N x2 (zi A1 x1 3) A1) fun A2 => z_Mv_drop_17 N x1 x2 0 A2
/-- java/util/Arrays.fill([II)V -/
def z_Ar_fill_5_b (r5 : Nat → Int → Int → Int → zA → Option zA) (N : Nat) (x0 : Nat) (x1 : Int) (x2 : Int) (x3 : Int) (A : zA) : Option zA := (if x2 < x3 then zwD A x0 x2 x1 fun A2 => r5 x0 x1 (zw (x2 + 1)) x3 A2 else some A)
def z_Ar_fill_5_l (N : Nat) : Nat → Nat → Int → Int → Int → zA → Option zA
  | 0 => fun _ _ _ _ _ => none
  | n + 1 => fun x0 x1 x2 x3 A => z_Ar_fill_5_b (z_Ar_fill_5_l N n) N x0 x1 x2 x3 A
def z_Ar_fill_5 (N : Nat) (x0 : Nat) (x1 : Int) (x2 : Int) (x3 : Int) (A : zA) : Option zA := z_Ar_fill_5_l N N x0 x1 x2 x3 A
def z_Ar_fill (N : Nat) (x0 : Nat) (x1 : Int) (A : zA) : Option zA := zln A x0 fun v1 => z_Ar_fill_5 N x0 x1 0 v1 A
/-- PassChain$Mover.countWriters(LPassChain$Part;II)V -/
def z_Mv_countWriters_58_b (r11 : Nat → Int → Int → zA → Option zA) (r58 : Nat → Int → Int → Int → zA → Option zA) (N : Nat) (x1 : Nat) (x3 : Int) (x4 : Int) (x6 : Int) (A : zA) : Option zA := (if x6 < 6 then zrd A 109 60 x6 fun v2 => zwr A 109 60 x6 (v2 + 1) fun A3 => r58 x1 x3 x4 (zw (x6 + 1)) A3 else r11 x1 x3 (zw (x4 + 1)) A)
def z_Mv_countWriters_58_l (r11 : Nat → Int → Int → zA → Option zA) (N : Nat) : Nat → Nat → Int → Int → Int → zA → Option zA
  | 0 => fun _ _ _ _ _ => none
  | n + 1 => fun x1 x3 x4 x6 A => z_Mv_countWriters_58_b r11 (z_Mv_countWriters_58_l r11 N n) N x1 x3 x4 x6 A
def z_Mv_countWriters_58 (r11 : Nat → Int → Int → zA → Option zA) (N : Nat) (x1 : Nat) (x3 : Int) (x4 : Int) (x6 : Int) (A : zA) : Option zA := z_Mv_countWriters_58_l r11 N N x1 x3 x4 x6 A
def z_Mv_countWriters_11_b (r11 : Nat → Int → Int → zA → Option zA) (N : Nat) (x1 : Nat) (x3 : Int) (x4 : Int) (A : zA) : Option zA := (if x4 < x3 then zbP (z_Pt_written N x1 x4 A) fun v2 => (if v2 < 0 then zbP (z_Pt_kind N x1 x4 A) fun v4 => (if v4 = 7 then z_Mv_countWriters_58 r11 N x1 x3 x4 0 A else r11 x1 x3 (zw (x4 + 1)) A) else zrd A 109 60 v2 fun v6 => zwr A 109 60 v2 (v6 + 1) fun A7 => r11 x1 x3 (zw (x4 + 1)) A7) else some A)
def z_Mv_countWriters_11_l (N : Nat) : Nat → Nat → Int → Int → zA → Option zA
  | 0 => fun _ _ _ _ => none
  | n + 1 => fun x1 x3 x4 A => z_Mv_countWriters_11_b (z_Mv_countWriters_11_l N n) N x1 x3 x4 A
def z_Mv_countWriters_11 (N : Nat) (x1 : Nat) (x3 : Int) (x4 : Int) (A : zA) : Option zA := z_Mv_countWriters_11_l N N x1 x3 x4 A
def z_Mv_countWriters (N : Nat) (x1 : Nat) (x2 : Int) (x3 : Int) (A : zA) : Option zA := zbV (z_Ar_fill N 109 0 A) fun A1 => z_Mv_countWriters_11 N x1 x3 x2 A1
/-- PassChain$Mover.mayGoAhead(LPassChain$Part;I)Z -/
def z_Mv_mayGoAhead_35_b (r35 : Nat → Int → Int → zA → Option Int) (N : Nat) (x1 : Nat) (x2 : Int) (x4 : Int) (A : zA) : Option Int := zbP (z_Pt_reads N x1 x2 A) fun v1 => (if x4 < v1 then zbP (z_Pt_readNumber N x1 x2 x4 A) fun v3 => zbP (z_Pt_register N x1 x2 v3 A) fun v4 => zrd A 109 60 v4 fun v5 => (if v5 = 0 then r35 x1 x2 (zw (x4 + 1)) A else some 0) else some 1)
def z_Mv_mayGoAhead_35_l (N : Nat) : Nat → Nat → Int → Int → zA → Option Int
  | 0 => fun _ _ _ _ => none
  | n + 1 => fun x1 x2 x4 A => z_Mv_mayGoAhead_35_b (z_Mv_mayGoAhead_35_l N n) N x1 x2 x4 A
def z_Mv_mayGoAhead_35 (N : Nat) (x1 : Nat) (x2 : Int) (x4 : Int) (A : zA) : Option Int := z_Mv_mayGoAhead_35_l N N x1 x2 x4 A
def z_Mv_mayGoAhead (N : Nat) (x1 : Nat) (x2 : Int) (A : zA) : Option Int := zbP (z_Pt_written N x1 x2 A) fun v1 => zbP (z_Pt_isHarmless N x1 x2 A) fun v2 => (if v2 = 0 then some 0 else (if v1 < 7 then some 0 else zrd A 109 60 v1 fun v5 => (if v5 = 1 then z_Mv_mayGoAhead_35 N x1 x2 0 A else some 0)))
/-- PassChain$Part.exchange(II)V -/
def z_Pt_exchange_18_b (r18 : Nat → Int → Int → Int → zA → Option zA) (N : Nat) (x0 : Nat) (x1 : Int) (x2 : Int) (x3 : Int) (A : zA) : Option zA := (if x3 < 5 then zgr A x0 0 fun p2 => zrD A p2 ((x1 * 5) + x3) fun v3 => zgr A x0 0 fun p4 => zgr A x0 0 fun p5 => zrD A p5 ((x2 * 5) + x3) fun v6 => zwD A p4 ((x1 * 5) + x3) v6 fun A7 => zgr A7 x0 0 fun p8 => zwD A7 p8 ((x2 * 5) + x3) v3 fun A9 => r18 x0 x1 x2 (zw (x3 + 1)) A9 else some A)
def z_Pt_exchange_18_l (N : Nat) : Nat → Nat → Int → Int → Int → zA → Option zA
  | 0 => fun _ _ _ _ _ => none
  | n + 1 => fun x0 x1 x2 x3 A => z_Pt_exchange_18_b (z_Pt_exchange_18_l N n) N x0 x1 x2 x3 A
def z_Pt_exchange_18 (N : Nat) (x0 : Nat) (x1 : Int) (x2 : Int) (x3 : Int) (A : zA) : Option zA := z_Pt_exchange_18_l N N x0 x1 x2 x3 A
def z_Pt_exchange (N : Nat) (x0 : Nat) (x1 : Int) (x2 : Int) (A : zA) : Option zA := zbP (z_Pt_has N x0 x1 A) fun v1 => (if v1 = 0 then some A else zbP (z_Pt_has N x0 x2 A) fun v3 => (if v3 = 0 then some A else z_Pt_exchange_18 N x0 x1 x2 0 A))
/-- PassChain$Mover.hoistAhead(LPassChain$Part;I)I -/
def z_Mv_hoistAhead_63_b (r27 : Nat → Int → Int → Int → Int → zA → Option (Int × zA)) (r63 : Nat → Int → Int → Int → Int → Int → zA → Option (Int × zA)) (N : Nat) (x1 : Nat) (x2 : Int) (x3 : Int) (x4 : Int) (x5 : Int) (x6 : Int) (A : zA) : Option (Int × zA) := (if (zw (x2 + x4)) < x6 then zbV (z_Pt_exchange N x1 x6 (zw (x6 - 1)) A) fun A2 => r63 x1 x2 x3 x4 x5 (zw (x6 + (-1))) A2 else r27 x1 x2 x3 (zw (x4 + 1)) (zw (x5 + 1)) A)
def z_Mv_hoistAhead_63_l (r27 : Nat → Int → Int → Int → Int → zA → Option (Int × zA)) (N : Nat) : Nat → Nat → Int → Int → Int → Int → Int → zA → Option (Int × zA)
  | 0 => fun _ _ _ _ _ _ _ => none
  | n + 1 => fun x1 x2 x3 x4 x5 x6 A => z_Mv_hoistAhead_63_b r27 (z_Mv_hoistAhead_63_l r27 N n) N x1 x2 x3 x4 x5 x6 A
def z_Mv_hoistAhead_63 (r27 : Nat → Int → Int → Int → Int → zA → Option (Int × zA)) (N : Nat) (x1 : Nat) (x2 : Int) (x3 : Int) (x4 : Int) (x5 : Int) (x6 : Int) (A : zA) : Option (Int × zA) := z_Mv_hoistAhead_63_l r27 N N x1 x2 x3 x4 x5 x6 A
def z_Mv_hoistAhead_27_b (r27 : Nat → Int → Int → Int → Int → zA → Option (Int × zA)) (N : Nat) (x1 : Nat) (x2 : Int) (x3 : Int) (x4 : Int) (x5 : Int) (A : zA) : Option (Int × zA) := (if x5 < x3 then zbP (z_Mv_mayGoAhead N x1 x5 A) fun v2 => (if v2 = 0 then r27 x1 x2 x3 x4 (zw (x5 + 1)) A else zbP (z_Pt_register N x1 x5 0 A) fun v4 => zrd A 109 60 v4 fun v5 => zwr A 109 60 v4 (v5 - 1) fun A6 => z_Mv_hoistAhead_63 r27 N x1 x2 x3 x4 x5 x5 A6) else some (x4, A))
def z_Mv_hoistAhead_27_l (N : Nat) : Nat → Nat → Int → Int → Int → Int → zA → Option (Int × zA)
  | 0 => fun _ _ _ _ _ _ => none
  | n + 1 => fun x1 x2 x3 x4 x5 A => z_Mv_hoistAhead_27_b (z_Mv_hoistAhead_27_l N n) N x1 x2 x3 x4 x5 A
def z_Mv_hoistAhead_27 (N : Nat) (x1 : Nat) (x2 : Int) (x3 : Int) (x4 : Int) (x5 : Int) (A : zA) : Option (Int × zA) := z_Mv_hoistAhead_27_l N N x1 x2 x3 x4 x5 A
def z_Mv_hoistAhead (N : Nat) (x1 : Nat) (x2 : Int) (A : zA) : Option (Int × zA) := zbP (z_Pt_mate N x1 x2 A) fun v1 => zbP (z_Pt_endOf N x1 x2 A) fun v2 => zbV (z_Mv_countWriters N x1 (zw (x2 + 1)) v2 A) fun A3 => z_Mv_hoistAhead_27 N x1 x2 v1 0 (zw (x2 + 1)) A3
/-- PassChain$Mover.hoist(LPassChain$Part;)I -/
def z_Mv_hoist_9_b (r9 : Nat → Int → Int → zA → Option (Int × zA)) (N : Nat) (x1 : Nat) (x2 : Int) (x3 : Int) (A : zA) : Option (Int × zA) := (if x3 < 0 then some (x2, A) else zbP (z_Pt_kind N x1 x3 A) fun v2 => (if v2 = 10 then zbI (z_Mv_hoistAhead N x1 x3 A) fun v4 A5 => zbV (z_Pt_link N x1 A5) fun A6 => r9 x1 (zw (x2 + v4)) (zw (x3 + (-1))) A6 else r9 x1 x2 (zw (x3 + (-1))) A))
def z_Mv_hoist_9_l (N : Nat) : Nat → Nat → Int → Int → zA → Option (Int × zA)
  | 0 => fun _ _ _ _ => none
  | n + 1 => fun x1 x2 x3 A => z_Mv_hoist_9_b (z_Mv_hoist_9_l N n) N x1 x2 x3 A
def z_Mv_hoist_9 (N : Nat) (x1 : Nat) (x2 : Int) (x3 : Int) (A : zA) : Option (Int × zA) := z_Mv_hoist_9_l N N x1 x2 x3 A
def z_Mv_hoist (N : Nat) (x1 : Nat) (A : zA) : Option (Int × zA) := z_Mv_hoist_9 N x1 0 (zw ((zi A x1 2) - 1)) A
/-- PassChain$Mover.fitsIn(LPassChain$Part;LPassChain$Part;)Z -/
def z_Mv_fitsIn (N : Nat) (x0 : Nat) (x1 : Nat) (A : zA) : Option Int := (if 60 < (zw (((zi A x0 3) + (zi A x1 3)) - 6)) then some 0 else some 1)
/-- PassChain$Mover.shiftRegisters(LPassChain$Part;II)V -/
def z_Mv_shiftRegisters_26_b (r26 : Nat → Int → Int → Int → zA → Option zA) (N : Nat) (x0 : Nat) (x1 : Int) (x2 : Int) (x3 : Int) (A : zA) : Option zA := zbP (z_Pt_reads N x0 x1 A) fun v1 => (if x3 < v1 then zbP (z_Pt_readNumber N x0 x1 x3 A) fun v3 => zbP (z_Pt_number N x0 x1 v3 A) fun v4 => (if v4 < 6 then r26 x0 x1 x2 (zw (x3 + 1)) A else zbP (z_Pt_number N x0 x1 v3 A) fun v6 => zbV (z_Pt_setNumber N x0 x1 v3 (zw (v6 + x2)) A) fun A7 => r26 x0 x1 x2 (zw (x3 + 1)) A7) else some A)
def z_Mv_shiftRegisters_26_l (N : Nat) : Nat → Nat → Int → Int → Int → zA → Option zA
  | 0 => fun _ _ _ _ _ => none
  | n + 1 => fun x0 x1 x2 x3 A => z_Mv_shiftRegisters_26_b (z_Mv_shiftRegisters_26_l N n) N x0 x1 x2 x3 A
def z_Mv_shiftRegisters_26 (N : Nat) (x0 : Nat) (x1 : Int) (x2 : Int) (x3 : Int) (A : zA) : Option zA := z_Mv_shiftRegisters_26_l N N x0 x1 x2 x3 A
def z_Mv_shiftRegisters (N : Nat) (x0 : Nat) (x1 : Int) (x2 : Int) (A : zA) : Option zA := zbP (z_Pt_written N x0 x1 A) fun v1 => (if v1 < 6 then z_Mv_shiftRegisters_26 N x0 x1 x2 0 A else zbP (z_Pt_number N x0 x1 0 A) fun v3 => zbV (z_Pt_setNumber N x0 x1 0 (zw (v3 + x2)) A) fun A4 => z_Mv_shiftRegisters_26 N x0 x1 x2 0 A4)
/-- PassChain$Mover.putIn(LPassChain$Part;LPassChain$Part;I)V -/
def z_Mv_putIn_54 (N : Nat) (x0 : Nat) (x1 : Nat) (A : zA) : Option zA := zlet (zsi A x1 3 ((zi A x1 3) + ((zi A x0 3) - 6))) fun A1 => some A1
def z_Mv_putIn_21_b (r21 : Nat → Nat → Int → Int → zA → Option zA) (N : Nat) (x0 : Nat) (x1 : Nat) (x3 : Int) (x4 : Int) (A : zA) : Option zA := (if x4 < (zi A x0 2) then zbV (z_Pt_addCopy N x1 x0 x4 A) fun A2 => zbV (z_Mv_shiftRegisters N x1 (zw ((zi A2 x1 2) - 1)) x3 A2) fun A3 => r21 x0 x1 x3 (zw (x4 + 1)) A3 else z_Mv_putIn_54 N x0 x1 A)
def z_Mv_putIn_21_l (N : Nat) : Nat → Nat → Nat → Int → Int → zA → Option zA
  | 0 => fun _ _ _ _ _ => none
  | n + 1 => fun x0 x1 x3 x4 A => z_Mv_putIn_21_b (z_Mv_putIn_21_l N n) N x0 x1 x3 x4 A
def z_Mv_putIn_21 (N : Nat) (x0 : Nat) (x1 : Nat) (x3 : Int) (x4 : Int) (A : zA) : Option zA := z_Mv_putIn_21_l N N x0 x1 x3 x4 A
def z_Mv_putIn (N : Nat) (x0 : Nat) (x1 : Nat) (x2 : Int) (A : zA) : Option zA := zbV (z_Pt_add N x1 1 (zi A x1 3) x2 A) fun A1 => z_Mv_putIn_21 N x0 x1 (zw ((zi A x1 3) - 6)) 0 A1
/-- PassChain$Mover.inline(LPassChain$Part;LPassChain$Part;LPassChain$Rows;)I -/
def z_Mv_inline_92 (r14 : Nat → Nat → Nat → Int → Int → zA → Option (Int × zA)) (N : Nat) (x1 : Nat) (x2 : Nat) (x3 : Nat) (x4 : Int) (x5 : Int) (A : zA) : Option (Int × zA) := zbV (z_Pt_addCopy N x2 x1 x5 A) fun A1 => r14 x1 x2 x3 x4 (zw (x5 + 1)) A1
def z_Mv_inline_105 (N : Nat) (x2 : Nat) (x4 : Int) (A : zA) : Option (Int × zA) := zbV (z_Pt_link N x2 A) fun A1 => some (x4, A1)
def z_Mv_inline_14_b (r14 : Nat → Nat → Nat → Int → Int → zA → Option (Int × zA)) (N : Nat) (x1 : Nat) (x2 : Nat) (x3 : Nat) (x4 : Int) (x5 : Int) (A : zA) : Option (Int × zA) := (if x5 < (zi A x1 2) then zbP (z_Pt_number N x1 x5 1 A) fun v2 => zbP (z_Pt_kind N x1 x5 A) fun v3 => (if v3 = 7 then (if v2 < 0 then z_Mv_inline_92 r14 N x1 x2 x3 x4 x5 A else (if v2 < 3 then zgf x3 0 fun p7 => zfe p7 v2 fun p8 => zcs p8 (false, 3, 4) <| zbP (z_Mv_fitsIn N x2 p8 A) fun v9 => (if v9 = 0 then z_Mv_inline_92 r14 N x1 x2 x3 x4 x5 A else zgf x3 0 fun p11 => zfe p11 v2 fun p12 => zcs p12 (false, 3, 4) <| zbP (z_Pt_number N x1 x5 0 A) fun v13 => zbV (z_Mv_putIn N p12 x2 v13 A) fun A14 => r14 x1 x2 x3 (zw (x4 + 1)) (zw (x5 + 1)) A14) else z_Mv_inline_92 r14 N x1 x2 x3 x4 x5 A)) else z_Mv_inline_92 r14 N x1 x2 x3 x4 x5 A) else z_Mv_inline_105 N x2 x4 A)
def z_Mv_inline_14_l (N : Nat) : Nat → Nat → Nat → Nat → Int → Int → zA → Option (Int × zA)
  | 0 => fun _ _ _ _ _ _ => none
  | n + 1 => fun x1 x2 x3 x4 x5 A => z_Mv_inline_14_b (z_Mv_inline_14_l N n) N x1 x2 x3 x4 x5 A
def z_Mv_inline_14 (N : Nat) (x1 : Nat) (x2 : Nat) (x3 : Nat) (x4 : Int) (x5 : Int) (A : zA) : Option (Int × zA) := z_Mv_inline_14_l N N x1 x2 x3 x4 x5 A
def z_Mv_inline (N : Nat) (x1 : Nat) (x2 : Nat) (x3 : Nat) (A : zA) : Option (Int × zA) := zbV (z_Pt_clear N x2 (zi A x1 3) A) fun A1 => z_Mv_inline_14 N x1 x2 x3 0 0 A1
/-- PassChain.changesOfPass(II)I -/
def z_PC_changesOfPass_69 (N : Nat) (s1 : Nat) (s2 : Nat) (s3 : Int) (A : zA) : Option (Int × zA) := zbI (z_Co_fold N s1 s2 s3 A) fun v1 A2 => some (v1, A2)
def z_PC_changesOfPass_100 (N : Nat) (s1 : Nat) (s2 : Nat) (s3 : Int) (A : zA) : Option (Int × zA) := zbI (z_Mv_drop N s1 s2 s3 A) fun v1 A2 => some (v1, A2)
def z_PC_changesOfPass (N : Nat) (x1 : Int) (x2 : Int) (A : zA) : Option (Int × zA) := zgr A 4 2 fun p1 => zcs p1 (false, 2, 2) <| zgf p1 0 fun p2 => zfe p2 x2 fun p3 => zcs p3 (false, 3, 4) <| zgr A 4 3 fun p4 => zcs p4 (false, 2, 2) <| zgf p4 0 fun p5 => zfe p5 x2 fun p6 => zcs p6 (false, 3, 4) <| (if x1 = 0 then (if x2 = 3 then z_PC_changesOfPass_69 N p3 p6 1 A else z_PC_changesOfPass_69 N p3 p6 0 A) else (if x1 = 1 then zbI (z_Na_share N p6 A) fun v9 A10 => some (v9, A10) else (if x1 = 2 then (if x2 = 3 then z_PC_changesOfPass_100 N p3 p6 0 A else z_PC_changesOfPass_100 N p3 p6 1 A) else (if x1 = 3 then zbI (z_Mv_hoist N p6 A) fun v14 A15 => some (v14, A15) else zgr A 4 3 fun p17 => zcs p17 (false, 2, 2) <| zbI (z_Mv_inline N p3 p6 p17 A) fun v18 A19 => some (v18, A19)))))
/-- PassChain$Tale.clear()V -/
def z_Ta_clear (N : Nat) (x0 : Nat) (A : zA) : Option zA := zlet (zsi A x0 2 0) fun A1 => some A1
/-- PassChain$Things.isNumber(I)Z -/
def z_Th_isNumber (N : Nat) (x0 : Nat) (x1 : Int) (A : zA) : Option Int := (if x1 < 0 then some 0 else (if x1 < (zi A x0 2) then zgr A x0 0 fun p3 => zrD A p3 (x1 * 7) fun v4 => (if v4 = 0 then some 1 else some 0) else some 0))
/-- PassChain$Things.value(I)I -/
def z_Th_value (N : Nat) (x0 : Nat) (x1 : Int) (A : zA) : Option Int := (if x1 < 0 then some 0 else (if x1 < (zi A x0 2) then zgr A x0 0 fun p3 => zrD A p3 ((x1 * 7) + 1) fun v4 => some v4 else some 0))
/-- PassChain$Walker.copyAll([I[I)V -/
def z_Wk_copyAll (N : Nat) (x0 : Nat) (x1 : Nat) (A : zA) : Option zA := zcy A x0 0 x1 0 61 fun A1 => some A1
/-- PassChain$Tale.say(II)V -/
def z_Ta_say (N : Nat) (x0 : Nat) (x1 : Int) (x2 : Int) (A : zA) : Option zA := (if (zi A x0 2) < 150 then zgf x0 0 fun p2 => zwD A p2 (zi A x0 2) x1 fun A3 => zgf x0 1 fun p4 => zwD A3 p4 (zi A3 x0 2) x2 fun A5 => zlet (zsi A5 x0 2 ((zi A5 x0 2) + 1)) fun A6 => some A6 else some A)
/-- PassChain$Walker.say(II)V -/
def z_Wk_say (N : Nat) (x1 : Int) (x2 : Int) (A : zA) : Option zA := (if (zi A 110 10) = 0 then zgr A 110 8 fun p2 => zcs p2 (false, 9, 5) <| zbV (z_Ta_say N p2 x1 x2 A) fun A3 => some A3 else some A)
/-- PassChain$Walker.begin([I[I)V -/
def z_Wk_begin_2_b (r2 : Nat → Nat → Int → zA → Option zA) (N : Nat) (x1 : Nat) (x2 : Nat) (x3 : Int) (A : zA) : Option zA := (if x3 < 61 then zgr A 110 5 fun p2 => zrD A x2 x3 fun v3 => (if v3 = (-1) then zrD A x1 x3 fun v5 => zwD A p2 x3 v5 fun A6 => r2 x1 x2 (zw (x3 + 1)) A6 else zrD A x2 x3 fun v7 => zwD A p2 x3 v7 fun A8 => r2 x1 x2 (zw (x3 + 1)) A8) else some A)
def z_Wk_begin_2_l (N : Nat) : Nat → Nat → Nat → Int → zA → Option zA
  | 0 => fun _ _ _ _ => none
  | n + 1 => fun x1 x2 x3 A => z_Wk_begin_2_b (z_Wk_begin_2_l N n) N x1 x2 x3 A
def z_Wk_begin_2 (N : Nat) (x1 : Nat) (x2 : Nat) (x3 : Int) (A : zA) : Option zA := z_Wk_begin_2_l N N x1 x2 x3 A
def z_Wk_begin (N : Nat) (x1 : Nat) (x2 : Nat) (A : zA) : Option zA := z_Wk_begin_2 N x1 x2 0 A
/-- PassChain$Walker.leaveUnchanged([I)Z -/
def z_Wk_leaveUnchanged_4_b (r4 : Nat → Int → Int → zA → Option (Int × zA)) (N : Nat) (x1 : Nat) (x2 : Int) (x3 : Int) (A : zA) : Option (Int × zA) := (if x3 < 61 then zrD A x1 x3 fun v2 => (if v2 = (-1) then r4 x1 x2 (zw (x3 + 1)) A else zrD A x1 x3 fun v4 => zgr A 110 5 fun p5 => zrD A p5 x3 fun v6 => (if v4 = v6 then zwD A x1 x3 (-1) fun A8 => r4 x1 1 (zw (x3 + 1)) A8 else r4 x1 x2 (zw (x3 + 1)) A)) else (if x2 = 0 ∨ x2 = 1 then some (x2, A) else none))
def z_Wk_leaveUnchanged_4_l (N : Nat) : Nat → Nat → Int → Int → zA → Option (Int × zA)
  | 0 => fun _ _ _ _ => none
  | n + 1 => fun x1 x2 x3 A => z_Wk_leaveUnchanged_4_b (z_Wk_leaveUnchanged_4_l N n) N x1 x2 x3 A
def z_Wk_leaveUnchanged_4 (N : Nat) (x1 : Nat) (x2 : Int) (x3 : Int) (A : zA) : Option (Int × zA) := z_Wk_leaveUnchanged_4_l N N x1 x2 x3 A
def z_Wk_leaveUnchanged (N : Nat) (x1 : Nat) (A : zA) : Option (Int × zA) := z_Wk_leaveUnchanged_4 N x1 0 0 A
/-- PassChain$Tale.indexOf(II)I -/
def z_Ta_indexOf (N : Nat) (x0 : Int) (x1 : Int) (A : zA) : Option Int := (if x0 < 0 then some (-1) else (if x0 < 50 then (if x1 < 0 then some (-1) else (if x1 < 61 then some (zw ((x0 * 61) + x1)) else some (-1))) else some (-1)))
/-- PassChain$Tale.circled(IIII)V -/
def z_Ta_circled_32 (N : Nat) (x0 : Nat) (x1 : Int) (x2 : Int) (x3 : Int) (x4 : Int) (A : zA) : Option zA := zbP (z_Ta_indexOf N x1 x2 A) fun v1 => (if v1 < 0 then some A else zgr A x0 3 fun p3 => zwD A p3 v1 x3 fun A4 => zgr A4 x0 4 fun p5 => zwD A4 p5 v1 x4 fun A6 => some A6)
def z_Ta_circled (N : Nat) (x0 : Nat) (x1 : Int) (x2 : Int) (x3 : Int) (x4 : Int) (A : zA) : Option zA := (if (zmr A x0 3) = none then zna A 0 3050 fun p2 A3 => zlet (zsr A3 x0 3 (some p2)) fun A4 => zna A4 0 3050 fun p5 A6 => zlet (zsr A6 x0 4 (some p5)) fun A7 => z_Ta_circled_32 N x0 x1 x2 x3 x4 A7 else (if (zmr A x0 4) = none then zna A 0 3050 fun p9 A10 => zlet (zsr A10 x0 3 (some p9)) fun A11 => zna A11 0 3050 fun p12 A13 => zlet (zsr A13 x0 4 (some p12)) fun A14 => z_Ta_circled_32 N x0 x1 x2 x3 x4 A14 else z_Ta_circled_32 N x0 x1 x2 x3 x4 A))
/-- PassChain$Walker.tellCircling(I[I[I)V -/
def z_Wk_tellCircling_3_b (r3 : Int → Nat → Nat → Int → zA → Option zA) (N : Nat) (x1 : Int) (x2 : Nat) (x3 : Nat) (x4 : Int) (A : zA) : Option zA := (if x4 < 61 then zrD A x3 x4 fun v2 => (if v2 = (-1) then r3 x1 x2 x3 (zw (x4 + 1)) A else zgr A 110 8 fun p4 => zcs p4 (false, 9, 5) <| zrD A x2 x4 fun v5 => zgr A 110 5 fun p6 => zrD A p6 x4 fun v7 => zbV (z_Ta_circled N p4 x1 x4 v5 v7 A) fun A8 => r3 x1 x2 x3 (zw (x4 + 1)) A8) else some A)
def z_Wk_tellCircling_3_l (N : Nat) : Nat → Int → Nat → Nat → Int → zA → Option zA
  | 0 => fun _ _ _ _ _ => none
  | n + 1 => fun x1 x2 x3 x4 A => z_Wk_tellCircling_3_b (z_Wk_tellCircling_3_l N n) N x1 x2 x3 x4 A
def z_Wk_tellCircling_3 (N : Nat) (x1 : Int) (x2 : Nat) (x3 : Nat) (x4 : Int) (A : zA) : Option zA := z_Wk_tellCircling_3_l N N x1 x2 x3 x4 A
def z_Wk_tellCircling (N : Nat) (x1 : Int) (x2 : Nat) (x3 : Nat) (A : zA) : Option zA := z_Wk_tellCircling_3 N x1 x2 x3 0 A
/-- PassChain$Walker.copyShared([I[I)V -/
def z_Wk_copyShared (N : Nat) (x0 : Nat) (x1 : Nat) (A : zA) : Option zA := zcy A x0 0 x1 0 6 fun A1 => zrD A1 x0 60 fun v2 => zwD A1 x1 60 v2 fun A3 => some A3
/-- PassChain$Walker.demand(II)V -/
def z_Wk_demand_73 (N : Nat) (x1 : Int) (x2 : Int) (x3 : Int) (x4 : Int) (A : zA) : Option zA := (if x4 = 0 then zwr A 194 150 (zi A 110 7) x3 fun A2 => zlet (zsi A2 110 7 ((zi A2 110 7) + 1)) fun A3 => zgr A3 110 8 fun p4 => zcs p4 (false, 9, 5) <| zbV (z_Ta_say N p4 x1 x2 A3) fun A5 => some A5 else some A)
def z_Wk_demand_35_b (r35 : Int → Int → Int → Int → Int → zA → Option zA) (N : Nat) (x1 : Int) (x2 : Int) (x3 : Int) (x4 : Int) (x5 : Int) (A : zA) : Option zA := (if x5 < (zi A 110 7) then (if x4 = 0 then zrd A 194 150 x5 fun v3 => (if v3 = x3 then r35 x1 x2 x3 1 (zw (x5 + 1)) A else r35 x1 x2 x3 0 (zw (x5 + 1)) A) else z_Wk_demand_73 N x1 x2 x3 x4 A) else z_Wk_demand_73 N x1 x2 x3 x4 A)
def z_Wk_demand_35_l (N : Nat) : Nat → Int → Int → Int → Int → Int → zA → Option zA
  | 0 => fun _ _ _ _ _ _ => none
  | n + 1 => fun x1 x2 x3 x4 x5 A => z_Wk_demand_35_b (z_Wk_demand_35_l N n) N x1 x2 x3 x4 x5 A
def z_Wk_demand_35 (N : Nat) (x1 : Int) (x2 : Int) (x3 : Int) (x4 : Int) (x5 : Int) (A : zA) : Option zA := z_Wk_demand_35_l N N x1 x2 x3 x4 x5 A
def z_Wk_demand (N : Nat) (x1 : Int) (x2 : Int) (A : zA) : Option zA := (if (zi A 110 10) = 0 then (if (zi A 110 7) < 150 then z_Wk_demand_35 N x1 x2 (zw ((2 * x2) + x1)) 0 0 A else z_Wk_demand_35 N x1 x2 (zw ((2 * x2) + x1)) 1 0 A) else z_Wk_demand_35 N x1 x2 (zw ((2 * x2) + x1)) 1 0 A)
/-- PassChain$Walker.worked(III)I -/
def z_Wk_worked_119 (N : Nat) (x1 : Int) (x2 : Int) (x3 : Int) (A : zA) : Option (Int × zA) := zbI (z_Th_make N 111 1 x1 x2 x3 A) fun v1 A2 => some (v1, A2)
def z_Wk_worked_61 (N : Nat) (x1 : Int) (x2 : Int) (x3 : Int) (x4 : Int) (A : zA) : Option (Int × zA) := zbP (z_Th_isNumber N 111 x2 A) fun v1 => (if v1 = 0 then z_Wk_worked_119 N x1 x2 x3 A else zbP (z_Th_isNumber N 111 x3 A) fun v3 => (if v3 = 0 then z_Wk_worked_119 N x1 x2 x3 A else (if x4 = 0 then zbP (z_Th_value N 111 x2 A) fun v6 => zbP (z_Th_value N 111 x3 A) fun v7 => zbP (z_PC_workOf N x1 v6 v7 A) fun v8 => zbI (z_Th_make N 111 0 v8 0 0 A) fun v9 A10 => some (v9, A10) else z_Wk_worked_119 N x1 x2 x3 A)))
def z_Wk_worked_55 (N : Nat) (x1 : Int) (x2 : Int) (x3 : Int) (x4 : Int) (A : zA) : Option (Int × zA) := zbV (z_Wk_demand N 0 x3 A) fun A1 => z_Wk_worked_61 N x1 x2 x3 x4 A1
def z_Wk_worked_32 (N : Nat) (x1 : Int) (x2 : Int) (x3 : Int) (s0 : Int) (A : zA) : Option (Int × zA) := (if x1 = 3 then (if s0 = 0 then zbP (z_Th_isNumber N 111 x3 A) fun v3 => (if v3 = 0 then z_Wk_worked_55 N x1 x2 x3 s0 A else z_Wk_worked_61 N x1 x2 x3 s0 A) else z_Wk_worked_55 N x1 x2 x3 s0 A) else z_Wk_worked_61 N x1 x2 x3 s0 A)
def z_Wk_worked (N : Nat) (x1 : Int) (x2 : Int) (x3 : Int) (A : zA) : Option (Int × zA) := (if x1 = 3 then zbP (z_Th_isNumber N 111 x3 A) fun v2 => (if v2 = 0 then z_Wk_worked_32 N x1 x2 x3 0 A else zbP (z_Th_value N 111 x3 A) fun v4 => (if v4 = 0 then z_Wk_worked_32 N x1 x2 x3 1 A else z_Wk_worked_32 N x1 x2 x3 0 A)) else z_Wk_worked_32 N x1 x2 x3 0 A)
/-- PassChain$Walker.demandCell(I)V -/
def z_Wk_demandCell_35 (N : Nat) (x1 : Int) (A : zA) : Option zA := zbV (z_Wk_demand N 1 x1 A) fun A1 => some A1
def z_Wk_demandCell (N : Nat) (x1 : Int) (A : zA) : Option zA := zbP (z_Th_isNumber N 111 x1 A) fun v1 => (if v1 = 0 then z_Wk_demandCell_35 N x1 A else zbP (z_Th_value N 111 x1 A) fun v3 => (if v3 < 0 then z_Wk_demandCell_35 N x1 A else zbP (z_Th_value N 111 x1 A) fun v5 => (if v5 < 8 then some A else z_Wk_demandCell_35 N x1 A)))
/-- PassChain$Walker.goOverPlain(LPassChain$Part;I)V -/
def z_Wk_goOverPlain (N : Nat) (x1 : Nat) (x2 : Int) (A : zA) : Option zA := zbP (z_Pt_register N x1 x2 0 A) fun v1 => zbP (z_Pt_register N x1 x2 1 A) fun v2 => zbP (z_Pt_kind N x1 x2 A) fun v3 => (if v3 = 0 then zgr A 110 5 fun p4 => zbP (z_Pt_number N x1 x2 1 A) fun v5 => zbI (z_Th_make N 111 0 v5 0 0 A) fun v6 A7 => zwD A7 p4 v1 v6 fun A8 => some A8 else (if v3 = 1 then zgr A 110 5 fun p10 => zgr A 110 5 fun p11 => zrD A p11 v2 fun v12 => zwD A p10 v1 v12 fun A13 => some A13 else (if v3 = 2 then zgr A 110 5 fun p15 => zbP (z_Pt_number N x1 x2 3 A) fun v16 => zgr A 110 5 fun p17 => zrD A p17 v2 fun v18 => zgr A 110 5 fun p19 => zbP (z_Pt_register N x1 x2 2 A) fun v20 => zrD A p19 v20 fun v21 => zbI (z_Wk_worked N v16 v18 v21 A) fun v22 A23 => zwD A23 p15 v1 v22 fun A24 => some A24 else (if v3 = 3 then zgr A 110 5 fun p26 => zrD A p26 v2 fun v27 => zbV (z_Wk_demandCell N v27 A) fun A28 => zgr A28 110 5 fun p29 => zgr A28 110 5 fun p30 => zrD A28 p30 60 fun v31 => zgr A28 110 5 fun p32 => zrD A28 p32 v2 fun v33 => zbI (z_Th_make N 111 2 v31 v33 0 A28) fun v34 A35 => zwD A35 p29 v1 v34 fun A36 => some A36 else (if v3 = 4 then zgr A 110 5 fun p38 => zrD A p38 v1 fun v39 => zbV (z_Wk_demandCell N v39 A) fun A40 => zgr A40 110 5 fun p41 => zgr A40 110 5 fun p42 => zrD A40 p42 60 fun v43 => zgr A40 110 5 fun p44 => zrD A40 p44 v1 fun v45 => zgr A40 110 5 fun p46 => zrD A40 p46 v2 fun v47 => zbI (z_Th_make N 111 4 v43 v45 v47 A40) fun v48 A49 => zwD A49 p41 60 v48 fun A50 => some A50 else (if v3 = 5 then zbV (z_Wk_say N 2 (-1) A) fun A52 => zgr A52 110 5 fun p53 => zbI (z_Th_make N 111 5 (zi A52 110 12) 0 0 A52) fun v54 A55 => zwD A55 p53 v1 v54 fun A56 => zlet (zsi A56 110 12 ((zi A56 110 12) + 1)) fun A57 => some A57 else (if v3 = 6 then zgr A 110 5 fun p59 => zrD A p59 v1 fun v60 => zbV (z_Wk_say N 3 v60 A) fun A61 => some A61 else some A)))))))
/-- PassChain$Walker.goOverIf(LPassChain$Part;II)V -/
def z_Wk_goOverIf_88 (rec : Nat → Int → Int → Int → zA → Option zA) (N : Nat) (x3 : Int) (s1 : Nat) (s2 : Int) (s3 : Int) (A : zA) : Option zA := zbV (rec s1 s2 s3 (zw (x3 + 1)) A) fun A1 => some A1
def z_Wk_goOverIf_57 (rec : Nat → Int → Int → Int → zA → Option zA) (N : Nat) (x1 : Nat) (x2 : Int) (x3 : Int) (x5 : Int) (x6 : Int) (s0 : Int) (A : zA) : Option zA := (if s0 = 0 then (if s0 = 0 then z_Wk_goOverIf_88 rec N x3 x1 (zw (x5 + 1)) x6 A else z_Wk_goOverIf_88 rec N x3 x1 (zw (x5 + 1)) x5 A) else (if s0 = 0 then z_Wk_goOverIf_88 rec N x3 x1 (zw (x2 + 1)) x6 A else z_Wk_goOverIf_88 rec N x3 x1 (zw (x2 + 1)) x5 A))
def z_Wk_goOverIf_212_b (rec : Nat → Int → Int → Int → zA → Option zA) (r212 : Int → Nat → Int → zA → Option zA) (N : Nat) (x4 : Int) (x8 : Nat) (x10 : Int) (A : zA) : Option zA := (if x10 < 61 then zrD A x8 x10 fun v2 => zgr A 110 5 fun p3 => zrD A p3 x10 fun v4 => (if v2 = v4 then r212 x4 x8 (zw (x10 + 1)) A else zgr A 110 5 fun p6 => zrD A x8 x10 fun v7 => zgr A 110 5 fun p8 => zrD A p8 x10 fun v9 => zbI (z_Th_make N 111 6 x4 v7 v9 A) fun v10 A11 => zwD A11 p6 x10 v10 fun A12 => r212 x4 x8 (zw (x10 + 1)) A12) else some A)
def z_Wk_goOverIf_212_l (rec : Nat → Int → Int → Int → zA → Option zA) (N : Nat) : Nat → Int → Nat → Int → zA → Option zA
  | 0 => fun _ _ _ _ => none
  | n + 1 => fun x4 x8 x10 A => z_Wk_goOverIf_212_b rec (z_Wk_goOverIf_212_l rec N n) N x4 x8 x10 A
def z_Wk_goOverIf_212 (rec : Nat → Int → Int → Int → zA → Option zA) (N : Nat) (x4 : Int) (x8 : Nat) (x10 : Int) (A : zA) : Option zA := z_Wk_goOverIf_212_l rec N N x4 x8 x10 A
def z_Wk_goOverIf (rec : Nat → Int → Int → Int → zA → Option zA) (N : Nat) (x1 : Nat) (x2 : Int) (x3 : Int) (A : zA) : Option zA := zgr A 110 5 fun p1 => zbP (z_Pt_register N x1 x2 0 A) fun v2 => zrD A p1 v2 fun v3 => zbP (z_Pt_mate N x1 x2 A) fun v4 => zbP (z_Pt_mate N x1 v4 A) fun v5 => zbP (z_Th_isNumber N 111 v3 A) fun v6 => (if v6 = 0 then zfe 120 (x3 * 3) fun p8 => zfe 120 ((x3 * 3) + 1) fun p9 => zgr A 110 5 fun p10 => zbV (z_Wk_copyAll N p10 p8 A) fun A11 => zbV (z_Wk_say N 4 v3 A11) fun A12 => zbV (rec x1 (zw (x2 + 1)) v4 (zw (x3 + 1)) A12) fun A13 => zgr A13 110 5 fun p14 => zbV (z_Wk_copyAll N p14 p9 A13) fun A15 => zgr A15 110 5 fun p16 => zbV (z_Wk_copyAll N p8 p16 A15) fun A17 => zlet (zsi A17 110 7 (zi A 110 7)) fun A18 => zbV (z_Wk_say N 5 (-1) A18) fun A19 => zbV (rec x1 (zw (v4 + 1)) v5 (zw (x3 + 1)) A19) fun A20 => zlet (zsi A20 110 7 (zi A 110 7)) fun A21 => zbV (z_Wk_say N 8 (-1) A21) fun A22 => z_Wk_goOverIf_212 rec N v3 p9 0 A22 else zbP (z_Th_value N 111 v3 A) fun v23 => (if v23 = 0 then z_Wk_goOverIf_57 rec N x1 x2 x3 v4 v5 0 A else z_Wk_goOverIf_57 rec N x1 x2 x3 v4 v5 1 A))
/-- PassChain$Walker.findCircling(LPassChain$Part;II)V -/
def z_Wk_findCircling_79 (rec : Nat → Int → Int → Int → zA → Option zA) (r56 : Nat → Int → Int → Nat → Nat → Int → Int → Int → Int → Int → zA → Option zA) (N : Nat) (x1 : Nat) (x2 : Int) (x3 : Int) (x4 : Nat) (x5 : Nat) (x6 : Int) (x7 : Int) (x8 : Int) (x9 : Int) (x10 : Int) (A : zA) : Option zA := zbI (z_Th_make N 111 7 (zw (x7 - 1)) x10 0 A) fun v1 A2 => zwD A2 x5 x10 v1 fun A3 => r56 x1 x2 x3 x4 x5 x6 x7 x8 x9 (zw (x10 + 1)) A3
def z_Wk_findCircling_191 (rec : Nat → Int → Int → Int → zA → Option zA) (r117 : Nat → Int → Int → Nat → Nat → Int → Int → Int → Int → Int → Int → zA → Option zA) (N : Nat) (x1 : Nat) (x2 : Int) (x3 : Int) (x4 : Nat) (x5 : Nat) (x6 : Int) (x7 : Int) (x8 : Int) (x9 : Int) (x11 : Int) (x12 : Int) (s0 : Int) (A : zA) : Option zA := zbV (z_Th_dropTo N 111 x12 A) fun A1 => zlet (zsi A1 110 11 x7) fun A2 => zlet (zsi A2 110 12 x8) fun A3 => r117 x1 x2 x3 x4 x5 x6 x7 x8 x9 s0 (zw (x11 + 1)) A3
def z_Wk_findCircling_117_b (rec : Nat → Int → Int → Int → zA → Option zA) (r117 : Nat → Int → Int → Nat → Nat → Int → Int → Int → Int → Int → Int → zA → Option zA) (N : Nat) (x1 : Nat) (x2 : Int) (x3 : Int) (x4 : Nat) (x5 : Nat) (x6 : Int) (x7 : Int) (x8 : Int) (x9 : Int) (x10 : Int) (x11 : Int) (A : zA) : Option zA := (if 61 < x11 then zbl x9 (zsi A 110 10 x9) fun A2 => some A2 else (if x10 = 0 then zbV (z_Wk_begin N x4 x5 A) fun A4 => zbV (rec x1 (zw (x2 + 1)) x6 (zw (x3 + 1)) A4) fun A5 => zbP (z_Pt_mate N x1 x6 A5) fun v6 => zbV (rec x1 (zw (x6 + 1)) v6 (zw (x3 + 1)) A5) fun A7 => zbI (z_Wk_leaveUnchanged N x5 A7) fun v8 A9 => (if v8 = 0 then z_Wk_findCircling_191 rec r117 N x1 x2 x3 x4 x5 x6 x7 x8 x9 x11 (zi A 111 2) 1 A9 else z_Wk_findCircling_191 rec r117 N x1 x2 x3 x4 x5 x6 x7 x8 x9 x11 (zi A 111 2) 0 A9) else zbl x9 (zsi A 110 10 x9) fun A11 => some A11))
def z_Wk_findCircling_117_l (rec : Nat → Int → Int → Int → zA → Option zA) (N : Nat) : Nat → Nat → Int → Int → Nat → Nat → Int → Int → Int → Int → Int → Int → zA → Option zA
  | 0 => fun _ _ _ _ _ _ _ _ _ _ _ _ => none
  | n + 1 => fun x1 x2 x3 x4 x5 x6 x7 x8 x9 x10 x11 A => z_Wk_findCircling_117_b rec (z_Wk_findCircling_117_l rec N n) N x1 x2 x3 x4 x5 x6 x7 x8 x9 x10 x11 A
def z_Wk_findCircling_117 (rec : Nat → Int → Int → Int → zA → Option zA) (N : Nat) (x1 : Nat) (x2 : Int) (x3 : Int) (x4 : Nat) (x5 : Nat) (x6 : Int) (x7 : Int) (x8 : Int) (x9 : Int) (x10 : Int) (x11 : Int) (A : zA) : Option zA := z_Wk_findCircling_117_l rec N N x1 x2 x3 x4 x5 x6 x7 x8 x9 x10 x11 A
def z_Wk_findCircling_56_b (rec : Nat → Int → Int → Int → zA → Option zA) (r56 : Nat → Int → Int → Nat → Nat → Int → Int → Int → Int → Int → zA → Option zA) (N : Nat) (x1 : Nat) (x2 : Int) (x3 : Int) (x4 : Nat) (x5 : Nat) (x6 : Int) (x7 : Int) (x8 : Int) (x9 : Int) (x10 : Int) (A : zA) : Option zA := (if x10 < 61 then (if x10 < (zi A x1 3) then z_Wk_findCircling_79 rec r56 N x1 x2 x3 x4 x5 x6 x7 x8 x9 x10 A else (if x10 = 60 then z_Wk_findCircling_79 rec r56 N x1 x2 x3 x4 x5 x6 x7 x8 x9 x10 A else r56 x1 x2 x3 x4 x5 x6 x7 x8 x9 (zw (x10 + 1)) A)) else zlet (zsi A 110 10 1) fun A4 => z_Wk_findCircling_117 rec N x1 x2 x3 x4 x5 x6 x7 x8 x9 0 0 A4)
def z_Wk_findCircling_56_l (rec : Nat → Int → Int → Int → zA → Option zA) (N : Nat) : Nat → Nat → Int → Int → Nat → Nat → Int → Int → Int → Int → Int → zA → Option zA
  | 0 => fun _ _ _ _ _ _ _ _ _ _ _ => none
  | n + 1 => fun x1 x2 x3 x4 x5 x6 x7 x8 x9 x10 A => z_Wk_findCircling_56_b rec (z_Wk_findCircling_56_l rec N n) N x1 x2 x3 x4 x5 x6 x7 x8 x9 x10 A
def z_Wk_findCircling_56 (rec : Nat → Int → Int → Int → zA → Option zA) (N : Nat) (x1 : Nat) (x2 : Int) (x3 : Int) (x4 : Nat) (x5 : Nat) (x6 : Int) (x7 : Int) (x8 : Int) (x9 : Int) (x10 : Int) (A : zA) : Option zA := z_Wk_findCircling_56_l rec N N x1 x2 x3 x4 x5 x6 x7 x8 x9 x10 A
def z_Wk_findCircling (rec : Nat → Int → Int → Int → zA → Option zA) (N : Nat) (x1 : Nat) (x2 : Int) (x3 : Int) (A : zA) : Option zA := zfe 120 (x3 * 3) fun p1 => zfe 120 ((x3 * 3) + 1) fun p2 => zbP (z_Pt_mate N x1 x2 A) fun v3 => zbV (z_Ar_fill N p2 (-1) A) fun A4 => z_Wk_findCircling_56 rec N x1 x2 x3 p1 p2 v3 (zi A 110 11) (zi A 110 12) (zi A 110 10) 0 A4
/-- PassChain$Walker.goOverWhile(LPassChain$Part;II)V -/
def z_Wk_goOverWhile_182 (rec : Nat → Int → Int → Int → zA → Option zA) (N : Nat) (x7 : Nat) (A : zA) : Option zA := zgr A 110 5 fun p1 => zbV (z_Wk_copyAll N x7 p1 A) fun A2 => some A2
def z_Wk_goOverWhile (rec : Nat → Int → Int → Int → zA → Option zA) (N : Nat) (x1 : Nat) (x2 : Int) (x3 : Int) (A : zA) : Option zA := zlet (zsi A 110 11 ((zi A 110 11) + 1)) fun A1 => zfe 120 (x3 * 3) fun p2 => zfe 120 ((x3 * 3) + 1) fun p3 => zfe 120 ((x3 * 3) + 2) fun p4 => zbP (z_Pt_mate N x1 x2 A1) fun v5 => zgr A1 110 5 fun p6 => zbV (z_Wk_copyAll N p6 p2 A1) fun A7 => zbV (z_Wk_findCircling rec N x1 x2 x3 A7) fun A8 => zbV (z_Wk_begin N p2 p3 A8) fun A9 => zbV (z_Wk_say N 6 (-1) A9) fun A10 => zbV (rec x1 (zw (x2 + 1)) v5 (zw (x3 + 1)) A10) fun A11 => zgr A11 110 5 fun p12 => zbP (z_Pt_register N x1 v5 0 A11) fun v13 => zrD A11 p12 v13 fun v14 => zbV (z_Wk_say N 7 v14 A11) fun A15 => zgr A15 110 5 fun p16 => zbV (z_Wk_copyAll N p16 p4 A15) fun A17 => zbP (z_Pt_mate N x1 v5 A17) fun v18 => zbV (rec x1 (zw (v5 + 1)) v18 (zw (x3 + 1)) A17) fun A19 => zbV (z_Wk_say N 8 (-1) A19) fun A20 => zlet (zsi A20 110 7 (zi A9 110 7)) fun A21 => (if (zi A21 110 10) = 0 then zbV (z_Wk_tellCircling N (zi A 110 11) p2 p3 A21) fun A23 => z_Wk_goOverWhile_182 rec N p4 A23 else z_Wk_goOverWhile_182 rec N p4 A21)
/-- PassChain$Walker.goOverCall(LPassChain$Part;II)V -/
def z_Wk_goOverCall (rec : Nat → Int → Int → Int → zA → Option zA) (N : Nat) (x1 : Nat) (x2 : Int) (x3 : Int) (A : zA) : Option zA := zbP (z_Pt_number N x1 x2 1 A) fun v1 => (if v1 < 0 then some A else (if v1 < 3 then zgr A 110 5 fun p4 => zfe 120 (x3 * 3) fun p5 => zbI (z_Th_make N 111 0 0 0 0 A) fun v6 A7 => zbV (z_Ar_fill N p5 v6 A7) fun A8 => zbV (z_Wk_copyShared N p4 p5 A8) fun A9 => zbP (z_Pt_register N x1 x2 0 A9) fun v10 => zrD A9 p4 v10 fun v11 => zwD A9 p5 6 v11 fun A12 => zlet (zsr A12 110 5 (some p5)) fun A13 => zgr A13 110 9 fun p14 => zcs p14 (false, 2, 2) <| zgf p14 0 fun p15 => zfe p15 v1 fun p16 => zcs p16 (false, 3, 4) <| zgr A13 110 9 fun p17 => zcs p17 (false, 2, 2) <| zgf p17 0 fun p18 => zfe p18 v1 fun p19 => zcs p19 (false, 3, 4) <| zbV (rec p16 0 (zi A13 p19 2) (zw (x3 + 1)) A13) fun A20 => zlet (zsr A20 110 5 (some p4)) fun A21 => zbV (z_Wk_copyShared N p5 p4 A21) fun A22 => some A22 else some A))
/-- PassChain$Walker.goOver(LPassChain$Part;III)V -/
def z_Wk_goOverR_11_b (rec : Nat → Int → Int → Int → zA → Option zA) (r11 : Nat → Int → Int → Int → zA → Option zA) (N : Nat) (x1 : Nat) (x3 : Int) (x4 : Int) (x5 : Int) (A : zA) : Option zA := (if x5 < x3 then zbP (z_Pt_kind N x1 x5 A) fun v2 => (if v2 = 7 then zbV (z_Wk_goOverCall rec N x1 x5 x4 A) fun A3 => r11 x1 x3 x4 (zw (x5 + 1)) A3 else (if v2 = 8 then zbV (z_Wk_goOverIf rec N x1 x5 x4 A) fun A5 => zbP (z_Pt_endOf N x1 x5 A5) fun v6 => r11 x1 x3 x4 (zw ((zmx x5 v6) + 1)) A5 else (if v2 = 10 then zbV (z_Wk_goOverWhile rec N x1 x5 x4 A) fun A8 => zbP (z_Pt_endOf N x1 x5 A8) fun v9 => r11 x1 x3 x4 (zw ((zmx x5 v9) + 1)) A8 else zbV (z_Wk_goOverPlain N x1 x5 A) fun A11 => r11 x1 x3 x4 (zw (x5 + 1)) A11))) else some A)
def z_Wk_goOverR_11_l (rec : Nat → Int → Int → Int → zA → Option zA) (N : Nat) : Nat → Nat → Int → Int → Int → zA → Option zA
  | 0 => fun _ _ _ _ _ => none
  | n + 1 => fun x1 x3 x4 x5 A => z_Wk_goOverR_11_b rec (z_Wk_goOverR_11_l rec N n) N x1 x3 x4 x5 A
def z_Wk_goOverR_11 (rec : Nat → Int → Int → Int → zA → Option zA) (N : Nat) (x1 : Nat) (x3 : Int) (x4 : Int) (x5 : Int) (A : zA) : Option zA := z_Wk_goOverR_11_l rec N N x1 x3 x4 x5 A
def z_Wk_goOverR (rec : Nat → Int → Int → Int → zA → Option zA) (N : Nat) (x1 : Nat) (x2 : Int) (x3 : Int) (x4 : Int) (A : zA) : Option zA := (if x4 < 24 then z_Wk_goOverR_11 rec N x1 x3 x4 x2 A else some A)
def z_Wk_goOver_l (N : Nat) : Nat → Nat → Int → Int → Int → zA → Option zA
  | 0 => fun _ _ _ _ _ => none
  | M + 1 => fun x1 x2 x3 x4 A => z_Wk_goOverR (z_Wk_goOver_l N M) N x1 x2 x3 x4 A
def z_Wk_goOver (N : Nat) (x1 : Nat) (x2 : Int) (x3 : Int) (x4 : Int) (A : zA) : Option zA := z_Wk_goOver_l N 26 x1 x2 x3 x4 A
/-- PassChain$Walker.walk(LPassChain$Rows;Z)V -/
def z_Wk_walk_33 (N : Nat) (x1 : Nat) (s1 : Nat) (A : zA) : Option zA := zlet (zsr A 110 8 (some s1)) fun A1 => zgr A1 110 8 fun p2 => zcs p2 (false, 9, 5) <| zbV (z_Ta_clear N p2 A1) fun A3 => zlet (zsi A3 110 7 0) fun A4 => zlet (zsi A4 110 10 0) fun A5 => zlet (zsi A5 110 11 0) fun A6 => zlet (zsi A6 110 12 0) fun A7 => zlet (zsr A7 110 5 (some 193)) fun A8 => zgr A8 110 5 fun p9 => zbI (z_Th_make N 111 0 0 0 0 A8) fun v10 A11 => zbV (z_Ar_fill N p9 v10 A11) fun A12 => zgr A12 110 5 fun p13 => zbI (z_Th_make N 111 3 0 0 0 A12) fun v14 A15 => zwD A15 p13 60 v14 fun A16 => zgf x1 0 fun p17 => zfe p17 3 fun p18 => zcs p18 (false, 3, 4) <| zbV (z_Wk_goOver N p18 0 (zi A16 p18 2) 0 A16) fun A19 => some A19
def z_Wk_walk_12 (N : Nat) (x1 : Nat) (x2 : Int) (A : zA) : Option zA := zlet (zsr A 110 9 (some x1)) fun A1 => (if x2 = 0 then z_Wk_walk_33 N x1 114 A1 else z_Wk_walk_33 N x1 117 A1)
def z_Wk_walk (N : Nat) (x1 : Nat) (x2 : Int) (A : zA) : Option zA := (if x2 = 0 then zbV (z_Th_dropTo N 111 0 A) fun A2 => z_Wk_walk_12 N x1 x2 A2 else z_Wk_walk_12 N x1 x2 A)
/-- PassChain$Tale.saysWhat(LPassChain$Tale;)Z -/
def z_Ta_saysWhat_19_b (r19 : Nat → Nat → Int → Int → zA → Option Int) (N : Nat) (x0 : Nat) (x1 : Nat) (x2 : Int) (x3 : Int) (A : zA) : Option Int := (if x2 = 0 then (if x2 = 0 ∨ x2 = 1 then some x2 else none) else (if x3 < (zi A x0 2) then zgf x0 0 fun p3 => zrD A p3 x3 fun v4 => zgf x1 0 fun p5 => zrD A p5 x3 fun v6 => (if v4 = v6 then zgf x0 1 fun p8 => zrD A p8 x3 fun v9 => zgf x1 1 fun p10 => zrD A p10 x3 fun v11 => (if v9 = v11 then r19 x0 x1 1 (zw (x3 + 1)) A else r19 x0 x1 0 (zw (x3 + 1)) A) else r19 x0 x1 0 (zw (x3 + 1)) A) else (if x2 = 0 ∨ x2 = 1 then some x2 else none)))
def z_Ta_saysWhat_19_l (N : Nat) : Nat → Nat → Nat → Int → Int → zA → Option Int
  | 0 => fun _ _ _ _ _ => none
  | n + 1 => fun x0 x1 x2 x3 A => z_Ta_saysWhat_19_b (z_Ta_saysWhat_19_l N n) N x0 x1 x2 x3 A
def z_Ta_saysWhat_19 (N : Nat) (x0 : Nat) (x1 : Nat) (x2 : Int) (x3 : Int) (A : zA) : Option Int := z_Ta_saysWhat_19_l N N x0 x1 x2 x3 A
def z_Ta_saysWhat (N : Nat) (x0 : Nat) (x1 : Nat) (A : zA) : Option Int := (if (zi A x0 2) = (zi A x1 2) then z_Ta_saysWhat_19 N x0 x1 1 0 A else z_Ta_saysWhat_19 N x0 x1 0 0 A)
/-- PassChain$Things.beginReaching()V -/
def z_Th_beginReaching (N : Nat) (x0 : Nat) (A : zA) : Option zA := zlet (zsi A x0 3 (-1)) fun A1 => zlet (zsi A1 x0 4 (-1)) fun A2 => some A2
/-- PassChain$Tale.thingSaid(I)I -/
def z_Ta_thingSaid (N : Nat) (x0 : Nat) (x1 : Int) (A : zA) : Option Int := (if x1 < 0 then some (-1) else (if x1 < (zi A x0 2) then zgf x0 1 fun p3 => zrD A p3 x1 fun v4 => some v4 else some (-1)))
/-- PassChain$Things.has(I)Z -/
def z_Th_has (N : Nat) (x0 : Nat) (x1 : Int) (A : zA) : Option Int := (if x1 < 0 then some 0 else (if x1 < (zi A x0 2) then some 1 else some 0))
/-- PassChain$Things.reach(I)V -/
def z_Th_reach_60 (N : Nat) (x0 : Nat) (x1 : Int) (A : zA) : Option zA := zgr A x0 0 fun p1 => zwD A p1 ((x1 * 7) + 6) (-1) fun A2 => zlet (zsi A2 x0 4 x1) fun A3 => some A3
def z_Th_reach (N : Nat) (x0 : Nat) (x1 : Int) (A : zA) : Option zA := zbP (z_Th_has N x0 x1 A) fun v1 => (if v1 = 0 then some A else zgr A x0 0 fun p3 => zrD A p3 ((x1 * 7) + 6) fun v4 => (if v4 = (-2) then zbP (z_Th_has N x0 (zi A x0 4) A) fun v6 => (if v6 = 0 then zlet (zsi A x0 3 x1) fun A8 => z_Th_reach_60 N x0 x1 A8 else zgr A x0 0 fun p9 => zwD A p9 (((zi A x0 4) * 7) + 6) x1 fun A10 => z_Th_reach_60 N x0 x1 A10) else some A))
/-- PassChain$Things.kind(I)I -/
def z_Th_kind (N : Nat) (x0 : Nat) (x1 : Int) (A : zA) : Option Int := zbP (z_Th_has N x0 x1 A) fun v1 => (if v1 = 0 then some (-1) else zgr A x0 0 fun p3 => zrD A p3 (x1 * 7) fun v4 => some v4)
/-- PassChain$Things.field(II)I -/
def z_Th_field (N : Nat) (x0 : Nat) (x1 : Int) (x2 : Int) (A : zA) : Option Int := zbP (z_Th_has N x0 x1 A) fun v1 => (if v1 = 0 then some (-1) else (if x2 < 0 then some (-1) else (if x2 < 3 then zgr A x0 0 fun p5 => zrD A p5 (((x1 * 7) + 1) + x2) fun v6 => some v6 else some (-1))))
/-- PassChain$Things.reachFields(I)V -/
def z_Th_reachFields (N : Nat) (x0 : Nat) (x1 : Int) (A : zA) : Option zA := zbP (z_Th_kind N x0 x1 A) fun v1 => (if v1 = 1 then zbP (z_Th_field N x0 x1 1 A) fun v2 => zbV (z_Th_reach N x0 v2 A) fun A3 => zbP (z_Th_field N x0 x1 2 A3) fun v4 => zbV (z_Th_reach N x0 v4 A3) fun A5 => some A5 else (if v1 = 2 then zbP (z_Th_field N x0 x1 0 A) fun v7 => zbV (z_Th_reach N x0 v7 A) fun A8 => zbP (z_Th_field N x0 x1 1 A8) fun v9 => zbV (z_Th_reach N x0 v9 A8) fun A10 => some A10 else (if v1 = 4 then zbP (z_Th_field N x0 x1 0 A) fun v12 => zbV (z_Th_reach N x0 v12 A) fun A13 => zbP (z_Th_field N x0 x1 1 A13) fun v14 => zbV (z_Th_reach N x0 v14 A13) fun A15 => zbP (z_Th_field N x0 x1 2 A15) fun v16 => zbV (z_Th_reach N x0 v16 A15) fun A17 => some A17 else (if v1 = 6 then zbP (z_Th_field N x0 x1 0 A) fun v19 => zbV (z_Th_reach N x0 v19 A) fun A20 => zbP (z_Th_field N x0 x1 1 A20) fun v21 => zbV (z_Th_reach N x0 v21 A20) fun A22 => zbP (z_Th_field N x0 x1 2 A22) fun v23 => zbV (z_Th_reach N x0 v23 A22) fun A24 => some A24 else some A))))
/-- PassChain$Tale.beganAs(II)I -/
def z_Ta_beganAs (N : Nat) (x0 : Nat) (x1 : Int) (x2 : Int) (A : zA) : Option Int := zbP (z_Ta_indexOf N x1 x2 A) fun v1 => (if (zmr A x0 3) = none then some (-1) else (if v1 < 0 then some (-1) else zgr A x0 3 fun p4 => zrD A p4 v1 fun v5 => some v5))
/-- PassChain$Tale.hadBecome(II)I -/
def z_Ta_hadBecome (N : Nat) (x0 : Nat) (x1 : Int) (x2 : Int) (A : zA) : Option Int := zbP (z_Ta_indexOf N x1 x2 A) fun v1 => (if (zmr A x0 4) = none then some (-1) else (if v1 < 0 then some (-1) else zgr A x0 4 fun p4 => zrD A p4 v1 fun v5 => some v5))
/-- PassChain$Walker.circlesAlike(I)Z -/
def z_Wk_circlesAlike (N : Nat) (x1 : Int) (A : zA) : Option (Int × zA) := zbP (z_Th_field N 111 x1 0 A) fun v1 => zbP (z_Th_field N 111 x1 1 A) fun v2 => zbP (z_Ta_beganAs N 114 v1 v2 A) fun v3 => zbP (z_Ta_hadBecome N 114 v1 v2 A) fun v4 => zbV (z_Th_reach N 111 v3 A) fun A5 => zbV (z_Th_reach N 111 v4 A5) fun A6 => zbP (z_Ta_beganAs N 117 v1 v2 A6) fun v7 => (if v3 = v7 then zbP (z_Ta_hadBecome N 117 v1 v2 A6) fun v9 => (if v4 = v9 then some (1, A6) else some (0, A6)) else some (0, A6))
/-- PassChain$Things.reachedAfter(I)I -/
def z_Th_reachedAfter (N : Nat) (x0 : Nat) (x1 : Int) (A : zA) : Option Int := zbP (z_Th_has N x0 x1 A) fun v1 => (if v1 = 0 then some (-1) else zgr A x0 0 fun p3 => zrD A p3 ((x1 * 7) + 6) fun v4 => some v4)
/-- PassChain$Walker.saidTheSame()Z -/
def z_Wk_saidTheSame_117 (r69 : Int → Int → Int → zA → Option (Int × zA)) (N : Nat) (x1 : Int) (x2 : Int) (x3 : Int) (A : zA) : Option (Int × zA) := zbP (z_Th_reachedAfter N 111 x2 A) fun v1 => r69 x1 v1 (zw (x3 + 1)) A
def z_Wk_saidTheSame_69_b (r69 : Int → Int → Int → zA → Option (Int × zA)) (N : Nat) (x1 : Int) (x2 : Int) (x3 : Int) (A : zA) : Option (Int × zA) := (if x1 = 0 then (if x1 = 0 ∨ x1 = 1 then some (x1, A) else none) else zbP (z_Th_has N 111 x2 A) fun v2 => (if v2 = 0 then (if x1 = 0 ∨ x1 = 1 then some (x1, A) else none) else (if x3 < 65536 then zbV (z_Th_reachFields N 111 x2 A) fun A5 => zbP (z_Th_kind N 111 x2 A5) fun v6 => (if v6 = 7 then zbI (z_Wk_circlesAlike N x2 A5) fun v8 A9 => z_Wk_saidTheSame_117 r69 N v8 x2 x3 A9 else z_Wk_saidTheSame_117 r69 N x1 x2 x3 A5) else (if x1 = 0 ∨ x1 = 1 then some (x1, A) else none))))
def z_Wk_saidTheSame_69_l (N : Nat) : Nat → Int → Int → Int → zA → Option (Int × zA)
  | 0 => fun _ _ _ _ => none
  | n + 1 => fun x1 x2 x3 A => z_Wk_saidTheSame_69_b (z_Wk_saidTheSame_69_l N n) N x1 x2 x3 A
def z_Wk_saidTheSame_69 (N : Nat) (x1 : Int) (x2 : Int) (x3 : Int) (A : zA) : Option (Int × zA) := z_Wk_saidTheSame_69_l N N x1 x2 x3 A
def z_Wk_saidTheSame_25_b (r25 : Int → zA → Option (Int × zA)) (N : Nat) (x1 : Int) (A : zA) : Option (Int × zA) := (if x1 < (zi A 114 2) then zbP (z_Ta_thingSaid N 114 x1 A) fun v2 => zbV (z_Th_reach N 111 v2 A) fun A3 => r25 (zw (x1 + 1)) A3 else z_Wk_saidTheSame_69 N 1 (zi A 111 3) 0 A)
def z_Wk_saidTheSame_25_l (N : Nat) : Nat → Int → zA → Option (Int × zA)
  | 0 => fun _ _ => none
  | n + 1 => fun x1 A => z_Wk_saidTheSame_25_b (z_Wk_saidTheSame_25_l N n) N x1 A
def z_Wk_saidTheSame_25 (N : Nat) (x1 : Int) (A : zA) : Option (Int × zA) := z_Wk_saidTheSame_25_l N N x1 A
def z_Wk_saidTheSame (N : Nat) (A : zA) : Option (Int × zA) := zbP (z_Ta_saysWhat N 114 117 A) fun v1 => (if v1 = 0 then some (0, A) else zbV (z_Th_beginReaching N 111 A) fun A3 => z_Wk_saidTheSame_25 N 0 A3)
/-- PassChain.staysIfTheSame()Z -/
def z_PC_staysIfTheSame (N : Nat) (A : zA) : Option (Int × zA) := zgr A 4 2 fun p1 => zcs p1 (false, 2, 2) <| zbV (z_Wk_walk N p1 0 A) fun A2 => zgr A2 4 3 fun p3 => zcs p3 (false, 2, 2) <| zbV (z_Wk_walk N p3 1 A2) fun A4 => zbI (z_Wk_saidTheSame N A4) fun v5 A6 => (if v5 = 0 then zlet (zsi A6 4 12 ((zi A6 4 12) + 1)) fun A8 => some (0, A8) else zgr A6 4 2 fun p9 => zcs p9 (false, 2, 2) <| zgr A6 4 3 fun p10 => zcs p10 (false, 2, 2) <| zlet (zsr A6 4 2 (some p10)) fun A11 => zlet (zsr A11 4 3 (some p9)) fun A12 => zlet (zsi A12 4 9 0) fun A13 => zlet (zsi A13 4 11 ((zi A13 4 11) + 1)) fun A14 => some (1, A14))
/-- PassChain.pass(I)I -/
def z_PC_pass_65 (N : Nat) (x2 : Int) (A : zA) : Option ((Int ⊕ Nat) × zA) := zbI (z_PC_staysIfTheSame N A) fun v1 A2 => (if v1 = 0 then some (.inl (-1), A2) else some (.inl x2, A2))
def z_PC_pass_34_b (r34 : Int → Int → Int → zA → Option ((Int ⊕ Nat) × zA)) (N : Nat) (x1 : Int) (x2 : Int) (x3 : Int) (A : zA) : Option ((Int ⊕ Nat) × zA) := (if x3 < 4 then zgr A 4 2 fun p2 => zcs p2 (false, 2, 2) <| zbP (z_Ro_has N p2 x3 A) fun v3 => (if v3 = 0 then r34 x1 x2 (zw (x3 + 1)) A else zbI (z_PC_changesOfPass N x1 x3 A) fun v5 A6 => r34 x1 (zw (x2 + v5)) (zw (x3 + 1)) A6) else z_PC_pass_65 N x2 A)
def z_PC_pass_34_l (N : Nat) : Nat → Int → Int → Int → zA → Option ((Int ⊕ Nat) × zA)
  | 0 => fun _ _ _ _ => none
  | n + 1 => fun x1 x2 x3 A => z_PC_pass_34_b (z_PC_pass_34_l N n) N x1 x2 x3 A
def z_PC_pass_34 (N : Nat) (x1 : Int) (x2 : Int) (x3 : Int) (A : zA) : Option ((Int ⊕ Nat) × zA) := z_PC_pass_34_l N N x1 x2 x3 A
def z_PC_pass (N : Nat) (x1 : Int) (A : zA) : Option ((Int ⊕ Nat) × zA) := (if x1 < 0 then some (.inr 0, znw A (false, 100, 0)) else (if 4 < x1 then some (.inr 0, znw A (false, 100, 0)) else zgr A 4 3 fun p3 => zcs p3 (false, 2, 2) <| zgr A 4 2 fun p4 => zcs p4 (false, 2, 2) <| zbV (z_Ro_become N p3 p4 A) fun A5 => z_PC_pass_34 N x1 0 0 A5))
/-- PassChainLaw.pass(LPassChain;I[J)I -/
def z_Lw_pass (N : Nat) (x1 : Int) (A : zA) : Option (Int × zA) := zbX (z_PC_pass N x1 A) (fun v1 A2 => zwl A2 295 1 0 (zil v1) fun A6 => some (0, A6)) (fun n5 A4 => (if n5 = 0 then some (1, A4) else none))
/-- PassChainModel.isThere(I)Z -/
def z_M_isThere (N : Nat) (x1 : Int) (A : zA) : Option Int := (if x1 < 0 then (if x1 = 3 then some 1 else some 0) else (if x1 < (zi A 226 6) then some 1 else (if x1 = 3 then some 1 else some 0)))
/-- PassChainModel.match(II)V -/
def z_M_match_45 (r5 : Int → Int → Int → Int → zA → Option zA) (N : Nat) (x1 : Int) (x2 : Int) (x3 : Int) (x4 : Int) (A : zA) : Option zA := zwr A 233 240 x3 x4 fun A1 => r5 x1 x2 (zw (x3 + 1)) (zw (x4 + 1)) A1
def z_M_match_73 (r5 : Int → Int → Int → Int → zA → Option zA) (N : Nat) (x1 : Int) (x2 : Int) (x3 : Int) (x4 : Int) (A : zA) : Option zA := zrd A 233 240 (x3 - 1) fun v1 => zwr A 231 960 ((240 * x2) + v1) x4 fun A2 => zrd A2 233 240 (x3 - 1) fun v3 => zwr A2 233 240 (x3 - 1) ((v3 * 1000) + x4) fun A4 => r5 x1 x2 x3 (zw (x4 + 1)) A4
def z_M_match_5_b (r5 : Int → Int → Int → Int → zA → Option zA) (N : Nat) (x1 : Int) (x2 : Int) (x3 : Int) (x4 : Int) (A : zA) : Option zA := zbP (z_M_row N x1 x2 A) fun v1 => zrd A 229 12 v1 fun v2 => (if x4 < v2 then zbP (z_M_field N x1 x2 x4 0 A) fun v4 => (if v4 = 8 then z_M_match_45 r5 N x1 x2 x3 x4 A else (if v4 = 10 then z_M_match_45 r5 N x1 x2 x3 x4 A else (if v4 = 9 then z_M_match_73 r5 N x1 x2 x3 x4 A else (if v4 = 11 then z_M_match_73 r5 N x1 x2 x3 x4 A else (if v4 = 12 then zrd A 233 240 (x3 + (-1)) fun v10 => if zw 1000 = 0 then none else zwr A 231 960 ((240 * x2) + (zrm v10 1000)) x4 fun A11 => zrd A11 233 240 (x3 + (-1)) fun v12 => if zw 1000 = 0 then none else zwr A11 231 960 ((240 * x2) + x4) (zdv v12 1000) fun A13 => r5 x1 x2 (zw (x3 + (-1))) (zw (x4 + 1)) A13 else r5 x1 x2 x3 (zw (x4 + 1)) A))))) else some A)
def z_M_match_5_l (N : Nat) : Nat → Int → Int → Int → Int → zA → Option zA
  | 0 => fun _ _ _ _ _ => none
  | n + 1 => fun x1 x2 x3 x4 A => z_M_match_5_b (z_M_match_5_l N n) N x1 x2 x3 x4 A
def z_M_match_5 (N : Nat) (x1 : Int) (x2 : Int) (x3 : Int) (x4 : Int) (A : zA) : Option zA := z_M_match_5_l N N x1 x2 x3 x4 A
def z_M_match (N : Nat) (x1 : Int) (x2 : Int) (A : zA) : Option zA := z_M_match_5 N x1 x2 0 0 A
/-- PassChainModel.worked(III)I -/
def z_M_worked (N : Nat) (x0 : Int) (x1 : Int) (x2 : Int) (A : zA) : Option Int := (if x0 < 3 then (if x0 = 0 then some (zw (x1 + x2)) else (if x0 = 1 then some (zw (x1 - x2)) else some (zw (x1 * x2)))) else (if x0 = 3 then if zw x2 = 0 then none else some (zdv x1 x2) else (if x0 = 4 then (if x1 < x2 then some 1 else some 0) else (if x1 = x2 then some 1 else some 0))))
/-- PassChainModel.learn(II)V -/
def z_M_learn (N : Nat) (x1 : Int) (x2 : Int) (A : zA) : Option zA := zwr A 239 60 x1 1 fun A1 => zwr A1 240 60 x1 x2 fun A2 => some A2
/-- PassChainModel.keep(II)V -/
def z_M_keep (N : Nat) (x1 : Int) (x2 : Int) (A : zA) : Option zA := zbP (z_M_place N 0 x1 x2 A) fun v1 => zbP (z_M_row N 1 x1 A) fun v2 => zrd A 229 12 v2 fun v3 => zbP (z_M_place N 1 x1 v3 A) fun v4 => zbV (z_M_copyItem N v1 v4 A) fun A5 => zbP (z_M_row N 1 x1 A5) fun v6 => zrd A5 229 12 v6 fun v7 => zwr A5 229 12 v6 (v7 + 1) fun A8 => some A8
/-- PassChainModel.forget(I)V -/
def z_M_forget (N : Nat) (x1 : Int) (A : zA) : Option zA := zwr A 239 60 x1 0 fun A1 => some A1
/-- PassChainModel.writes(III)I -/
def z_M_writes_22 (N : Nat) (x1 : Int) (x2 : Int) (x3 : Int) (A : zA) : Option Int := zbP (z_M_field N x1 x2 x3 1 A) fun v1 => some v1
def z_M_writes (N : Nat) (x1 : Int) (x2 : Int) (x3 : Int) (A : zA) : Option Int := zbP (z_M_field N x1 x2 x3 0 A) fun v1 => (if 3 < v1 then (if v1 = 5 then z_M_writes_22 N x1 x2 x3 A else some (-1)) else z_M_writes_22 N x1 x2 x3 A)
/-- PassChainModel.simple(II)V -/
def z_M_simple_226_b (r226 : Int → zA → Option zA) (N : Nat) (x9 : Int) (A : zA) : Option zA := (if x9 < 6 then zbV (z_M_forget N x9 A) fun A2 => r226 (zw (x9 + 1)) A2 else some A)
def z_M_simple_226_l (N : Nat) : Nat → Int → zA → Option zA
  | 0 => fun _ _ => none
  | n + 1 => fun x9 A => z_M_simple_226_b (z_M_simple_226_l N n) N x9 A
def z_M_simple_226 (N : Nat) (x9 : Int) (A : zA) : Option zA := z_M_simple_226_l N N x9 A
def z_M_simple_159 (N : Nat) (x1 : Int) (x2 : Int) (x3 : Int) (x4 : Int) (x5 : Int) (x7 : Int) (x8 : Int) (A : zA) : Option zA := (if x7 = 0 then zbV (z_M_keep N x1 x2 A) fun A2 => (if x3 = 0 then zbV (z_M_learn N x4 x5 A2) fun A4 => some A4 else (if x3 = 7 then z_M_simple_226 N 0 A2 else zbP (z_M_writes N 0 x1 x2 A2) fun v6 => (if v6 < 0 then some A2 else zbV (z_M_forget N x4 A2) fun A8 => some A8))) else zbV (z_M_emit N 1 x1 0 x4 x8 0 0 A) fun A9 => zbV (z_M_learn N x4 x8 A9) fun A10 => zlet (zsi A10 226 33 ((zi A10 226 33) + 1)) fun A11 => some A11)
def z_M_simple_129 (N : Nat) (x1 : Int) (x2 : Int) (x3 : Int) (x4 : Int) (x5 : Int) (x6 : Int) (A : zA) : Option zA := zbP (z_M_field N 0 x1 x2 4 A) fun v1 => zrd A 240 60 x5 fun v2 => zrd A 240 60 x6 fun v3 => zbP (z_M_worked N v1 v2 v3 A) fun v4 => z_M_simple_159 N x1 x2 x3 x4 x5 1 v4 A
def z_M_simple_78 (N : Nat) (x1 : Int) (x2 : Int) (x3 : Int) (x4 : Int) (x5 : Int) (x6 : Int) (x7 : Int) (s0 : Int) (A : zA) : Option zA := (if x3 = 2 then zrd A 239 60 x5 fun v2 => (if v2 = 1 then zrd A 239 60 x6 fun v4 => (if v4 = 1 then zbP (z_M_field N 0 x1 x2 4 A) fun v6 => (if v6 = 3 then zrd A 240 60 x6 fun v8 => (if v8 = 0 then z_M_simple_159 N x1 x2 x3 x4 x5 x7 s0 A else z_M_simple_129 N x1 x2 x3 x4 x5 x6 A) else z_M_simple_129 N x1 x2 x3 x4 x5 x6 A) else z_M_simple_159 N x1 x2 x3 x4 x5 x7 s0 A) else z_M_simple_159 N x1 x2 x3 x4 x5 x7 s0 A) else z_M_simple_159 N x1 x2 x3 x4 x5 x7 s0 A)
def z_M_simple_60 (N : Nat) (x1 : Int) (x2 : Int) (x3 : Int) (x4 : Int) (x5 : Int) (x6 : Int) (s0 : Int) (A : zA) : Option zA := (if s0 = 0 then z_M_simple_78 N x1 x2 x3 x4 x5 x6 s0 0 A else zrd A 240 60 x5 fun v2 => z_M_simple_78 N x1 x2 x3 x4 x5 x6 s0 v2 A)
def z_M_simple (N : Nat) (x1 : Int) (x2 : Int) (A : zA) : Option zA := zbP (z_M_field N 0 x1 x2 0 A) fun v1 => zbP (z_M_field N 0 x1 x2 1 A) fun v2 => zbP (z_M_field N 0 x1 x2 2 A) fun v3 => zbP (z_M_field N 0 x1 x2 3 A) fun v4 => (if v1 = 1 then zrd A 239 60 v3 fun v6 => (if v6 = 1 then z_M_simple_60 N x1 x2 v1 v2 v3 v4 1 A else z_M_simple_60 N x1 x2 v1 v2 v3 v4 0 A) else z_M_simple_60 N x1 x2 v1 v2 v3 v4 0 A)
/-- PassChainModel.saveKnown([I[II)V -/
def z_M_saveKnown_241_242_3_b (r3 : Int → Int → zA → Option zA) (N : Nat) (x3 : Int) (x4 : Int) (A : zA) : Option zA := (if x4 < 60 then zrd A 239 60 x4 fun v2 => zwr A 241 1800 ((60 * x3) + x4) v2 fun A3 => zrd A3 240 60 x4 fun v4 => zwr A3 242 1800 ((60 * x3) + x4) v4 fun A5 => r3 x3 (zw (x4 + 1)) A5 else some A)
def z_M_saveKnown_241_242_3_l (N : Nat) : Nat → Int → Int → zA → Option zA
  | 0 => fun _ _ _ => none
  | n + 1 => fun x3 x4 A => z_M_saveKnown_241_242_3_b (z_M_saveKnown_241_242_3_l N n) N x3 x4 A
def z_M_saveKnown_241_242_3 (N : Nat) (x3 : Int) (x4 : Int) (A : zA) : Option zA := z_M_saveKnown_241_242_3_l N N x3 x4 A
def z_M_saveKnown_241_242 (N : Nat) (x3 : Int) (A : zA) : Option zA := z_M_saveKnown_241_242_3 N x3 0 A
/-- PassChainModel.saveKnown([I[II)V -/
def z_M_saveKnown_243_244_3_b (r3 : Int → Int → zA → Option zA) (N : Nat) (x3 : Int) (x4 : Int) (A : zA) : Option zA := (if x4 < 60 then zrd A 239 60 x4 fun v2 => zwr A 243 1800 ((60 * x3) + x4) v2 fun A3 => zrd A3 240 60 x4 fun v4 => zwr A3 244 1800 ((60 * x3) + x4) v4 fun A5 => r3 x3 (zw (x4 + 1)) A5 else some A)
def z_M_saveKnown_243_244_3_l (N : Nat) : Nat → Int → Int → zA → Option zA
  | 0 => fun _ _ _ => none
  | n + 1 => fun x3 x4 A => z_M_saveKnown_243_244_3_b (z_M_saveKnown_243_244_3_l N n) N x3 x4 A
def z_M_saveKnown_243_244_3 (N : Nat) (x3 : Int) (x4 : Int) (A : zA) : Option zA := z_M_saveKnown_243_244_3_l N N x3 x4 A
def z_M_saveKnown_243_244 (N : Nat) (x3 : Int) (A : zA) : Option zA := z_M_saveKnown_243_244_3 N x3 0 A
/-- PassChainModel.loadKnown([I[II)V -/
def z_M_loadKnown_241_242_3_b (r3 : Int → Int → zA → Option zA) (N : Nat) (x3 : Int) (x4 : Int) (A : zA) : Option zA := (if x4 < 60 then zrd A 241 1800 ((60 * x3) + x4) fun v2 => zwr A 239 60 x4 v2 fun A3 => zrd A3 242 1800 ((60 * x3) + x4) fun v4 => zwr A3 240 60 x4 v4 fun A5 => r3 x3 (zw (x4 + 1)) A5 else some A)
def z_M_loadKnown_241_242_3_l (N : Nat) : Nat → Int → Int → zA → Option zA
  | 0 => fun _ _ _ => none
  | n + 1 => fun x3 x4 A => z_M_loadKnown_241_242_3_b (z_M_loadKnown_241_242_3_l N n) N x3 x4 A
def z_M_loadKnown_241_242_3 (N : Nat) (x3 : Int) (x4 : Int) (A : zA) : Option zA := z_M_loadKnown_241_242_3_l N N x3 x4 A
def z_M_loadKnown_241_242 (N : Nat) (x3 : Int) (A : zA) : Option zA := z_M_loadKnown_241_242_3 N x3 0 A
/-- PassChainModel.spoils(IIII)Z -/
def z_M_spoils (N : Nat) (x1 : Int) (x2 : Int) (x3 : Int) (x4 : Int) (A : zA) : Option Int := zbP (z_M_field N x1 x2 x3 0 A) fun v1 => (if v1 = 7 then (if x4 < 6 then some 1 else some 0) else zbP (z_M_writes N x1 x2 x3 A) fun v4 => (if v4 = x4 then some 1 else some 0))
/-- PassChainModel.spoiltBetween(IIIII)Z -/
def z_M_spoiltBetween_6_b (r6 : Int → Int → Int → Int → Int → Int → zA → Option Int) (N : Nat) (x1 : Int) (x2 : Int) (x4 : Int) (x5 : Int) (x6 : Int) (x7 : Int) (A : zA) : Option Int := (if x4 < x7 then (if x6 = 0 ∨ x6 = 1 then some x6 else none) else (if x6 = 0 then zbP (z_M_spoils N x1 x2 x7 x5 A) fun v3 => r6 x1 x2 x4 x5 v3 (zw (x7 + 1)) A else (if x6 = 0 ∨ x6 = 1 then some x6 else none)))
def z_M_spoiltBetween_6_l (N : Nat) : Nat → Int → Int → Int → Int → Int → Int → zA → Option Int
  | 0 => fun _ _ _ _ _ _ _ => none
  | n + 1 => fun x1 x2 x4 x5 x6 x7 A => z_M_spoiltBetween_6_b (z_M_spoiltBetween_6_l N n) N x1 x2 x4 x5 x6 x7 A
def z_M_spoiltBetween_6 (N : Nat) (x1 : Int) (x2 : Int) (x4 : Int) (x5 : Int) (x6 : Int) (x7 : Int) (A : zA) : Option Int := z_M_spoiltBetween_6_l N N x1 x2 x4 x5 x6 x7 A
def z_M_spoiltBetween (N : Nat) (x1 : Int) (x2 : Int) (x3 : Int) (x4 : Int) (x5 : Int) (A : zA) : Option Int := z_M_spoiltBetween_6 N x1 x2 x4 x5 0 x3 A
/-- PassChainModel.both(I)V -/
def z_M_both_58 (r2 : Int → Int → zA → Option zA) (N : Nat) (x1 : Int) (x2 : Int) (s0 : Int) (A : zA) : Option zA := (if s0 = 0 then zwr A 239 60 x2 0 fun A2 => r2 x1 (zw (x2 + 1)) A2 else zwr A 239 60 x2 1 fun A3 => r2 x1 (zw (x2 + 1)) A3)
def z_M_both_2_b (r2 : Int → Int → zA → Option zA) (N : Nat) (x1 : Int) (x2 : Int) (A : zA) : Option zA := (if x2 < 60 then zrd A 243 1800 ((60 * x1) + x2) fun v2 => (if v2 = 1 then zrd A 239 60 x2 fun v4 => (if v4 = 1 then zrd A 244 1800 ((60 * x1) + x2) fun v6 => zrd A 240 60 x2 fun v7 => (if v6 = v7 then z_M_both_58 r2 N x1 x2 1 A else z_M_both_58 r2 N x1 x2 0 A) else z_M_both_58 r2 N x1 x2 0 A) else z_M_both_58 r2 N x1 x2 0 A) else some A)
def z_M_both_2_l (N : Nat) : Nat → Int → Int → zA → Option zA
  | 0 => fun _ _ _ => none
  | n + 1 => fun x1 x2 A => z_M_both_2_b (z_M_both_2_l N n) N x1 x2 A
def z_M_both_2 (N : Nat) (x1 : Int) (x2 : Int) (A : zA) : Option zA := z_M_both_2_l N N x1 x2 A
def z_M_both (N : Nat) (x1 : Int) (A : zA) : Option zA := z_M_both_2 N x1 0 A
/-- PassChainModel.constants(I)V -/
def z_M_constants_141 (r58 : Int → Int → Int → zA → Option zA) (N : Nat) (x1 : Int) (x2 : Int) (x3 : Int) (x5 : Int) (x6 : Int) (s1 : Int) (s2 : Int) (A : zA) : Option zA := zwb A 245 30 s1 s2 fun A1 => zrd A1 245 30 x2 fun v2 => (if v2 = 0 then zbV (z_M_keep N x1 x3 A1) fun A4 => zbV (z_M_saveKnown_241_242 N x2 A4) fun A5 => r58 x1 (zw (x2 + 1)) x6 A5 else zlet (zsi A1 226 33 ((zi A1 226 33) + 1)) fun A6 => zrd A6 240 60 x5 fun v7 => (if v7 = 0 then zrd A6 231 960 ((240 * x1) + x3) fun v9 => r58 x1 (zw (x2 + 1)) (zw (v9 + 1)) A6 else r58 x1 (zw (x2 + 1)) (zw (x3 + 1)) A6))
def z_M_constants_363 (r58 : Int → Int → Int → zA → Option zA) (N : Nat) (x1 : Int) (x2 : Int) (x3 : Int) (x6 : Int) (A : zA) : Option zA := zwr A 245 30 x2 0 fun A1 => zbV (z_M_keep N x1 x3 A1) fun A2 => r58 x1 (zw (x2 + 1)) x6 A2
def z_M_constants_330_b (r58 : Int → Int → Int → zA → Option zA) (r330 : Int → Int → Int → Int → Int → Int → zA → Option zA) (N : Nat) (x1 : Int) (x2 : Int) (x3 : Int) (x6 : Int) (x7 : Int) (x8 : Int) (A : zA) : Option zA := (if x8 < 60 then zbP (z_M_spoiltBetween N 0 x1 x3 x7 x8 A) fun v2 => (if v2 = 0 then r330 x1 x2 x3 x6 x7 (zw (x8 + 1)) A else zbV (z_M_forget N x8 A) fun A4 => r330 x1 x2 x3 x6 x7 (zw (x8 + 1)) A4) else z_M_constants_363 r58 N x1 x2 x3 x6 A)
def z_M_constants_330_l (r58 : Int → Int → Int → zA → Option zA) (N : Nat) : Nat → Int → Int → Int → Int → Int → Int → zA → Option zA
  | 0 => fun _ _ _ _ _ _ _ => none
  | n + 1 => fun x1 x2 x3 x6 x7 x8 A => z_M_constants_330_b r58 (z_M_constants_330_l r58 N n) N x1 x2 x3 x6 x7 x8 A
def z_M_constants_330 (r58 : Int → Int → Int → zA → Option zA) (N : Nat) (x1 : Int) (x2 : Int) (x3 : Int) (x6 : Int) (x7 : Int) (x8 : Int) (A : zA) : Option zA := z_M_constants_330_l r58 N N x1 x2 x3 x6 x7 x8 A
def z_M_constants_431 (r58 : Int → Int → Int → zA → Option zA) (N : Nat) (x1 : Int) (x2 : Int) (x3 : Int) (x6 : Int) (A : zA) : Option zA := zrd A 231 960 ((240 * x1) + x3) fun v1 => zbP (z_M_field N 0 x1 v1 0 A) fun v2 => (if v2 = 10 then zbV (z_M_loadKnown_241_242 N x2 A) fun A4 => r58 x1 x2 x6 A4 else zrd A 245 30 x2 fun v5 => (if v5 = 0 then zbV (z_M_both N x2 A) fun A7 => r58 x1 x2 x6 A7 else r58 x1 x2 x6 A))
def z_M_constants_58_b (r58 : Int → Int → Int → zA → Option zA) (N : Nat) (x1 : Int) (x2 : Int) (x3 : Int) (A : zA) : Option zA := zbP (z_M_row N 0 x1 A) fun v1 => zrd A 229 12 v1 fun v2 => (if x3 < v2 then zbP (z_M_field N 0 x1 x3 0 A) fun v4 => zbP (z_M_field N 0 x1 x3 1 A) fun v5 => (if v4 < 8 then zbV (z_M_simple N x1 x3 A) fun A7 => r58 x1 x2 (zw (x3 + 1)) A7 else (if v4 = 8 then zrd A 239 60 v5 fun v9 => (if v9 = 1 then z_M_constants_141 r58 N x1 x2 x3 v5 (zw (x3 + 1)) x2 1 A else z_M_constants_141 r58 N x1 x2 x3 v5 (zw (x3 + 1)) x2 0 A) else (if v4 = 9 then zrd A 245 30 (x2 - 1) fun v12 => (if v12 = 0 then zbV (z_M_keep N x1 x3 A) fun A14 => zbV (z_M_saveKnown_243_244 N (zw (x2 - 1)) A14) fun A15 => zbV (z_M_loadKnown_241_242 N (zw (x2 - 1)) A15) fun A16 => r58 x1 x2 (zw (x3 + 1)) A16 else zrd A 231 960 ((240 * x1) + x3) fun v17 => r58 x1 x2 v17 A) else (if v4 = 10 then zrd A 231 960 ((240 * x1) + x3) fun v19 => zrd A 231 960 ((240 * x1) + v19) fun v20 => z_M_constants_330 r58 N x1 x2 x3 (zw (x3 + 1)) v20 0 A else (if v4 = 11 then zbV (z_M_saveKnown_241_242 N (zw (x2 - 1)) A) fun A22 => zbV (z_M_keep N x1 x3 A22) fun A23 => r58 x1 x2 (zw (x3 + 1)) A23 else zrd A 245 30 (x2 + (-1)) fun v24 => (if v24 = 0 then zbV (z_M_keep N x1 x3 A) fun A26 => z_M_constants_431 r58 N x1 (zw (x2 + (-1))) x3 (zw (x3 + 1)) A26 else z_M_constants_431 r58 N x1 (zw (x2 + (-1))) x3 (zw (x3 + 1)) A)))))) else some A)
def z_M_constants_58_l (N : Nat) : Nat → Int → Int → Int → zA → Option zA
  | 0 => fun _ _ _ _ => none
  | n + 1 => fun x1 x2 x3 A => z_M_constants_58_b (z_M_constants_58_l N n) N x1 x2 x3 A
def z_M_constants_58 (N : Nat) (x1 : Int) (x2 : Int) (x3 : Int) (A : zA) : Option zA := z_M_constants_58_l N N x1 x2 x3 A
def z_M_constants_19_b (r19 : Int → Int → zA → Option zA) (N : Nat) (x1 : Int) (x2 : Int) (A : zA) : Option zA := (if x2 < 60 then (if x1 = 3 then zwr A 239 60 x2 1 fun A3 => zwr A3 240 60 x2 0 fun A4 => r19 x1 (zw (x2 + 1)) A4 else zwr A 239 60 x2 0 fun A5 => zwr A5 240 60 x2 0 fun A6 => r19 x1 (zw (x2 + 1)) A6) else z_M_constants_58 N x1 0 0 A)
def z_M_constants_19_l (N : Nat) : Nat → Int → Int → zA → Option zA
  | 0 => fun _ _ _ => none
  | n + 1 => fun x1 x2 A => z_M_constants_19_b (z_M_constants_19_l N n) N x1 x2 A
def z_M_constants_19 (N : Nat) (x1 : Int) (x2 : Int) (A : zA) : Option zA := z_M_constants_19_l N N x1 x2 A
def z_M_constants (N : Nat) (x1 : Int) (A : zA) : Option zA := zbV (z_M_match N 0 x1 A) fun A1 => zbP (z_M_row N 1 x1 A1) fun v2 => zwr A1 229 12 v2 0 fun A3 => z_M_constants_19 N x1 0 A3
/-- PassChainModel.newName()I -/
def z_M_newName (N : Nat) (A : zA) : Option (Int × zA) := zwr A 246 1200 (zi A 226 34) (-1) fun A1 => zlet (zsi A1 226 34 ((zi A1 226 34) + 1)) fun A2 => some ((zw ((zi A2 226 34) - 1)), A2)
/-- PassChainModel.renew()V -/
def z_M_renew_12_b (r12 : Int → zA → Option zA) (N : Nat) (x1 : Int) (A : zA) : Option zA := (if x1 < 60 then zbI (z_M_newName N A) fun v2 A3 => zwr A3 249 60 x1 v2 fun A4 => r12 (zw (x1 + 1)) A4 else some A)
def z_M_renew_12_l (N : Nat) : Nat → Int → zA → Option zA
  | 0 => fun _ _ => none
  | n + 1 => fun x1 A => z_M_renew_12_b (z_M_renew_12_l N n) N x1 A
def z_M_renew_12 (N : Nat) (x1 : Int) (A : zA) : Option zA := z_M_renew_12_l N N x1 A
def z_M_renew (N : Nat) (A : zA) : Option zA := zlet (zsi A 226 34 0) fun A1 => zlet (zsi A1 226 35 0) fun A2 => z_M_renew_12 N 0 A2
/-- PassChainModel.readAt(II)I -/
def z_M_readAt (N : Nat) (x0 : Int) (x1 : Int) (A : zA) : Option Int := (if x0 = 2 then some (zw (2 + x1)) else (if x0 = 4 then some (zw (1 + x1)) else (if 0 < x1 then some 0 else (if x0 = 1 then some 2 else (if x0 = 3 then some 2 else (if x0 = 6 then some 1 else (if x0 = 7 then some 1 else (if x0 = 8 then some 1 else (if x0 = 11 then some 1 else some 0)))))))))
/-- PassChainModel.least(II)I -/
def z_M_least_16_b (r16 : Int → Int → Int → zA → Option Int) (N : Nat) (x2 : Int) (x3 : Int) (x4 : Int) (A : zA) : Option Int := (if x4 < 0 then some x3 else zrd A 249 60 x4 fun v2 => (if v2 = x2 then r16 x2 x4 (zw (x4 + (-1))) A else r16 x2 x3 (zw (x4 + (-1))) A))
def z_M_least_16_l (N : Nat) : Nat → Int → Int → Int → zA → Option Int
  | 0 => fun _ _ _ _ => none
  | n + 1 => fun x2 x3 x4 A => z_M_least_16_b (z_M_least_16_l N n) N x2 x3 x4 A
def z_M_least_16 (N : Nat) (x2 : Int) (x3 : Int) (x4 : Int) (A : zA) : Option Int := z_M_least_16_l N N x2 x3 x4 A
def z_M_least (N : Nat) (x1 : Int) (x2 : Int) (A : zA) : Option Int := zbP (z_M_row N 0 x1 A) fun v1 => zrd A 230 12 v1 fun v2 => z_M_least_16 N x2 (-1) (zw (v2 - 1)) A
/-- PassChainModel.nameOf(III)I -/
def z_M_nameOf_54 (N : Nat) (x1 : Int) (x2 : Int) (x3 : Int) (A : zA) : Option (Int × zA) := zwr A 246 1200 (zi A 226 34) x1 fun A1 => zwr A1 247 1200 (zi A1 226 34) x2 fun A2 => zwr A2 248 1200 (zi A2 226 34) x3 fun A3 => zlet (zsi A3 226 34 ((zi A3 226 34) + 1)) fun A4 => some ((zw ((zi A4 226 34) - 1)), A4)
def z_M_nameOf_3_b (r3 : Int → Int → Int → Int → zA → Option (Int × zA)) (N : Nat) (x1 : Int) (x2 : Int) (x3 : Int) (x4 : Int) (A : zA) : Option (Int × zA) := (if x4 < (zi A 226 34) then zrd A 246 1200 x4 fun v2 => (if v2 = x1 then zrd A 247 1200 x4 fun v4 => (if v4 = x2 then zrd A 248 1200 x4 fun v6 => (if v6 = x3 then some (x4, A) else r3 x1 x2 x3 (zw (x4 + 1)) A) else r3 x1 x2 x3 (zw (x4 + 1)) A) else r3 x1 x2 x3 (zw (x4 + 1)) A) else z_M_nameOf_54 N x1 x2 x3 A)
def z_M_nameOf_3_l (N : Nat) : Nat → Int → Int → Int → Int → zA → Option (Int × zA)
  | 0 => fun _ _ _ _ _ => none
  | n + 1 => fun x1 x2 x3 x4 A => z_M_nameOf_3_b (z_M_nameOf_3_l N n) N x1 x2 x3 x4 A
def z_M_nameOf_3 (N : Nat) (x1 : Int) (x2 : Int) (x3 : Int) (x4 : Int) (A : zA) : Option (Int × zA) := z_M_nameOf_3_l N N x1 x2 x3 x4 A
def z_M_nameOf (N : Nat) (x1 : Int) (x2 : Int) (x3 : Int) (A : zA) : Option (Int × zA) := z_M_nameOf_3 N x1 x2 x3 0 A
/-- PassChainModel.common(I)V -/
def z_M_common_84 (r6 : Int → Int → zA → Option zA) (r41 : Int → Int → Int → Int → Int → Int → zA → Option zA) (N : Nat) (x1 : Int) (x2 : Int) (x3 : Int) (x4 : Int) (x5 : Int) (x6 : Int) (x7 : Int) (s0 : Int) (A : zA) : Option zA := (if 0 < x7 then zrd A 228 14400 (x3 + x7) fun v2 => (if s0 = v2 then r41 x1 x2 x3 x4 x5 (zw (x6 + 1)) A else zwr A 228 14400 (x3 + x7) s0 fun A4 => r41 x1 x2 x3 x4 1 (zw (x6 + 1)) A4) else r41 x1 x2 x3 x4 x5 (zw (x6 + 1)) A)
def z_M_common_316 (r6 : Int → Int → zA → Option zA) (N : Nat) (x1 : Int) (x2 : Int) (x5 : Int) (x6 : Int) (x8 : Int) (A : zA) : Option zA := zwr A 249 60 x6 x8 fun A1 => zlet (zsi A1 226 33 ((zi A1 226 33) + x5)) fun A2 => r6 x1 (zw (x2 + 1)) A2
def z_M_common_262 (r6 : Int → Int → zA → Option zA) (N : Nat) (x1 : Int) (x2 : Int) (x3 : Int) (x5 : Int) (x6 : Int) (s0 : Int) (A : zA) : Option zA := zbP (z_M_least N x1 s0 A) fun v1 => (if v1 < 0 then z_M_common_316 r6 N x1 x2 x5 x6 s0 A else zwr A 228 14400 x3 1 fun A3 => zwr A3 228 14400 (x3 + 2) v1 fun A4 => zwr A4 228 14400 (x3 + 3) 0 fun A5 => zwr A5 228 14400 (x3 + 4) 0 fun A6 => z_M_common_316 r6 N x1 x2 1 x6 s0 A6)
def z_M_common_204 (r6 : Int → Int → zA → Option zA) (N : Nat) (x1 : Int) (x2 : Int) (x3 : Int) (x4 : Int) (x5 : Int) (x6 : Int) (x7 : Int) (A : zA) : Option zA := (if x4 = 2 then zrd A 228 14400 (x3 + 4) fun v2 => zrd A 249 60 x7 fun v3 => zrd A 228 14400 (x3 + 3) fun v4 => zrd A 249 60 v4 fun v5 => zbI (z_M_nameOf N v2 v3 v5 A) fun v6 A7 => z_M_common_262 r6 N x1 x2 x3 x5 x6 v6 A7 else zrd A 249 60 x7 fun v8 => zbI (z_M_nameOf N 50 v8 (zi A 226 35) A) fun v9 A10 => z_M_common_262 r6 N x1 x2 x3 x5 x6 v9 A10)
def z_M_common_125 (r6 : Int → Int → zA → Option zA) (N : Nat) (x1 : Int) (x2 : Int) (x3 : Int) (x4 : Int) (x5 : Int) (A : zA) : Option zA := zrd A 228 14400 (x3 + 1) fun v1 => zrd A 228 14400 (x3 + 2) fun v2 => (if x4 = 0 then zbI (z_M_nameOf N 100 v2 0 A) fun v4 A5 => zwr A5 249 60 v1 v4 fun A6 => zlet (zsi A6 226 33 ((zi A6 226 33) + x5)) fun A7 => r6 x1 (zw (x2 + 1)) A7 else (if x4 = 1 then zrd A 249 60 v2 fun v9 => zwr A 249 60 v1 v9 fun A10 => zlet (zsi A10 226 33 ((zi A10 226 33) + x5)) fun A11 => r6 x1 (zw (x2 + 1)) A11 else (if x4 = 2 then z_M_common_204 r6 N x1 x2 x3 x4 x5 v1 v2 A else (if x4 = 3 then z_M_common_204 r6 N x1 x2 x3 x4 x5 v1 v2 A else (if x4 = 5 then zbI (z_M_newName N A) fun v15 A16 => zwr A16 249 60 v1 v15 fun A17 => zlet (zsi A17 226 33 ((zi A17 226 33) + x5)) fun A18 => r6 x1 (zw (x2 + 1)) A18 else (if x4 = 4 then zlet (zsi A 226 35 ((zi A 226 35) + 1)) fun A20 => zlet (zsi A20 226 33 ((zi A20 226 33) + x5)) fun A21 => r6 x1 (zw (x2 + 1)) A21 else (if x4 = 6 then zlet (zsi A 226 33 ((zi A 226 33) + x5)) fun A23 => r6 x1 (zw (x2 + 1)) A23 else zbV (z_M_renew N A) fun A24 => zlet (zsi A24 226 33 ((zi A24 226 33) + x5)) fun A25 => r6 x1 (zw (x2 + 1)) A25)))))))
def z_M_common_41_b (r6 : Int → Int → zA → Option zA) (r41 : Int → Int → Int → Int → Int → Int → zA → Option zA) (N : Nat) (x1 : Int) (x2 : Int) (x3 : Int) (x4 : Int) (x5 : Int) (x6 : Int) (A : zA) : Option zA := (if x6 < 2 then zbP (z_M_readAt N x4 x6 A) fun v2 => (if 0 < v2 then zrd A 228 14400 (x3 + v2) fun v4 => zrd A 249 60 v4 fun v5 => zbP (z_M_least N x1 v5 A) fun v6 => z_M_common_84 r6 r41 N x1 x2 x3 x4 x5 x6 v2 v6 A else z_M_common_84 r6 r41 N x1 x2 x3 x4 x5 x6 v2 0 A) else z_M_common_125 r6 N x1 x2 x3 x4 x5 A)
def z_M_common_41_l (r6 : Int → Int → zA → Option zA) (N : Nat) : Nat → Int → Int → Int → Int → Int → Int → zA → Option zA
  | 0 => fun _ _ _ _ _ _ _ => none
  | n + 1 => fun x1 x2 x3 x4 x5 x6 A => z_M_common_41_b r6 (z_M_common_41_l r6 N n) N x1 x2 x3 x4 x5 x6 A
def z_M_common_41 (r6 : Int → Int → zA → Option zA) (N : Nat) (x1 : Int) (x2 : Int) (x3 : Int) (x4 : Int) (x5 : Int) (x6 : Int) (A : zA) : Option zA := z_M_common_41_l r6 N N x1 x2 x3 x4 x5 x6 A
def z_M_common_6_b (r6 : Int → Int → zA → Option zA) (N : Nat) (x1 : Int) (x2 : Int) (A : zA) : Option zA := zbP (z_M_row N 1 x1 A) fun v1 => zrd A 229 12 v1 fun v2 => (if x2 < v2 then zbP (z_M_place N 1 x1 x2 A) fun v4 => zrd A 228 14400 v4 fun v5 => z_M_common_41 r6 N x1 x2 v4 v5 0 0 A else some A)
def z_M_common_6_l (N : Nat) : Nat → Int → Int → zA → Option zA
  | 0 => fun _ _ _ => none
  | n + 1 => fun x1 x2 A => z_M_common_6_b (z_M_common_6_l N n) N x1 x2 A
def z_M_common_6 (N : Nat) (x1 : Int) (x2 : Int) (A : zA) : Option zA := z_M_common_6_l N N x1 x2 A
def z_M_common (N : Nat) (x1 : Int) (A : zA) : Option zA := zbV (z_M_renew N A) fun A1 => z_M_common_6 N x1 0 A1
/-- PassChainModel.follows(II)J -/
def z_M_follows (N : Nat) (x1 : Int) (x2 : Int) (A : zA) : Option Int64 := zbP (z_M_field N 0 x1 x2 0 A) fun v1 => zrd A 231 960 ((240 * x1) + x2) fun v2 => (if v1 = 8 then zrl A 250 241 (x2 + 1) fun v4 => zrl A 250 241 (v2 + 1) fun v5 => some (v4 ||| v5) else (if v1 = 9 then zrl A 250 241 v2 fun v7 => some v7 else (if v1 = 11 then zrl A 250 241 (x2 + 1) fun v9 => zrl A 250 241 (v2 + 1) fun v10 => some (v9 ||| v10) else (if v1 = 12 then zbP (z_M_field N 0 x1 v2 0 A) fun v12 => (if v12 = 10 then zrl A 250 241 v2 fun v14 => some v14 else zrl A 250 241 (x2 + 1) fun v15 => some v15) else zrl A 250 241 (x2 + 1) fun v16 => some v16))))
/-- PassChainModel.divides(III)Z -/
def z_M_divides (N : Nat) (x1 : Int) (x2 : Int) (x3 : Int) (A : zA) : Option Int := zbP (z_M_field N x1 x2 x3 0 A) fun v1 => (if v1 = 2 then zbP (z_M_field N x1 x2 x3 4 A) fun v3 => (if v3 = 3 then some 1 else some 0) else some 0)
/-- PassChainModel.isPlain(III)Z -/
def z_M_isPlain (N : Nat) (x1 : Int) (x2 : Int) (x3 : Int) (A : zA) : Option Int := zbP (z_M_field N x1 x2 x3 0 A) fun v1 => (if 2 < v1 then some 0 else zbP (z_M_divides N x1 x2 x3 A) fun v3 => (if v3 = 0 then some 1 else some 0))
/-- PassChainModel.ahead(IIJ)J -/
def z_M_ahead_113 (N : Nat) (x6 : Int64) (x8 : Int) (A : zA) : Option Int64 := (if x8 = 7 then some (x6 ||| (Int64.ofNat 63)) else some x6)
def z_M_ahead_66_b (r66 : Int → Int → Int64 → Int → Int → zA → Option Int64) (N : Nat) (x1 : Int) (x2 : Int) (x6 : Int64) (x8 : Int) (x9 : Int) (A : zA) : Option Int64 := (if x9 < 2 then zbP (z_M_readAt N x8 x9 A) fun v2 => (if 0 < v2 then zbP (z_M_field N 0 x1 x2 v2 A) fun v4 => r66 x1 x2 (x6 ||| (zlsl (Int64.ofNat 1) v4)) x8 (zw (x9 + 1)) A else r66 x1 x2 x6 x8 (zw (x9 + 1)) A) else z_M_ahead_113 N x6 x8 A)
def z_M_ahead_66_l (N : Nat) : Nat → Int → Int → Int64 → Int → Int → zA → Option Int64
  | 0 => fun _ _ _ _ _ _ => none
  | n + 1 => fun x1 x2 x6 x8 x9 A => z_M_ahead_66_b (z_M_ahead_66_l N n) N x1 x2 x6 x8 x9 A
def z_M_ahead_66 (N : Nat) (x1 : Int) (x2 : Int) (x6 : Int64) (x8 : Int) (x9 : Int) (A : zA) : Option Int64 := z_M_ahead_66_l N N x1 x2 x6 x8 x9 A
def z_M_ahead_51 (N : Nat) (x1 : Int) (x2 : Int) (s0 : Int64) (A : zA) : Option Int64 := zbP (z_M_field N 0 x1 x2 0 A) fun v1 => z_M_ahead_66 N x1 x2 s0 v1 0 A
def z_M_ahead_32 (N : Nat) (x1 : Int) (x2 : Int) (x3 : Int64) (x5 : Int) (A : zA) : Option Int64 := (if x5 < 0 then z_M_ahead_51 N x1 x2 x3 A else z_M_ahead_51 N x1 x2 (x3 &&& ((zlsl (Int64.ofNat 1) x5) ^^^ (Int64.ofNat 18446744073709551615))) A)
def z_M_ahead (N : Nat) (x1 : Int) (x2 : Int) (x3 : Int64) (A : zA) : Option Int64 := zbP (z_M_writes N 0 x1 x2 A) fun v1 => zbP (z_M_isPlain N 0 x1 x2 A) fun v2 => (if v2 = 0 then z_M_ahead_32 N x1 x2 x3 v1 A else (if ((lg_cmp ((zlsr x3 v1) &&& (Int64.ofNat 1)) (Int64.ofNat 0)).toInt) = 0 then some x3 else z_M_ahead_32 N x1 x2 x3 v1 A))
/-- PassChainModel.dead(I)V -/
def z_M_dead_106 (r57 : Int → Int → Int → zA → Option zA) (r68 : Int → Int → Int → Int → zA → Option zA) (N : Nat) (x1 : Int) (x2 : Int) (x4 : Int) (x5 : Int64) (A : zA) : Option zA := zwl A 250 241 x4 x5 fun A1 => r68 x1 x2 1 (zw (x4 + (-1))) A1
def z_M_dead_68_b (r57 : Int → Int → Int → zA → Option zA) (r68 : Int → Int → Int → Int → zA → Option zA) (N : Nat) (x1 : Int) (x2 : Int) (x3 : Int) (x4 : Int) (A : zA) : Option zA := (if x4 < 0 then r57 x1 x2 x3 A else zbJ (z_M_follows N x1 x4 A) fun v2 => zbJ (z_M_ahead N x1 x4 v2 A) fun v3 => (if x3 = 0 then zrl A 250 241 x4 fun v5 => (if ((lg_cmp v3 v5).toInt) = 0 then zwl A 250 241 x4 v3 fun A7 => r68 x1 x2 0 (zw (x4 + (-1))) A7 else z_M_dead_106 r57 r68 N x1 x2 x4 v3 A) else z_M_dead_106 r57 r68 N x1 x2 x4 v3 A))
def z_M_dead_68_l (r57 : Int → Int → Int → zA → Option zA) (N : Nat) : Nat → Int → Int → Int → Int → zA → Option zA
  | 0 => fun _ _ _ _ _ => none
  | n + 1 => fun x1 x2 x3 x4 A => z_M_dead_68_b r57 (z_M_dead_68_l r57 N n) N x1 x2 x3 x4 A
def z_M_dead_68 (r57 : Int → Int → Int → zA → Option zA) (N : Nat) (x1 : Int) (x2 : Int) (x3 : Int) (x4 : Int) (A : zA) : Option zA := z_M_dead_68_l r57 N N x1 x2 x3 x4 A
def z_M_dead_197 (r144 : Int → Int → Int → zA → Option zA) (N : Nat) (x1 : Int) (x2 : Int) (x4 : Int) (A : zA) : Option zA := zbV (z_M_keep N x1 x4 A) fun A1 => r144 x1 x2 (zw (x4 + 1)) A1
def z_M_dead_144_b (r144 : Int → Int → Int → zA → Option zA) (N : Nat) (x1 : Int) (x2 : Int) (x4 : Int) (A : zA) : Option zA := (if x4 < x2 then zbP (z_M_isPlain N 0 x1 x4 A) fun v2 => (if v2 = 0 then z_M_dead_197 r144 N x1 x2 x4 A else zbJ (z_M_follows N x1 x4 A) fun v4 => zbP (z_M_writes N 0 x1 x4 A) fun v5 => (if ((lg_cmp ((zlsr v4 v5) &&& (Int64.ofNat 1)) (Int64.ofNat 0)).toInt) = 0 then zlet (zsi A 226 33 ((zi A 226 33) + 1)) fun A7 => r144 x1 x2 (zw (x4 + 1)) A7 else z_M_dead_197 r144 N x1 x2 x4 A)) else some A)
def z_M_dead_144_l (N : Nat) : Nat → Int → Int → Int → zA → Option zA
  | 0 => fun _ _ _ _ => none
  | n + 1 => fun x1 x2 x4 A => z_M_dead_144_b (z_M_dead_144_l N n) N x1 x2 x4 A
def z_M_dead_144 (N : Nat) (x1 : Int) (x2 : Int) (x4 : Int) (A : zA) : Option zA := z_M_dead_144_l N N x1 x2 x4 A
def z_M_dead_130 (N : Nat) (x1 : Int) (x2 : Int) (A : zA) : Option zA := zbP (z_M_row N 1 x1 A) fun v1 => zwr A 229 12 v1 0 fun A2 => z_M_dead_144 N x1 x2 0 A2
def z_M_dead_57_b (r57 : Int → Int → Int → zA → Option zA) (N : Nat) (x1 : Int) (x2 : Int) (x3 : Int) (A : zA) : Option zA := (if x3 = 0 then z_M_dead_130 N x1 x2 A else z_M_dead_68 r57 N x1 x2 0 (zw (x2 - 1)) A)
def z_M_dead_57_l (N : Nat) : Nat → Int → Int → Int → zA → Option zA
  | 0 => fun _ _ _ _ => none
  | n + 1 => fun x1 x2 x3 A => z_M_dead_57_b (z_M_dead_57_l N n) N x1 x2 x3 A
def z_M_dead_57 (N : Nat) (x1 : Int) (x2 : Int) (x3 : Int) (A : zA) : Option zA := z_M_dead_57_l N N x1 x2 x3 A
def z_M_dead_37 (N : Nat) (x1 : Int) (x2 : Int) (A : zA) : Option zA := (if x1 = 3 then zwl A 250 241 x2 (Int64.ofNat 0) fun A2 => z_M_dead_57 N x1 x2 1 A2 else zwl A 250 241 x2 (Int64.ofNat 63) fun A3 => z_M_dead_57 N x1 x2 1 A3)
def z_M_dead_19_b (r19 : Int → Int → Int → zA → Option zA) (N : Nat) (x1 : Int) (x2 : Int) (x3 : Int) (A : zA) : Option zA := (if x3 < x2 then zwl A 250 241 x3 (Int64.ofNat 0) fun A2 => r19 x1 x2 (zw (x3 + 1)) A2 else z_M_dead_37 N x1 x2 A)
def z_M_dead_19_l (N : Nat) : Nat → Int → Int → Int → zA → Option zA
  | 0 => fun _ _ _ _ => none
  | n + 1 => fun x1 x2 x3 A => z_M_dead_19_b (z_M_dead_19_l N n) N x1 x2 x3 A
def z_M_dead_19 (N : Nat) (x1 : Int) (x2 : Int) (x3 : Int) (A : zA) : Option zA := z_M_dead_19_l N N x1 x2 x3 A
def z_M_dead (N : Nat) (x1 : Int) (A : zA) : Option zA := zbV (z_M_match N 0 x1 A) fun A1 => zbP (z_M_row N 0 x1 A1) fun v2 => zrd A1 229 12 v2 fun v3 => z_M_dead_19 N x1 v3 0 A1
/-- PassChainModel.isSteady(IIII)Z -/
def z_M_isSteady_67_b (r67 : Int → Int → Int → Int → Int → zA → Option Int) (N : Nat) (x1 : Int) (x2 : Int) (x3 : Int) (x4 : Int) (x6 : Int) (A : zA) : Option Int := (if x6 < 2 then zbP (z_M_field N 1 x1 x4 0 A) fun v2 => zbP (z_M_readAt N v2 x6 A) fun v3 => (if 0 < v3 then zbP (z_M_field N 1 x1 x4 v3 A) fun v5 => zbP (z_M_spoiltBetween N 1 x1 x2 x3 v5 A) fun v6 => (if v6 = 0 then r67 x1 x2 x3 x4 (zw (x6 + 1)) A else some 0) else r67 x1 x2 x3 x4 (zw (x6 + 1)) A) else some 1)
def z_M_isSteady_67_l (N : Nat) : Nat → Int → Int → Int → Int → Int → zA → Option Int
  | 0 => fun _ _ _ _ _ _ => none
  | n + 1 => fun x1 x2 x3 x4 x6 A => z_M_isSteady_67_b (z_M_isSteady_67_l N n) N x1 x2 x3 x4 x6 A
def z_M_isSteady_67 (N : Nat) (x1 : Int) (x2 : Int) (x3 : Int) (x4 : Int) (x6 : Int) (A : zA) : Option Int := z_M_isSteady_67_l N N x1 x2 x3 x4 x6 A
def z_M_isSteady (N : Nat) (x1 : Int) (x2 : Int) (x3 : Int) (x4 : Int) (A : zA) : Option Int := zbP (z_M_isPlain N 1 x1 x4 A) fun v1 => (if v1 = 0 then some 0 else zbP (z_M_writes N 1 x1 x4 A) fun v3 => (if v3 < 7 then some 0 else zbP (z_M_spoiltBetween N 1 x1 x2 (zw (x4 - 1)) v3 A) fun v5 => (if v5 = 0 then zbP (z_M_spoiltBetween N 1 x1 (zw (x4 + 1)) x3 v3 A) fun v7 => (if v7 = 0 then z_M_isSteady_67 N x1 x2 x3 x4 0 A else some 0) else some 0)))
/-- PassChainModel.moveUp(III)V -/
def z_M_moveUp_74_b (r74 : Int → Int → Int → zA → Option zA) (N : Nat) (x1 : Int) (x2 : Int) (x4 : Int) (A : zA) : Option zA := (if x4 < 5 then zbP (z_M_place N 1 x1 x2 A) fun v2 => zrd A 251 5 x4 fun v3 => zwr A 228 14400 (v2 + x4) v3 fun A4 => r74 x1 x2 (zw (x4 + 1)) A4 else some A)
def z_M_moveUp_74_l (N : Nat) : Nat → Int → Int → Int → zA → Option zA
  | 0 => fun _ _ _ _ => none
  | n + 1 => fun x1 x2 x4 A => z_M_moveUp_74_b (z_M_moveUp_74_l N n) N x1 x2 x4 A
def z_M_moveUp_74 (N : Nat) (x1 : Int) (x2 : Int) (x4 : Int) (A : zA) : Option zA := z_M_moveUp_74_l N N x1 x2 x4 A
def z_M_moveUp_39_b (r39 : Int → Int → Int → zA → Option zA) (N : Nat) (x1 : Int) (x2 : Int) (x4 : Int) (A : zA) : Option zA := (if x2 < x4 then zbP (z_M_place N 1 x1 (zw (x4 - 1)) A) fun v2 => zbP (z_M_place N 1 x1 x4 A) fun v3 => zbV (z_M_copyItem N v2 v3 A) fun A4 => r39 x1 x2 (zw (x4 + (-1))) A4 else z_M_moveUp_74 N x1 x2 0 A)
def z_M_moveUp_39_l (N : Nat) : Nat → Int → Int → Int → zA → Option zA
  | 0 => fun _ _ _ _ => none
  | n + 1 => fun x1 x2 x4 A => z_M_moveUp_39_b (z_M_moveUp_39_l N n) N x1 x2 x4 A
def z_M_moveUp_39 (N : Nat) (x1 : Int) (x2 : Int) (x4 : Int) (A : zA) : Option zA := z_M_moveUp_39_l N N x1 x2 x4 A
def z_M_moveUp_3_b (r3 : Int → Int → Int → Int → zA → Option zA) (N : Nat) (x1 : Int) (x2 : Int) (x3 : Int) (x4 : Int) (A : zA) : Option zA := (if x4 < 5 then zbP (z_M_place N 1 x1 x3 A) fun v2 => zrd A 228 14400 (v2 + x4) fun v3 => zwr A 251 5 x4 v3 fun A4 => r3 x1 x2 x3 (zw (x4 + 1)) A4 else z_M_moveUp_39 N x1 x2 x3 A)
def z_M_moveUp_3_l (N : Nat) : Nat → Int → Int → Int → Int → zA → Option zA
  | 0 => fun _ _ _ _ _ => none
  | n + 1 => fun x1 x2 x3 x4 A => z_M_moveUp_3_b (z_M_moveUp_3_l N n) N x1 x2 x3 x4 A
def z_M_moveUp_3 (N : Nat) (x1 : Int) (x2 : Int) (x3 : Int) (x4 : Int) (A : zA) : Option zA := z_M_moveUp_3_l N N x1 x2 x3 x4 A
def z_M_moveUp (N : Nat) (x1 : Int) (x2 : Int) (x3 : Int) (A : zA) : Option zA := z_M_moveUp_3 N x1 x2 x3 0 A
/-- PassChainModel.hoist(I)V -/
def z_M_hoist_75_b (r13 : Int → Int → zA → Option zA) (r75 : Int → Int → Int → Int → Int → Int → zA → Option zA) (N : Nat) (x1 : Int) (x2 : Int) (x3 : Int) (x4 : Int) (x5 : Int) (x6 : Int) (A : zA) : Option zA := (if x6 < x4 then zbP (z_M_isSteady N x1 (zw (x3 + 1)) x5 x6 A) fun v2 => (if v2 = 0 then r75 x1 x2 x3 x4 x5 (zw (x6 + 1)) A else zbV (z_M_moveUp N x1 x3 x6 A) fun A4 => zlet (zsi A4 226 33 ((zi A4 226 33) + 1)) fun A5 => r75 x1 x2 (zw (x3 + 1)) x4 x5 (zw (x6 + 1)) A5) else r13 x1 (zw (x2 + (-1))) A)
def z_M_hoist_75_l (r13 : Int → Int → zA → Option zA) (N : Nat) : Nat → Int → Int → Int → Int → Int → Int → zA → Option zA
  | 0 => fun _ _ _ _ _ _ _ => none
  | n + 1 => fun x1 x2 x3 x4 x5 x6 A => z_M_hoist_75_b r13 (z_M_hoist_75_l r13 N n) N x1 x2 x3 x4 x5 x6 A
def z_M_hoist_75 (r13 : Int → Int → zA → Option zA) (N : Nat) (x1 : Int) (x2 : Int) (x3 : Int) (x4 : Int) (x5 : Int) (x6 : Int) (A : zA) : Option zA := z_M_hoist_75_l r13 N N x1 x2 x3 x4 x5 x6 A
def z_M_hoist_13_b (r13 : Int → Int → zA → Option zA) (N : Nat) (x1 : Int) (x2 : Int) (A : zA) : Option zA := (if x2 < 0 then some A else zbP (z_M_field N 1 x1 x2 0 A) fun v2 => (if v2 = 10 then zbV (z_M_match N 1 x1 A) fun A4 => zrd A4 231 960 ((240 * x1) + x2) fun v5 => zrd A4 231 960 ((240 * x1) + v5) fun v6 => z_M_hoist_75 r13 N x1 x2 x2 v5 v6 (zw (x2 + 1)) A4 else r13 x1 (zw (x2 + (-1))) A))
def z_M_hoist_13_l (N : Nat) : Nat → Int → Int → zA → Option zA
  | 0 => fun _ _ _ => none
  | n + 1 => fun x1 x2 A => z_M_hoist_13_b (z_M_hoist_13_l N n) N x1 x2 A
def z_M_hoist_13 (N : Nat) (x1 : Int) (x2 : Int) (A : zA) : Option zA := z_M_hoist_13_l N N x1 x2 A
def z_M_hoist (N : Nat) (x1 : Int) (A : zA) : Option zA := zbP (z_M_row N 1 x1 A) fun v1 => zrd A 229 12 v1 fun v2 => z_M_hoist_13 N x1 (zw (v2 - 1)) A
/-- PassChainModel.shifted(IIII)V -/
def z_M_shifted_111_b (r111 : Int → Int → Int → Int → Int → zA → Option zA) (N : Nat) (x4 : Int) (x5 : Int) (x6 : Int) (x7 : Int) (x9 : Int) (A : zA) : Option zA := (if x9 < 2 then zbP (z_M_readAt N x7 x9 A) fun v2 => (if 0 < v2 then zrd A 228 14400 (x5 + v2) fun v4 => (if v4 < 6 then r111 x4 x5 x6 x7 (zw (x9 + 1)) A else zrd A 228 14400 (x6 + v2) fun v6 => zwr A 228 14400 (x6 + v2) (v6 + x4) fun A7 => r111 x4 x5 x6 x7 (zw (x9 + 1)) A7) else r111 x4 x5 x6 x7 (zw (x9 + 1)) A) else some A)
def z_M_shifted_111_l (N : Nat) : Nat → Int → Int → Int → Int → Int → zA → Option zA
  | 0 => fun _ _ _ _ _ _ => none
  | n + 1 => fun x4 x5 x6 x7 x9 A => z_M_shifted_111_b (z_M_shifted_111_l N n) N x4 x5 x6 x7 x9 A
def z_M_shifted_111 (N : Nat) (x4 : Int) (x5 : Int) (x6 : Int) (x7 : Int) (x9 : Int) (A : zA) : Option zA := z_M_shifted_111_l N N x4 x5 x6 x7 x9 A
def z_M_shifted_73 (N : Nat) (x4 : Int) (x5 : Int) (x6 : Int) (x7 : Int) (s0 : Int) (A : zA) : Option zA := (if s0 = 0 then z_M_shifted_111 N x4 x5 x6 x7 0 A else zrd A 228 14400 (x5 + 1) fun v2 => (if v2 < 6 then z_M_shifted_111 N x4 x5 x6 x7 0 A else zrd A 228 14400 (x6 + 1) fun v4 => zwr A 228 14400 (x6 + 1) (v4 + x4) fun A5 => z_M_shifted_111 N x4 x5 x6 x7 0 A5))
def z_M_shifted (N : Nat) (x1 : Int) (x2 : Int) (x3 : Int) (x4 : Int) (A : zA) : Option zA := zbP (z_M_place N 1 x2 x3 A) fun v1 => zbP (z_M_row N 1 x1 A) fun v2 => zrd A 229 12 v2 fun v3 => zbP (z_M_place N 1 x1 v3 A) fun v4 => zbV (z_M_copyItem N v1 v4 A) fun A5 => zbP (z_M_row N 1 x1 A5) fun v6 => zrd A5 229 12 v6 fun v7 => zwr A5 229 12 v6 (v7 + 1) fun A8 => zrd A8 228 14400 v1 fun v9 => (if 3 < v9 then (if v9 = 5 then z_M_shifted_73 N x4 v1 v4 v9 1 A8 else z_M_shifted_73 N x4 v1 v4 v9 0 A8) else z_M_shifted_73 N x4 v1 v4 v9 1 A8)
/-- PassChainModel.inline(I)V -/
def z_M_inline_95 (r24 : Int → Int → Int → zA → Option zA) (N : Nat) (x1 : Int) (x2 : Int) (x3 : Int) (A : zA) : Option zA := zbV (z_M_keep N x1 x3 A) fun A1 => r24 x1 x2 (zw (x3 + 1)) A1
def z_M_inline_172 (r24 : Int → Int → Int → zA → Option zA) (N : Nat) (x1 : Int) (x2 : Int) (x3 : Int) (x4 : Int) (x5 : Int) (A : zA) : Option zA := zbP (z_M_row N 1 x1 A) fun v1 => zbP (z_M_row N 1 x5 A) fun v2 => zrd A 230 12 v2 fun v3 => zwr A 230 12 v1 ((x4 + v3) - 6) fun A4 => r24 x1 x2 (zw (x3 + 1)) A4
def z_M_inline_136_b (r24 : Int → Int → Int → zA → Option zA) (r136 : Int → Int → Int → Int → Int → Int → zA → Option zA) (N : Nat) (x1 : Int) (x2 : Int) (x3 : Int) (x4 : Int) (x5 : Int) (x6 : Int) (A : zA) : Option zA := zbP (z_M_row N 1 x5 A) fun v1 => zrd A 229 12 v1 fun v2 => (if x6 < v2 then zbV (z_M_shifted N x1 x5 x6 (zw (x4 - 6)) A) fun A4 => r136 x1 x2 x3 x4 x5 (zw (x6 + 1)) A4 else z_M_inline_172 r24 N x1 x2 x3 x4 x5 A)
def z_M_inline_136_l (r24 : Int → Int → Int → zA → Option zA) (N : Nat) : Nat → Int → Int → Int → Int → Int → Int → zA → Option zA
  | 0 => fun _ _ _ _ _ _ _ => none
  | n + 1 => fun x1 x2 x3 x4 x5 x6 A => z_M_inline_136_b r24 (z_M_inline_136_l r24 N n) N x1 x2 x3 x4 x5 x6 A
def z_M_inline_136 (r24 : Int → Int → Int → zA → Option zA) (N : Nat) (x1 : Int) (x2 : Int) (x3 : Int) (x4 : Int) (x5 : Int) (x6 : Int) (A : zA) : Option zA := z_M_inline_136_l r24 N N x1 x2 x3 x4 x5 x6 A
def z_M_inline_66 (r24 : Int → Int → Int → zA → Option zA) (N : Nat) (x1 : Int) (x2 : Int) (x3 : Int) (x4 : Int) (s0 : Int) (A : zA) : Option zA := (if s0 < 0 then z_M_inline_95 r24 N x1 x2 x3 A else zbP (z_M_row N 1 s0 A) fun v2 => zrd A 230 12 v2 fun v3 => (if 60 < (zw ((x4 + v3) - 6)) then z_M_inline_95 r24 N x1 x2 x3 A else zlet (zsi A 226 33 ((zi A 226 33) + 1)) fun A5 => zbP (z_M_field N 0 x1 x3 1 A5) fun v6 => zbV (z_M_emit N 1 x1 1 x4 v6 0 0 A5) fun A7 => z_M_inline_136 r24 N x1 x2 x3 x4 s0 0 A7))
def z_M_inline_24_b (r24 : Int → Int → Int → zA → Option zA) (N : Nat) (x1 : Int) (x2 : Int) (x3 : Int) (A : zA) : Option zA := (if x3 < x2 then zbP (z_M_row N 1 x1 A) fun v2 => zrd A 230 12 v2 fun v3 => zbP (z_M_field N 0 x1 x3 0 A) fun v4 => (if v4 = 7 then zbP (z_M_field N 0 x1 x3 2 A) fun v6 => z_M_inline_66 r24 N x1 x2 x3 v3 v6 A else z_M_inline_66 r24 N x1 x2 x3 v3 (-1) A) else some A)
def z_M_inline_24_l (N : Nat) : Nat → Int → Int → Int → zA → Option zA
  | 0 => fun _ _ _ _ => none
  | n + 1 => fun x1 x2 x3 A => z_M_inline_24_b (z_M_inline_24_l N n) N x1 x2 x3 A
def z_M_inline_24 (N : Nat) (x1 : Int) (x2 : Int) (x3 : Int) (A : zA) : Option zA := z_M_inline_24_l N N x1 x2 x3 A
def z_M_inline (N : Nat) (x1 : Int) (A : zA) : Option zA := zbP (z_M_row N 0 x1 A) fun v1 => zrd A 229 12 v1 fun v2 => zbP (z_M_row N 1 x1 A) fun v3 => zwr A 229 12 v3 0 fun A4 => z_M_inline_24 N x1 v2 0 A4
/-- PassChainModel.thing(IIII)I -/
def z_M_thing_108 (N : Nat) (x1 : Int) (x2 : Int) (x3 : Int) (x4 : Int) (x5 : Int) (A : zA) : Option (Int × zA) := (if (zi A 226 42) = 16000 then some (0, A) else zwr A 252 16000 (zi A 226 42) x1 fun A2 => zwr A2 253 16000 (zi A2 226 42) x2 fun A3 => zwr A3 254 16000 (zi A3 226 42) x3 fun A4 => zwr A4 255 16000 (zi A4 226 42) x4 fun A5 => zrd A5 258 4096 x5 fun v6 => zwr A5 256 16000 (zi A5 226 42) v6 fun A7 => zwr A7 258 4096 x5 (zi A7 226 42) fun A8 => zwr A8 257 16000 (zi A8 226 42) x5 fun A9 => zlet (zsi A9 226 42 ((zi A9 226 42) + 1)) fun A10 => some ((zw ((zi A10 226 42) - 1)), A10))
def z_M_thing_43_b (r43 : Int → Int → Int → Int → Int → Int → zA → Option (Int × zA)) (N : Nat) (x1 : Int) (x2 : Int) (x3 : Int) (x4 : Int) (x5 : Int) (x6 : Int) (A : zA) : Option (Int × zA) := (if x6 < 0 then z_M_thing_108 N x1 x2 x3 x4 x5 A else zrd A 252 16000 x6 fun v2 => (if v2 = x1 then zrd A 253 16000 x6 fun v4 => (if v4 = x2 then zrd A 254 16000 x6 fun v6 => (if v6 = x3 then zrd A 255 16000 x6 fun v8 => (if v8 = x4 then some (x6, A) else zrd A 256 16000 x6 fun v10 => r43 x1 x2 x3 x4 x5 v10 A) else zrd A 256 16000 x6 fun v11 => r43 x1 x2 x3 x4 x5 v11 A) else zrd A 256 16000 x6 fun v12 => r43 x1 x2 x3 x4 x5 v12 A) else zrd A 256 16000 x6 fun v13 => r43 x1 x2 x3 x4 x5 v13 A))
def z_M_thing_43_l (N : Nat) : Nat → Int → Int → Int → Int → Int → Int → zA → Option (Int × zA)
  | 0 => fun _ _ _ _ _ _ _ => none
  | n + 1 => fun x1 x2 x3 x4 x5 x6 A => z_M_thing_43_b (z_M_thing_43_l N n) N x1 x2 x3 x4 x5 x6 A
def z_M_thing_43 (N : Nat) (x1 : Int) (x2 : Int) (x3 : Int) (x4 : Int) (x5 : Int) (x6 : Int) (A : zA) : Option (Int × zA) := z_M_thing_43_l N N x1 x2 x3 x4 x5 x6 A
def z_M_thing (N : Nat) (x1 : Int) (x2 : Int) (x3 : Int) (x4 : Int) (A : zA) : Option (Int × zA) := zrd A 258 4096 (zan (zxr (zw ((((((x1 * 31) + x2) * 127) + x3) * 8191) + x4)) (zuh (zw ((((((x1 * 31) + x2) * 127) + x3) * 8191) + x4)) 15)) 4095) fun v1 => z_M_thing_43 N x1 x2 x3 x4 (zan (zxr (zw ((((((x1 * 31) + x2) * 127) + x3) * 8191) + x4)) (zuh (zw ((((((x1 * 31) + x2) * 127) + x3) * 8191) + x4)) 15)) 4095) v1 A
/-- PassChainModel.set(II)V -/
def z_M_set (N : Nat) (x1 : Int) (x2 : Int) (A : zA) : Option zA := (if x1 = 60 then zlet (zsi A 226 63 x2) fun A2 => some A2 else (if x1 < 6 then zwr A 267 6 x1 x2 fun A4 => some A4 else zwr A 268 240 ((60 * (zi A 226 62)) + x1) x2 fun A5 => some A5))
/-- PassChainModel.get(I)I -/
def z_M_get (N : Nat) (x1 : Int) (A : zA) : Option Int := (if x1 = 60 then some (zi A 226 63) else (if x1 < 6 then zrd A 267 6 x1 fun v3 => some v3 else zrd A 268 240 ((60 * (zi A 226 62)) + x1) fun v4 => some v4))
/-- PassChainModel.isNumber(I)Z -/
def z_M_isNumber (N : Nat) (x1 : Int) (A : zA) : Option Int := zrd A 252 16000 x1 fun v1 => (if v1 = 0 then some 1 else some 0)
/-- PassChainModel.says(II)V -/
def z_M_says (N : Nat) (x1 : Int) (x2 : Int) (A : zA) : Option zA := (if 0 < (zi A 226 80) then some A else zrd A 260 2 x1 fun v2 => zwr A 259 4000 ((2000 * x1) + v2) x2 fun A3 => zrd A3 260 2 x1 fun v4 => zwr A3 260 2 x1 (v4 + 1) fun A5 => some A5)
/-- PassChainModel.saysOnce(III)V -/
def z_M_saysOnce_70 (N : Nat) (x1 : Int) (x2 : Int) (x3 : Int) (x4 : Int) (x5 : Int) (A : zA) : Option zA := (if x5 = 0 then zbV (z_M_says N x1 (zw (-x2)) A) fun A2 => zbV (z_M_says N x1 x3 A2) fun A3 => zwr A3 284 1000 (zi A3 226 81) x4 fun A4 => zlet (zsi A4 226 81 ((zi A4 226 81) + 1)) fun A5 => some A5 else some A)
def z_M_saysOnce_31_b (r31 : Int → Int → Int → Int → Int → Int → zA → Option zA) (N : Nat) (x1 : Int) (x2 : Int) (x3 : Int) (x4 : Int) (x5 : Int) (x6 : Int) (A : zA) : Option zA := (if x6 < (zi A 226 81) then (if x5 = 0 then zrd A 284 1000 x6 fun v3 => (if v3 = x4 then r31 x1 x2 x3 x4 1 (zw (x6 + 1)) A else r31 x1 x2 x3 x4 0 (zw (x6 + 1)) A) else r31 x1 x2 x3 x4 1 (zw (x6 + 1)) A) else z_M_saysOnce_70 N x1 x2 x3 x4 x5 A)
def z_M_saysOnce_31_l (N : Nat) : Nat → Int → Int → Int → Int → Int → Int → zA → Option zA
  | 0 => fun _ _ _ _ _ _ _ => none
  | n + 1 => fun x1 x2 x3 x4 x5 x6 A => z_M_saysOnce_31_b (z_M_saysOnce_31_l N n) N x1 x2 x3 x4 x5 x6 A
def z_M_saysOnce_31 (N : Nat) (x1 : Int) (x2 : Int) (x3 : Int) (x4 : Int) (x5 : Int) (x6 : Int) (A : zA) : Option zA := z_M_saysOnce_31_l N N x1 x2 x3 x4 x5 x6 A
def z_M_saysOnce_12 (N : Nat) (x1 : Int) (x2 : Int) (x3 : Int) (s0 : Int) (A : zA) : Option zA := (if 0 < (zi A 226 80) then z_M_saysOnce_31 N x1 x2 x3 s0 1 0 A else z_M_saysOnce_31 N x1 x2 x3 s0 0 0 A)
def z_M_saysOnce (N : Nat) (x1 : Int) (x2 : Int) (x3 : Int) (A : zA) : Option zA := (if x2 = 3 then z_M_saysOnce_12 N x1 x2 x3 x3 A else z_M_saysOnce_12 N x1 x2 x3 (zw ((-1) - x3)) A)
/-- PassChainModel.workOf(IIII)I -/
def z_M_workOf_80 (N : Nat) (x2 : Int) (x3 : Int) (x4 : Int) (A : zA) : Option (Int × zA) := zrd A 253 16000 x3 fun v1 => zrd A 253 16000 x4 fun v2 => zbP (z_M_worked N x2 v1 v2 A) fun v3 => zbI (z_M_thing N 0 v3 0 0 A) fun v4 A5 => some (v4, A5)
def z_M_workOf_105 (N : Nat) (x2 : Int) (x3 : Int) (x4 : Int) (A : zA) : Option (Int × zA) := zbI (z_M_thing N 1 x2 x3 x4 A) fun v1 A2 => some (v1, A2)
def z_M_workOf_53 (N : Nat) (x2 : Int) (x3 : Int) (x4 : Int) (x5 : Int) (A : zA) : Option (Int × zA) := zbP (z_M_isNumber N x3 A) fun v1 => (if v1 = 0 then z_M_workOf_105 N x2 x3 x4 A else zbP (z_M_isNumber N x4 A) fun v3 => (if v3 = 0 then z_M_workOf_105 N x2 x3 x4 A else (if x2 = 3 then (if x5 = 0 then z_M_workOf_80 N x2 x3 x4 A else z_M_workOf_105 N x2 x3 x4 A) else z_M_workOf_80 N x2 x3 x4 A)))
def z_M_workOf_45 (N : Nat) (x1 : Int) (x2 : Int) (x3 : Int) (x4 : Int) (x5 : Int) (A : zA) : Option (Int × zA) := zbV (z_M_saysOnce N x1 3 x4 A) fun A1 => z_M_workOf_53 N x2 x3 x4 x5 A1
def z_M_workOf_24 (N : Nat) (x1 : Int) (x2 : Int) (x3 : Int) (x4 : Int) (s0 : Int) (A : zA) : Option (Int × zA) := (if x2 = 3 then (if s0 = 0 then zbP (z_M_isNumber N x4 A) fun v3 => (if v3 = 0 then z_M_workOf_45 N x1 x2 x3 x4 s0 A else z_M_workOf_53 N x2 x3 x4 s0 A) else z_M_workOf_45 N x1 x2 x3 x4 s0 A) else z_M_workOf_53 N x2 x3 x4 s0 A)
def z_M_workOf (N : Nat) (x1 : Int) (x2 : Int) (x3 : Int) (x4 : Int) (A : zA) : Option (Int × zA) := zbP (z_M_isNumber N x4 A) fun v1 => (if v1 = 0 then z_M_workOf_24 N x1 x2 x3 x4 0 A else zrd A 253 16000 x4 fun v3 => (if v3 = 0 then z_M_workOf_24 N x1 x2 x3 x4 1 A else z_M_workOf_24 N x1 x2 x3 x4 0 A))
/-- PassChainModel.index(II)V -/
def z_M_index_28 (N : Nat) (x1 : Int) (x2 : Int) (A : zA) : Option zA := zbV (z_M_saysOnce N x1 4 x2 A) fun A1 => some A1
def z_M_index (N : Nat) (x1 : Int) (x2 : Int) (A : zA) : Option zA := zbP (z_M_isNumber N x2 A) fun v1 => (if v1 = 0 then z_M_index_28 N x1 x2 A else zrd A 253 16000 x2 fun v3 => (if v3 < 0 then z_M_index_28 N x1 x2 A else zrd A 253 16000 x2 fun v5 => (if 7 < v5 then z_M_index_28 N x1 x2 A else some A)))
/-- PassChainModel.step(IIII)V -/
def z_M_step (N : Nat) (x1 : Int) (x2 : Int) (x3 : Int) (x4 : Int) (A : zA) : Option zA := zbP (z_M_field N x2 x3 x4 0 A) fun v1 => zbP (z_M_field N x2 x3 x4 1 A) fun v2 => zbP (z_M_field N x2 x3 x4 2 A) fun v3 => (if v1 = 0 then zbI (z_M_thing N 0 v3 0 0 A) fun v4 A5 => zbV (z_M_set N v2 v4 A5) fun A6 => some A6 else (if v1 = 1 then zbP (z_M_get N v3 A) fun v8 => zbV (z_M_set N v2 v8 A) fun A9 => some A9 else (if v1 = 2 then zbP (z_M_field N x2 x3 x4 4 A) fun v11 => zbP (z_M_get N v3 A) fun v12 => zbP (z_M_field N x2 x3 x4 3 A) fun v13 => zbP (z_M_get N v13 A) fun v14 => zbI (z_M_workOf N x1 v11 v12 v14 A) fun v15 A16 => zbV (z_M_set N v2 v15 A16) fun A17 => some A17 else (if v1 = 3 then zbP (z_M_get N v3 A) fun v19 => zbV (z_M_index N x1 v19 A) fun A20 => zbP (z_M_get N v3 A20) fun v21 => zbI (z_M_thing N 2 (zi A20 226 63) v21 0 A20) fun v22 A23 => zbV (z_M_set N v2 v22 A23) fun A24 => some A24 else (if v1 = 4 then zbP (z_M_get N v2 A) fun v26 => zbV (z_M_index N x1 v26 A) fun A27 => zbP (z_M_get N v2 A27) fun v28 => zbP (z_M_get N v3 A27) fun v29 => zbI (z_M_thing N 3 (zi A27 226 63) v28 v29 A27) fun v30 A31 => zlet (zsi A31 226 63 v30) fun A32 => some A32 else (if v1 = 5 then zbV (z_M_says N x1 (-1) A) fun A34 => zbI (z_M_thing N 4 (zi A34 226 65) 0 0 A34) fun v35 A36 => zbV (z_M_set N v2 v35 A36) fun A37 => zlet (zsi A37 226 65 ((zi A37 226 65) + 1)) fun A38 => some A38 else zbV (z_M_says N x1 (-2) A) fun A40 => zbP (z_M_get N v2 A40) fun v41 => zbV (z_M_says N x1 v41 A40) fun A42 => some A42))))))
/-- PassChainModel.enterPart(IIII)V -/
def z_M_enterPart_74 (N : Nat) (x3 : Int) (x4 : Int) (A : zA) : Option zA := zwr A 268 240 ((60 * (zi A 226 62)) + 6) x4 fun A1 => zwr A1 269 4 (zi A1 226 62) x3 fun A2 => some A2
def z_M_enterPart_44_b (r44 : Int → Int → Int → Int → zA → Option zA) (N : Nat) (x3 : Int) (x4 : Int) (x5 : Int) (x6 : Int) (A : zA) : Option zA := (if x6 < 60 then zwr A 268 240 ((60 * (zi A 226 62)) + x6) x5 fun A2 => r44 x3 x4 x5 (zw (x6 + 1)) A2 else z_M_enterPart_74 N x3 x4 A)
def z_M_enterPart_44_l (N : Nat) : Nat → Int → Int → Int → Int → zA → Option zA
  | 0 => fun _ _ _ _ _ => none
  | n + 1 => fun x3 x4 x5 x6 A => z_M_enterPart_44_b (z_M_enterPart_44_l N n) N x3 x4 x5 x6 A
def z_M_enterPart_44 (N : Nat) (x3 : Int) (x4 : Int) (x5 : Int) (x6 : Int) (A : zA) : Option zA := z_M_enterPart_44_l N N x3 x4 x5 x6 A
def z_M_enterPart (N : Nat) (x1 : Int) (x2 : Int) (x3 : Int) (x4 : Int) (A : zA) : Option zA := zwr A 269 4 (zi A 226 62) x1 fun A1 => zwr A1 270 4 (zi A1 226 62) x2 fun A2 => zlet (zsi A2 226 62 ((zi A2 226 62) + 1)) fun A3 => zbI (z_M_thing N 0 0 0 0 A3) fun v4 A5 => z_M_enterPart_44 N x3 x4 v4 6 A5
/-- PassChainModel.enterBlock(I)V -/
def z_M_enterBlock (N : Nat) (x1 : Int) (A : zA) : Option zA := zwr A 271 30 (zi A 226 66) x1 fun A1 => zwr A1 273 30 (zi A1 226 66) (zi A1 226 81) fun A2 => zlet (zsi A2 226 66 ((zi A2 226 66) + 1)) fun A3 => some A3
/-- PassChainModel.lay([I)V -/
def z_M_lay_276_2_b (r2 : Int → zA → Option zA) (N : Nat) (x2 : Int) (A : zA) : Option zA := (if x2 < 61 then zbP (z_M_get N x2 A) fun v2 => zwr A 276 1830 ((61 * ((zi A 226 66) - 1)) + x2) v2 fun A3 => r2 (zw (x2 + 1)) A3 else some A)
def z_M_lay_276_2_l (N : Nat) : Nat → Int → zA → Option zA
  | 0 => fun _ _ => none
  | n + 1 => fun x2 A => z_M_lay_276_2_b (z_M_lay_276_2_l N n) N x2 A
def z_M_lay_276_2 (N : Nat) (x2 : Int) (A : zA) : Option zA := z_M_lay_276_2_l N N x2 A
def z_M_lay_276 (N : Nat) (A : zA) : Option zA := z_M_lay_276_2 N 0 A
/-- PassChainModel.lay([I)V -/
def z_M_lay_277_2_b (r2 : Int → zA → Option zA) (N : Nat) (x2 : Int) (A : zA) : Option zA := (if x2 < 61 then zbP (z_M_get N x2 A) fun v2 => zwr A 277 1830 ((61 * ((zi A 226 66) - 1)) + x2) v2 fun A3 => r2 (zw (x2 + 1)) A3 else some A)
def z_M_lay_277_2_l (N : Nat) : Nat → Int → zA → Option zA
  | 0 => fun _ _ => none
  | n + 1 => fun x2 A => z_M_lay_277_2_b (z_M_lay_277_2_l N n) N x2 A
def z_M_lay_277_2 (N : Nat) (x2 : Int) (A : zA) : Option zA := z_M_lay_277_2_l N N x2 A
def z_M_lay_277 (N : Nat) (A : zA) : Option zA := z_M_lay_277_2 N 0 A
/-- PassChainModel.lay([I)V -/
def z_M_lay_278_2_b (r2 : Int → zA → Option zA) (N : Nat) (x2 : Int) (A : zA) : Option zA := (if x2 < 61 then zbP (z_M_get N x2 A) fun v2 => zwr A 278 1830 ((61 * ((zi A 226 66) - 1)) + x2) v2 fun A3 => r2 (zw (x2 + 1)) A3 else some A)
def z_M_lay_278_2_l (N : Nat) : Nat → Int → zA → Option zA
  | 0 => fun _ _ => none
  | n + 1 => fun x2 A => z_M_lay_278_2_b (z_M_lay_278_2_l N n) N x2 A
def z_M_lay_278_2 (N : Nat) (x2 : Int) (A : zA) : Option zA := z_M_lay_278_2_l N N x2 A
def z_M_lay_278 (N : Nat) (A : zA) : Option zA := z_M_lay_278_2 N 0 A
/-- PassChainModel.choose(IIII)I -/
def z_M_choose (N : Nat) (x1 : Int) (x2 : Int) (x3 : Int) (x4 : Int) (A : zA) : Option (Int × zA) := zbP (z_M_isNumber N x4 A) fun v1 => (if v1 = 0 then zbV (z_M_says N x1 (-5) A) fun A3 => zbV (z_M_says N x1 x4 A3) fun A4 => zwr A4 272 30 (zi A4 226 66) x4 fun A5 => zbV (z_M_enterBlock N 1 A5) fun A6 => zbV (z_M_lay_276 N A6) fun A7 => some ((zw (x3 + 1)), A7) else zbV (z_M_enterBlock N 2 A) fun A8 => zrd A8 253 16000 x4 fun v9 => (if v9 = 0 then zrd A8 231 960 ((240 * x2) + x3) fun v11 => some ((zw (v11 + 1)), A8) else some ((zw (x3 + 1)), A8)))
/-- PassChainModel.takeUp([I)V -/
def z_M_takeUp_276_2_b (r2 : Int → zA → Option zA) (N : Nat) (x2 : Int) (A : zA) : Option zA := (if x2 < 61 then zrd A 276 1830 ((61 * ((zi A 226 66) - 1)) + x2) fun v2 => zbV (z_M_set N x2 v2 A) fun A3 => r2 (zw (x2 + 1)) A3 else some A)
def z_M_takeUp_276_2_l (N : Nat) : Nat → Int → zA → Option zA
  | 0 => fun _ _ => none
  | n + 1 => fun x2 A => z_M_takeUp_276_2_b (z_M_takeUp_276_2_l N n) N x2 A
def z_M_takeUp_276_2 (N : Nat) (x2 : Int) (A : zA) : Option zA := z_M_takeUp_276_2_l N N x2 A
def z_M_takeUp_276 (N : Nat) (A : zA) : Option zA := z_M_takeUp_276_2 N 0 A
/-- PassChainModel.takeUp([I)V -/
def z_M_takeUp_278_2_b (r2 : Int → zA → Option zA) (N : Nat) (x2 : Int) (A : zA) : Option zA := (if x2 < 61 then zrd A 278 1830 ((61 * ((zi A 226 66) - 1)) + x2) fun v2 => zbV (z_M_set N x2 v2 A) fun A3 => r2 (zw (x2 + 1)) A3 else some A)
def z_M_takeUp_278_2_l (N : Nat) : Nat → Int → zA → Option zA
  | 0 => fun _ _ => none
  | n + 1 => fun x2 A => z_M_takeUp_278_2_b (z_M_takeUp_278_2_l N n) N x2 A
def z_M_takeUp_278_2 (N : Nat) (x2 : Int) (A : zA) : Option zA := z_M_takeUp_278_2_l N N x2 A
def z_M_takeUp_278 (N : Nat) (A : zA) : Option zA := z_M_takeUp_278_2 N 0 A
/-- PassChainModel.other(III)I -/
def z_M_other (N : Nat) (x1 : Int) (x2 : Int) (x3 : Int) (A : zA) : Option (Int × zA) := zrd A 271 30 ((zi A 226 66) - 1) fun v1 => (if v1 = 2 then zrd A 231 960 ((240 * x2) + x3) fun v3 => some (v3, A) else zbV (z_M_says N x1 (-6) A) fun A4 => zrd A4 273 30 ((zi A4 226 66) - 1) fun v5 => zlet (zsi A4 226 81 v5) fun A6 => zbV (z_M_lay_277 N A6) fun A7 => zbV (z_M_takeUp_276 N A7) fun A8 => some ((zw (x3 + 1)), A8))
/-- PassChainModel.circles(I)Z -/
def z_M_circles (N : Nat) (x1 : Int) (A : zA) : Option Int := zrl A 279 30 ((zi A 226 66) - 1) fun v1 => (if ((lg_cmp ((zlsr v1 x1) &&& (Int64.ofNat 1)) (Int64.ofNat 1)).toInt) = 0 then some 1 else some 0)
/-- PassChainModel.giveBack(I)V -/
def z_M_giveBack_0_b (r0 : Int → zA → Option zA) (N : Nat) (x1 : Int) (A : zA) : Option zA := (if x1 < (zi A 226 42) then zlet (zsi A 226 42 ((zi A 226 42) - 1)) fun A2 => zrd A2 257 16000 (zi A2 226 42) fun v3 => zrd A2 256 16000 (zi A2 226 42) fun v4 => zwr A2 258 4096 v3 v4 fun A5 => r0 x1 A5 else some A)
def z_M_giveBack_0_l (N : Nat) : Nat → Int → zA → Option zA
  | 0 => fun _ _ => none
  | n + 1 => fun x1 A => z_M_giveBack_0_b (z_M_giveBack_0_l N n) N x1 A
def z_M_giveBack_0 (N : Nat) (x1 : Int) (A : zA) : Option zA := z_M_giveBack_0_l N N x1 A
def z_M_giveBack (N : Nat) (x1 : Int) (A : zA) : Option zA := z_M_giveBack_0 N x1 A
/-- PassChainModel.found()Z -/
def z_M_found_71 (N : Nat) (x1 : Int) (x2 : Int) (A : zA) : Option (Int × zA) := zrd A 283 30 x1 fun v1 => zbV (z_M_giveBack N v1 A) fun A2 => (if x2 = 0 ∨ x2 = 1 then some (x2, A2) else none)
def z_M_found_11_b (r11 : Int → Int → Int → zA → Option (Int × zA)) (N : Nat) (x1 : Int) (x2 : Int) (x3 : Int) (A : zA) : Option (Int × zA) := (if x3 < 61 then zbP (z_M_circles N x3 A) fun v2 => (if v2 = 0 then r11 x1 x2 (zw (x3 + 1)) A else zbP (z_M_get N x3 A) fun v4 => zrd A 281 30 x1 fun v5 => zbI (z_M_thing N 6 v5 x3 0 A) fun v6 A7 => (if v4 = v6 then zrl A7 279 30 x1 fun v9 => zwl A7 279 30 x1 (v9 &&& ((zlsl (Int64.ofNat 1) x3) ^^^ (Int64.ofNat 18446744073709551615))) fun A10 => r11 x1 0 (zw (x3 + 1)) A10 else r11 x1 x2 (zw (x3 + 1)) A7)) else z_M_found_71 N x1 x2 A)
def z_M_found_11_l (N : Nat) : Nat → Int → Int → Int → zA → Option (Int × zA)
  | 0 => fun _ _ _ _ => none
  | n + 1 => fun x1 x2 x3 A => z_M_found_11_b (z_M_found_11_l N n) N x1 x2 x3 A
def z_M_found_11 (N : Nat) (x1 : Int) (x2 : Int) (x3 : Int) (A : zA) : Option (Int × zA) := z_M_found_11_l N N x1 x2 x3 A
def z_M_found (N : Nat) (A : zA) : Option (Int × zA) := z_M_found_11 N (zw ((zi A 226 66) - 1)) 1 0 A
/-- PassChainModel.turn()V -/
def z_M_turn_37_b (r37 : Int → zA → Option zA) (N : Nat) (x2 : Int) (A : zA) : Option zA := (if x2 < 61 then zbP (z_M_circles N x2 A) fun v2 => (if v2 = 0 then r37 (zw (x2 + 1)) A else zbI (z_M_thing N 6 (zi A 226 64) x2 0 A) fun v4 A5 => zbV (z_M_set N x2 v4 A5) fun A6 => r37 (zw (x2 + 1)) A6) else zlet (zsi A 226 64 ((zi A 226 64) + 1)) fun A7 => some A7)
def z_M_turn_37_l (N : Nat) : Nat → Int → zA → Option zA
  | 0 => fun _ _ => none
  | n + 1 => fun x2 A => z_M_turn_37_b (z_M_turn_37_l N n) N x2 A
def z_M_turn_37 (N : Nat) (x2 : Int) (A : zA) : Option zA := z_M_turn_37_l N N x2 A
def z_M_turn (N : Nat) (A : zA) : Option zA := zbV (z_M_takeUp_278 N A) fun A1 => zrd A1 281 30 (zw ((zi A 226 66) - 1)) fun v2 => zlet (zsi A1 226 64 v2) fun A3 => zrd A3 282 30 (zw ((zi A 226 66) - 1)) fun v4 => zlet (zsi A3 226 65 v4) fun A5 => z_M_turn_37 N 0 A5
/-- PassChainModel.aloud(I)V -/
def z_M_aloud_57_b (r57 : Int → Int → Int → zA → Option zA) (N : Nat) (x1 : Int) (x2 : Int) (x3 : Int) (A : zA) : Option zA := (if x3 < 61 then (if (zi A 226 80) = 0 then zbP (z_M_circles N x3 A) fun v3 => (if v3 = 0 then r57 x1 x2 (zw (x3 + 1)) A else zrd A 261 2 x1 fun v5 => zbP (z_M_get N x3 A) fun v6 => zwr A 262 8000 (zw ((4000 * x1) + v5)) v6 fun A7 => zwr A7 263 8000 (zw ((4000 * x1) + v5)) x3 fun A8 => zrd A8 278 1830 ((61 * x2) + x3) fun v9 => zwr A8 264 8000 (zw ((4000 * x1) + v5)) v9 fun A10 => zrd A10 262 8000 (zw ((4000 * x1) + v5)) fun v11 => zrd A10 261 2 x1 fun v12 => zwr A10 266 32000 ((16000 * x1) + v11) v12 fun A13 => zrd A13 261 2 x1 fun v14 => zwr A13 261 2 x1 (v14 + 1) fun A15 => r57 x1 x2 (zw (x3 + 1)) A15) else zrd A 261 2 x1 fun v16 => zwr A 275 30 x2 v16 fun A17 => some A17) else zrd A 261 2 x1 fun v18 => zwr A 275 30 x2 v18 fun A19 => some A19)
def z_M_aloud_57_l (N : Nat) : Nat → Int → Int → Int → zA → Option zA
  | 0 => fun _ _ _ _ => none
  | n + 1 => fun x1 x2 x3 A => z_M_aloud_57_b (z_M_aloud_57_l N n) N x1 x2 x3 A
def z_M_aloud_57 (N : Nat) (x1 : Int) (x2 : Int) (x3 : Int) (A : zA) : Option zA := z_M_aloud_57_l N N x1 x2 x3 A
def z_M_aloud (N : Nat) (x1 : Int) (A : zA) : Option zA := zwr A 280 30 (zw ((zi A 226 66) - 1)) 0 fun A1 => zlet (zsi A1 226 80 ((zi A1 226 80) - 1)) fun A2 => zbV (z_M_says N x1 (-7) A2) fun A3 => zbV (z_M_takeUp_278 N A3) fun A4 => zrd A4 261 2 x1 fun v5 => zwr A4 274 30 (zw ((zi A 226 66) - 1)) v5 fun A6 => zbV (z_M_turn N A6) fun A7 => z_M_aloud_57 N x1 (zw ((zi A 226 66) - 1)) 0 A7
/-- PassChainModel.leaves(I)V -/
def z_M_leaves_65 (N : Nat) (A : zA) : Option zA := zbV (z_M_takeUp_276 N A) fun A1 => some A1
def z_M_leaves_27_b (r27 : Int → Int → Int → zA → Option zA) (N : Nat) (x1 : Int) (x2 : Int) (x3 : Int) (A : zA) : Option zA := zrd A 275 30 x2 fun v1 => (if x3 < (zw ((4000 * x1) + v1)) then zrd A 263 8000 x3 fun v3 => zbP (z_M_get N v3 A) fun v4 => zwr A 265 8000 x3 v4 fun A5 => r27 x1 x2 (zw (x3 + 1)) A5 else z_M_leaves_65 N A)
def z_M_leaves_27_l (N : Nat) : Nat → Int → Int → Int → zA → Option zA
  | 0 => fun _ _ _ _ => none
  | n + 1 => fun x1 x2 x3 A => z_M_leaves_27_b (z_M_leaves_27_l N n) N x1 x2 x3 A
def z_M_leaves_27 (N : Nat) (x1 : Int) (x2 : Int) (x3 : Int) (A : zA) : Option zA := z_M_leaves_27_l N N x1 x2 x3 A
def z_M_leaves (N : Nat) (x1 : Int) (A : zA) : Option zA := (if (zi A 226 80) = 0 then zrd A 274 30 (zw ((zi A 226 66) - 1)) fun v2 => z_M_leaves_27 N x1 (zw ((zi A 226 66) - 1)) (zw ((4000 * x1) + v2)) A else z_M_leaves_65 N A)
/-- PassChainModel.ends(III)I -/
def z_M_ends_48 (N : Nat) (x2 : Int) (x3 : Int) (A : zA) : Option (Int × zA) := zrd A 231 960 ((240 * x2) + x3) fun v1 => some ((zw (v1 + 1)), A)
def z_M_ends_186 (N : Nat) (x3 : Int) (A : zA) : Option (Int × zA) := zlet (zsi A 226 66 ((zi A 226 66) - 1)) fun A1 => some ((zw (x3 + 1)), A1)
def z_M_ends_114_b (r114 : Int → Int → Int → zA → Option (Int × zA)) (N : Nat) (x3 : Int) (x4 : Int) (x5 : Int) (A : zA) : Option (Int × zA) := (if x5 < 61 then zrd A 277 1830 ((61 * x4) + x5) fun v2 => zbP (z_M_get N x5 A) fun v3 => (if v2 = v3 then r114 x3 x4 (zw (x5 + 1)) A else zrd A 272 30 x4 fun v5 => zrd A 277 1830 ((61 * x4) + x5) fun v6 => zbP (z_M_get N x5 A) fun v7 => zbI (z_M_thing N 5 v5 v6 v7 A) fun v8 A9 => zbV (z_M_set N x5 v8 A9) fun A10 => r114 x3 x4 (zw (x5 + 1)) A10) else z_M_ends_186 N x3 A)
def z_M_ends_114_l (N : Nat) : Nat → Int → Int → Int → zA → Option (Int × zA)
  | 0 => fun _ _ _ _ => none
  | n + 1 => fun x3 x4 x5 A => z_M_ends_114_b (z_M_ends_114_l N n) N x3 x4 x5 A
def z_M_ends_114 (N : Nat) (x3 : Int) (x4 : Int) (x5 : Int) (A : zA) : Option (Int × zA) := z_M_ends_114_l N N x3 x4 x5 A
def z_M_ends_63 (N : Nat) (x1 : Int) (x3 : Int) (x4 : Int) (A : zA) : Option (Int × zA) := zrd A 271 30 x4 fun v1 => (if v1 = 2 then z_M_ends_186 N x3 A else zbV (z_M_says N x1 (-9) A) fun A3 => zrd A3 273 30 x4 fun v4 => zlet (zsi A3 226 81 v4) fun A5 => zrd A5 271 30 x4 fun v6 => (if v6 = 3 then zbV (z_M_leaves N x1 A5) fun A8 => z_M_ends_186 N x3 A8 else z_M_ends_114 N x3 x4 0 A5))
def z_M_ends (N : Nat) (x1 : Int) (x2 : Int) (x3 : Int) (A : zA) : Option (Int × zA) := zrd A 271 30 (zw ((zi A 226 66) - 1)) fun v1 => (if v1 = 3 then zrd A 280 30 (zw ((zi A 226 66) - 1)) fun v3 => (if v3 = 0 then z_M_ends_63 N x1 x3 (zw ((zi A 226 66) - 1)) A else zbI (z_M_found N A) fun v5 A6 => (if v5 = 0 then zbV (z_M_turn N A6) fun A8 => z_M_ends_48 N x2 x3 A8 else zbV (z_M_aloud N x1 A6) fun A9 => z_M_ends_48 N x2 x3 A9)) else z_M_ends_63 N x1 x3 (zw ((zi A 226 66) - 1)) A)
/-- PassChainModel.circling()V -/
def z_M_circling (N : Nat) (A : zA) : Option zA := zbV (z_M_enterBlock N 3 A) fun A1 => zbV (z_M_lay_278 N A1) fun A2 => zwl A2 279 30 (zw ((zi A1 226 66) - 1)) (Int64.ofNat 2305843009213693951) fun A3 => zwr A3 280 30 (zw ((zi A1 226 66) - 1)) 1 fun A4 => zwr A4 281 30 (zw ((zi A1 226 66) - 1)) (zi A4 226 64) fun A5 => zwr A5 282 30 (zw ((zi A1 226 66) - 1)) (zi A5 226 65) fun A6 => zwr A6 283 30 (zw ((zi A1 226 66) - 1)) (zi A6 226 42) fun A7 => zlet (zsi A7 226 80 ((zi A7 226 80) + 1)) fun A8 => zbV (z_M_turn N A8) fun A9 => some A9
/-- PassChainModel.walk(II)V -/
def z_M_walk_145 (r122 : Int → Int → Int → Int → zA → Option zA) (N : Nat) (x1 : Int) (x2 : Int) (x4 : Int) (x5 : Int) (A : zA) : Option zA := zbP (z_M_row N x2 x4 A) fun v1 => zrd A 229 12 v1 fun v2 => (if x5 < v2 then zbP (z_M_field N x2 x4 x5 0 A) fun v4 => (if v4 < 7 then zbV (z_M_step N x1 x2 x4 x5 A) fun A6 => r122 x1 x2 x4 (zw (x5 + 1)) A6 else (if v4 = 7 then zbP (z_M_field N x2 x4 x5 2 A) fun v8 => zbP (z_M_field N x2 x4 x5 1 A) fun v9 => zbP (z_M_get N v9 A) fun v10 => zbV (z_M_enterPart N x4 (zw (x5 + 1)) v8 v10 A) fun A11 => r122 x1 x2 v8 0 A11 else (if v4 = 8 then zbP (z_M_field N x2 x4 x5 1 A) fun v13 => zbP (z_M_get N v13 A) fun v14 => zbI (z_M_choose N x1 x4 x5 v14 A) fun v15 A16 => r122 x1 x2 x4 v15 A16 else (if v4 = 9 then zbI (z_M_other N x1 x4 x5 A) fun v18 A19 => r122 x1 x2 x4 v18 A19 else (if v4 = 12 then zbI (z_M_ends N x1 x4 x5 A) fun v21 A22 => r122 x1 x2 x4 v21 A22 else (if v4 = 10 then zbV (z_M_circling N A) fun A24 => r122 x1 x2 x4 (zw (x5 + 1)) A24 else zbV (z_M_says N x1 (-8) A) fun A25 => zbP (z_M_field N x2 x4 x5 1 A25) fun v26 => zbP (z_M_get N v26 A25) fun v27 => zbV (z_M_says N x1 v27 A25) fun A28 => zbV (z_M_lay_276 N A28) fun A29 => r122 x1 x2 x4 (zw (x5 + 1)) A29)))))) else zlet (zsi A 226 62 ((zi A 226 62) - 1)) fun A30 => zrd A30 269 4 (zi A30 226 62) fun v31 => zrd A30 270 4 (zi A30 226 62) fun v32 => r122 x1 x2 v31 v32 A30)
def z_M_walk_122_b (r122 : Int → Int → Int → Int → zA → Option zA) (N : Nat) (x1 : Int) (x2 : Int) (x4 : Int) (x5 : Int) (A : zA) : Option zA := (if 0 < (zi A 226 62) then z_M_walk_145 r122 N x1 x2 x4 x5 A else zbP (z_M_row N x2 x4 A) fun v2 => zrd A 229 12 v2 fun v3 => (if x5 < v3 then z_M_walk_145 r122 N x1 x2 x4 x5 A else some A))
def z_M_walk_122_l (N : Nat) : Nat → Int → Int → Int → Int → zA → Option zA
  | 0 => fun _ _ _ _ _ => none
  | n + 1 => fun x1 x2 x4 x5 A => z_M_walk_122_b (z_M_walk_122_l N n) N x1 x2 x4 x5 A
def z_M_walk_122 (N : Nat) (x1 : Int) (x2 : Int) (x4 : Int) (x5 : Int) (A : zA) : Option zA := z_M_walk_122_l N N x1 x2 x4 x5 A
def z_M_walk_96_b (r96 : Int → Int → Int → Int → zA → Option zA) (N : Nat) (x1 : Int) (x2 : Int) (x3 : Int) (x4 : Int) (A : zA) : Option zA := (if x4 < 60 then zbV (z_M_set N x4 x3 A) fun A2 => r96 x1 x2 x3 (zw (x4 + 1)) A2 else z_M_walk_122 N x1 x2 3 0 A)
def z_M_walk_96_l (N : Nat) : Nat → Int → Int → Int → Int → zA → Option zA
  | 0 => fun _ _ _ _ _ => none
  | n + 1 => fun x1 x2 x3 x4 A => z_M_walk_96_b (z_M_walk_96_l N n) N x1 x2 x3 x4 A
def z_M_walk_96 (N : Nat) (x1 : Int) (x2 : Int) (x3 : Int) (x4 : Int) (A : zA) : Option zA := z_M_walk_96_l N N x1 x2 x3 x4 A
def z_M_walk_27 (N : Nat) (x1 : Int) (x2 : Int) (A : zA) : Option zA := zwr A 260 2 x1 0 fun A1 => zwr A1 261 2 x1 0 fun A2 => zlet (zsi A2 226 66 0) fun A3 => zlet (zsi A3 226 81 0) fun A4 => zlet (zsi A4 226 64 0) fun A5 => zlet (zsi A5 226 65 0) fun A6 => zlet (zsi A6 226 80 0) fun A7 => zlet (zsi A7 226 62 0) fun A8 => zbI (z_M_thing N 7 0 0 0 A8) fun v9 A10 => zlet (zsi A10 226 63 v9) fun A11 => zbI (z_M_thing N 0 0 0 0 A11) fun v12 A13 => z_M_walk_96 N x1 x2 v12 0 A13
def z_M_walk_2_b (r2 : Int → Int → Int → zA → Option zA) (N : Nat) (x1 : Int) (x2 : Int) (x3 : Int) (A : zA) : Option zA := (if x3 < 4 then zbP (z_M_isThere N x3 A) fun v2 => (if v2 = 0 then r2 x1 x2 (zw (x3 + 1)) A else zbV (z_M_match N x2 x3 A) fun A4 => r2 x1 x2 (zw (x3 + 1)) A4) else z_M_walk_27 N x1 x2 A)
def z_M_walk_2_l (N : Nat) : Nat → Int → Int → Int → zA → Option zA
  | 0 => fun _ _ _ _ => none
  | n + 1 => fun x1 x2 x3 A => z_M_walk_2_b (z_M_walk_2_l N n) N x1 x2 x3 A
def z_M_walk_2 (N : Nat) (x1 : Int) (x2 : Int) (x3 : Int) (A : zA) : Option zA := z_M_walk_2_l N N x1 x2 x3 A
def z_M_walk (N : Nat) (x1 : Int) (x2 : Int) (A : zA) : Option zA := z_M_walk_2 N x1 x2 0 A
/-- PassChainModel.reach(I)V -/
def z_M_reach (N : Nat) (x1 : Int) (A : zA) : Option zA := zrd A 285 16000 x1 fun v1 => (if v1 = 0 then zwr A 285 16000 x1 1 fun A3 => zwr A3 286 16000 (zi A3 226 83) x1 fun A4 => zlet (zsi A4 226 83 ((zi A4 226 83) + 1)) fun A5 => some A5 else some A)
/-- PassChainModel.parts(I)Z -/
def z_M_parts_64 (N : Nat) (x1 : Int) (A : zA) : Option (Int × zA) := zrd A 254 16000 x1 fun v1 => zbV (z_M_reach N v1 A) fun A2 => zrd A2 252 16000 x1 fun v3 => (if v3 = 2 then some (1, A2) else zrd A2 255 16000 x1 fun v5 => zbV (z_M_reach N v5 A2) fun A6 => some (1, A6))
def z_M_parts (N : Nat) (x1 : Int) (A : zA) : Option (Int × zA) := zrd A 252 16000 x1 fun v1 => (if v1 = 1 then zrd A 252 16000 x1 fun v2 => (if v2 = 1 then z_M_parts_64 N x1 A else zrd A 253 16000 x1 fun v4 => zbV (z_M_reach N v4 A) fun A5 => z_M_parts_64 N x1 A5) else (if v1 = 2 then zrd A 252 16000 x1 fun v7 => (if v7 = 1 then z_M_parts_64 N x1 A else zrd A 253 16000 x1 fun v9 => zbV (z_M_reach N v9 A) fun A10 => z_M_parts_64 N x1 A10) else (if v1 = 3 then zrd A 252 16000 x1 fun v12 => (if v12 = 1 then z_M_parts_64 N x1 A else zrd A 253 16000 x1 fun v14 => zbV (z_M_reach N v14 A) fun A15 => z_M_parts_64 N x1 A15) else (if v1 = 5 then zrd A 252 16000 x1 fun v17 => (if v17 = 1 then z_M_parts_64 N x1 A else zrd A 253 16000 x1 fun v19 => zbV (z_M_reach N v19 A) fun A20 => z_M_parts_64 N x1 A20) else (if v1 = 6 then zrd A 266 32000 x1 fun v22 => zrd A 266 32000 (16000 + x1) fun v23 => zrd A 264 8000 v22 fun v24 => zbV (z_M_reach N v24 A) fun A25 => zrd A25 265 8000 v22 fun v26 => zbV (z_M_reach N v26 A25) fun A27 => zrd A27 264 8000 v22 fun v28 => zrd A27 264 8000 (zw (4000 + v23)) fun v29 => (if v28 = v29 then zrd A27 265 8000 v22 fun v31 => zrd A27 265 8000 (zw (4000 + v23)) fun v32 => (if v31 = v32 then some (1, A27) else some (0, A27)) else some (0, A27)) else some (1, A))))))
/-- PassChainModel.alike()Z -/
def z_M_alike_178_b (r178 : Int → Int → zA → Option (Int × zA)) (N : Nat) (x1 : Int) (x2 : Int) (A : zA) : Option (Int × zA) := (if x2 < (zi A 226 83) then (if x1 = 0 then (if x1 = 0 ∨ x1 = 1 then some (x1, A) else none) else zrd A 286 16000 x2 fun v3 => zbI (z_M_parts N v3 A) fun v4 A5 => r178 v4 (zw (x2 + 1)) A5) else (if x1 = 0 ∨ x1 = 1 then some (x1, A) else none))
def z_M_alike_178_l (N : Nat) : Nat → Int → Int → zA → Option (Int × zA)
  | 0 => fun _ _ _ => none
  | n + 1 => fun x1 x2 A => z_M_alike_178_b (z_M_alike_178_l N n) N x1 x2 A
def z_M_alike_178 (N : Nat) (x1 : Int) (x2 : Int) (A : zA) : Option (Int × zA) := z_M_alike_178_l N N x1 x2 A
def z_M_alike_137_b (r137 : Int → Int → zA → Option (Int × zA)) (N : Nat) (x1 : Int) (x2 : Int) (A : zA) : Option (Int × zA) := zrd A 260 2 0 fun v1 => (if x2 < v1 then (if x1 = 0 then z_M_alike_178 N x1 0 A else zrd A 259 4000 x2 fun v4 => (if v4 < 0 then r137 x1 (zw (x2 + 1)) A else zrd A 259 4000 x2 fun v6 => zbV (z_M_reach N v6 A) fun A7 => r137 x1 (zw (x2 + 1)) A7)) else z_M_alike_178 N x1 0 A)
def z_M_alike_137_l (N : Nat) : Nat → Int → Int → zA → Option (Int × zA)
  | 0 => fun _ _ _ => none
  | n + 1 => fun x1 x2 A => z_M_alike_137_b (z_M_alike_137_l N n) N x1 x2 A
def z_M_alike_137 (N : Nat) (x1 : Int) (x2 : Int) (A : zA) : Option (Int × zA) := z_M_alike_137_l N N x1 x2 A
def z_M_alike_109_b (r109 : Int → Int → zA → Option (Int × zA)) (N : Nat) (x1 : Int) (x2 : Int) (A : zA) : Option (Int × zA) := (if x2 < (zi A 226 42) then zwr A 285 16000 x2 0 fun A2 => r109 x1 (zw (x2 + 1)) A2 else zlet (zsi A 226 83 0) fun A3 => z_M_alike_137 N x1 0 A3)
def z_M_alike_109_l (N : Nat) : Nat → Int → Int → zA → Option (Int × zA)
  | 0 => fun _ _ _ => none
  | n + 1 => fun x1 x2 A => z_M_alike_109_b (z_M_alike_109_l N n) N x1 x2 A
def z_M_alike_109 (N : Nat) (x1 : Int) (x2 : Int) (A : zA) : Option (Int × zA) := z_M_alike_109_l N N x1 x2 A
def z_M_alike_62_b (r62 : Int → Int → zA → Option (Int × zA)) (N : Nat) (x1 : Int) (x2 : Int) (A : zA) : Option (Int × zA) := zrd A 260 2 0 fun v1 => (if x2 < v1 then (if x1 = 0 then z_M_alike_109 N x1 0 A else zrd A 259 4000 x2 fun v4 => zrd A 259 4000 (2000 + x2) fun v5 => (if v4 = v5 then r62 1 (zw (x2 + 1)) A else r62 0 (zw (x2 + 1)) A)) else z_M_alike_109 N x1 0 A)
def z_M_alike_62_l (N : Nat) : Nat → Int → Int → zA → Option (Int × zA)
  | 0 => fun _ _ _ => none
  | n + 1 => fun x1 x2 A => z_M_alike_62_b (z_M_alike_62_l N n) N x1 x2 A
def z_M_alike_62 (N : Nat) (x1 : Int) (x2 : Int) (A : zA) : Option (Int × zA) := z_M_alike_62_l N N x1 x2 A
def z_M_alike_27 (N : Nat) (A : zA) : Option (Int × zA) := zbV (z_M_walk N 0 0 A) fun A1 => zbV (z_M_walk N 1 1 A1) fun A2 => zrd A2 260 2 0 fun v3 => zrd A2 260 2 1 fun v4 => (if v3 = v4 then z_M_alike_62 N 1 0 A2 else z_M_alike_62 N 0 0 A2)
def z_M_alike_7_b (r7 : Int → zA → Option (Int × zA)) (N : Nat) (x1 : Int) (A : zA) : Option (Int × zA) := (if x1 < 4096 then zwr A 258 4096 x1 (-1) fun A2 => r7 (zw (x1 + 1)) A2 else z_M_alike_27 N A)
def z_M_alike_7_l (N : Nat) : Nat → Int → zA → Option (Int × zA)
  | 0 => fun _ _ => none
  | n + 1 => fun x1 A => z_M_alike_7_b (z_M_alike_7_l N n) N x1 A
def z_M_alike_7 (N : Nat) (x1 : Int) (A : zA) : Option (Int × zA) := z_M_alike_7_l N N x1 A
def z_M_alike (N : Nat) (A : zA) : Option (Int × zA) := zlet (zsi A 226 42 0) fun A1 => z_M_alike_7 N 0 A1
/-- PassChainModel.settle()Z -/
def z_M_settle_29 (N : Nat) (x1 : Int) (s1 : Int) (s2 : Int) (A : zA) : Option (Int × zA) := zlet (zsi A 226 7 (s1 + s2)) fun A1 => (if x1 = 0 then zlet (zsi A1 226 8 ((zi A1 226 8) + 1)) fun A3 => (if x1 = 0 ∨ x1 = 1 then some (x1, A3) else none) else zlet (zsi A1 226 8 ((zi A1 226 8) + 0)) fun A4 => (if x1 = 0 ∨ x1 = 1 then some (x1, A4) else none))
def z_M_settle_15 (N : Nat) (x1 : Int) (A : zA) : Option (Int × zA) := (if x1 = 0 then z_M_settle_29 N x1 (zi A 226 7) 0 A else z_M_settle_29 N x1 (zi A 226 7) 1 A)
def z_M_settle (N : Nat) (A : zA) : Option (Int × zA) := zbI (z_M_alike N A) fun v1 A2 => (if v1 = 0 then z_M_settle_15 N v1 A2 else zbV (z_M_copyState N 1 0 A2) fun A4 => z_M_settle_15 N v1 A4)
/-- PassChainModel.pass(I)I -/
def z_M_pass_14 (N : Nat) (A : zA) : Option (Int × zA) := zbI (z_M_fail N 1 A) fun v1 A2 => some (v1, A2)
def z_M_pass_111 (N : Nat) (A : zA) : Option (Int × zA) := zbI (z_M_settle N A) fun v1 A2 => (if v1 = 0 then some ((-1), A2) else some ((zi A 226 33), A2))
def z_M_pass_33_b (r33 : Int → Int → zA → Option (Int × zA)) (N : Nat) (x1 : Int) (x2 : Int) (A : zA) : Option (Int × zA) := (if x2 < 4 then zbP (z_M_isThere N x2 A) fun v2 => (if v2 = 0 then r33 x1 (zw (x2 + 1)) A else (if x1 = 0 then zbV (z_M_constants N x2 A) fun A5 => r33 x1 (zw (x2 + 1)) A5 else (if x1 = 1 then zbV (z_M_common N x2 A) fun A7 => r33 x1 (zw (x2 + 1)) A7 else (if x1 = 2 then zbV (z_M_dead N x2 A) fun A9 => r33 x1 (zw (x2 + 1)) A9 else (if x1 = 3 then zbV (z_M_hoist N x2 A) fun A11 => r33 x1 (zw (x2 + 1)) A11 else zbV (z_M_inline N x2 A) fun A12 => r33 x1 (zw (x2 + 1)) A12))))) else z_M_pass_111 N A)
def z_M_pass_33_l (N : Nat) : Nat → Int → Int → zA → Option (Int × zA)
  | 0 => fun _ _ _ => none
  | n + 1 => fun x1 x2 A => z_M_pass_33_b (z_M_pass_33_l N n) N x1 x2 A
def z_M_pass_33 (N : Nat) (x1 : Int) (x2 : Int) (A : zA) : Option (Int × zA) := z_M_pass_33_l N N x1 x2 A
def z_M_pass (N : Nat) (x1 : Int) (A : zA) : Option (Int × zA) := zlet (zsi A 226 0 0) fun A1 => (if x1 < 0 then z_M_pass_14 N A1 else (if 4 < x1 then z_M_pass_14 N A1 else zbV (z_M_copyState N 0 1 A1) fun A4 => zlet (zsi A4 226 33 0) fun A5 => z_M_pass_33 N x1 0 A5))
/-- PassChain$Part.hasNumber(II)Z -/
def z_Pt_hasNumber (N : Nat) (x0 : Nat) (x1 : Int) (x2 : Int) (A : zA) : Option Int := zbP (z_Pt_has N x0 x1 A) fun v1 => (if v1 = 0 then some 0 else (if x2 < 0 then some 0 else zbP (z_Pt_kind N x0 x1 A) fun v4 => zrd A 3 13 v4 fun v5 => (if x2 < v5 then some 1 else some 0)))
/-- PassChain.mayTouch(IIII)Z -/
def z_PC_mayTouch_99 (N : Nat) (x1 : Int) (x4 : Int) (A : zA) : Option Int := (if x4 < 0 then some 0 else zgr A 4 2 fun p2 => zcs p2 (false, 2, 2) <| zgf p2 0 fun p3 => zfe p3 x1 fun p4 => zcs p4 (false, 3, 4) <| (if x4 < (zi A p4 3) then some 1 else some 0))
def z_PC_mayTouch_71 (N : Nat) (x1 : Int) (x3 : Int) (x4 : Int) (x5 : Int) (A : zA) : Option Int := (if x5 = 2 then (if x3 = 3 then (if x4 < 0 then some 0 else (if 5 < x4 then some 0 else some 1)) else z_PC_mayTouch_99 N x1 x4 A) else z_PC_mayTouch_99 N x1 x4 A)
def z_PC_mayTouch (N : Nat) (x1 : Int) (x2 : Int) (x3 : Int) (x4 : Int) (A : zA) : Option Int := zgr A 4 2 fun p1 => zcs p1 (false, 2, 2) <| zbP (z_Ro_has N p1 x1 A) fun v2 => (if v2 = 0 then some 0 else zgr A 4 2 fun p4 => zcs p4 (false, 2, 2) <| zgf p4 0 fun p5 => zfe p5 x1 fun p6 => zcs p6 (false, 3, 4) <| zbP (z_Pt_hasNumber N p6 x2 x3 A) fun v7 => (if v7 = 0 then some 0 else zgr A 4 2 fun p9 => zcs p9 (false, 2, 2) <| zgf p9 0 fun p10 => zfe p10 x1 fun p11 => zcs p11 (false, 3, 4) <| zbP (z_Pt_kind N p11 x2 A) fun v12 => (if v12 = 7 then (if x3 = 1 then some 0 else (if v12 = 0 then (if x3 = 1 then some 1 else z_PC_mayTouch_71 N x1 x3 x4 v12 A) else z_PC_mayTouch_71 N x1 x3 x4 v12 A)) else (if v12 = 0 then (if x3 = 1 then some 1 else z_PC_mayTouch_71 N x1 x3 x4 v12 A) else z_PC_mayTouch_71 N x1 x3 x4 v12 A))))
/-- PassChain.touch(IIII)Z -/
def z_PC_touch (N : Nat) (x1 : Int) (x2 : Int) (x3 : Int) (x4 : Int) (A : zA) : Option ((Int ⊕ Nat) × zA) := zbP (z_PC_mayTouch N x1 x2 x3 x4 A) fun v1 => (if v1 = 0 then some (.inr 0, znw A (false, 100, 0)) else zgr A 4 3 fun p3 => zcs p3 (false, 2, 2) <| zgr A 4 2 fun p4 => zcs p4 (false, 2, 2) <| zbV (z_Ro_become N p3 p4 A) fun A5 => zgr A5 4 3 fun p6 => zcs p6 (false, 2, 2) <| zgf p6 0 fun p7 => zfe p7 x1 fun p8 => zcs p8 (false, 3, 4) <| zbV (z_Pt_setNumber N p8 x2 x3 x4 A5) fun A9 => zbI (z_PC_staysIfTheSame N A9) fun v10 A11 => (if v10 = 0 ∨ v10 = 1 then some (.inl v10, A11) else none))
/-- PassChainLaw.touch(LPassChain;IIII[J)I -/
def z_Lw_touch (N : Nat) (x1 : Int) (x2 : Int) (x3 : Int) (x4 : Int) (A : zA) : Option (Int × zA) := zbX (z_PC_touch N x1 x2 x3 x4 A) (fun v1 A2 => (if v1 = 0 then zwl A2 295 1 0 (Int64.ofNat 0) fun A7 => some (0, A7) else zwl A2 295 1 0 (Int64.ofNat 1) fun A8 => some (0, A8))) (fun n5 A4 => (if n5 = 0 then some (1, A4) else none))
/-- PassChainModel.numbersOf(I)I -/
def z_M_numbersOf (N : Nat) (x0 : Int) (A : zA) : Option Int := (if x0 = 2 then some 4 else (if 4 < x0 then (if x0 = 7 then some 2 else (if x0 = 5 then some 1 else (if x0 = 6 then some 1 else (if x0 = 8 then some 1 else (if x0 = 11 then some 1 else some 0))))) else some 2))
/-- PassChainModel.touch(IIII)Z -/
def z_M_touch_170 (N : Nat) (A : zA) : Option (Int × zA) := zbI (z_M_fail N 1 A) fun v1 A2 => some (0, A2)
def z_M_touch_178 (N : Nat) (x1 : Int) (x2 : Int) (x3 : Int) (x4 : Int) (A : zA) : Option (Int × zA) := zbV (z_M_copyState N 0 1 A) fun A1 => zbP (z_M_place N 1 x1 x2 A1) fun v2 => zwr A1 228 14400 ((v2 + 1) + x3) x4 fun A3 => zbI (z_M_settle N A3) fun v4 A5 => (if v4 = 0 ∨ v4 = 1 then some (v4, A5) else none)
def z_M_touch_146 (N : Nat) (x1 : Int) (x2 : Int) (x3 : Int) (x4 : Int) (x5 : Int) (x7 : Int) (s0 : Int) (A : zA) : Option (Int × zA) := (if x5 = 0 then z_M_touch_170 N A else (if x7 = 0 then (if x4 < 0 then z_M_touch_170 N A else (if x4 < s0 then z_M_touch_178 N x1 x2 x3 x4 A else z_M_touch_170 N A)) else z_M_touch_178 N x1 x2 x3 x4 A))
def z_M_touch_127 (N : Nat) (x1 : Int) (x2 : Int) (x3 : Int) (x4 : Int) (x5 : Int) (x7 : Int) (A : zA) : Option (Int × zA) := (if x5 = 0 then z_M_touch_146 N x1 x2 x3 x4 x5 x7 0 A else zbP (z_M_row N 0 x1 A) fun v2 => zrd A 230 12 v2 fun v3 => z_M_touch_146 N x1 x2 x3 x4 x5 x7 v3 A)
def z_M_touch_109 (N : Nat) (x1 : Int) (x2 : Int) (x3 : Int) (x4 : Int) (x5 : Int) (x6 : Int) (s0 : Int) (A : zA) : Option (Int × zA) := (if x6 = 2 then (if x3 = 3 then z_M_touch_146 N x1 x2 x3 x4 x5 s0 6 A else z_M_touch_127 N x1 x2 x3 x4 x5 s0 A) else z_M_touch_127 N x1 x2 x3 x4 x5 s0 A)
def z_M_touch_92 (N : Nat) (x1 : Int) (x2 : Int) (x3 : Int) (x4 : Int) (x6 : Int) (s0 : Int) (A : zA) : Option (Int × zA) := (if x6 = 0 then (if x3 = 1 then z_M_touch_109 N x1 x2 x3 x4 s0 x6 1 A else z_M_touch_109 N x1 x2 x3 x4 s0 x6 0 A) else z_M_touch_109 N x1 x2 x3 x4 s0 x6 0 A)
def z_M_touch_55 (N : Nat) (x1 : Int) (x2 : Int) (x3 : Int) (x4 : Int) (x5 : Int) (s0 : Int) (A : zA) : Option (Int × zA) := (if x5 = 0 then z_M_touch_92 N x1 x2 x3 x4 s0 0 A else (if x3 < 0 then z_M_touch_92 N x1 x2 x3 x4 s0 0 A else zbP (z_M_numbersOf N s0 A) fun v3 => (if x3 < v3 then (if s0 = 7 then (if x3 = 1 then z_M_touch_92 N x1 x2 x3 x4 s0 0 A else z_M_touch_92 N x1 x2 x3 x4 s0 1 A) else z_M_touch_92 N x1 x2 x3 x4 s0 1 A) else z_M_touch_92 N x1 x2 x3 x4 s0 0 A)))
def z_M_touch_36 (N : Nat) (x1 : Int) (x2 : Int) (x3 : Int) (x4 : Int) (s0 : Int) (A : zA) : Option (Int × zA) := (if s0 = 0 then z_M_touch_55 N x1 x2 x3 x4 s0 0 A else zbP (z_M_field N 0 x1 x2 0 A) fun v2 => z_M_touch_55 N x1 x2 x3 x4 s0 v2 A)
def z_M_touch (N : Nat) (x1 : Int) (x2 : Int) (x3 : Int) (x4 : Int) (A : zA) : Option (Int × zA) := zlet (zsi A 226 0 0) fun A1 => zbP (z_M_isThere N x1 A1) fun v2 => (if v2 = 0 then z_M_touch_36 N x1 x2 x3 x4 0 A1 else (if x2 < 0 then z_M_touch_36 N x1 x2 x3 x4 0 A1 else zbP (z_M_row N 0 x1 A1) fun v5 => zrd A1 229 12 v5 fun v6 => (if x2 < v6 then z_M_touch_36 N x1 x2 x3 x4 1 A1 else z_M_touch_36 N x1 x2 x3 x4 0 A1)))
/-- PassChain.isMovable(LPassChain$Part;I)Z -/
def z_PC_isMovable (N : Nat) (x0 : Nat) (x1 : Int) (A : zA) : Option Int := zbP (z_Pt_has N x0 x1 A) fun v1 => (if v1 = 0 then some 0 else zbP (z_Pt_kind N x0 x1 A) fun v3 => (if 7 < v3 then some 0 else some 1))
/-- PassChain.swap(II)Z -/
def z_PC_swap (N : Nat) (x1 : Int) (x2 : Int) (A : zA) : Option ((Int ⊕ Nat) × zA) := zgr A 4 2 fun p1 => zcs p1 (false, 2, 2) <| zbP (z_Ro_has N p1 x1 A) fun v2 => (if v2 = 0 then some (.inr 0, znw A (false, 100, 0)) else zgr A 4 2 fun p4 => zcs p4 (false, 2, 2) <| zgf p4 0 fun p5 => zfe p5 x1 fun p6 => zcs p6 (false, 3, 4) <| zbP (z_PC_isMovable N p6 x2 A) fun v7 => (if v7 = 0 then some (.inr 0, znw A (false, 100, 0)) else zgr A 4 2 fun p9 => zcs p9 (false, 2, 2) <| zgf p9 0 fun p10 => zfe p10 x1 fun p11 => zcs p11 (false, 3, 4) <| zbP (z_PC_isMovable N p11 (zw (x2 + 1)) A) fun v12 => (if v12 = 0 then some (.inr 0, znw A (false, 100, 0)) else zgr A 4 3 fun p14 => zcs p14 (false, 2, 2) <| zgr A 4 2 fun p15 => zcs p15 (false, 2, 2) <| zbV (z_Ro_become N p14 p15 A) fun A16 => zgr A16 4 3 fun p17 => zcs p17 (false, 2, 2) <| zgf p17 0 fun p18 => zfe p18 x1 fun p19 => zcs p19 (false, 3, 4) <| zbV (z_Pt_exchange N p19 x2 (zw (x2 + 1)) A16) fun A20 => zbI (z_PC_staysIfTheSame N A20) fun v21 A22 => (if v21 = 0 ∨ v21 = 1 then some (.inl v21, A22) else none))))
/-- PassChainLaw.swap(LPassChain;II[J)I -/
def z_Lw_swap (N : Nat) (x1 : Int) (x2 : Int) (A : zA) : Option (Int × zA) := zbX (z_PC_swap N x1 x2 A) (fun v1 A2 => (if v1 = 0 then zwl A2 295 1 0 (Int64.ofNat 0) fun A7 => some (0, A7) else zwl A2 295 1 0 (Int64.ofNat 1) fun A8 => some (0, A8))) (fun n5 A4 => (if n5 = 0 then some (1, A4) else none))
/-- PassChainModel.swap(II)Z -/
def z_M_swap_76 (N : Nat) (x1 : Int) (x2 : Int) (s0 : Int) (A : zA) : Option (Int × zA) := (if s0 = 0 then zbI (z_M_fail N 1 A) fun v2 A3 => some (0, A3) else zbV (z_M_copyState N 0 1 A) fun A4 => zbP (z_M_place N 0 x1 x2 A4) fun v5 => zbP (z_M_place N 1 x1 (zw (x2 + 1)) A4) fun v6 => zbV (z_M_copyItem N v5 v6 A4) fun A7 => zbP (z_M_place N 0 x1 (zw (x2 + 1)) A7) fun v8 => zbP (z_M_place N 1 x1 x2 A7) fun v9 => zbV (z_M_copyItem N v8 v9 A7) fun A10 => zbI (z_M_settle N A10) fun v11 A12 => (if v11 = 0 ∨ v11 = 1 then some (v11, A12) else none))
def z_M_swap_38 (N : Nat) (x1 : Int) (x2 : Int) (s0 : Int) (A : zA) : Option (Int × zA) := (if s0 = 0 then z_M_swap_76 N x1 x2 0 A else zbP (z_M_field N 0 x1 x2 0 A) fun v2 => (if v2 < 8 then zbP (z_M_field N 0 x1 (zw (x2 + 1)) 0 A) fun v4 => (if v4 < 8 then z_M_swap_76 N x1 x2 1 A else z_M_swap_76 N x1 x2 0 A) else z_M_swap_76 N x1 x2 0 A))
def z_M_swap (N : Nat) (x1 : Int) (x2 : Int) (A : zA) : Option (Int × zA) := zlet (zsi A 226 0 0) fun A1 => zbP (z_M_isThere N x1 A1) fun v2 => (if v2 = 0 then z_M_swap_38 N x1 x2 0 A1 else (if x2 < 0 then z_M_swap_38 N x1 x2 0 A1 else zbP (z_M_row N 0 x1 A1) fun v5 => zrd A1 229 12 v5 fun v6 => (if x2 < (zw (v6 - 1)) then z_M_swap_38 N x1 x2 1 A1 else z_M_swap_38 N x1 x2 0 A1)))
/-- PassChain.restore()V -/
def z_PC_restore (N : Nat) (A : zA) : Option zA := zgr A 4 2 fun p1 => zcs p1 (false, 2, 2) <| zbV (z_Ro_become N p1 7 A) fun A2 => zlet (zsi A2 4 9 0) fun A3 => some A3
/-- PassChainModel.restore()V -/
def z_M_restore (N : Nat) (A : zA) : Option zA := zlet (zsi A 226 0 0) fun A1 => zbV (z_M_copyState N 2 0 A1) fun A2 => some A2
/-- PassChain.size(II)I -/
def z_PC_size (N : Nat) (x1 : Int) (x2 : Int) (A : zA) : Option Int := zgr A 4 2 fun p1 => zcs p1 (false, 2, 2) <| zbP (z_Ro_has N p1 x1 A) fun v2 => (if v2 = 0 then some (-1) else (if x2 = 0 then zgr A 4 2 fun p4 => zcs p4 (false, 2, 2) <| zgf p4 0 fun p5 => zfe p5 x1 fun p6 => zcs p6 (false, 3, 4) <| some (zi A p6 2) else (if x2 = 1 then zgr A 4 2 fun p8 => zcs p8 (false, 2, 2) <| zgf p8 0 fun p9 => zfe p9 x1 fun p10 => zcs p10 (false, 3, 4) <| some (zi A p10 3) else some (-1))))
/-- PassChainModel.size(II)I -/
def z_M_size (N : Nat) (x1 : Int) (x2 : Int) (A : zA) : Option (Int × zA) := zlet (zsi A 226 0 0) fun A1 => zbP (z_M_isThere N x1 A1) fun v2 => (if v2 = 0 then some ((-1), A1) else (if x2 < 0 then some ((-1), A1) else (if 1 < x2 then some ((-1), A1) else (if x2 = 0 then zbP (z_M_row N 0 x1 A1) fun v7 => zrd A1 229 12 v7 fun v8 => some (v8, A1) else zbP (z_M_row N 0 x1 A1) fun v9 => zrd A1 230 12 v9 fun v10 => some (v10, A1)))))
/-- PassChain.item(III)I -/
def z_PC_item (N : Nat) (x1 : Int) (x2 : Int) (x3 : Int) (A : zA) : Option ((Int ⊕ Nat) × zA) := zgr A 4 2 fun p1 => zcs p1 (false, 2, 2) <| zbP (z_Ro_has N p1 x1 A) fun v2 => (if v2 = 0 then some (.inr 2, znw A (false, 102, 0)) else zgr A 4 2 fun p4 => zcs p4 (false, 2, 2) <| zgf p4 0 fun p5 => zfe p5 x1 fun p6 => zcs p6 (false, 3, 4) <| zbP (z_Pt_has N p6 x2 A) fun v7 => (if v7 = 0 then some (.inr 2, znw A (false, 102, 0)) else (if x3 = 0 then zgr A 4 2 fun p10 => zcs p10 (false, 2, 2) <| zgf p10 0 fun p11 => zfe p11 x1 fun p12 => zcs p12 (false, 3, 4) <| zbP (z_Pt_kind N p12 x2 A) fun v13 => some (.inl v13, A) else (if x3 < 0 then some (.inr 2, znw A (false, 102, 0)) else zgr A 4 2 fun p15 => zcs p15 (false, 2, 2) <| zgf p15 0 fun p16 => zfe p16 x1 fun p17 => zcs p17 (false, 3, 4) <| zbP (z_Pt_hasNumber N p17 x2 (zw (x3 - 1)) A) fun v18 => (if v18 = 0 then some (.inr 2, znw A (false, 102, 0)) else zgr A 4 2 fun p20 => zcs p20 (false, 2, 2) <| zgf p20 0 fun p21 => zfe p21 x1 fun p22 => zcs p22 (false, 3, 4) <| zbP (z_Pt_number N p22 x2 (zw (x3 - 1)) A) fun v23 => some (.inl v23, A))))))
/-- PassChainLaw.item(LPassChain;III[J)I -/
def z_Lw_item (N : Nat) (x1 : Int) (x2 : Int) (x3 : Int) (A : zA) : Option (Int × zA) := zbX (z_PC_item N x1 x2 x3 A) (fun v1 A2 => zwl A2 295 1 0 (zil v1) fun A6 => some (0, A6)) (fun n5 A4 => (if n5 = 2 then some (1, A4) else none))
/-- PassChainModel.item(III)I -/
def z_M_item_31 (N : Nat) (A : zA) : Option (Int × zA) := zbI (z_M_fail N 1 A) fun v1 A2 => some (v1, A2)
def z_M_item_60 (N : Nat) (A : zA) : Option (Int × zA) := zbI (z_M_fail N 1 A) fun v1 A2 => some (v1, A2)
def z_M_item (N : Nat) (x1 : Int) (x2 : Int) (x3 : Int) (A : zA) : Option (Int × zA) := zlet (zsi A 226 0 0) fun A1 => zbP (z_M_isThere N x1 A1) fun v2 => (if v2 = 0 then z_M_item_31 N A1 else (if x2 < 0 then z_M_item_31 N A1 else zbP (z_M_row N 0 x1 A1) fun v5 => zrd A1 229 12 v5 fun v6 => (if x2 < v6 then zbP (z_M_field N 0 x1 x2 0 A1) fun v8 => (if x3 < 0 then z_M_item_60 N A1 else zbP (z_M_numbersOf N v8 A1) fun v10 => (if v10 < x3 then z_M_item_60 N A1 else zbP (z_M_field N 0 x1 x2 x3 A1) fun v12 => some (v12, A1))) else z_M_item_31 N A1)))
/-- PassChain$Code.add(II)V -/
def z_Cd_add_46 (N : Nat) (x1 : Int) (x2 : Int) (A : zA) : Option zA := (if (zi A 209 2) < 2407 then zgr A 209 0 fun p2 => zwD A p2 (zi A 209 2) x1 fun A3 => zgr A3 209 1 fun p4 => zwD A3 p4 (zi A3 209 2) x2 fun A5 => zlet (zsi A5 209 2 ((zi A5 209 2) + 1)) fun A6 => some A6 else some A)
def z_Cd_add (N : Nat) (x1 : Int) (x2 : Int) (A : zA) : Option zA := zgr A 209 0 fun p1 => zln A p1 fun v2 => (if (zi A 209 2) = v2 then zgr A 209 0 fun p4 => zbR (z_Ar_copyOf N p4 (zw (2 * (zi A 209 2))) A) fun p5 A6 => zlet (zsr A6 209 0 (some p5)) fun A7 => zgr A7 209 1 fun p8 => zbR (z_Ar_copyOf N p8 (zw (2 * (zi A7 209 2))) A7) fun p9 A10 => zlet (zsr A10 209 1 (some p9)) fun A11 => z_Cd_add_46 N x1 x2 A11 else z_Cd_add_46 N x1 x2 A)
/-- PassChain$Code.addPlain(LPassChain$Part;I)V -/
def z_Cd_addPlain_173 (N : Nat) (x1 : Nat) (x2 : Int) (A : zA) : Option zA := zbP (z_Pt_written N x1 x2 A) fun v1 => (if v1 < 0 then some A else zbP (z_Pt_number N x1 x2 0 A) fun v3 => zbV (z_Cd_add N 2 v3 A) fun A4 => some A4)
def z_Cd_addPlain_42 (N : Nat) (x1 : Nat) (x2 : Int) (x3 : Int) (A : zA) : Option zA := (if x3 = 0 then zbP (z_Pt_number N x1 x2 1 A) fun v1 => zbV (z_Cd_add N 0 v1 A) fun A2 => z_Cd_addPlain_173 N x1 x2 A2 else (if x3 = 2 then zbP (z_Pt_number N x1 x2 3 A) fun v4 => zbV (z_Cd_add N (zw (3 + v4)) 0 A) fun A5 => z_Cd_addPlain_173 N x1 x2 A5 else (if x3 = 3 then zbV (z_Cd_add N 9 0 A) fun A7 => z_Cd_addPlain_173 N x1 x2 A7 else (if x3 = 4 then zbV (z_Cd_add N 10 0 A) fun A9 => z_Cd_addPlain_173 N x1 x2 A9 else (if x3 = 5 then zbV (z_Cd_add N 11 0 A) fun A11 => z_Cd_addPlain_173 N x1 x2 A11 else (if x3 = 6 then zbV (z_Cd_add N 12 0 A) fun A13 => z_Cd_addPlain_173 N x1 x2 A13 else (if x3 = 7 then zbP (z_Pt_number N x1 x2 1 A) fun v15 => zbV (z_Cd_add N 15 v15 A) fun A16 => z_Cd_addPlain_173 N x1 x2 A16 else z_Cd_addPlain_173 N x1 x2 A)))))))
def z_Cd_addPlain_9_b (r9 : Nat → Int → Int → Int → zA → Option zA) (N : Nat) (x1 : Nat) (x2 : Int) (x3 : Int) (x4 : Int) (A : zA) : Option zA := zbP (z_Pt_reads N x1 x2 A) fun v1 => (if x4 < v1 then zbP (z_Pt_readNumber N x1 x2 x4 A) fun v3 => zbP (z_Pt_number N x1 x2 v3 A) fun v4 => zbV (z_Cd_add N 1 v4 A) fun A5 => r9 x1 x2 x3 (zw (x4 + 1)) A5 else z_Cd_addPlain_42 N x1 x2 x3 A)
def z_Cd_addPlain_9_l (N : Nat) : Nat → Nat → Int → Int → Int → zA → Option zA
  | 0 => fun _ _ _ _ _ => none
  | n + 1 => fun x1 x2 x3 x4 A => z_Cd_addPlain_9_b (z_Cd_addPlain_9_l N n) N x1 x2 x3 x4 A
def z_Cd_addPlain_9 (N : Nat) (x1 : Nat) (x2 : Int) (x3 : Int) (x4 : Int) (A : zA) : Option zA := z_Cd_addPlain_9_l N N x1 x2 x3 x4 A
def z_Cd_addPlain (N : Nat) (x1 : Nat) (x2 : Int) (A : zA) : Option zA := zbP (z_Pt_kind N x1 x2 A) fun v1 => z_Cd_addPlain_9 N x1 x2 v1 0 A
/-- PassChain$Code.await(I)V -/
def z_Cd_await (N : Nat) (x1 : Int) (A : zA) : Option zA := (if x1 < 0 then some A else (if x1 < 240 then zwr A 212 240 x1 (zi A 209 2) fun A3 => some A3 else some A))
/-- PassChain$Code.lead(I)V -/
def z_Cd_lead (N : Nat) (x1 : Int) (A : zA) : Option zA := (if x1 < 0 then some A else (if x1 < (zi A 209 2) then zgr A 209 1 fun p3 => zwD A p3 x1 (zi A 209 2) fun A4 => some A4 else some A))
/-- PassChain$Code.addTurn(LPassChain$Part;I)V -/
def z_Cd_addTurn_125 (N : Nat) (x2 : Int) (A : zA) : Option zA := zrd A 212 240 x2 fun v1 => zbV (z_Cd_lead N v1 A) fun A2 => some A2
def z_Cd_addTurn (N : Nat) (x1 : Nat) (x2 : Int) (A : zA) : Option zA := zbP (z_Pt_mate N x1 x2 A) fun v1 => zbP (z_Pt_kind N x1 x2 A) fun v2 => (if v2 = 8 then zbP (z_Pt_number N x1 x2 0 A) fun v3 => zbV (z_Cd_add N 1 v3 A) fun A4 => zbV (z_Cd_await N v1 A4) fun A5 => zbV (z_Cd_add N 13 0 A5) fun A6 => some A6 else (if v2 = 9 then zrd A 212 240 x2 fun v8 => zbV (z_Cd_await N v1 A) fun A9 => zbV (z_Cd_add N 14 0 A9) fun A10 => zbV (z_Cd_lead N v8 A10) fun A11 => some A11 else (if v2 = 10 then zbV (z_Cd_await N x2 A) fun A13 => some A13 else (if v2 = 11 then zbP (z_Pt_number N x1 x2 0 A) fun v15 => zbV (z_Cd_add N 1 v15 A) fun A16 => zbV (z_Cd_await N v1 A16) fun A17 => zbV (z_Cd_add N 13 0 A17) fun A18 => some A18 else zbP (z_Pt_kind N x1 v1 A) fun v20 => (if v20 = 10 then zrd A 212 240 v1 fun v22 => zbV (z_Cd_add N 14 v22 A) fun A23 => z_Cd_addTurn_125 N x2 A23 else z_Cd_addTurn_125 N x2 A)))))
/-- PassChain$Code.addItems(LPassChain$Part;)V -/
def z_Cd_addItems_2_b (r2 : Nat → Int → zA → Option zA) (N : Nat) (x1 : Nat) (x2 : Int) (A : zA) : Option zA := (if x2 < (zi A x1 2) then zbP (z_Pt_kind N x1 x2 A) fun v2 => (if v2 < 8 then zbV (z_Cd_addPlain N x1 x2 A) fun A4 => r2 x1 (zw (x2 + 1)) A4 else zbV (z_Cd_addTurn N x1 x2 A) fun A5 => r2 x1 (zw (x2 + 1)) A5) else some A)
def z_Cd_addItems_2_l (N : Nat) : Nat → Nat → Int → zA → Option zA
  | 0 => fun _ _ _ => none
  | n + 1 => fun x1 x2 A => z_Cd_addItems_2_b (z_Cd_addItems_2_l N n) N x1 x2 A
def z_Cd_addItems_2 (N : Nat) (x1 : Nat) (x2 : Int) (A : zA) : Option zA := z_Cd_addItems_2_l N N x1 x2 A
def z_Cd_addItems (N : Nat) (x1 : Nat) (A : zA) : Option zA := z_Cd_addItems_2 N x1 0 A
/-- PassChain$Code.makeOf(LPassChain$Rows;)V -/
def z_Cd_makeOf_79_b (r79 : Int → zA → Option zA) (N : Nat) (x2 : Int) (A : zA) : Option zA := (if x2 < (zi A 209 2) then zgr A 209 1 fun p2 => zrD A p2 x2 fun v3 => zgr A 209 0 fun p4 => zrD A p4 x2 fun v5 => (if v5 = 15 then (if v3 < 0 then r79 (zw (x2 + 1)) A else (if v3 < 3 then zgr A 209 1 fun p9 => zrd A 213 3 v3 fun v10 => zwD A p9 x2 v10 fun A11 => r79 (zw (x2 + 1)) A11 else r79 (zw (x2 + 1)) A)) else r79 (zw (x2 + 1)) A) else some A)
def z_Cd_makeOf_79_l (N : Nat) : Nat → Int → zA → Option zA
  | 0 => fun _ _ => none
  | n + 1 => fun x2 A => z_Cd_makeOf_79_b (z_Cd_makeOf_79_l N n) N x2 A
def z_Cd_makeOf_79 (N : Nat) (x2 : Int) (A : zA) : Option zA := z_Cd_makeOf_79_l N N x2 A
def z_Cd_makeOf_24_b (r24 : Nat → Int → zA → Option zA) (N : Nat) (x1 : Nat) (x2 : Int) (A : zA) : Option zA := (if x2 < 3 then (if x2 < (zi A x1 1) then zwr A 213 3 x2 (zi A 209 2) fun A3 => zbV (z_Cd_add N 2 6 A3) fun A4 => zgf x1 0 fun p5 => zfe p5 x2 fun p6 => zcs p6 (false, 3, 4) <| zbV (z_Cd_addItems N p6 A4) fun A7 => zbV (z_Cd_add N 16 0 A7) fun A8 => r24 x1 (zw (x2 + 1)) A8 else z_Cd_makeOf_79 N 0 A) else z_Cd_makeOf_79 N 0 A)
def z_Cd_makeOf_24_l (N : Nat) : Nat → Nat → Int → zA → Option zA
  | 0 => fun _ _ _ => none
  | n + 1 => fun x1 x2 A => z_Cd_makeOf_24_b (z_Cd_makeOf_24_l N n) N x1 x2 A
def z_Cd_makeOf_24 (N : Nat) (x1 : Nat) (x2 : Int) (A : zA) : Option zA := z_Cd_makeOf_24_l N N x1 x2 A
def z_Cd_makeOf (N : Nat) (x1 : Nat) (A : zA) : Option zA := zlet (zsi A 209 2 0) fun A1 => zgf x1 0 fun p2 => zfe p2 3 fun p3 => zcs p3 (false, 3, 4) <| zbV (z_Cd_addItems N p3 A1) fun A4 => zbV (z_Cd_add N 17 0 A4) fun A5 => z_Cd_makeOf_24 N x1 0 A5
/-- PassChain.makeLetters()V -/
def z_PC_makeLetters (N : Nat) (A : zA) : Option zA := (if (zi A 4 9) = 0 then zgr A 4 2 fun p2 => zcs p2 (false, 2, 2) <| zbV (z_Cd_makeOf N p2 A) fun A3 => zlet (zsi A3 4 9 1) fun A4 => some A4 else some A)
/-- PassChain$Code.letterAt(I)I -/
def z_Cd_letterAt (N : Nat) (x1 : Int) (A : zA) : Option Int := (if x1 < 0 then some 17 else (if x1 < (zi A 209 2) then zgr A 209 0 fun p3 => zrD A p3 x1 fun v4 => some v4 else some 17))
/-- PassChain$Code.numberAt(I)I -/
def z_Cd_numberAt (N : Nat) (x1 : Int) (A : zA) : Option Int := (if x1 < 0 then some 0 else (if x1 < (zi A 209 2) then zgr A 209 1 fun p3 => zrD A p3 x1 fun v4 => some v4 else some 0))
/-- PassChain.code(II)I -/
def z_PC_code (N : Nat) (x1 : Int) (x2 : Int) (A : zA) : Option ((Int ⊕ Nat) × zA) := zbV (z_PC_makeLetters N A) fun A1 => (if x1 < 0 then some (.inr 2, znw A1 (false, 102, 0)) else (if x1 < (zi A1 209 2) then (if x2 < 0 then some (.inr 2, znw A1 (false, 102, 0)) else (if 1 < x2 then some (.inr 2, znw A1 (false, 102, 0)) else (if x2 = 0 then zbP (z_Cd_letterAt N x1 A1) fun v7 => some (.inl v7, A1) else zbP (z_Cd_numberAt N x1 A1) fun v8 => some (.inl v8, A1)))) else some (.inr 2, znw A1 (false, 102, 0))))
/-- PassChainLaw.code(LPassChain;II[J)I -/
def z_Lw_code (N : Nat) (x1 : Int) (x2 : Int) (A : zA) : Option (Int × zA) := zbX (z_PC_code N x1 x2 A) (fun v1 A2 => zwl A2 295 1 0 (zil v1) fun A6 => some (0, A6)) (fun n5 A4 => (if n5 = 2 then some (1, A4) else none))
/-- PassChainModel.lettersOf(II)I -/
def z_M_lettersOf (N : Nat) (x1 : Int) (x2 : Int) (A : zA) : Option Int := zbP (z_M_field N 0 x1 x2 0 A) fun v1 => (if v1 = 2 then some 4 else (if v1 = 3 then some 3 else (if v1 = 4 then some 3 else (if v1 = 10 then some 0 else (if v1 = 9 then some 1 else (if v1 = 12 then zrd A 231 960 ((240 * x1) + x2) fun v8 => zbP (z_M_field N 0 x1 v8 0 A) fun v9 => (if v9 = 10 then some 1 else some 0) else some 2))))))
/-- PassChainModel.layPart(I)V -/
def z_M_layPart_20_b (r20 : Int → Int → Int → zA → Option zA) (N : Nat) (x1 : Int) (x2 : Int) (x3 : Int) (A : zA) : Option zA := zbP (z_M_row N 0 x1 A) fun v1 => zrd A 229 12 v1 fun v2 => (if x3 < v2 then zwr A 289 960 ((240 * x1) + x3) x2 fun A4 => zbP (z_M_lettersOf N x1 x3 A4) fun v5 => r20 x1 (zw (x2 + v5)) (zw (x3 + 1)) A4 else zlet (zsi A 226 91 (x2 + 1)) fun A6 => some A6)
def z_M_layPart_20_l (N : Nat) : Nat → Int → Int → Int → zA → Option zA
  | 0 => fun _ _ _ _ => none
  | n + 1 => fun x1 x2 x3 A => z_M_layPart_20_b (z_M_layPart_20_l N n) N x1 x2 x3 A
def z_M_layPart_20 (N : Nat) (x1 : Int) (x2 : Int) (x3 : Int) (A : zA) : Option zA := z_M_layPart_20_l N N x1 x2 x3 A
def z_M_layPart (N : Nat) (x1 : Int) (A : zA) : Option zA := zrd A 290 4 x1 fun v1 => (if x1 = 3 then z_M_layPart_20 N x1 (zw (v1 + 0)) 0 A else z_M_layPart_20 N x1 (zw (v1 + 1)) 0 A)
/-- PassChainModel.tell(II)V -/
def z_M_tell (N : Nat) (x1 : Int) (x2 : Int) (A : zA) : Option zA := zwr A 287 2600 (zi A 226 86) x1 fun A1 => zwr A1 288 2600 (zi A1 226 86) x2 fun A2 => zlet (zsi A2 226 86 ((zi A2 226 86) + 1)) fun A3 => some A3
/-- PassChainModel.itemCode(II)V -/
def z_M_itemCode (N : Nat) (x1 : Int) (x2 : Int) (A : zA) : Option zA := zbP (z_M_field N 0 x1 x2 0 A) fun v1 => zbP (z_M_field N 0 x1 x2 1 A) fun v2 => zbP (z_M_field N 0 x1 x2 2 A) fun v3 => zrd A 231 960 ((240 * x1) + x2) fun v4 => (if v1 = 0 then zbV (z_M_tell N 0 v3 A) fun A5 => zbV (z_M_tell N 2 v2 A5) fun A6 => some A6 else (if v1 = 1 then zbV (z_M_tell N 1 v3 A) fun A8 => zbV (z_M_tell N 2 v2 A8) fun A9 => some A9 else (if v1 = 2 then zbV (z_M_tell N 1 v3 A) fun A11 => zbP (z_M_field N 0 x1 x2 3 A11) fun v12 => zbV (z_M_tell N 1 v12 A11) fun A13 => zbP (z_M_field N 0 x1 x2 4 A13) fun v14 => zbV (z_M_tell N (zw (3 + v14)) 0 A13) fun A15 => zbV (z_M_tell N 2 v2 A15) fun A16 => some A16 else (if v1 = 3 then zbV (z_M_tell N 1 v3 A) fun A18 => zbV (z_M_tell N 9 0 A18) fun A19 => zbV (z_M_tell N 2 v2 A19) fun A20 => some A20 else (if v1 = 4 then zbV (z_M_tell N 1 v2 A) fun A22 => zbV (z_M_tell N 1 v3 A22) fun A23 => zbV (z_M_tell N 10 0 A23) fun A24 => some A24 else (if v1 = 5 then zbV (z_M_tell N 11 0 A) fun A26 => zbV (z_M_tell N 2 v2 A26) fun A27 => some A27 else (if v1 = 6 then zbV (z_M_tell N 1 v2 A) fun A29 => zbV (z_M_tell N 12 0 A29) fun A30 => some A30 else (if v1 = 7 then zbV (z_M_tell N 1 v2 A) fun A32 => zrd A32 290 4 v3 fun v33 => zbV (z_M_tell N 15 v33 A32) fun A34 => some A34 else (if v1 = 8 then zbV (z_M_tell N 1 v2 A) fun A36 => zrd A36 289 960 ((240 * x1) + v4) fun v37 => zbV (z_M_tell N 13 (zw (v37 + 1)) A36) fun A38 => some A38 else (if v1 = 9 then zrd A 289 960 ((240 * x1) + v4) fun v40 => zbV (z_M_tell N 14 v40 A) fun A41 => some A41 else (if v1 = 11 then zbV (z_M_tell N 1 v2 A) fun A43 => zrd A43 289 960 ((240 * x1) + v4) fun v44 => zbV (z_M_tell N 13 (zw (v44 + 1)) A43) fun A45 => some A45 else (if v1 = 12 then zbP (z_M_field N 0 x1 v4 0 A) fun v47 => (if v47 = 10 then zrd A 289 960 ((240 * x1) + v4) fun v49 => zbV (z_M_tell N 14 v49 A) fun A50 => some A50 else some A) else some A))))))))))))
/-- PassChainModel.build()V -/
def z_M_build_28 (r12 : Int → zA → Option zA) (N : Nat) (x1 : Int) (s0 : Int) (A : zA) : Option zA := zbP (z_M_isThere N s0 A) fun v1 => (if v1 = 0 then r12 (zw (x1 + 1)) A else zbV (z_M_match N 0 s0 A) fun A3 => zwr A3 290 4 s0 (zi A3 226 91) fun A4 => zbV (z_M_layPart N s0 A4) fun A5 => r12 (zw (x1 + 1)) A5)
def z_M_build_150 (r69 : Int → zA → Option zA) (N : Nat) (x1 : Int) (s1 : Int) (A : zA) : Option zA := zbV (z_M_tell N s1 0 A) fun A1 => r69 (zw (x1 + 1)) A1
def z_M_build_111_b (r69 : Int → zA → Option zA) (r111 : Int → Int → Int → zA → Option zA) (N : Nat) (x1 : Int) (x2 : Int) (x3 : Int) (A : zA) : Option zA := zbP (z_M_row N 0 x2 A) fun v1 => zrd A 229 12 v1 fun v2 => (if x3 < v2 then zbV (z_M_itemCode N x2 x3 A) fun A4 => r111 x1 x2 (zw (x3 + 1)) A4 else (if x2 = 3 then z_M_build_150 r69 N x1 17 A else z_M_build_150 r69 N x1 16 A))
def z_M_build_111_l (r69 : Int → zA → Option zA) (N : Nat) : Nat → Int → Int → Int → zA → Option zA
  | 0 => fun _ _ _ _ => none
  | n + 1 => fun x1 x2 x3 A => z_M_build_111_b r69 (z_M_build_111_l r69 N n) N x1 x2 x3 A
def z_M_build_111 (r69 : Int → zA → Option zA) (N : Nat) (x1 : Int) (x2 : Int) (x3 : Int) (A : zA) : Option zA := z_M_build_111_l r69 N N x1 x2 x3 A
def z_M_build_85 (r69 : Int → zA → Option zA) (N : Nat) (x1 : Int) (s0 : Int) (A : zA) : Option zA := zbP (z_M_isThere N s0 A) fun v1 => (if v1 = 0 then r69 (zw (x1 + 1)) A else (if s0 = 3 then z_M_build_111 r69 N x1 s0 0 A else zbV (z_M_tell N 2 6 A) fun A4 => z_M_build_111 r69 N x1 s0 0 A4))
def z_M_build_69_b (r69 : Int → zA → Option zA) (N : Nat) (x1 : Int) (A : zA) : Option zA := (if x1 < 4 then (if x1 = 0 then z_M_build_85 r69 N x1 3 A else z_M_build_85 r69 N x1 (zw (x1 - 1)) A) else some A)
def z_M_build_69_l (N : Nat) : Nat → Int → zA → Option zA
  | 0 => fun _ _ => none
  | n + 1 => fun x1 A => z_M_build_69_b (z_M_build_69_l N n) N x1 A
def z_M_build_69 (N : Nat) (x1 : Int) (A : zA) : Option zA := z_M_build_69_l N N x1 A
def z_M_build_12_b (r12 : Int → zA → Option zA) (N : Nat) (x1 : Int) (A : zA) : Option zA := (if x1 < 4 then (if x1 = 0 then z_M_build_28 r12 N x1 3 A else z_M_build_28 r12 N x1 (zw (x1 - 1)) A) else z_M_build_69 N 0 A)
def z_M_build_12_l (N : Nat) : Nat → Int → zA → Option zA
  | 0 => fun _ _ => none
  | n + 1 => fun x1 A => z_M_build_12_b (z_M_build_12_l N n) N x1 A
def z_M_build_12 (N : Nat) (x1 : Int) (A : zA) : Option zA := z_M_build_12_l N N x1 A
def z_M_build (N : Nat) (A : zA) : Option zA := zlet (zsi A 226 86 0) fun A1 => zlet (zsi A1 226 91 0) fun A2 => z_M_build_12 N 0 A2
/-- PassChainModel.code(II)I -/
def z_M_code_30 (N : Nat) (A : zA) : Option (Int × zA) := zbI (z_M_fail N 1 A) fun v1 A2 => some (v1, A2)
def z_M_code (N : Nat) (x1 : Int) (x2 : Int) (A : zA) : Option (Int × zA) := zlet (zsi A 226 0 0) fun A1 => zbV (z_M_build N A1) fun A2 => (if x1 < 0 then z_M_code_30 N A2 else (if x1 < (zi A2 226 86) then (if x2 < 0 then z_M_code_30 N A2 else (if 1 < x2 then z_M_code_30 N A2 else (if x2 = 0 then zrd A2 287 2600 x1 fun v8 => some (v8, A2) else zrd A2 288 2600 x1 fun v9 => some (v9, A2)))) else z_M_code_30 N A2))
/-- PassChain.feed(I)Z -/
def z_PC_feed (N : Nat) (x1 : Int) (A : zA) : Option (Int × zA) := (if (zi A 214 1) < 20 then zwr A 215 20 (zi A 214 1) x1 fun A2 => zlet (zsi A2 214 1 ((zi A2 214 1) + 1)) fun A3 => some (1, A3) else some (0, A))
/-- PassChainModel.feed(I)Z -/
def z_M_feed (N : Nat) (x1 : Int) (A : zA) : Option (Int × zA) := zlet (zsi A 226 0 0) fun A1 => (if (zi A1 226 10) = 20 then some (0, A1) else zwr A1 232 20 (zi A1 226 10) x1 fun A3 => zlet (zsi A3 226 10 ((zi A3 226 10) + 1)) fun A4 => some (1, A4))
/-- PassChain.dry()V -/
def z_PC_dry (N : Nat) (A : zA) : Option zA := zlet (zsi A 214 1 0) fun A1 => some A1
/-- PassChainModel.dry()V -/
def z_M_dry (N : Nat) (A : zA) : Option zA := zlet (zsi A 226 0 0) fun A1 => zlet (zsi A1 226 10 0) fun A2 => some A2
/-- PassChain$Machine.pop()I -/
def z_Mc_pop (N : Nat) (A : zA) : Option (Int × zA) := (if 0 < (zi A 214 12) then zlet (zsi A 214 12 ((zi A 214 12) - 1)) fun A2 => zrd A2 225 4 (zi A2 214 12) fun v3 => some (v3, A2) else some (0, A))
/-- PassChain$Machine.push(I)V -/
def z_Mc_push (N : Nat) (x1 : Int) (A : zA) : Option zA := (if (zi A 214 12) < 4 then zwr A 225 4 (zi A 214 12) x1 fun A2 => zlet (zsi A2 214 12 ((zi A2 214 12) + 1)) fun A3 => some A3 else some A)
/-- PassChain$Machine.doWork(I)I -/
def z_Mc_doWork_21 (N : Nat) (x1 : Int) (x2 : Int) (x3 : Int) (A : zA) : Option (Int × zA) := zbP (z_PC_workOf N x1 x3 x2 A) fun v1 => zbV (z_Mc_push N v1 A) fun A2 => some ((-1), A2)
def z_Mc_doWork (N : Nat) (x1 : Int) (A : zA) : Option (Int × zA) := zbI (z_Mc_pop N A) fun v1 A2 => zbI (z_Mc_pop N A2) fun v3 A4 => (if x1 = 3 then (if v1 = 0 then some (1, A4) else z_Mc_doWork_21 N x1 v1 v3 A4) else z_Mc_doWork_21 N x1 v1 v3 A4)
/-- PassChain$Machine.enter(I)V -/
def z_Mc_enter (N : Nat) (x1 : Int) (A : zA) : Option zA := (if (zw ((zi A 214 10) + 1)) < 4 then zwr A 224 4 (zi A 214 10) (zi A 214 13) fun A2 => zlet (zsi A2 214 10 ((zi A2 214 10) + 1)) fun A3 => zfe 219 (zi A3 214 10) fun p4 => zbV (z_Ar_fill N p4 0 A3) fun A5 => zlet (zsi A5 214 13 x1) fun A6 => some A6 else some A)
/-- PassChain$Machine.leave()V -/
def z_Mc_leave (N : Nat) (A : zA) : Option zA := (if 0 < (zi A 214 10) then zlet (zsi A 214 10 ((zi A 214 10) - 1)) fun A2 => zrd A2 224 4 (zi A2 214 10) fun v3 => zlet (zsi A2 214 13 v3) fun A4 => some A4 else some A)
/-- PassChain$Machine.turn(II)I -/
def z_Mc_turn (N : Nat) (x1 : Int) (x2 : Int) (A : zA) : Option (Int × zA) := (if x1 = 13 then zbI (z_Mc_pop N A) fun v1 A2 => (if v1 = 0 then zlet (zsi A2 214 13 x2) fun A4 => some ((-1), A4) else some ((-1), A2)) else (if x1 = 14 then zlet (zsi A 214 13 x2) fun A6 => some ((-1), A6) else (if x1 = 15 then zbV (z_Mc_enter N x2 A) fun A8 => some ((-1), A8) else (if x1 = 16 then zbV (z_Mc_leave N A) fun A10 => some ((-1), A10) else some (0, A)))))
/-- PassChain$Machine.get(I)I -/
def z_Mc_get (N : Nat) (x1 : Int) (A : zA) : Option Int := (if x1 < 0 then some 0 else (if x1 < 60 then (if x1 < 6 then zrd A 218 6 x1 fun v4 => some v4 else zfe 219 (zi A 214 10) fun p5 => zrD A p5 x1 fun v6 => some v6) else some 0))
/-- PassChain$Machine.set(II)V -/
def z_Mc_set_20 (N : Nat) (x1 : Int) (x2 : Int) (A : zA) : Option zA := (if x1 < 6 then some A else (if x1 < 60 then zfe 219 (zi A 214 10) fun p3 => zwD A p3 x1 x2 fun A4 => some A4 else some A))
def z_Mc_set (N : Nat) (x1 : Int) (x2 : Int) (A : zA) : Option zA := (if x1 < 0 then z_Mc_set_20 N x1 x2 A else (if x1 < 6 then zwr A 218 6 x1 x2 fun A3 => some A3 else z_Mc_set_20 N x1 x2 A))
/-- PassChain$Machine.loadCell(I)I -/
def z_Mc_loadCell (N : Nat) (x1 : Int) (A : zA) : Option (Int × zA) := (if x1 < 0 then some (2, A) else (if x1 < 8 then zrd A 217 8 x1 fun v3 => zbV (z_Mc_push N v3 A) fun A4 => some ((-1), A4) else some (2, A)))
/-- PassChain$Machine.storeCell(II)I -/
def z_Mc_storeCell (N : Nat) (x1 : Int) (x2 : Int) (A : zA) : Option (Int × zA) := (if x1 < 0 then some (2, A) else (if x1 < 8 then zwr A 217 8 x1 x2 fun A3 => some ((-1), A3) else some (2, A)))
/-- PassChain$Machine.nextInput()I -/
def z_Mc_nextInput (N : Nat) (A : zA) : Option (Int × zA) := (if (zi A 214 5) < (zi A 214 1) then (if (zi A 214 5) < 20 then zlet (zsi A 214 5 ((zi A 214 5) + 1)) fun A3 => zrd A3 215 20 ((zi A3 214 5) - 1) fun v4 => some (v4, A3) else some (0, A)) else some (0, A))
/-- PassChain$Machine.show(I)V -/
def z_Mc_show (N : Nat) (x1 : Int) (A : zA) : Option zA := (if (zi A 214 3) < 40 then zwr A 216 40 (zi A 214 3) x1 fun A2 => zlet (zsi A2 214 3 ((zi A2 214 3) + 1)) fun A3 => some A3 else some A)
/-- PassChain$Machine.step(II)I -/
def z_Mc_step_56 (N : Nat) (x1 : Int) (x2 : Int) (A : zA) : Option (Int × zA) := (if x1 < 13 then (if x1 = 0 then zbV (z_Mc_push N x2 A) fun A2 => some ((-1), A2) else (if x1 = 1 then zbP (z_Mc_get N x2 A) fun v4 => zbV (z_Mc_push N v4 A) fun A5 => some ((-1), A5) else (if x1 = 2 then zbI (z_Mc_pop N A) fun v7 A8 => zbV (z_Mc_set N x2 v7 A8) fun A9 => some ((-1), A9) else (if x1 = 9 then zbI (z_Mc_pop N A) fun v11 A12 => zbI (z_Mc_loadCell N v11 A12) fun v13 A14 => some (v13, A14) else (if x1 = 10 then zbI (z_Mc_pop N A) fun v16 A17 => zbI (z_Mc_pop N A17) fun v18 A19 => zbI (z_Mc_storeCell N v18 v16 A19) fun v20 A21 => some (v20, A21) else (if x1 = 11 then zbI (z_Mc_nextInput N A) fun v23 A24 => zbV (z_Mc_push N v23 A24) fun A25 => some ((-1), A25) else zbI (z_Mc_pop N A) fun v27 A28 => zbV (z_Mc_show N v27 A28) fun A29 => some ((-1), A29))))))) else zbI (z_Mc_turn N x1 x2 A) fun v36 A37 => some (v36, A37))
def z_Mc_step_17 (N : Nat) (x1 : Int) (x2 : Int) (A : zA) : Option (Int × zA) := zlet (zsi A 214 4 ((zi A 214 4) + 1)) fun A1 => zlet (zsi A1 214 13 ((zi A1 214 13) + 1)) fun A2 => (if x1 < 3 then z_Mc_step_56 N x1 x2 A2 else (if x1 < 9 then zbI (z_Mc_doWork N (zw (x1 - 3)) A2) fun v5 A6 => some (v5, A6) else z_Mc_step_56 N x1 x2 A2))
def z_Mc_step (N : Nat) (x1 : Int) (x2 : Int) (A : zA) : Option (Int × zA) := (if x1 = 12 then (if (zi A 214 3) < 40 then z_Mc_step_17 N x1 x2 A else some (4, A)) else z_Mc_step_17 N x1 x2 A)
/-- PassChain$Machine.start(LPassChain$Code;I)I -/
def z_Mc_start_61_b (r61 : Int → Int → Int → zA → Option (Int × zA)) (N : Nat) (x2 : Int) (x3 : Int) (x4 : Int) (A : zA) : Option (Int × zA) := (if x4 < x2 then (if x3 = (-1) then zbP (z_Cd_letterAt N (zi A 214 13) A) fun v3 => zbP (z_Cd_numberAt N (zi A 214 13) A) fun v4 => zbI (z_Mc_step N v3 v4 A) fun v5 A6 => r61 x2 v5 (zw (x4 + 1)) A6 else (if x3 = (-1) then some (3, A) else some (x3, A))) else (if x3 = (-1) then some (3, A) else some (x3, A)))
def z_Mc_start_61_l (N : Nat) : Nat → Int → Int → Int → zA → Option (Int × zA)
  | 0 => fun _ _ _ _ => none
  | n + 1 => fun x2 x3 x4 A => z_Mc_start_61_b (z_Mc_start_61_l N n) N x2 x3 x4 A
def z_Mc_start_61 (N : Nat) (x2 : Int) (x3 : Int) (x4 : Int) (A : zA) : Option (Int × zA) := z_Mc_start_61_l N N x2 x3 x4 A
def z_Mc_start (N : Nat) (x2 : Int) (A : zA) : Option (Int × zA) := zbV (z_Ar_fill N 217 0 A) fun A1 => zbV (z_Ar_fill N 218 0 A1) fun A2 => zfe 219 0 fun p3 => zbV (z_Ar_fill N p3 0 A2) fun A4 => zlet (zsi A4 214 10 0) fun A5 => zlet (zsi A5 214 12 0) fun A6 => zlet (zsi A6 214 13 0) fun A7 => zlet (zsi A7 214 3 0) fun A8 => zlet (zsi A8 214 4 0) fun A9 => zlet (zsi A9 214 5 0) fun A10 => z_Mc_start_61 N x2 (-1) 0 A10
/-- PassChain.run(I)I -/
def z_PC_run (N : Nat) (x1 : Int) (A : zA) : Option ((Int ⊕ Nat) × zA) := (if x1 < 1 then some (.inr 0, znw A (false, 100, 0)) else (if 2000 < x1 then some (.inr 0, znw A (false, 100, 0)) else zbV (z_PC_makeLetters N A) fun A3 => zbI (z_Mc_start N x1 A3) fun v4 A5 => some (.inl v4, A5)))
/-- PassChainLaw.run(LPassChain;I[J)I -/
def z_Lw_run (N : Nat) (x1 : Int) (A : zA) : Option (Int × zA) := zbX (z_PC_run N x1 A) (fun v1 A2 => zwl A2 295 1 0 (zil v1) fun A6 => some (0, A6)) (fun n5 A4 => (if n5 = 0 then some (1, A4) else none))
/-- PassChainModel.begin()V -/
def z_M_begin_85_b (r85 : Int → zA → Option zA) (N : Nat) (x1 : Int) (A : zA) : Option zA := (if x1 < 4 then zbP (z_M_isThere N x1 A) fun v2 => (if v2 = 0 then r85 (zw (x1 + 1)) A else zbV (z_M_match N 0 x1 A) fun A4 => r85 (zw (x1 + 1)) A4) else some A)
def z_M_begin_85_l (N : Nat) : Nat → Int → zA → Option zA
  | 0 => fun _ _ => none
  | n + 1 => fun x1 A => z_M_begin_85_b (z_M_begin_85_l N n) N x1 A
def z_M_begin_85 (N : Nat) (x1 : Int) (A : zA) : Option zA := z_M_begin_85_l N N x1 A
def z_M_begin_64_b (r64 : Int → zA → Option zA) (N : Nat) (x1 : Int) (A : zA) : Option zA := (if x1 < 8 then zwr A 292 8 x1 0 fun A2 => r64 (zw (x1 + 1)) A2 else z_M_begin_85 N 0 A)
def z_M_begin_64_l (N : Nat) : Nat → Int → zA → Option zA
  | 0 => fun _ _ => none
  | n + 1 => fun x1 A => z_M_begin_64_b (z_M_begin_64_l N n) N x1 A
def z_M_begin_64 (N : Nat) (x1 : Int) (A : zA) : Option zA := z_M_begin_64_l N N x1 A
def z_M_begin_43_b (r43 : Int → zA → Option zA) (N : Nat) (x1 : Int) (A : zA) : Option zA := (if x1 < 60 then zwr A 294 240 x1 0 fun A2 => r43 (zw (x1 + 1)) A2 else z_M_begin_64 N 0 A)
def z_M_begin_43_l (N : Nat) : Nat → Int → zA → Option zA
  | 0 => fun _ _ => none
  | n + 1 => fun x1 A => z_M_begin_43_b (z_M_begin_43_l N n) N x1 A
def z_M_begin_43 (N : Nat) (x1 : Int) (A : zA) : Option zA := z_M_begin_43_l N N x1 A
def z_M_begin_22_b (r22 : Int → zA → Option zA) (N : Nat) (x1 : Int) (A : zA) : Option zA := (if x1 < 6 then zwr A 293 6 x1 0 fun A2 => r22 (zw (x1 + 1)) A2 else z_M_begin_43 N 0 A)
def z_M_begin_22_l (N : Nat) : Nat → Int → zA → Option zA
  | 0 => fun _ _ => none
  | n + 1 => fun x1 A => z_M_begin_22_b (z_M_begin_22_l N n) N x1 A
def z_M_begin_22 (N : Nat) (x1 : Int) (A : zA) : Option zA := z_M_begin_22_l N N x1 A
def z_M_begin (N : Nat) (A : zA) : Option zA := zlet (zsi A 226 92 0) fun A1 => zlet (zsi A1 226 93 0) fun A2 => zlet (zsi A2 226 94 0) fun A3 => zlet (zsi A3 226 62 0) fun A4 => z_M_begin_22 N 0 A4
/-- PassChainModel.read(I)I -/
def z_M_read (N : Nat) (x1 : Int) (A : zA) : Option Int := (if x1 < 6 then zrd A 293 6 x1 fun v2 => some v2 else zrd A 294 240 ((60 * (zi A 226 62)) + x1) fun v3 => some v3)
/-- PassChainModel.burn(II)Z -/
def z_M_burn_15 (N : Nat) (x1 : Int) (x2 : Int) (s0 : Int) (A : zA) : Option (Int × zA) := (if s0 = 0 then zlet (zsi A 226 93 x2) fun A2 => (if s0 = 0 ∨ s0 = 1 then some (s0, A2) else none) else zlet (zsi A 226 93 ((zi A 226 93) + x1)) fun A3 => (if s0 = 0 ∨ s0 = 1 then some (s0, A3) else none))
def z_M_burn (N : Nat) (x1 : Int) (x2 : Int) (A : zA) : Option (Int × zA) := (if x2 < (zw ((zi A 226 93) + x1)) then z_M_burn_15 N x1 x2 0 A else z_M_burn_15 N x1 x2 1 A)
/-- PassChainModel.write(II)V -/
def z_M_write (N : Nat) (x1 : Int) (x2 : Int) (A : zA) : Option zA := (if x1 < 6 then zwr A 293 6 x1 x2 fun A2 => some A2 else zwr A 294 240 ((60 * (zi A 226 62)) + x1) x2 fun A3 => some A3)
/-- PassChainModel.doItem(III)I -/
def z_M_doItem_371 (N : Nat) (x3 : Int) (x4 : Int) (x5 : Int) (x7 : Int) (A : zA) : Option (Int × zA) := (if x4 = 4 then some ((-1), A) else (if x4 = 6 then some ((-1), A) else zbI (z_M_burn N 1 x3 A) fun v3 A4 => (if v3 = 0 then some (3, A4) else zbV (z_M_write N x5 x7 A4) fun A6 => some ((-1), A6))))
def z_M_doItem_87 (N : Nat) (x3 : Int) (x4 : Int) (x5 : Int) (x6 : Int) (x8 : Int) (x9 : Int) (A : zA) : Option (Int × zA) := zbP (z_M_read N x6 A) fun v1 => zbP (z_M_worked N x8 v1 x9 A) fun v2 => z_M_doItem_371 N x3 x4 x5 v2 A
def z_M_doItem_152 (N : Nat) (x3 : Int) (x4 : Int) (x5 : Int) (x6 : Int) (x8 : Int) (s1 : Int) (A : zA) : Option (Int × zA) := zbI (z_M_burn N s1 x3 A) fun v1 A2 => (if v1 = 0 then some (3, A2) else (if x8 < 0 then some (2, A2) else (if 7 < x8 then some (2, A2) else (if x4 = 4 then zbP (z_M_read N x6 A2) fun v7 => zwr A2 292 8 x8 v7 fun A8 => zrd A8 292 8 x8 fun v9 => z_M_doItem_371 N x3 x4 x5 v9 A8 else zrd A2 292 8 x8 fun v10 => z_M_doItem_371 N x3 x4 x5 v10 A2))))
def z_M_doItem_138 (N : Nat) (x3 : Int) (x4 : Int) (x5 : Int) (x6 : Int) (s0 : Int) (A : zA) : Option (Int × zA) := (if x4 = 3 then z_M_doItem_152 N x3 x4 x5 x6 s0 2 A else z_M_doItem_152 N x3 x4 x5 x6 s0 3 A)
def z_M_doItem_117 (N : Nat) (x3 : Int) (x4 : Int) (x5 : Int) (x6 : Int) (A : zA) : Option (Int × zA) := (if x4 = 3 then zbP (z_M_read N x6 A) fun v2 => z_M_doItem_138 N x3 x4 x5 x6 v2 A else zbP (z_M_read N x5 A) fun v3 => z_M_doItem_138 N x3 x4 x5 x6 v3 A)
def z_M_doItem_349 (N : Nat) (x3 : Int) (x4 : Int) (x5 : Int) (s0 : Int) (A : zA) : Option (Int × zA) := (if x4 = 5 then zlet (zsi A 226 94 ((zi A 226 94) + 1)) fun A2 => z_M_doItem_371 N x3 x4 x5 s0 A2 else zlet (zsi A 226 94 ((zi A 226 94) + 0)) fun A3 => z_M_doItem_371 N x3 x4 x5 s0 A3)
def z_M_doItem (N : Nat) (x1 : Int) (x2 : Int) (x3 : Int) (A : zA) : Option (Int × zA) := zbP (z_M_field N 0 x1 x2 0 A) fun v1 => zbP (z_M_field N 0 x1 x2 1 A) fun v2 => zbP (z_M_field N 0 x1 x2 2 A) fun v3 => (if v1 = 2 then zbP (z_M_field N 0 x1 x2 4 A) fun v5 => zbP (z_M_field N 0 x1 x2 3 A) fun v6 => zbP (z_M_read N v6 A) fun v7 => zbI (z_M_burn N 3 x3 A) fun v8 A9 => (if v8 = 0 then some (3, A9) else (if v5 = 3 then (if v7 = 0 then some (1, A9) else z_M_doItem_87 N x3 v1 v2 v3 v5 v7 A9) else z_M_doItem_87 N x3 v1 v2 v3 v5 v7 A9)) else (if v1 = 3 then z_M_doItem_117 N x3 v1 v2 v3 A else (if v1 = 4 then z_M_doItem_117 N x3 v1 v2 v3 A else (if v1 = 6 then (if x3 < (zw ((zi A 226 93) + 2)) then zlet (zsi A 226 93 x3) fun A17 => some (3, A17) else (if (zi A 226 92) = 40 then zlet (zsi A 226 93 ((zi A 226 93) + 1)) fun A19 => some (4, A19) else zbP (z_M_read N v2 A) fun v20 => zwr A 291 40 (zi A 226 92) v20 fun A21 => zlet (zsi A21 226 92 ((zi A21 226 92) + 1)) fun A22 => zlet (zsi A22 226 93 ((zi A22 226 93) + 2)) fun A23 => z_M_doItem_371 N x3 v1 v2 0 A23)) else zbI (z_M_burn N 1 x3 A) fun v24 A25 => (if v24 = 0 then some (3, A25) else (if v1 = 0 then z_M_doItem_349 N x3 v1 v2 v3 A25 else (if v1 = 1 then zbP (z_M_read N v3 A25) fun v29 => z_M_doItem_349 N x3 v1 v2 v29 A25 else (if (zi A25 226 94) < (zi A25 226 10) then zrd A25 232 20 (zi A25 226 94) fun v31 => z_M_doItem_349 N x3 v1 v2 v31 A25 else z_M_doItem_349 N x3 v1 v2 0 A25))))))))
/-- PassChainModel.run(I)I -/
def z_M_run_17 (N : Nat) (A : zA) : Option (Int × zA) := zbI (z_M_fail N 1 A) fun v1 A2 => some (v1, A2)
def z_M_run_122 (r34 : Int → Int → Int → Int → zA → Option (Int × zA)) (N : Nat) (x1 : Int) (x2 : Int) (x3 : Int) (s0 : Int) (A : zA) : Option (Int × zA) := (if 0 < (zi A 226 62) then zlet (zsi A 226 62 ((zi A 226 62) - 1)) fun A2 => zrd A2 269 4 (zi A2 226 62) fun v3 => zrd A2 270 4 (zi A2 226 62) fun v4 => r34 x1 v3 v4 s0 A2 else r34 x1 x2 x3 s0 A)
def z_M_run_266 (r34 : Int → Int → Int → Int → zA → Option (Int × zA)) (N : Nat) (x1 : Int) (x2 : Int) (x3 : Int) (x4 : Int) (x6 : Int) (A : zA) : Option (Int × zA) := zwr A 294 240 ((60 * (zi A 226 62)) + 6) x6 fun A1 => zbP (z_M_field N 0 x2 x3 2 A1) fun v2 => r34 x1 v2 0 x4 A1
def z_M_run_237_b (r34 : Int → Int → Int → Int → zA → Option (Int × zA)) (r237 : Int → Int → Int → Int → Int → Int → zA → Option (Int × zA)) (N : Nat) (x1 : Int) (x2 : Int) (x3 : Int) (x4 : Int) (x6 : Int) (x7 : Int) (A : zA) : Option (Int × zA) := (if x7 < 60 then zwr A 294 240 ((60 * (zi A 226 62)) + x7) 0 fun A2 => r237 x1 x2 x3 x4 x6 (zw (x7 + 1)) A2 else z_M_run_266 r34 N x1 x2 x3 x4 x6 A)
def z_M_run_237_l (r34 : Int → Int → Int → Int → zA → Option (Int × zA)) (N : Nat) : Nat → Int → Int → Int → Int → Int → Int → zA → Option (Int × zA)
  | 0 => fun _ _ _ _ _ _ _ => none
  | n + 1 => fun x1 x2 x3 x4 x6 x7 A => z_M_run_237_b r34 (z_M_run_237_l r34 N n) N x1 x2 x3 x4 x6 x7 A
def z_M_run_237 (r34 : Int → Int → Int → Int → zA → Option (Int × zA)) (N : Nat) (x1 : Int) (x2 : Int) (x3 : Int) (x4 : Int) (x6 : Int) (x7 : Int) (A : zA) : Option (Int × zA) := z_M_run_237_l r34 N N x1 x2 x3 x4 x6 x7 A
def z_M_run_199 (r34 : Int → Int → Int → Int → zA → Option (Int × zA)) (N : Nat) (x1 : Int) (x2 : Int) (x3 : Int) (x6 : Int) (s0 : Int) (A : zA) : Option (Int × zA) := zwr A 269 4 (zi A 226 62) x2 fun A1 => zwr A1 270 4 (zi A1 226 62) (x3 + 1) fun A2 => zlet (zsi A2 226 62 ((zi A2 226 62) + 1)) fun A3 => z_M_run_237 r34 N x1 x2 x3 s0 x6 6 A3
def z_M_run_399 (r34 : Int → Int → Int → Int → zA → Option (Int × zA)) (N : Nat) (x1 : Int) (x2 : Int) (x3 : Int) (x5 : Int) (x6 : Int) (x7 : Int) (x8 : Int) (s0 : Int) (A : zA) : Option (Int × zA) := (if x7 = 0 then (if x5 = 9 then r34 x1 x2 x6 s0 A else (if x8 = 0 then r34 x1 x2 (zw (x3 + 1)) s0 A else r34 x1 x2 x6 s0 A)) else zbP (z_M_field N 0 x2 x3 1 A) fun v4 => zbP (z_M_read N v4 A) fun v5 => (if v5 = 0 then r34 x1 x2 (zw (x6 + 1)) s0 A else r34 x1 x2 (zw (x3 + 1)) s0 A))
def z_M_run_387 (r34 : Int → Int → Int → Int → zA → Option (Int × zA)) (N : Nat) (x1 : Int) (x2 : Int) (x3 : Int) (x5 : Int) (x6 : Int) (x7 : Int) (x8 : Int) (s1 : Int) (A : zA) : Option (Int × zA) := zbI (z_M_burn N s1 x1 A) fun v1 A2 => (if v1 = 0 then z_M_run_399 r34 N x1 x2 x3 x5 x6 x7 x8 3 A2 else z_M_run_399 r34 N x1 x2 x3 x5 x6 x7 x8 (-1) A2)
def z_M_run_358 (r34 : Int → Int → Int → Int → zA → Option (Int × zA)) (N : Nat) (x1 : Int) (x2 : Int) (x3 : Int) (x5 : Int) (x6 : Int) (x7 : Int) (s0 : Int) (A : zA) : Option (Int × zA) := (if x7 = 0 then (if x5 = 9 then z_M_run_387 r34 N x1 x2 x3 x5 x6 x7 s0 1 A else (if s0 = 0 then z_M_run_387 r34 N x1 x2 x3 x5 x6 x7 s0 0 A else z_M_run_387 r34 N x1 x2 x3 x5 x6 x7 s0 1 A)) else z_M_run_387 r34 N x1 x2 x3 x5 x6 x7 s0 2 A)
def z_M_run_330 (r34 : Int → Int → Int → Int → zA → Option (Int × zA)) (N : Nat) (x1 : Int) (x2 : Int) (x3 : Int) (x5 : Int) (x6 : Int) (s0 : Int) (A : zA) : Option (Int × zA) := (if x5 = 12 then zbP (z_M_field N 0 x2 x6 0 A) fun v2 => (if v2 = 10 then z_M_run_358 r34 N x1 x2 x3 x5 x6 s0 1 A else z_M_run_358 r34 N x1 x2 x3 x5 x6 s0 0 A) else z_M_run_358 r34 N x1 x2 x3 x5 x6 s0 0 A)
def z_M_run_66 (r34 : Int → Int → Int → Int → zA → Option (Int × zA)) (N : Nat) (x1 : Int) (x2 : Int) (x3 : Int) (s0 : Int) (A : zA) : Option (Int × zA) := (if s0 < 7 then zbI (z_M_doItem N x2 x3 x1 A) fun v2 A3 => r34 x1 x2 (zw (x3 + 1)) v2 A3 else (if s0 = 99 then zbI (z_M_burn N 1 x1 A) fun v5 A6 => (if v5 = 0 then z_M_run_122 r34 N x1 x2 x3 3 A6 else (if (zi A6 226 62) = 0 then z_M_run_122 r34 N x1 x2 x3 0 A6 else z_M_run_122 r34 N x1 x2 x3 (-1) A6)) else (if s0 = 7 then zbP (z_M_field N 0 x2 x3 1 A) fun v10 => zbP (z_M_read N v10 A) fun v11 => zbI (z_M_burn N 3 x1 A) fun v12 A13 => (if v12 = 0 then z_M_run_199 r34 N x1 x2 x3 v11 3 A13 else z_M_run_199 r34 N x1 x2 x3 v11 (-1) A13) else zrd A 231 960 ((240 * x2) + x3) fun v15 => (if s0 = 8 then z_M_run_330 r34 N x1 x2 x3 s0 v15 1 A else (if s0 = 11 then z_M_run_330 r34 N x1 x2 x3 s0 v15 1 A else z_M_run_330 r34 N x1 x2 x3 s0 v15 0 A)))))
def z_M_run_34_b (r34 : Int → Int → Int → Int → zA → Option (Int × zA)) (N : Nat) (x1 : Int) (x2 : Int) (x3 : Int) (x4 : Int) (A : zA) : Option (Int × zA) := (if x4 < 0 then zbP (z_M_row N 0 x2 A) fun v2 => zrd A 229 12 v2 fun v3 => (if x3 < v3 then zbP (z_M_field N 0 x2 x3 0 A) fun v5 => z_M_run_66 r34 N x1 x2 x3 v5 A else z_M_run_66 r34 N x1 x2 x3 99 A) else some (x4, A))
def z_M_run_34_l (N : Nat) : Nat → Int → Int → Int → Int → zA → Option (Int × zA)
  | 0 => fun _ _ _ _ _ => none
  | n + 1 => fun x1 x2 x3 x4 A => z_M_run_34_b (z_M_run_34_l N n) N x1 x2 x3 x4 A
def z_M_run_34 (N : Nat) (x1 : Int) (x2 : Int) (x3 : Int) (x4 : Int) (A : zA) : Option (Int × zA) := z_M_run_34_l N N x1 x2 x3 x4 A
def z_M_run (N : Nat) (x1 : Int) (A : zA) : Option (Int × zA) := zlet (zsi A 226 0 0) fun A1 => (if x1 < 1 then z_M_run_17 N A1 else (if 2000 < x1 then z_M_run_17 N A1 else zbV (z_M_begin N A1) fun A4 => z_M_run_34 N x1 3 0 (-1) A4))
/-- PassChain.out(I)I -/
def z_PC_out (N : Nat) (x1 : Int) (A : zA) : Option ((Int ⊕ Nat) × zA) := (if x1 < 0 then some (.inr 2, znw A (false, 102, 0)) else (if x1 < (zi A 214 3) then zrd A 216 40 x1 fun v3 => some (.inl v3, A) else some (.inr 2, znw A (false, 102, 0))))
/-- PassChainLaw.out(LPassChain;I[J)I -/
def z_Lw_out (N : Nat) (x1 : Int) (A : zA) : Option (Int × zA) := zbX (z_PC_out N x1 A) (fun v1 A2 => zwl A2 295 1 0 (zil v1) fun A6 => some (0, A6)) (fun n5 A4 => (if n5 = 2 then some (1, A4) else none))
/-- PassChainModel.out(I)I -/
def z_M_out_17 (N : Nat) (A : zA) : Option (Int × zA) := zbI (z_M_fail N 1 A) fun v1 A2 => some (v1, A2)
def z_M_out (N : Nat) (x1 : Int) (A : zA) : Option (Int × zA) := zlet (zsi A 226 0 0) fun A1 => (if x1 < 0 then z_M_out_17 N A1 else (if x1 < (zi A1 226 92) then zrd A1 291 40 x1 fun v4 => some (v4, A1) else z_M_out_17 N A1))
/-- PassChain.count(I)I -/
def z_PC_count (N : Nat) (x1 : Int) (A : zA) : Option (Int × zA) := (if x1 = 0 then some ((zi A 5 1), A) else (if x1 = 1 then zgr A 4 2 fun p2 => zcs p2 (false, 2, 2) <| some ((zi A p2 1), A) else (if x1 = 2 then zbV (z_PC_makeLetters N A) fun A4 => some ((zi A4 209 2), A4) else (if x1 = 3 then some ((zi A 214 1), A) else (if x1 = 4 then some ((zi A 214 3), A) else (if x1 = 5 then some ((zi A 214 4), A) else (if x1 = 6 then some ((zi A 4 11), A) else (if x1 = 7 then some ((zi A 4 12), A) else some ((-1), A)))))))))
/-- PassChainModel.count(I)I -/
def z_M_count (N : Nat) (x1 : Int) (A : zA) : Option (Int × zA) := zlet (zsi A 226 0 0) fun A1 => zbV (z_M_build N A1) fun A2 => (if x1 = 0 then some ((zi A2 226 1), A2) else (if x1 = 1 then some ((zi A2 226 6), A2) else (if x1 = 2 then some ((zi A2 226 86), A2) else (if x1 = 3 then some ((zi A2 226 10), A2) else (if x1 = 4 then some ((zi A2 226 92), A2) else (if x1 = 5 then some ((zi A2 226 93), A2) else (if x1 = 6 then some ((zi A2 226 7), A2) else (if x1 = 7 then some ((zi A2 226 8), A2) else some ((-1), A2)))))))))
