theorem ff_X0_0 : cz_fI 0 0 RX0 TX0 4 := ⟨rfl, by decide, by decide, inX0, rfl, rfl, by decide +kernel, fun _ _ => rfl, fun a M v => by simp [cz_fs, cz_mI], fun _ _ => by simp [cz_fs], ⟨tyX0, tyX0_ok⟩, nmX0⟩
theorem ff_X0_1 : cz_fI 0 1 RX0 TX0 4 := ⟨rfl, by decide, by decide, inX0, rfl, rfl, by decide +kernel, fun _ _ => rfl, fun a M v => by simp [cz_fs, cz_mI], fun _ _ => by simp [cz_fs], ⟨tyX0, tyX0_ok⟩, nmX0⟩
theorem ff_X0_2 : cz_fI 0 2 RX0 TX0 4 := ⟨rfl, by decide, by decide, inX0, rfl, rfl, by decide +kernel, fun _ _ => rfl, fun a M v => by simp [cz_fs, cz_mI], fun _ _ => by simp [cz_fs], ⟨tyX0, tyX0_ok⟩, nmX0⟩
theorem ff_X0_3 : cz_fI 0 3 RX0 TX0 4 := ⟨rfl, by decide, by decide, inX0, rfl, rfl, by decide +kernel, fun _ _ => rfl, fun a M v => by simp [cz_fs, cz_mI], fun _ _ => by simp [cz_fs], ⟨tyX0, tyX0_ok⟩, nmX0⟩
theorem ff_X1_0 : cz_fI 1 0 RX1 TX1 11 := ⟨rfl, by decide, by decide, inX1, rfl, rfl, by decide +kernel, fun _ _ => rfl, fun a M v => by simp [cz_fs, cz_mI], fun _ _ => by simp [cz_fs], ⟨tyX1, tyX1_ok⟩, nmX1⟩
theorem ff_X1_1 : cz_fI 1 1 RX1 TX1 11 := ⟨rfl, by decide, by decide, inX1, rfl, rfl, by decide +kernel, fun _ _ => rfl, fun a M v => by simp [cz_fs, cz_mI], fun _ _ => by simp [cz_fs], ⟨tyX1, tyX1_ok⟩, nmX1⟩
theorem ff_X1_2 : cz_fL RX1 TX1 11 := ⟨rfl, by decide, inX1, rfl, rfl, by decide +kernel, ⟨tyX1, tyX1_ok⟩, nmX1⟩
theorem ff_X1_3 : cz_fI 1 3 RX1 TX1 11 := ⟨rfl, by decide, by decide, inX1, rfl, rfl, by decide +kernel, fun _ _ => rfl, fun a M v => by simp [cz_fs, cz_mI], fun _ _ => by simp [cz_fs], ⟨tyX1, tyX1_ok⟩, nmX1⟩
theorem ff_X1_4 : cz_fI 1 4 RX1 TX1 11 := ⟨rfl, by decide, by decide, inX1, rfl, rfl, by decide +kernel, fun _ _ => rfl, fun a M v => by simp [cz_fs, cz_mI], fun _ _ => by simp [cz_fs], ⟨tyX1, tyX1_ok⟩, nmX1⟩
theorem ff_X1_5 : cz_fI 1 5 RX1 TX1 11 := ⟨rfl, by decide, by decide, inX1, rfl, rfl, by decide +kernel, fun _ _ => rfl, fun a M v => by simp [cz_fs, cz_mI], fun _ _ => by simp [cz_fs], ⟨tyX1, tyX1_ok⟩, nmX1⟩
theorem ff_X1_6 : cz_fI 1 6 RX1 TX1 11 := ⟨rfl, by decide, by decide, inX1, rfl, rfl, by decide +kernel, fun _ _ => rfl, fun a M v => by simp [cz_fs, cz_mI], fun _ _ => by simp [cz_fs], ⟨tyX1, tyX1_ok⟩, nmX1⟩
theorem ff_X1_7 : cz_fI 1 7 RX1 TX1 11 := ⟨rfl, by decide, by decide, inX1, rfl, rfl, by decide +kernel, fun _ _ => rfl, fun a M v => by simp [cz_fs, cz_mI], fun _ _ => by simp [cz_fs], ⟨tyX1, tyX1_ok⟩, nmX1⟩
theorem ff_X1_8 : cz_fI 1 8 RX1 TX1 11 := ⟨rfl, by decide, by decide, inX1, rfl, rfl, by decide +kernel, fun _ _ => rfl, fun a M v => by simp [cz_fs, cz_mI], fun _ _ => by simp [cz_fs], ⟨tyX1, tyX1_ok⟩, nmX1⟩
theorem ff_X1_9 : cz_fI 1 9 RX1 TX1 11 := ⟨rfl, by decide, by decide, inX1, rfl, rfl, by decide +kernel, fun _ _ => rfl, fun a M v => by simp [cz_fs, cz_mI], fun _ _ => by simp [cz_fs], ⟨tyX1, tyX1_ok⟩, nmX1⟩
theorem ff_X1_10 : cz_fI 1 10 RX1 TX1 11 := ⟨rfl, by decide, by decide, inX1, rfl, rfl, by decide +kernel, fun _ _ => rfl, fun a M v => by simp [cz_fs, cz_mI], fun _ _ => by simp [cz_fs], ⟨tyX1, tyX1_ok⟩, nmX1⟩
theorem ff_X2_0 : cz_fR 2 0 1 103 RX2 TX2 9 := ⟨rfl, by decide, by decide, inX2, rfl, fun _ _ => rfl, by decide +kernel⟩
theorem ff_X2_1 : cz_fR 2 1 2 10 RX2 TX2 9 := ⟨rfl, by decide, by decide, inX2, rfl, fun _ _ => rfl, by decide +kernel⟩
theorem ff_X2_2 : cz_fR 2 2 3 108 RX2 TX2 9 := ⟨rfl, by decide, by decide, inX2, rfl, fun _ _ => rfl, by decide +kernel⟩
theorem ff_X2_3 : cz_fR 2 3 4 11 RX2 TX2 9 := ⟨rfl, by decide, by decide, inX2, rfl, fun _ _ => rfl, by decide +kernel⟩
theorem ff_X2_4 : cz_fR 2 4 5 12 RX2 TX2 9 := ⟨rfl, by decide, by decide, inX2, rfl, fun _ _ => rfl, by decide +kernel⟩
theorem ff_X2_5 : cz_fR 2 5 6 3 RX2 TX2 9 := ⟨rfl, by decide, by decide, inX2, rfl, fun _ _ => rfl, by decide +kernel⟩
theorem ff_X2_6 : cz_fR 2 6 8 105 RX2 TX2 9 := ⟨rfl, by decide, by decide, inX2, rfl, fun _ _ => rfl, by decide +kernel⟩
theorem ff_X2_7 : cz_fI 2 7 RX2 TX2 9 := ⟨rfl, by decide, by decide, inX2, rfl, rfl, by decide +kernel, fun _ _ => rfl, fun a M v => by simp [cz_fs, cz_mI], fun _ _ => by simp [cz_fs], ⟨tyX2, tyX2_ok⟩, nmX2⟩
theorem ff_X2_8 : cz_fI 2 8 RX2 TX2 9 := ⟨rfl, by decide, by decide, inX2, rfl, rfl, by decide +kernel, fun _ _ => rfl, fun a M v => by simp [cz_fs, cz_mI], fun _ _ => by simp [cz_fs], ⟨tyX2, tyX2_ok⟩, nmX2⟩
theorem ff_X3_0 : cz_fR 3 0 1 140 RX3 TX3 2 := ⟨rfl, by decide, by decide, inX3, rfl, fun _ _ => rfl, by decide +kernel⟩
theorem ff_X3_1 : cz_fI 3 1 RX3 TX3 2 := ⟨rfl, by decide, by decide, inX3, rfl, rfl, by decide +kernel, fun _ _ => rfl, fun a M v => by simp [cz_fs, cz_mI], fun _ _ => by simp [cz_fs], ⟨tyX3, tyX3_ok⟩, nmX3⟩
theorem ff_X4_0 : cz_fR 4 0 1 2 RX4 TX4 8 := ⟨rfl, by decide, by decide, inX4, rfl, fun _ _ => rfl, by decide +kernel⟩
theorem ff_X4_1 : cz_fR 4 1 58 2 RX4 TX4 8 := ⟨rfl, by decide, by decide, inX4, rfl, fun _ _ => rfl, by decide +kernel⟩
theorem ff_X4_2 : cz_fR 4 2 115 13 RX4 TX4 8 := ⟨rfl, by decide, by decide, inX4, rfl, fun _ _ => rfl, by decide +kernel⟩
theorem ff_X4_5 : cz_fR 4 5 118 7 RX4 TX4 8 := ⟨rfl, by decide, by decide, inX4, rfl, fun _ _ => rfl, by decide +kernel⟩
theorem ff_X4_6 : cz_fI 4 6 RX4 TX4 8 := ⟨rfl, by decide, by decide, inX4, rfl, rfl, by decide +kernel, fun _ _ => rfl, fun a M v => by simp [cz_fs, cz_mI], fun _ _ => by simp [cz_fs], ⟨tyX4, tyX4_ok⟩, nmX4⟩
theorem ff_X4_7 : cz_fI 4 7 RX4 TX4 8 := ⟨rfl, by decide, by decide, inX4, rfl, rfl, by decide +kernel, fun _ _ => rfl, fun a M v => by simp [cz_fs, cz_mI], fun _ _ => by simp [cz_fs], ⟨tyX4, tyX4_ok⟩, nmX4⟩
def f_X0_copyFrom (M : cz_M) (a : Nat) (a1 : Nat) : Option (cz_M) :=
  cz_lt (cz_mI M a 0 (M.1 a1 0)) fun M1 => cz_lt (cz_mI M1 a 1 (M1.1 a1 1)) fun M2 => cz_lt (cz_mI M2 a 2 (M2.1 a1 2)) fun M3 => cz_lt (cz_mI M3 a 3 (M3.1 a1 3)) fun M4 => some M4
def f_X1_begin (M : cz_M) (a : Nat) (x1 : Int32) (x2 : Int32) : Option (cz_M) :=
  cz_lt (cz_mI M a 0 x1) fun M1 => cz_lt (cz_mI M1 a 1 (nI 0)) fun M2 => cz_lt (cz_mL M2 a (0 : Int64)) fun M3 => cz_lt (cz_mI M3 a 3 (nI 0)) fun M4 => cz_lt (cz_mI M4 a 4 x2) fun M5 => cz_lt (cz_mI M5 a 5 (nI 0)) fun M6 => cz_lt (cz_mI M6 a 6 (nI 0)) fun M7 => cz_lt (cz_mI M7 a 7 (nI 0)) fun M8 => cz_lt (cz_mI M8 a 8 (nI 0)) fun M9 => cz_lt (cz_mI M9 a 9 (-6 : Int32)) fun M10 => some M10
def f_X1_copyFrom (M : cz_M) (a : Nat) (a1 : Nat) : Option (cz_M) :=
  cz_lt (cz_mI M a 0 (M.1 a1 0)) fun M1 => cz_lt (cz_mI M1 a 1 (M1.1 a1 1)) fun M2 => cz_lt (cz_mL M2 a (M2.2.1 a1)) fun M3 => cz_lt (cz_mI M3 a 3 (M3.1 a1 3)) fun M4 => cz_lt (cz_mI M4 a 4 (M4.1 a1 4)) fun M5 => cz_lt (cz_mI M5 a 5 (M5.1 a1 5)) fun M6 => cz_lt (cz_mI M6 a 6 (M6.1 a1 6)) fun M7 => cz_lt (cz_mI M7 a 7 (M7.1 a1 7)) fun M8 => cz_lt (cz_mI M8 a 8 (M8.1 a1 8)) fun M9 => cz_lt (cz_mI M9 a 9 (M9.1 a1 9)) fun M10 => some M10
def f_X1_addWord (M : cz_M) (a : Nat) (x1 : Int32) : Option (cz_M) :=
  if (nI 8) ≤ (M.1 a 3) then (some M) else (cz_lt (cz_mL M a ((M.2.1 a) ||| (cz_sl (Int32.toInt64 x1) ((nI 8) * (M.1 a 3))))) fun M2 => cz_lt (cz_mI M2 a 3 ((M2.1 a 3) + (nI 1))) fun M3 => some M3)
def f_X1_codeAt (M : cz_M) (a : Nat) (x1 : Int32) : Option (Int32) :=
  some ((Int64.toInt32 (cz_usl (M.2.1 a) ((nI 8) * x1))) &&& (nI 255))
def f_X1_isStruckAt (M : cz_M) (a : Nat) (x1 : Int32) : Option (Int32) :=
  if ((cz_us (M.1 a 8) x1) &&& (nI 1)) = nI 0 then (some (nI 0)) else (some (nI 1))
def f_J6_bitCount_0f7a4 (x0 : Int32) : Option (Int32) :=
  cz_lt (x0 - ((cz_us x0 (nI 1)) &&& (nI 1431655765))) fun v1 => cz_lt ((v1 &&& (nI 858993459)) + ((cz_us v1 (nI 2)) &&& (nI 858993459))) fun v2 => cz_lt ((v2 + (cz_us v2 (nI 4))) &&& (nI 252645135)) fun v3 => cz_lt (v3 + (cz_us v3 (nI 8))) fun v4 => cz_lt (v4 + (cz_us v4 (nI 16))) fun v5 => some (v5 &&& (nI 63))
def f_X1_struckCount (M : cz_M) (a : Nat) : Option (Int32) :=
  (f_J6_bitCount_0f7a4 (M.1 a 8)).bind fun v1 => some v1
def f_X1_placesOf_L10 (a0 : Nat) (x1 : Int32) (M : cz_M) (K : Int32 → Int64 → Int32 → Option (Int32)) (rec : Int32 → Int64 → Int32 → Option (Int32)) (x2 : Int32) (x3 : Int64) (x5 : Int32)  : Option (Int32) :=
  if (M.1 a0 3) ≤ x5 then (K x2 x3 x5) else (cz_lt ((Int64.toInt32 (x3 &&& (255 : Int64))) - (nI 97)) fun v3 => if ((cz_us x1 v3) &&& (nI 1)) = nI 0 then (cz_lt (cz_usl x3 (nI 8)) fun v5 => cz_lt (x5 + nI 1) fun v6 => rec x2 v5 v6) else (cz_lt (x2 ||| ((nI 1) <<< (x5 &&& nI 31))) fun v8 => cz_lt (cz_usl x3 (nI 8)) fun v9 => cz_lt (x5 + nI 1) fun v10 => rec v8 v9 v10))
def f_X1_placesOf (M : cz_M) (a : Nat) (x1 : Int32) : Option (Int32) :=
  cz_lt (M.2.1 a) fun v1 => cz_it3 (f_X1_placesOf_L10 a x1 M (fun y12 y13 y14 => some y12)) 4096 (nI 0) v1 (nI 0)
def f_X3_copyFrom (M : cz_M) (a : Nat) (a1 : Nat) : Option (cz_M) :=
  cz_lt (cz_mI M a 1 (M.1 a1 1)) fun M1 => cz_gd (cz_cb (nI 0) (nI 0) (M1.1 a 1) 40 40) (cz_lt (cz_mA M1 (a + 1) (va_cpy (M1.1 (a1 + 1)) (M1.1 (a + 1)) (Int32.toNatClampNeg (nI 0)) (Int32.toNatClampNeg (nI 0)) (Int32.toNatClampNeg (M1.1 a 1)))) fun M4 => some M4)
def f_X2_copyFrom_L31 (a0 : Nat) (a1 : Nat) (K : Int32 → cz_M → Option (cz_M)) (rec : Int32 → cz_M → Option (cz_M)) (x2 : Int32)  (M : cz_M) : Option (cz_M) :=
  if (nI 4) ≤ x2 then (K x2 M) else (cz_gd (cz_ib x2 4) (cz_gd (cz_ib x2 4) ((f_X0_copyFrom M ((a0 + 2) + (7 + Int32.toNatClampNeg x2)) ((a1 + 2) + (7 + Int32.toNatClampNeg x2))).bind fun M12 => cz_lt (x2 + nI 1) fun v13 => rec v13 M12)))
def f_X2_copyFrom_L59 (a0 : Nat) (a1 : Nat) (K : Int32 → cz_M → Option (cz_M)) (rec : Int32 → cz_M → Option (cz_M)) (x2 : Int32)  (M : cz_M) : Option (cz_M) :=
  if (M.1 a1 7) ≤ x2 then (K x2 M) else (cz_gd (cz_ib x2 40) (cz_gd (cz_ib x2 40) ((f_X1_copyFrom M ((a0 + 4) + (9 + Int32.toNatClampNeg x2)) ((a1 + 4) + (9 + Int32.toNatClampNeg x2))).bind fun M22 => cz_lt (x2 + nI 1) fun v23 => rec v23 M22)))
def f_X2_copyFrom_L90 (a0 : Nat) (a1 : Nat) (K : Int32 → cz_M → Option (cz_M)) (rec : Int32 → cz_M → Option (cz_M)) (x2 : Int32)  (M : cz_M) : Option (cz_M) :=
  if (nI 2) ≤ x2 then (K x2 M) else (cz_gd (cz_ib x2 2) (cz_gd (cz_ib x2 2) ((f_X3_copyFrom M ((a0 + 5) + (48 + 2 * Int32.toNatClampNeg x2)) ((a1 + 5) + (48 + 2 * Int32.toNatClampNeg x2))).bind fun M32 => cz_lt (x2 + nI 1) fun v33 => rec v33 M32)))
def f_X2_copyFrom (M : cz_M) (a : Nat) (a1 : Nat) : Option (cz_M) :=
  cz_gd (cz_cb (nI 0) (nI 0) (nI 3) 3 3) (cz_lt (cz_mA M (a + 1) (va_cpy (M.1 (a1 + 1)) (M.1 (a + 1)) (Int32.toNatClampNeg (nI 0)) (Int32.toNatClampNeg (nI 0)) (Int32.toNatClampNeg (nI 3)))) fun M3 => cz_gd (cz_cb (nI 0) (nI 0) (nI 8) 8 8) (cz_lt (cz_mA M3 (a + 3) (va_cpy (M3.1 (a1 + 3)) (M3.1 (a + 3)) (Int32.toNatClampNeg (nI 0)) (Int32.toNatClampNeg (nI 0)) (Int32.toNatClampNeg (nI 8)))) fun M6 => cz_it2 (f_X2_copyFrom_L31 a a1 (fun y15 M16 => cz_it2 (f_X2_copyFrom_L59 a a1 (fun y25 M26 => cz_it2 (f_X2_copyFrom_L90 a a1 (fun y35 M36 => cz_lt (cz_mI M36 a 7 (M36.1 a1 7)) fun M37 => cz_lt (cz_mI M37 a 8 (M37.1 a1 8)) fun M38 => some M38)) 4096 (nI 0) M26)) 4096 (nI 0) M16)) 4096 (nI 0) M6))
def f_X2_hasLetter (M : cz_M) (a : Nat) (x1 : Int32) : Option (Int32) :=
  if x1 < nI 0 then (some (nI 0)) else (if (M.1 a 7) ≤ x1 then (some (nI 0)) else (some (nI 1)))
def f_X2_beginLetter (M : cz_M) (a : Nat) (x1 : Int32) : Option (Option Nat × cz_M) :=
  if (M.1 a 7) < (nI 40) then (cz_gd (cz_ib (M.1 a 7) 40) (cz_lt ((a + 4) + (9 + Int32.toNatClampNeg (M.1 a 7))) fun r4 => (f_X1_begin M r4 x1 (M.1 a 8)).bind fun M6 => cz_lt (cz_mI M6 a 7 ((M6.1 a 7) + (nI 1))) fun M7 => some ((some r4), M7))) else (some (none, M))
def f_X3_append (M : cz_M) (a : Nat) (x1 : Int32) : Option (cz_M) :=
  if (nI 40) ≤ (M.1 a 1) then (some M) else (cz_gd (cz_ib (M.1 a 1) 40) (cz_lt (cz_mI M (a + 1) (Int32.toNatClampNeg (M.1 a 1)) x1) fun M4 => cz_lt (cz_mI M4 a 1 ((M4.1 a 1) + (nI 1))) fun M5 => some M5))
def f_X2_sendNewest (M : cz_M) (a : Nat) (x1 : Int32) : Option (cz_M) :=
  if (M.1 a 7) ≤ nI 0 then (some M) else (cz_gd (cz_ib ((M.1 a 7) - (nI 1)) 40) (cz_lt (cz_mI M ((a + 4) + (9 + Int32.toNatClampNeg ((M.1 a 7) - (nI 1)))) 1 x1) fun M4 => cz_gd (cz_ib x1 2) ((f_X3_append M4 ((a + 5) + (48 + 2 * Int32.toNatClampNeg x1)) ((M4.1 a 7) - (nI 1))).bind fun M7 => some M7)))
def f_X3_takeOut_L4 (a0 : Nat) (x1 : Int32) (K : Int32 → Int32 → cz_M → Option (cz_M)) (rec : Int32 → Int32 → cz_M → Option (cz_M)) (x2 : Int32) (x3 : Int32)  (M : cz_M) : Option (cz_M) :=
  if (M.1 a0 1) ≤ x3 then (K x2 x3 M) else (cz_gd (cz_ib x3 40) (if (M.1 (a0 + 1) (Int32.toNatClampNeg x3)) = x1 then (cz_lt (x3 + nI 1) fun v4 => rec x2 v4 M) else (cz_gd (cz_ib x3 40) (cz_gd (cz_ib x2 40) (cz_lt (cz_mI M (a0 + 1) (Int32.toNatClampNeg x2) (M.1 (a0 + 1) (Int32.toNatClampNeg x3))) fun M8 => cz_lt (x2 + nI 1) fun v9 => cz_lt (x3 + nI 1) fun v11 => rec v9 v11 M8)))))
def f_X3_takeOut (M : cz_M) (a : Nat) (x1 : Int32) : Option (cz_M) :=
  cz_it3 (f_X3_takeOut_L4 a x1 (fun y13 y14 M15 => cz_lt (cz_mI M15 a 1 y13) fun M16 => some M16)) 4096 (nI 0) (nI 0) M
def f_X2_burnWaiting (M : cz_M) (a : Nat) (x1 : Int32) : Option (cz_M) :=
  cz_gd (cz_ib x1 40) (cz_lt (cz_mI M ((a + 4) + (9 + Int32.toNatClampNeg x1)) 5 (nI 2)) fun M3 => cz_gd (cz_ib x1 40) (cz_gd (cz_ib (M3.1 ((a + 4) + (9 + Int32.toNatClampNeg x1)) 1) 2) ((f_X3_takeOut M3 ((a + 5) + (48 + 2 * Int32.toNatClampNeg (M3.1 ((a + 4) + (9 + Int32.toNatClampNeg x1)) 1))) x1).bind fun M8 => some M8)))
def f_X2_tradeShifts (M : cz_M) (a : Nat) (x1 : Int32) (x2 : Int32) : Option (cz_M) :=
  cz_gd (cz_ib x1 8) (cz_lt (M.1 (a + 3) (Int32.toNatClampNeg x1)) fun v2 => cz_gd (cz_ib x2 8) (cz_gd (cz_ib x1 8) (cz_lt (cz_mI M (a + 3) (Int32.toNatClampNeg x1) (M.1 (a + 3) (Int32.toNatClampNeg x2))) fun M5 => cz_gd (cz_ib x2 8) (cz_lt (cz_mI M5 (a + 3) (Int32.toNatClampNeg x2) v2) fun M7 => some M7))))
def f_X2_censorNumber (M : cz_M) (a : Nat) (x1 : Int32) (x2 : Int32) : Option (Int32) :=
  cz_gd (cz_ib (((nI 2) * (x1 - x1 / (nI 4) * (nI 4))) + x2) 8) (some (M.1 (a + 3) (Int32.toNatClampNeg (((nI 2) * (x1 - x1 / (nI 4) * (nI 4))) + x2))))
def f_X2_shiftsOf_L4 (a0 : Nat) (x1 : Int32) (M : cz_M) (K : Int32 → Int32 → Option (Int32)) (rec : Int32 → Int32 → Option (Int32)) (x2 : Int32) (x3 : Int32)  : Option (Int32) :=
  if (nI 8) ≤ x3 then (K x2 x3) else (cz_gd (cz_ib x3 8) (if (M.1 (a0 + 3) (Int32.toNatClampNeg x3)) = x1 then (cz_lt (x2 + nI 1) fun v6 => cz_lt (x3 + nI 1) fun v8 => rec v6 v8) else (cz_lt (x3 + nI 1) fun v4 => rec x2 v4)))
def f_X2_shiftsOf (M : cz_M) (a : Nat) (x1 : Int32) : Option (Int32) :=
  cz_it2 (f_X2_shiftsOf_L4 a x1 M (fun y10 y11 => some y10)) 4096 (nI 0) (nI 0)
def f_X2_aheadOf_L4 (a0 : Nat) (x1 : Int32) (M : cz_M) (K : Int32 → Option (Int32)) (rec : Int32 → Option (Int32)) (x2 : Int32)  : Option (Int32) :=
  if x2 < nI 0 then (K x2) else (cz_gd (cz_ib x2 40) (cz_gd (cz_ib x1 40) (if (M.1 ((a0 + 4) + (9 + Int32.toNatClampNeg x2)) 0) = (M.1 ((a0 + 4) + (9 + Int32.toNatClampNeg x1)) 0) then (some x2) else (cz_lt (x2 + (-1)) fun v8 => rec v8))))
def f_X2_aheadOf (M : cz_M) (a : Nat) (x1 : Int32) : Option (Int32) :=
  cz_lt (x1 - (nI 1)) fun v1 => cz_it1 (f_X2_aheadOf_L4 a x1 M (fun y10 => some (-6 : Int32))) 4096 v1
def f_X2_lettersThatAre_L4 (a0 : Nat) (x1 : Int32) (M : cz_M) (K : Int32 → Int32 → Option (Int32)) (rec : Int32 → Int32 → Option (Int32)) (x2 : Int32) (x3 : Int32)  : Option (Int32) :=
  if (M.1 a0 7) ≤ x3 then (K x2 x3) else (cz_gd (cz_ib x3 40) (if (M.1 ((a0 + 4) + (9 + Int32.toNatClampNeg x3)) 5) = x1 then (cz_lt (x2 + nI 1) fun v7 => cz_lt (x3 + nI 1) fun v9 => rec v7 v9) else (cz_lt (x3 + nI 1) fun v5 => rec x2 v5)))
def f_X2_lettersThatAre (M : cz_M) (a : Nat) (x1 : Int32) : Option (Int32) :=
  cz_it2 (f_X2_lettersThatAre_L4 a x1 M (fun y11 y12 => some y11)) 4096 (nI 0) (nI 0)
def f_X2_allDelays_L4 (a0 : Nat) (M : cz_M) (K : Int32 → Int32 → Option (Int32)) (rec : Int32 → Int32 → Option (Int32)) (x1 : Int32) (x2 : Int32)  : Option (Int32) :=
  if (M.1 a0 7) ≤ x2 then (K x1 x2) else (cz_gd (cz_ib x2 40) (if (M.1 ((a0 + 4) + (9 + Int32.toNatClampNeg x2)) 5) = (nI 1) then (cz_gd (cz_ib x2 40) (cz_lt (x1 + (M.1 ((a0 + 4) + (9 + Int32.toNatClampNeg x2)) 6)) fun v9 => cz_lt (x2 + nI 1) fun v10 => rec v9 v10)) else (cz_lt (x2 + nI 1) fun v5 => rec x1 v5)))
def f_X2_allDelays (M : cz_M) (a : Nat) : Option (Int32) :=
  cz_it2 (f_X2_allDelays_L4 a M (fun y12 y13 => some y12)) 4096 (nI 0) (nI 0)
def f_X2_longestDelay_L4 (a0 : Nat) (M : cz_M) (K : Int32 → Int32 → Option (Int32)) (rec : Int32 → Int32 → Option (Int32)) (x1 : Int32) (x2 : Int32)  : Option (Int32) :=
  if (M.1 a0 7) ≤ x2 then (K x1 x2) else (cz_gd (cz_ib x2 40) (if (M.1 ((a0 + 4) + (9 + Int32.toNatClampNeg x2)) 5) = (nI 1) then (cz_gd (cz_ib x2 40) (cz_lt (if x1 < (M.1 ((a0 + 4) + (9 + Int32.toNatClampNeg x2)) 6) then (M.1 ((a0 + 4) + (9 + Int32.toNatClampNeg x2)) 6) else x1) fun v9 => cz_lt (x2 + nI 1) fun v10 => rec v9 v10)) else (cz_lt (x2 + nI 1) fun v5 => rec x1 v5)))
def f_X2_longestDelay (M : cz_M) (a : Nat) : Option (Int32) :=
  cz_it2 (f_X2_longestDelay_L4 a M (fun y12 y13 => some y12)) 4096 (nI 0) (nI 0)
def f_X2_wordsStruckInLetters_L4 (a0 : Nat) (M : cz_M) (K : Int32 → Int32 → Option (Int32)) (rec : Int32 → Int32 → Option (Int32)) (x1 : Int32) (x2 : Int32)  : Option (Int32) :=
  if (M.1 a0 7) ≤ x2 then (K x1 x2) else (cz_gd (cz_ib x2 40) (if (M.1 ((a0 + 4) + (9 + Int32.toNatClampNeg x2)) 5) = (nI 1) then (cz_gd (cz_ib x2 40) ((f_X1_struckCount M ((a0 + 4) + (9 + Int32.toNatClampNeg x2))).bind fun v9 => cz_lt (x1 + v9) fun v10 => cz_lt (x2 + nI 1) fun v11 => rec v10 v11)) else (cz_lt (x2 + nI 1) fun v5 => rec x1 v5)))
def f_X2_wordsStruckInLetters (M : cz_M) (a : Nat) : Option (Int32) :=
  cz_it2 (f_X2_wordsStruckInLetters_L4 a M (fun y13 y14 => some y13)) 4096 (nI 0) (nI 0)
def f_X2_findHeadsIn_L2 (a0 : Nat) (a1 : Nat) (K : Int32 → cz_M → Option (cz_M)) (rec : Int32 → cz_M → Option (cz_M)) (x2 : Int32)  (M : cz_M) : Option (cz_M) :=
  if (M.1 a1 1) ≤ x2 then (K x2 M) else (cz_gd (cz_ib x2 40) (cz_lt (M.1 (a1 + 1) (Int32.toNatClampNeg x2)) fun v3 => cz_gd (cz_ib v3 40) (cz_lt (M.1 ((a0 + 4) + (9 + Int32.toNatClampNeg v3)) 0) fun v6 => cz_gd (cz_ib v6 5) (if (M.1 (a0 + 8) (Int32.toNatClampNeg v6)) = (-6 : Int32) then (cz_gd (cz_ib v6 5) (cz_lt (cz_mI M (a0 + 8) (Int32.toNatClampNeg v6) v3) fun M10 => cz_lt (x2 + nI 1) fun v11 => rec v11 M10)) else (cz_gd (cz_ib v6 5) (if (M.1 (a0 + 8) (Int32.toNatClampNeg v6)) ≤ v3 then (cz_lt (x2 + nI 1) fun v15 => rec v15 M) else (cz_gd (cz_ib v6 5) (cz_lt (cz_mI M (a0 + 8) (Int32.toNatClampNeg v6) v3) fun M18 => cz_lt (x2 + nI 1) fun v19 => rec v19 M18))))))))
def f_X2_findHeadsIn (M : cz_M) (a : Nat) (a1 : Nat) : Option (cz_M) :=
  cz_it2 (f_X2_findHeadsIn_L2 a a1 (fun y21 M22 => some M22)) 4096 (nI 0) M
def f_X2_findHeads_L2 (a0 : Nat) (K : Int32 → cz_M → Option (cz_M)) (rec : Int32 → cz_M → Option (cz_M)) (x1 : Int32)  (M : cz_M) : Option (cz_M) :=
  if (nI 5) ≤ x1 then (K x1 M) else (cz_gd (cz_ib x1 5) (cz_lt (cz_mI M (a0 + 8) (Int32.toNatClampNeg x1) (-6 : Int32)) fun M3 => cz_lt (x1 + nI 1) fun v4 => rec v4 M3))
def f_X2_findHeads_L23 (a0 : Nat) (K : Int32 → cz_M → Option (cz_M)) (rec : Int32 → cz_M → Option (cz_M)) (x1 : Int32)  (M : cz_M) : Option (cz_M) :=
  if (nI 2) ≤ x1 then (K x1 M) else (cz_gd (cz_ib x1 2) ((f_X2_findHeadsIn M a0 ((a0 + 5) + (48 + 2 * Int32.toNatClampNeg x1))).bind fun M11 => cz_lt (x1 + nI 1) fun v12 => rec v12 M11))
def f_X2_findHeads (M : cz_M) (a : Nat) : Option (cz_M) :=
  cz_it2 (f_X2_findHeads_L2 a (fun y6 M7 => cz_it2 (f_X2_findHeads_L23 a (fun y14 M15 => some M15)) 4096 (nI 0) M7)) 4096 (nI 0) M
def f_X2_threadsThatWait_L8 (a0 : Nat) (M : cz_M) (K : Int32 → Int32 → Option (Int32 × cz_M)) (rec : Int32 → Int32 → Option (Int32 × cz_M)) (x1 : Int32) (x2 : Int32)  : Option (Int32 × cz_M) :=
  if (nI 5) ≤ x2 then (K x1 x2) else (cz_gd (cz_ib x2 5) (if (M.1 (a0 + 8) (Int32.toNatClampNeg x2)) = (-6 : Int32) then (cz_lt (x2 + nI 1) fun v5 => rec x1 v5) else (cz_lt (x1 + nI 1) fun v7 => cz_lt (x2 + nI 1) fun v9 => rec v7 v9)))
def f_X2_threadsThatWait (M : cz_M) (a : Nat) : Option (Int32 × cz_M) :=
  (f_X2_findHeads M a).bind fun M1 => cz_it2 (f_X2_threadsThatWait_L8 a M1 (fun y11 y12 => some (y11, M1))) 4096 (nI 0) (nI 0)
def f_X2_lettersTurnedByAll_L4 (a0 : Nat) (M : cz_M) (K : Int32 → Int32 → Option (Int32)) (rec : Int32 → Int32 → Option (Int32)) (x1 : Int32) (x2 : Int32)  : Option (Int32) :=
  if (nI 4) ≤ x2 then (K x1 x2) else (cz_gd (cz_ib x2 4) (cz_lt (x1 + (M.1 ((a0 + 2) + (7 + Int32.toNatClampNeg x2)) 3)) fun v4 => cz_lt (x2 + nI 1) fun v5 => rec v4 v5))
def f_X2_lettersTurnedByAll (M : cz_M) (a : Nat) : Option (Int32) :=
  cz_it2 (f_X2_lettersTurnedByAll_L4 a M (fun y7 y8 => some y7)) 4096 (nI 0) (nI 0)
def f_X2_fateIfRead (M : cz_M) (a : Nat) (a1 : Nat) (x2 : Int32) : Option (Int32) :=
  (f_X1_placesOf M a1 x2).bind fun v1 => (f_J6_bitCount_0f7a4 v1).bind fun v2 => cz_gd (cz_ib (nI 1) 3) (if (M.1 (a + 1) (Int32.toNatClampNeg (nI 1))) < v2 then (cz_gd (cz_ib (nI 2) 3) (if ((M.1 a1 7) + (nI 1)) < (M.1 (a + 1) (Int32.toNatClampNeg (nI 2))) then (some (nI 4)) else (some (nI 5)))) else (some (nI 0)))
def f_X2_judgeRow_L31 (a0 : Nat) (a2 : Nat) (x3 : Int32) (K : Int32 → Int32 → cz_M → Option (cz_M)) (rec : Int32 → Int32 → cz_M → Option (cz_M)) (x4 : Int32) (x5 : Int32)  (M : cz_M) : Option (cz_M) :=
  if (M.1 a2 1) ≤ x5 then (K x4 x5 M) else (cz_gd (cz_ib x5 40) (cz_lt (M.1 (a2 + 1) (Int32.toNatClampNeg x5)) fun v11 => cz_gd (cz_ib v11 40) (cz_lt ((a0 + 4) + (9 + Int32.toNatClampNeg v11)) fun r14 => cz_gd (cz_ib (M.1 r14 0) 5) (if (M.1 (a0 + 8) (Int32.toNatClampNeg (M.1 r14 0))) = v11 then (cz_gd (cz_ib (nI 0) 3) (if x4 < (M.1 (a0 + 1) (Int32.toNatClampNeg (nI 0))) then ((f_X2_fateIfRead M a0 r14 x3).bind fun v20 => cz_lt (cz_mI M r14 10 v20) fun M21 => cz_lt (x4 + nI 1) fun v22 => cz_lt (x5 + nI 1) fun v24 => rec v22 v24 M21) else (cz_lt (cz_mI M r14 10 (nI 3)) fun M26 => cz_lt (x5 + nI 1) fun v27 => rec x4 v27 M26))) else (cz_lt (cz_mI M r14 10 (nI 2)) fun M29 => cz_lt (x5 + nI 1) fun v30 => rec x4 v30 M29)))))
def f_X2_judgeRow (M : cz_M) (a : Nat) (x1 : Int32) : Option (cz_M) :=
  cz_gd (cz_ib x1 2) (cz_lt ((a + 5) + (48 + 2 * Int32.toNatClampNeg x1)) fun r3 => (f_X2_censorNumber M a (M.1 a 8) x1).bind fun v6 => cz_gd (cz_ib v6 4) (cz_lt (M.1 ((a + 2) + (7 + Int32.toNatClampNeg v6)) 0) fun v8 => cz_it3 (f_X2_judgeRow_L31 a r3 v8 (fun y32 y33 M34 => some M34)) 4096 (nI 0) (nI 0) M))
def f_X2_judgeWeek_L6 (a0 : Nat) (K : Int32 → cz_M → Option (cz_M)) (rec : Int32 → cz_M → Option (cz_M)) (x1 : Int32)  (M : cz_M) : Option (cz_M) :=
  if (nI 2) ≤ x1 then (K x1 M) else ((f_X2_judgeRow M a0 x1).bind fun M3 => cz_lt (x1 + nI 1) fun v4 => rec v4 M3)
def f_X2_judgeWeek (M : cz_M) (a : Nat) : Option (cz_M) :=
  (f_X2_findHeads M a).bind fun M1 => cz_it2 (f_X2_judgeWeek_L6 a (fun y6 M7 => some M7)) 4096 (nI 0) M1
def f_X2_letThrough (M : cz_M) (a : Nat) (a1 : Nat) (x2 : Int32) : Option (cz_M) :=
  cz_gd (cz_ib x2 4) ((f_X1_placesOf M a1 (M.1 ((a + 2) + (7 + Int32.toNatClampNeg x2)) 0)).bind fun v3 => cz_lt (cz_mI M a1 8 v3) fun M4 => cz_lt (cz_mI M4 a1 5 (nI 1)) fun M5 => cz_lt (cz_mI M5 a1 6 (((M5.1 a 8) + (nI 1)) - (M5.1 a1 4))) fun M6 => cz_lt (cz_mI M6 a1 9 x2) fun M7 => cz_gd (cz_ib x2 4) (cz_lt (cz_mI M7 ((a + 2) + (7 + Int32.toNatClampNeg x2)) 1 ((M7.1 ((a + 2) + (7 + Int32.toNatClampNeg x2)) 1) + (nI 1))) fun M10 => cz_gd (cz_ib x2 4) ((f_X1_struckCount M10 a1).bind fun v13 => cz_lt (cz_mI M10 ((a + 2) + (7 + Int32.toNatClampNeg x2)) 2 ((M10.1 ((a + 2) + (7 + Int32.toNatClampNeg x2)) 2) + v13)) fun M14 => some M14)))
def f_X2_turnBack (M : cz_M) (a : Nat) (a1 : Nat) (x2 : Int32) : Option (cz_M) :=
  cz_lt (cz_mI M a1 7 ((M.1 a1 7) + (nI 1))) fun M1 => if (M1.1 a1 10) = (nI 5) then (cz_lt (cz_mI M1 a1 5 (nI 2)) fun M9 => cz_gd (cz_ib x2 4) (cz_lt (cz_mI M9 ((a + 2) + (7 + Int32.toNatClampNeg x2)) 1 ((M9.1 ((a + 2) + (7 + Int32.toNatClampNeg x2)) 1) + (nI 1))) fun M12 => cz_gd (cz_ib x2 4) (cz_lt (cz_mI M12 ((a + 2) + (7 + Int32.toNatClampNeg x2)) 3 ((M12.1 ((a + 2) + (7 + Int32.toNatClampNeg x2)) 3) + (nI 1))) fun M15 => some M15))) else (cz_gd (cz_ib x2 4) (cz_lt (cz_mI M1 ((a + 2) + (7 + Int32.toNatClampNeg x2)) 1 ((M1.1 ((a + 2) + (7 + Int32.toNatClampNeg x2)) 1) + (nI 1))) fun M5 => cz_gd (cz_ib x2 4) (cz_lt (cz_mI M5 ((a + 2) + (7 + Int32.toNatClampNeg x2)) 3 ((M5.1 ((a + 2) + (7 + Int32.toNatClampNeg x2)) 3) + (nI 1))) fun M8 => some M8)))
def f_X2_appendIfFate_L3 (a0 : Nat) (a1 : Nat) (x2 : Int32) (x3 : Int32) (K : Int32 → cz_M → Option (cz_M)) (rec : Int32 → cz_M → Option (cz_M)) (x4 : Int32)  (M : cz_M) : Option (cz_M) :=
  if (M.1 a1 1) ≤ x4 then (K x4 M) else (cz_gd (cz_ib x4 40) (cz_gd (cz_ib (M.1 (a1 + 1) (Int32.toNatClampNeg x4)) 40) (cz_lt (M.1 ((a0 + 4) + (9 + Int32.toNatClampNeg (M.1 (a1 + 1) (Int32.toNatClampNeg x4)))) 10) fun v5 => if v5 = x2 then (cz_gd (cz_ib x4 40) ((f_X3_append M (a0 + 6) (M.1 (a1 + 1) (Int32.toNatClampNeg x4))).bind fun M9 => cz_lt (x4 + nI 1) fun v10 => rec v10 M9)) else (if v5 = x3 then (cz_gd (cz_ib x4 40) ((f_X3_append M (a0 + 6) (M.1 (a1 + 1) (Int32.toNatClampNeg x4))).bind fun M17 => cz_lt (x4 + nI 1) fun v18 => rec v18 M17)) else (cz_lt (x4 + nI 1) fun v13 => rec v13 M)))))
def f_X2_appendIfFate (M : cz_M) (a : Nat) (a1 : Nat) (x2 : Int32) (x3 : Int32) : Option (cz_M) :=
  cz_it2 (f_X2_appendIfFate_L3 a a1 x2 x3 (fun y20 M21 => some M21)) 4096 (nI 0) M
def f_X2_readRow_L23 (a0 : Nat) (a2 : Nat) (x3 : Int32) (K : Int32 → Int32 → cz_M → Option (Int32 × cz_M)) (rec : Int32 → Int32 → cz_M → Option (Int32 × cz_M)) (x4 : Int32) (x5 : Int32)  (M : cz_M) : Option (Int32 × cz_M) :=
  if (M.1 a2 1) ≤ x5 then (K x4 x5 M) else (cz_gd (cz_ib x5 40) (cz_gd (cz_ib (M.1 (a2 + 1) (Int32.toNatClampNeg x5)) 40) (cz_lt ((a0 + 4) + (9 + Int32.toNatClampNeg (M.1 (a2 + 1) (Int32.toNatClampNeg x5)))) fun r10 => if (M.1 r10 10) = nI 0 then ((f_X2_letThrough M a0 r10 x3).bind fun M23 => cz_lt (x4 + nI 1) fun v24 => cz_lt (x5 + nI 1) fun v26 => rec v24 v26 M23) else (if (M.1 r10 10) = (nI 4) then ((f_X2_turnBack M a0 r10 x3).bind fun M14 => cz_lt (x5 + nI 1) fun v15 => rec x4 v15 M14) else (if (M.1 r10 10) = (nI 5) then ((f_X2_turnBack M a0 r10 x3).bind fun M20 => cz_lt (x5 + nI 1) fun v21 => rec x4 v21 M20) else (cz_lt (x5 + nI 1) fun v18 => rec x4 v18 M))))))
def f_X2_readRow (M : cz_M) (a : Nat) (x1 : Int32) : Option (Int32 × cz_M) :=
  cz_gd (cz_ib x1 2) (cz_lt ((a + 5) + (48 + 2 * Int32.toNatClampNeg x1)) fun r3 => (f_X2_censorNumber M a (M.1 a 8) x1).bind fun v5 => cz_it3 (f_X2_readRow_L23 a r3 v5 (fun y28 y29 M30 => cz_lt (cz_mI M30 (a + 6) 1 (nI 0)) fun M32 => (f_X2_appendIfFate M32 a r3 (nI 2) (nI 3)).bind fun M33 => (f_X2_appendIfFate M33 a r3 (nI 4) (nI 4)).bind fun M34 => (f_X3_copyFrom M34 r3 (a + 6)).bind fun M36 => some (y28, M36))) 4096 (nI 0) (nI 0) M)
def f_X2_passWeek_L8 (a0 : Nat) (K : Int32 → Int32 → cz_M → Option (Int32 × cz_M)) (rec : Int32 → Int32 → cz_M → Option (Int32 × cz_M)) (x1 : Int32) (x2 : Int32)  (M : cz_M) : Option (Int32 × cz_M) :=
  if (nI 2) ≤ x2 then (K x1 x2 M) else (cz_b2 (f_X2_readRow M a0 x2) fun v4 M3 => cz_lt (x1 + v4) fun v5 => cz_lt (x2 + nI 1) fun v6 => rec v5 v6 M3)
def f_X2_passWeek (M : cz_M) (a : Nat) : Option (Int32 × cz_M) :=
  (f_X2_judgeWeek M a).bind fun M1 => cz_it3 (f_X2_passWeek_L8 a (fun y8 y9 M10 => cz_lt (cz_mI M10 a 8 ((M10.1 a 8) + (nI 1))) fun M11 => some (y8, M11))) 4096 (nI 0) (nI 0) M1
def f_X2_passWeeks_L4 (a0 : Nat) (x1 : Int32) (K : Int32 → Int32 → cz_M → Option (Int32 × cz_M)) (rec : Int32 → Int32 → cz_M → Option (Int32 × cz_M)) (x2 : Int32) (x3 : Int32)  (M : cz_M) : Option (Int32 × cz_M) :=
  if x1 ≤ x3 then (K x2 x3 M) else (cz_b2 (f_X2_passWeek M a0) fun v3 M2 => cz_lt (x2 + v3) fun v4 => cz_lt (x3 + nI 1) fun v5 => rec v4 v5 M2)
def f_X2_passWeeks (M : cz_M) (a : Nat) (x1 : Int32) : Option (Int32 × cz_M) :=
  cz_it3 (f_X2_passWeeks_L4 a x1 (fun y7 y8 M9 => some (y7, M9))) 4096 (nI 0) (nI 0) M
def f_X3_placeOf_L2 (a0 : Nat) (x1 : Int32) (M : cz_M) (K : Int32 → Option (Int32)) (rec : Int32 → Option (Int32)) (x2 : Int32)  : Option (Int32) :=
  if (M.1 a0 1) ≤ x2 then (K x2) else (cz_gd (cz_ib x2 40) (if (M.1 (a0 + 1) (Int32.toNatClampNeg x2)) = x1 then (some x2) else (cz_lt (x2 + nI 1) fun v4 => rec v4)))
def f_X3_placeOf (M : cz_M) (a : Nat) (x1 : Int32) : Option (Int32) :=
  cz_it1 (f_X3_placeOf_L2 a x1 M (fun y6 => some (-6 : Int32))) 4096 (nI 0)
def f_X4_remember_L17 (a0 : Nat) (a1 : Nat) (K : Int32 → cz_M → Option (cz_M)) (rec : Int32 → cz_M → Option (cz_M)) (x2 : Int32)  (M : cz_M) : Option (cz_M) :=
  if (nI 4) ≤ x2 then (K x2 M) else (cz_gd (cz_ib x2 4) (cz_gd (cz_ib (x2 - (nI 1)) 4) (cz_lt (cz_mP M (Int32.toNatClampNeg (x2 - (nI 1))) (M.2.2 (Int32.toNatClampNeg x2))) fun M15 => cz_lt (x2 + nI 1) fun v16 => rec v16 M15)))
def f_X4_remember (M : cz_M) (a : Nat) : Option (cz_M) :=
  if (M.1 a 6) = (nI 4) then (cz_gd (cz_ib (nI 0) 4) (cz_lt (M.2.2 (Int32.toNatClampNeg (nI 0))) fun r9 => cz_it2 (f_X4_remember_L17 a r9 (fun y18 M19 => cz_gd (cz_ib (nI 3) 4) (cz_lt (cz_mP M19 (Int32.toNatClampNeg (nI 3)) r9) fun M21 => cz_lt (cz_mI M21 a 6 ((M21.1 a 6) - (nI 1))) fun M22 => cz_gd (cz_ib (M22.1 a 6) 4) ((f_X2_copyFrom M22 (M22.2.2 (Int32.toNatClampNeg (M22.1 a 6))) (a + 1)).bind fun M26 => cz_lt (cz_mI M26 a 6 ((M26.1 a 6) + (nI 1))) fun M27 => some M27)))) 4096 (nI 1) M)) else (cz_gd (cz_ib (M.1 a 6) 4) ((f_X2_copyFrom M (M.2.2 (Int32.toNatClampNeg (M.1 a 6))) (a + 1)).bind fun M5 => cz_lt (cz_mI M5 a 6 ((M5.1 a 6) + (nI 1))) fun M6 => some M6))
def f_X4_set (M : cz_M) (a : Nat) (x1 : Int32) (x2 : Int32) : Option (Int32 × cz_M) :=
  if x1 < nI 0 then (some ((-2 : Int32), M)) else (if x1 < (nI 3) then (cz_gd (cz_ib x1 3) (if x2 < (cz_tL (Int32.toNatClampNeg x1)) then (some ((-2 : Int32), M)) else (cz_gd (cz_ib x1 3) (if x2 ≤ (cz_tM (Int32.toNatClampNeg x1)) then ((f_X4_remember M a).bind fun M9 => cz_gd (cz_ib x1 3) (cz_lt (M9.1 ((a + 1) + 1) (Int32.toNatClampNeg x1)) fun v12 => cz_gd (cz_ib x1 3) (cz_lt (cz_mI M9 ((a + 1) + 1) (Int32.toNatClampNeg x1) x2) fun M15 => some (v12, M15)))) else (some ((-2 : Int32), M)))))) else (some ((-2 : Int32), M)))
def f_X4_strike (M : cz_M) (a : Nat) (x1 : Int32) (x2 : Int32) : Option (Int32 × cz_M) :=
  if x1 < nI 0 then (some ((-1 : Int32), M)) else (if (nI 4) ≤ x1 then (some ((-1 : Int32), M)) else (if x2 < nI 0 then (some ((-1 : Int32), M)) else (if x2 < (nI 26) then ((f_X4_remember M a).bind fun M5 => cz_gd (cz_ib x1 4) (cz_lt (((a + 1) + 2) + (7 + Int32.toNatClampNeg x1)) fun r9 => cz_lt (cz_mI M5 r9 0 ((M5.1 r9 0) ^^^ ((nI 1) <<< (x2 &&& nI 31)))) fun M11 => (f_J6_bitCount_0f7a4 (M11.1 r9 0)).bind fun v12 => some (v12, M11))) else (some ((-1 : Int32), M)))))
def f_X4_trade (M : cz_M) (a : Nat) (x1 : Int32) (x2 : Int32) : Option (Int32 × cz_M) :=
  if x1 < nI 0 then (some ((-1 : Int32), M)) else (if (nI 8) ≤ x1 then (some ((-1 : Int32), M)) else (if x2 < nI 0 then (some ((-1 : Int32), M)) else (if x2 < (nI 8) then (cz_gd (cz_ib x1 8) (cz_gd (cz_ib x2 8) (if (M.1 ((a + 1) + 3) (Int32.toNatClampNeg x1)) = (M.1 ((a + 1) + 3) (Int32.toNatClampNeg x2)) then (some ((-5 : Int32), M)) else ((f_X4_remember M a).bind fun M10 => (f_X2_tradeShifts M10 (a + 1) x1 x2).bind fun M12 => cz_gd (cz_ib x1 8) (some ((M12.1 ((a + 1) + 3) (Int32.toNatClampNeg x1)), M12)))))) else (some ((-1 : Int32), M)))))
def f_X4_isWord (x0 : Int32) : Option (Int32) :=
  if x0 < (nI 97) then (some (nI 0)) else (if (nI 122) < x0 then (some (nI 0)) else (some (nI 1)))
def f_X4_stageBehind (x0 : Int32) (x1 : Int32) : Option (Int32) :=
  if x0 = nI 0 then (if x1 < (nI 48) then (some (-1 : Int32)) else (if (nI 53) ≤ x1 then (some (-1 : Int32)) else (some (nI 1)))) else (if x0 = (nI 1) then (if x1 = (nI 62) then (some (nI 2)) else (if x1 = (nI 60) then (some (nI 2)) else (some (-1 : Int32)))) else ((f_X4_isWord x1).bind fun v3 => if v3 = nI 0 then (if x1 = (nI 44) then (if x0 ≤ (nI 2) then (some (-1 : Int32)) else (some (nI 0))) else (some (-1 : Int32))) else (if (nI 10) ≤ x0 then (some (-1 : Int32)) else (some (x0 + (nI 1))))))
def f_X4_faultOfPad_L4 (a0 : Nat) (M : cz_M) (K : Int32 → Int32 → Option (Int32)) (rec : Int32 → Int32 → Option (Int32)) (x1 : Int32) (x2 : Int32)  : Option (Int32) :=
  if (M.1 a0 7) ≤ x2 then (K x1 x2) else (cz_gd (cz_ib x2 60) ((f_X4_stageBehind x1 (M.1 (a0 + 118) (Int32.toNatClampNeg x2))).bind fun v3 => if v3 = (-1 : Int32) then (some x2) else (cz_lt (x2 + nI 1) fun v5 => rec v3 v5)))
def f_X4_faultOfPad (M : cz_M) (a : Nat) : Option (Int32) :=
  cz_it2 (f_X4_faultOfPad_L4 a M (fun y7 y8 => if y7 ≤ (nI 2) then (some (M.1 a 7)) else (some (-6 : Int32)))) 4096 (nI 0) (nI 0)
def f_X4_lettersOfPad_L4 (a0 : Nat) (M : cz_M) (K : Int32 → Int32 → Option (Int32)) (rec : Int32 → Int32 → Option (Int32)) (x1 : Int32) (x2 : Int32)  : Option (Int32) :=
  if (M.1 a0 7) ≤ x2 then (K x1 x2) else (cz_gd (cz_ib x2 60) (if (M.1 (a0 + 118) (Int32.toNatClampNeg x2)) = (nI 44) then (cz_lt (x1 + nI 1) fun v6 => cz_lt (x2 + nI 1) fun v8 => rec v6 v8) else (cz_lt (x2 + nI 1) fun v4 => rec x1 v4)))
def f_X4_lettersOfPad (M : cz_M) (a : Nat) : Option (Int32) :=
  cz_it2 (f_X4_lettersOfPad_L4 a M (fun y10 y11 => some y10)) 4096 (nI 1) (nI 0)
def f_X4_writeLettersOfPad_L4 (a0 : Nat) (K : Option Nat → Int32 → cz_M → Option (cz_M)) (rec : Option Nat → Int32 → cz_M → Option (cz_M)) (x1 : Option Nat) (x2 : Int32)  (M : cz_M) : Option (cz_M) :=
  if (M.1 a0 7) ≤ x2 then (K x1 x2 M) else (cz_gd (cz_ib x2 60) (cz_lt (M.1 (a0 + 118) (Int32.toNatClampNeg x2)) fun v3 => (f_X4_isWord v3).bind fun v4 => if v4 = nI 0 then (if v3 = (nI 62) then ((f_X2_sendNewest M (a0 + 1) (nI 0)).bind fun M21 => cz_lt (x2 + nI 1) fun v22 => rec x1 v22 M21) else (if v3 = (nI 60) then ((f_X2_sendNewest M (a0 + 1) (nI 1)).bind fun M17 => cz_lt (x2 + nI 1) fun v18 => rec x1 v18 M17) else (if v3 = (nI 44) then (cz_lt (x2 + nI 1) fun v9 => rec x1 v9 M) else (cz_b2 (f_X2_beginLetter M (a0 + 1) (v3 - (nI 48))) fun q13 M12 => cz_lt (x2 + nI 1) fun v14 => rec q13 v14 M12)))) else (cz_on x1 (cz_lt (x2 + nI 1) fun v26 => rec none v26 M) (fun q24 => cz_gd (cz_kb a0 q24 1) ((f_X1_addWord M q24 v3).bind fun M28 => cz_lt (x2 + nI 1) fun v29 => rec q24 v29 M28)))))
def f_X4_writeLettersOfPad (M : cz_M) (a : Nat) : Option (cz_M) :=
  cz_it3 (f_X4_writeLettersOfPad_L4 a (fun y31 y32 M33 => some M33)) 4096 none (nI 0) M
def f_X4_read (M : cz_M) (a : Nat) : Option (Int32 × cz_M) :=
  (f_X4_faultOfPad M a).bind fun v1 => if v1 = (-6 : Int32) then ((f_X4_lettersOfPad M a).bind fun v4 => if ((M.1 (a + 1) 7) + v4) ≤ (nI 40) then ((f_X4_remember M a).bind fun M6 => (f_X4_writeLettersOfPad M6 a).bind fun M7 => cz_lt (cz_mI M7 a 7 (nI 0)) fun M8 => some ((M8.1 (a + 1) 7), M8)) else (some ((-4 : Int32), M))) else (some ((-3 : Int32), M))
def f_X4_burn (M : cz_M) (a : Nat) (x1 : Int32) : Option (Int32 × cz_M) :=
  (f_X2_hasLetter M (a + 1) x1).bind fun v2 => if v2 = nI 0 then (some ((-1 : Int32), M)) else (cz_gd (cz_ib x1 40) (if (M.1 (((a + 1) + 4) + (9 + Int32.toNatClampNeg x1)) 5) = nI 0 then ((f_X4_remember M a).bind fun M8 => (f_X2_burnWaiting M8 (a + 1) x1).bind fun M10 => cz_gd (cz_ib x1 40) (some (((M10.1 (a + 1) 8) - (M10.1 (((a + 1) + 4) + (9 + Int32.toNatClampNeg x1)) 4)), M10))) else (some ((-5 : Int32), M))))
def f_X4_pass (M : cz_M) (a : Nat) (x1 : Int32) : Option (Int32 × cz_M) :=
  if x1 < (nI 1) then (some ((-2 : Int32), M)) else (if x1 ≤ (nI 52) then (if ((M.1 (a + 1) 8) + x1) ≤ (nI 9999) then ((f_X4_remember M a).bind fun M5 => cz_b2 (f_X2_passWeeks M5 (a + 1) x1) fun v8 M7 => some (v8, M7)) else (some ((-4 : Int32), M))) else (some ((-2 : Int32), M)))
def f_X4_letter (M : cz_M) (a : Nat) (x1 : Int32) (x2 : Int32) : Option (Int32) :=
  (f_X2_hasLetter M (a + 1) x1).bind fun v2 => if v2 = nI 0 then (some (-1 : Int32)) else (cz_gd (cz_ib x1 40) (cz_lt (((a + 1) + 4) + (9 + Int32.toNatClampNeg x1)) fun r7 => if x2 = (nI 0) then (some (M.1 r7 0)) else (if x2 = (nI 1) then (some (M.1 r7 1)) else (if x2 = (nI 2) then (some (M.1 r7 5)) else (if x2 = (nI 3) then (cz_gd (cz_ib (M.1 r7 1) 2) ((f_X3_placeOf M (((a + 1) + 5) + (48 + 2 * Int32.toNatClampNeg (M.1 r7 1))) x1).bind fun v16 => some v16)) else (if x2 = (nI 4) then (some (M.1 r7 4)) else (if x2 = (nI 5) then (if (M.1 r7 5) = (nI 1) then (some (M.1 r7 6)) else (some (-6 : Int32))) else (if x2 = (nI 6) then ((f_X1_struckCount M r7).bind fun v21 => some v21) else (if x2 = (nI 7) then (some (M.1 r7 7)) else (if x2 = (nI 8) then (some (M.1 r7 9)) else (if x2 = (nI 9) then ((f_X2_aheadOf M (a + 1) x1).bind fun v26 => some v26) else (if x2 = (nI 10) then (some (M.1 r7 3)) else (some (-2 : Int32))))))))))))))
def f_X4_word (M : cz_M) (a : Nat) (x1 : Int32) (x2 : Int32) : Option (Int32) :=
  (f_X2_hasLetter M (a + 1) x1).bind fun v2 => if v2 = nI 0 then (some (-1 : Int32)) else (cz_gd (cz_ib x1 40) (cz_lt (((a + 1) + 4) + (9 + Int32.toNatClampNeg x1)) fun r7 => if x2 < nI 0 then (some (-1 : Int32)) else (if x2 < (M.1 r7 3) then ((f_X1_isStruckAt M r7 x2).bind fun v11 => if v11 = nI 0 then ((f_X1_codeAt M r7 x2).bind fun v13 => some v13) else (some (nI 42))) else (some (-1 : Int32)))))
def f_X4_why (M : cz_M) (a : Nat) (x1 : Int32) : Option (Int32 × cz_M) :=
  (f_X2_hasLetter M (a + 1) x1).bind fun v2 => if v2 = nI 0 then (some ((-1 : Int32), M)) else (cz_gd (cz_ib x1 40) (cz_lt (((a + 1) + 4) + (9 + Int32.toNatClampNeg x1)) fun r7 => if (M.1 r7 5) = nI 0 then ((f_X2_judgeWeek M (a + 1)).bind fun M11 => some ((M11.1 r7 10), M11)) else (some ((nI 1), M))))
def f_X4_censor (M : cz_M) (a : Nat) (x1 : Int32) (x2 : Int32) : Option (Int32) :=
  if x1 < nI 0 then (some (-1 : Int32)) else (if x1 < (nI 4) then (cz_gd (cz_ib x1 4) (cz_lt (((a + 1) + 2) + (7 + Int32.toNatClampNeg x1)) fun r6 => if x2 = (nI 0) then (some (M.1 r6 0)) else (if x2 = (nI 1) then ((f_X2_shiftsOf M (a + 1) x1).bind fun v11 => some v11) else (if x2 = (nI 2) then (some (M.1 r6 1)) else (if x2 = (nI 3) then (some (M.1 r6 2)) else (if x2 = (nI 4) then (some (M.1 r6 3)) else (some (-2 : Int32)))))))) else (some (-1 : Int32)))
def f_X4_onShift (M : cz_M) (a : Nat) (x1 : Int32) (x2 : Int32) : Option (Int32) :=
  if x2 < nI 0 then (some (-1 : Int32)) else (if x2 < (nI 2) then (if x1 < nI 0 then (some (-2 : Int32)) else (if x1 ≤ (nI 9999) then ((f_X2_censorNumber M (a + 1) x1 x2).bind fun v6 => some v6) else (some (-2 : Int32)))) else (some (-1 : Int32)))
def f_X4_count (M : cz_M) (a : Nat) (x1 : Int32) : Option (Int32 × cz_M) :=
  if x1 = (nI 0) then (cz_gd (cz_ib (nI 0) 3) (some ((M.1 ((a + 1) + 1) (Int32.toNatClampNeg (nI 0))), M))) else (if x1 = (nI 1) then (cz_gd (cz_ib (nI 1) 3) (some ((M.1 ((a + 1) + 1) (Int32.toNatClampNeg (nI 1))), M))) else (if x1 = (nI 2) then (cz_gd (cz_ib (nI 2) 3) (some ((M.1 ((a + 1) + 1) (Int32.toNatClampNeg (nI 2))), M))) else (if x1 = (nI 3) then (some ((M.1 (a + 1) 8), M)) else (if x1 = (nI 4) then (some ((M.1 (a + 1) 7), M)) else (if x1 = (nI 5) then ((f_X2_lettersThatAre M (a + 1) (nI 0)).bind fun v16 => some (v16, M)) else (if x1 = (nI 6) then ((f_X2_lettersThatAre M (a + 1) (nI 1)).bind fun v19 => some (v19, M)) else (if x1 = (nI 7) then ((f_X2_lettersThatAre M (a + 1) (nI 2)).bind fun v22 => some (v22, M)) else (if x1 = (nI 8) then (cz_gd (cz_ib (nI 0) 2) (some ((M.1 (((a + 1) + 5) + (48 + 2 * Int32.toNatClampNeg (nI 0))) 1), M))) else (if x1 = (nI 9) then (cz_gd (cz_ib (nI 1) 2) (some ((M.1 (((a + 1) + 5) + (48 + 2 * Int32.toNatClampNeg (nI 1))) 1), M))) else (if x1 = (nI 10) then ((f_X2_allDelays M (a + 1)).bind fun v33 => some (v33, M)) else (if x1 = (nI 11) then ((f_X2_longestDelay M (a + 1)).bind fun v36 => some (v36, M)) else (if x1 = (nI 12) then ((f_X2_wordsStruckInLetters M (a + 1)).bind fun v39 => some (v39, M)) else (if x1 = (nI 13) then (cz_b2 (f_X2_threadsThatWait M (a + 1)) fun v43 M42 => some (v43, M42)) else (if x1 = (nI 14) then (some ((M.1 a 7), M)) else (if x1 = (nI 15) then (some ((M.1 a 6), M)) else (some ((-2 : Int32), M)))))))))))))))))
def f_X4_untilCome_L36 (a0 : Nat) (a2 : Nat) (K : Int32 → cz_M → Option (Int32 × cz_M)) (rec : Int32 → cz_M → Option (Int32 × cz_M)) (x3 : Int32)  (M : cz_M) : Option (Int32 × cz_M) :=
  if (nI 100) ≤ x3 then (K x3 M) else (if (M.1 a2 5) = nI 0 then (cz_b2 (f_X2_passWeek M (a0 + 58)) fun v16 M15 => cz_lt (x3 + nI 1) fun v17 => rec v17 M15) else (K x3 M))
def f_X4_untilCome (M : cz_M) (a : Nat) (x1 : Int32) : Option (Int32 × cz_M) :=
  (f_X2_hasLetter M (a + 1) x1).bind fun v2 => if v2 = nI 0 then (some ((-1 : Int32), M)) else ((f_X2_copyFrom M (a + 58) (a + 1)).bind fun M6 => cz_gd (cz_ib x1 40) (cz_lt (((a + 58) + 4) + (9 + Int32.toNatClampNeg x1)) fun r10 => cz_it2 (f_X4_untilCome_L36 a r10 (fun y19 M20 => if (M20.1 r10 5) = (nI 1) then (some (y19, M20)) else (some ((-6 : Int32), M20)))) 4096 (nI 0) M6))
def f_X4_ifPassed (M : cz_M) (a : Nat) (x1 : Int32) (x2 : Int32) : Option (Int32 × cz_M) :=
  if x1 < (nI 1) then (some ((-2 : Int32), M)) else (if (nI 100) < x1 then (some ((-2 : Int32), M)) else (if x2 < nI 0 then (some ((-2 : Int32), M)) else (if x2 ≤ (nI 2) then ((f_X2_copyFrom M (a + 58) (a + 1)).bind fun M7 => cz_b2 (f_X2_passWeeks M7 (a + 58) x1) fun v10 M9 => if x2 = (nI 0) then (some (v10, M9)) else (if x2 = (nI 1) then ((f_X2_lettersThatAre M9 (a + 58) (nI 2)).bind fun v14 => (f_X2_lettersThatAre M9 (a + 1) (nI 2)).bind fun v16 => some ((v14 - v16), M9)) else ((f_X2_wordsStruckInLetters M9 (a + 58)).bind fun v18 => (f_X2_wordsStruckInLetters M9 (a + 1)).bind fun v20 => some ((v18 - v20), M9)))) else (some ((-2 : Int32), M)))))
def f_X4_bestTrade_L36 (a0 : Nat) (x3 : Int32) (K : Int32 → Int32 → Int32 → cz_M → Option (Int32 × cz_M)) (rec : Int32 → Int32 → Int32 → cz_M → Option (Int32 × cz_M)) (x1 : Int32) (x2 : Int32) (x4 : Int32)  (M : cz_M) : Option (Int32 × cz_M) :=
  if (nI 8) ≤ x4 then (K x1 x2 x4 M) else ((f_X2_copyFrom M (a0 + 58) (a0 + 1)).bind fun M12 => (f_X2_tradeShifts M12 (a0 + 58) x3 x4).bind fun M14 => cz_b2 (f_X2_passWeeks M14 (a0 + 58) (nI 4)) fun v17 M16 => if v17 ≤ x1 then (cz_lt (x4 + nI 1) fun v19 => rec x1 x2 v19 M16) else (cz_lt (((nI 8) * x3) + x4) fun v21 => cz_lt (x4 + nI 1) fun v22 => rec v17 v21 v22 M16))
def f_X4_bestTrade_L25 (a0 : Nat) (K : Int32 → Int32 → Int32 → cz_M → Option (Int32 × cz_M)) (rec : Int32 → Int32 → Int32 → cz_M → Option (Int32 × cz_M)) (x1 : Int32) (x2 : Int32) (x3 : Int32)  (M : cz_M) : Option (Int32 × cz_M) :=
  if (nI 8) ≤ x3 then (K x1 x2 x3 M) else (cz_lt (x3 + (nI 1)) fun v8 => cz_it4 (f_X4_bestTrade_L36 a0 x3 (fun y24 y25 y26 M27 => cz_lt (x3 + nI 1) fun v28 => rec y24 y25 v28 M27)) 4096 x1 x2 v8 M)
def f_X4_bestTrade (M : cz_M) (a : Nat) : Option (Int32 × cz_M) :=
  (f_X2_copyFrom M (a + 58) (a + 1)).bind fun M3 => cz_b2 (f_X2_passWeeks M3 (a + 58) (nI 4)) fun v6 M5 => cz_it4 (f_X4_bestTrade_L25 a (fun y30 y31 y32 M33 => some (y31, M33))) 4096 v6 (-6 : Int32) (nI 0) M5
def f_X4_turnsBackWith_L31 (a0 : Nat) (x2 : Int32) (K : Int32 → cz_M → Option (Int32 × cz_M)) (rec : Int32 → cz_M → Option (Int32 × cz_M)) (x3 : Int32)  (M : cz_M) : Option (Int32 × cz_M) :=
  if (nI 100) ≤ x3 then (K x3 M) else (cz_b2 (f_X2_passWeek M (a0 + 58)) fun v12 M11 => (f_X2_lettersTurnedByAll M11 (a0 + 58)).bind fun v14 => if v14 ≤ x2 then (cz_lt (x3 + nI 1) fun v16 => rec v16 M11) else (some ((nI 1), M11)))
def f_X4_turnsBackWith (M : cz_M) (a : Nat) (x1 : Int32) : Option (Int32 × cz_M) :=
  (f_X2_copyFrom M (a + 58) (a + 1)).bind fun M3 => cz_gd (cz_ib (nI 1) 3) (cz_lt (cz_mI M3 ((a + 58) + 1) (Int32.toNatClampNeg (nI 1)) x1) fun M6 => (f_X2_lettersTurnedByAll M6 (a + 58)).bind fun v8 => cz_it2 (f_X4_turnsBackWith_L31 a v8 (fun y18 M19 => some ((nI 0), M19))) 4096 (nI 0) M6)
def f_X4_leastLimit_L2 (a0 : Nat) (K : Int32 → cz_M → Option (Int32 × cz_M)) (rec : Int32 → cz_M → Option (Int32 × cz_M)) (x1 : Int32)  (M : cz_M) : Option (Int32 × cz_M) :=
  if (nI 8) ≤ x1 then (K x1 M) else (cz_b2 (f_X4_turnsBackWith M a0 x1) fun v3 M2 => if v3 = nI 0 then (K x1 M2) else (cz_lt (x1 + nI 1) fun v5 => rec v5 M2))
def f_X4_leastLimit (M : cz_M) (a : Nat) : Option (Int32 × cz_M) :=
  cz_it2 (f_X4_leastLimit_L2 a (fun y7 M8 => some (y7, M8))) 4096 (nI 0) M
def f_X4_lengthOf_L4  (K : Int32 → Int64 → Option (Int32)) (rec : Int32 → Int64 → Option (Int32)) (x2 : Int32) (x3 : Int64)  : Option (Int32) :=
  if (nI 8) ≤ x2 then (K x2 x3) else (if (lg_cmp x3 (0 : Int64)) = nI 0 then (K x2 x3) else (cz_lt (Int64.toInt32 (x3 &&& (255 : Int64))) fun v3 => if v3 < (nI 33) then (some (nI 0)) else (if v3 ≤ (nI 126) then (cz_lt (cz_usl x3 (nI 8)) fun v6 => cz_lt (x2 + nI 1) fun v7 => rec v7 v6) else (some (nI 0)))))
def f_X4_lengthOf (x0 : Int64) : Option (Int32) :=
  cz_it2 (f_X4_lengthOf_L4  (fun y9 y10 => some y9)) 4096 (nI 0) x0
def f_X4_put_L31 (a0 : Nat) (x1 : Int64) (K : Int32 → cz_M → Option (Int32 × cz_M)) (rec : Int32 → cz_M → Option (Int32 × cz_M)) (x4 : Int32)  (M : cz_M) : Option (Int32 × cz_M) :=
  if x4 < nI 0 then (K x4 M) else (cz_gd (cz_ib (M.1 a0 7) 60) (cz_gd (cz_hb (cz_chr (Int64.toInt32 ((cz_usl x1 ((nI 8) * x4)) &&& (255 : Int64))))) (cz_lt (cz_mI M (a0 + 118) (Int32.toNatClampNeg (M.1 a0 7)) (cz_chr (Int64.toInt32 ((cz_usl x1 ((nI 8) * x4)) &&& (255 : Int64))))) fun M7 => cz_lt (cz_mI M7 a0 7 ((M7.1 a0 7) + (nI 1))) fun M8 => cz_lt (x4 + (-1)) fun v9 => rec v9 M8)))
def f_X4_put (M : cz_M) (a : Nat) (x1 : Int64) : Option (Int32 × cz_M) :=
  (f_X4_lengthOf x1).bind fun v1 => if v1 = nI 0 then (some ((-2 : Int32), M)) else (if ((M.1 a 7) + v1) ≤ (nI 60) then (cz_lt (v1 - (nI 1)) fun v4 => cz_it2 (f_X4_put_L31 a x1 (fun y11 M12 => some ((M12.1 a 7), M12))) 4096 v4 M) else (some ((-4 : Int32), M)))
def f_X4_wipe (M : cz_M) (a : Nat) : Option (Int32 × cz_M) :=
  cz_lt (M.1 a 7) fun v1 => cz_lt (cz_mI M a 7 (nI 0)) fun M2 => some (v1, M2)
def f_X4_undo (M : cz_M) (a : Nat) : Option (Int32 × cz_M) :=
  if (M.1 a 6) = nI 0 then (some ((-5 : Int32), M)) else (cz_lt (cz_mI M a 6 ((M.1 a 6) - (nI 1))) fun M2 => cz_gd (cz_ib (M2.1 a 6) 4) ((f_X2_copyFrom M2 (a + 1) (M2.2.2 (Int32.toNatClampNeg (M2.1 a 6)))).bind fun M6 => some ((M6.1 a 6), M6)))
