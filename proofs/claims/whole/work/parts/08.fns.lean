/-! X3 begin ()V -/
def fX3_begin (σ : Mm) : Option (Mm) := ms_lt (ms_st σ 8 12 (σ 8 8)) (fun σ1 => ms_lt (ms_st σ1 8 13 (σ1 8 9)) (fun σ2 => some σ2))
/-! X7 bit (II)I -/
def fX7_bit (p0 : Int32) (p1 : Int32) : Option (Int32) := some ((ms_shr p0 p1) &&& 1)
/-! X3 draw (I)V -/
def fX3_draw_74 (K7 : Int32 → Int32 → Mm → Option (Mm)) (y1 : Int32) (y2 : Int32) (σ : Mm) : Option (Mm) := K7 y1 (y2 + 1) σ
def fX3_draw_7 : Nat → Int32 → Int32 → Mm → Option (Mm)
  | 0, _, _, _ => none
  | n + 1, y1, y2, σ => (if (σ 8 3) ≤ y2 then some σ else ms_g (ms_in y2 6) ((fX7_bit (σ 11 (ms_ix y2)) y1).bind (fun r2 => (if r2 = 0 then fX3_draw_74 (fX3_draw_7 n) y1 y2 σ else ms_g (ms_in y2 6) ((if (σ 8 12) < (σ 10 (ms_ix y2)) then ms_lt (ms_st σ 8 16 ((σ 8 16) ||| (ms_shl 1 y2))) (fun σ3 => fX3_draw_74 (fX3_draw_7 n) y1 y2 σ3) else ms_g (ms_in y2 6) (ms_lt (ms_st σ 8 12 ((σ 8 12) - (σ 10 (ms_ix y2)))) (fun σ4 => fX3_draw_74 (fX3_draw_7 n) y1 y2 σ4))))))))
def fX3_draw (p0 : Int32) (σ : Mm) : Option (Mm) := ms_lt (ms_st σ 8 16 0) (fun σ1 => fX3_draw_7 ms_fu p0 0 σ1)
/-! X3 pullChain ()V -/
def fX3_pullChain_73 (σ : Mm) : Option (Mm) := ms_lt (ms_st σ 8 12 ((σ 8 12) + (σ 8 15))) (fun σ1 => ms_lt (ms_st σ1 8 13 ((σ1 8 13) - (σ1 8 15))) (fun σ2 => some σ2))
def fX3_pullChain (σ : Mm) : Option (Mm) := (if (σ 8 13) ≤ (σ 8 12) then ms_lt (ms_st σ 8 15 (-(ms_minv (((σ 8 12) - (σ 8 13)) / 2) (σ 8 6)))) (fun σ1 => fX3_pullChain_73 σ1) else ms_lt (ms_minv (((σ 8 13) - (σ 8 12)) / 2) (σ 8 6)) (fun x2 => ms_lt (ms_st σ 8 15 (ms_minv x2 ((σ 8 4) - (σ 8 12)))) (fun σ3 => fX3_pullChain_73 σ3)))
/-! X3 turn (I)V -/
def fX3_turn_28 (y1 : Int32) (σ : Mm) : Option (Mm) := ms_g (ms_in y1 24) (ms_lt (ms_minv (σ 9 (ms_ix y1)) ((σ 8 4) - (σ 8 12))) (fun x1 => ms_g (ms_in y1 24) (ms_lt (ms_st σ 8 14 ((σ 9 (ms_ix y1)) - x1)) (fun σ2 => ms_lt (ms_st σ2 8 12 ((σ2 8 12) + x1)) (fun σ3 => (fX3_draw y1 σ3).bind (fun σ5 => ms_lt (ms_st σ5 8 12 ((σ5 8 12) - (((σ5 8 12) * (σ5 8 5)) / 100))) (fun σ6 => ms_lt (ms_st σ6 8 13 ((σ6 8 13) - (ms_minv (σ6 8 7) (σ6 8 13)))) (fun σ7 => (fX3_pullChain σ7).bind (fun σ9 => some σ9)))))))))
def fX3_turn (p0 : Int32) (σ : Mm) : Option (Mm) := (if p0 = (σ 8 10) then ms_lt (ms_st σ 8 12 ((σ 8 12) - (ms_minv (σ 8 11) (σ 8 12)))) (fun σ1 => fX3_turn_28 p0 σ1) else fX3_turn_28 p0 σ)
/-! X0 record (LMarketSpring$Spring;)V -/
def fX0_record_6 : Nat → Int32 → Mm → Option (Mm)
  | 0, _, _ => none
  | n + 1, y1, σ => (if 240 ≤ y1 then ms_lt (ms_st σ 12 5 1) (fun σ1 => some σ1) else (fX3_turn (ms_rem y1 24) σ).bind (fun σ3 => ms_g (ms_in y1 240) (ms_lt (ms_st σ3 13 (ms_ix y1) (σ3 8 12)) (fun σ4 => ms_g (ms_in y1 240) (ms_lt (ms_st σ4 14 (ms_ix y1) (σ4 8 13)) (fun σ5 => ms_g (ms_in y1 240) (ms_lt (ms_st σ5 15 (ms_ix y1) (σ5 8 15)) (fun σ6 => ms_g (ms_in y1 240) (ms_lt (ms_st σ6 16 (ms_ix y1) (σ6 8 14)) (fun σ7 => ms_g (ms_in y1 240) (ms_lt (ms_st σ7 17 (ms_ix y1) (σ7 8 16)) (fun σ8 => fX0_record_6 n (y1 + 1) σ8))))))))))))
def fX0_record (σ : Mm) : Option (Mm) := (fX3_begin σ).bind (fun σ2 => fX0_record_6 ms_fu 0 σ2)
/-! X0 hoursStood (II)I -/
def fX0_hoursStood_5 (σ : Mm) : Nat → Int32 → Int32 → Int32 → Int32 → Option (Int32)
  | 0, _, _, _, _ => none
  | n + 1, y1, y2, y3, y4 => (if y2 ≤ y4 then some y3 else ms_g (ms_in y4 240) ((fX7_bit (σ 17 (ms_ix y4)) y1).bind (fun r2 => fX0_hoursStood_5 σ n y1 y2 (y3 + r2) (y4 + 1))))
def fX0_hoursStood (σ : Mm) (p0 : Int32) (p1 : Int32) : Option (Int32) := fX0_hoursStood_5 σ ms_fu p0 p1 0 0
/-! X0 spiltWithin (I)I -/
def fX0_spiltWithin_4 (σ : Mm) : Nat → Int32 → Int32 → Int32 → Option (Int32)
  | 0, _, _, _ => none
  | n + 1, y1, y2, y3 => (if y1 ≤ y3 then some y2 else ms_g (ms_in y3 240) (fX0_spiltWithin_4 σ n y1 (y2 + (σ 16 (ms_ix y3))) (y3 + 1)))
def fX0_spiltWithin (σ : Mm) (p0 : Int32) : Option (Int32) := fX0_spiltWithin_4 σ ms_fu p0 0 0
/-! X0 worstHour (I)I -/
def fX0_worstHour_26 (σ : Mm) (K4 : Int32 → Int32 → Int32 → Option (Int32)) (y1 : Int32) (y2 : Int32) (y3 : Int32) : Option (Int32) := K4 y1 y2 (y3 + 1)
def fX0_worstHour_4 (σ : Mm) : Nat → Int32 → Int32 → Int32 → Option (Int32)
  | 0, _, _, _ => none
  | n + 1, y1, y2, y3 => (if y1 ≤ y3 then some y2 else ms_g (ms_in y3 240) (ms_g (ms_in y2 240) ((if (σ 13 (ms_ix y2)) ≤ (σ 13 (ms_ix y3)) then fX0_worstHour_26 σ (fX0_worstHour_4 σ n) y1 y2 y3 else fX0_worstHour_26 σ (fX0_worstHour_4 σ n) y1 y3 y3))))
def fX0_worstHour (σ : Mm) (p0 : Int32) : Option (Int32) := fX0_worstHour_4 σ ms_fu p0 0 1
/-! X0 firstStanding ()I -/
def fX0_firstStanding_2 (σ : Mm) : Nat → Int32 → Option (Int32)
  | 0, _ => none
  | n + 1, y1 => (if 240 ≤ y1 then some (-1) else ms_g (ms_in y1 240) ((if (σ 17 (ms_ix y1)) = 0 then fX0_firstStanding_2 σ n (y1 + 1) else some y1)))
def fX0_firstStanding (σ : Mm) : Option (Int32) := fX0_firstStanding_2 σ ms_fu 0
/-! X1 shiftOf (I)I -/
def fX1_shiftOf (σ : Mm) (p0 : Int32) : Option (Int32) := ms_g (ms_in p0 6) (some (σ 21 (ms_ix p0)))
/-! X1 gather (I)V -/
def fX1_gather_50 (K7 : Int32 → Int32 → Mm → Option (Mm)) (y1 : Int32) (y2 : Int32) (σ : Mm) : Option (Mm) := K7 y1 (y2 + 1) σ
def fX1_gather_7 : Nat → Int32 → Int32 → Mm → Option (Mm)
  | 0, _, _, _ => none
  | n + 1, y1, y2, σ => (if 6 ≤ y2 then some σ else (if 3 ≤ (σ 18 3) then some σ else (fX7_bit y1 y2).bind (fun r2 => (if r2 = 1 then ms_g (ms_in (σ 18 3) 3) (ms_lt (ms_st σ 19 (ms_ix (σ 18 3)) y2) (fun σ3 => ms_lt (ms_st σ3 18 3 ((σ3 18 3) + 1)) (fun σ4 => fX1_gather_50 (fX1_gather_7 n) y1 y2 σ4))) else fX1_gather_50 (fX1_gather_7 n) y1 y2 σ))))
def fX1_gather (p0 : Int32) (σ : Mm) : Option (Mm) := ms_lt (ms_st σ 18 3 0) (fun σ1 => fX1_gather_7 ms_fu p0 0 σ1)
/-! X4 ofThing (II)I -/
def fX4_ofThing (σ : Mm) (p0 : Int32) (p1 : Int32) : Option (Int32) := ms_g (ms_in ((p0 * 4) + p1) 24) (some (σ 3 (ms_ix ((p0 * 4) + p1))))
/-! X4 mustBits ()I -/
def fX4_mustBits_4 (σ : Mm) : Nat → Int32 → Int32 → Option (Int32)
  | 0, _, _ => none
  | n + 1, y1, y2 => (if (σ 1 4) ≤ y2 then some y1 else (fX4_ofThing σ y2 3).bind (fun r2 => fX4_mustBits_4 σ n (y1 ||| (ms_shl r2 y2)) (y2 + 1)))
def fX4_mustBits (σ : Mm) : Option (Int32) := fX4_mustBits_4 σ ms_fu 0 0
/-! X1 layTrial (I)V -/
def fX1_layTrial_9 : Nat → Int32 → Int32 → Mm → Option (Mm)
  | 0, _, _, _ => none
  | n + 1, y1, y2, σ => (if y2 < 0 then some σ else ms_g (ms_in y2 3) (ms_lt (ms_st σ 20 (ms_ix y2) (ms_rem y1 24)) (fun σ1 => fX1_layTrial_9 n (y1 / 24) (y2 + (-1)) σ1)))
def fX1_layTrial (p0 : Int32) (σ : Mm) : Option (Mm) := fX1_layTrial_9 ms_fu p0 ((σ 18 3) - 1) σ
/-! X4 hoursOf (II)I -/
def fX4_hoursOf (σ : Mm) (p0 : Int32) (p1 : Int32) : Option (Int32) := (fX4_ofThing σ p0 2).bind (fun r2 => (fX4_ofThing σ p0 1).bind (fun r4 => some (((ms_shl ((ms_shl 1 r2) - 1) (ms_rem (r4 + p1) 24)) ||| (ms_shr ((ms_shl 1 r2) - 1) (24 - (ms_rem (r4 + p1) 24)))) &&& 16777215)))
/-! J6 bitCount (I)I -/
def fJ6_bitCount_0f7a4 (p0 : Int32) : Option (Int32) := ms_lt (p0 - ((ms_ushr p0 1) &&& 1431655765)) (fun x1 => ms_lt ((x1 &&& 858993459) + ((ms_ushr x1 2) &&& 858993459)) (fun x2 => ms_lt ((x2 + (ms_ushr x2 4)) &&& 252645135) (fun x3 => ms_lt ((x3 + (ms_ushr x3 8)) + (ms_ushr (x3 + (ms_ushr x3 8)) 16)) (fun x4 => some (x4 &&& 63)))))
/-! X1 keepTrial (II)V -/
def fX1_keepTrial_12 : Nat → Int32 → Mm → Option (Mm)
  | 0, _, _ => none
  | n + 1, y1, σ => (if (σ 18 3) ≤ y1 then some σ else ms_g (ms_in y1 3) (ms_g (ms_in y1 3) (ms_g (ms_in (σ 19 (ms_ix y1)) 6) (ms_lt (ms_st σ 21 (ms_ix (σ 19 (ms_ix y1))) (σ 20 (ms_ix y1))) (fun σ1 => fX1_keepTrial_12 n (y1 + 1) σ1)))))
def fX1_keepTrial (p0 : Int32) (p1 : Int32) (σ : Mm) : Option (Mm) := ms_lt (ms_st σ 18 5 p0) (fun σ1 => ms_lt (ms_st σ1 18 6 p1) (fun σ2 => fX1_keepTrial_12 ms_fu 0 σ2))
/-! X1 tryOut (LMarketSpring$Spring;)V -/
def fX1_tryOut_84 (K11 : Int32 → Int32 → Int32 → Mm → Option (Mm)) (y1 : Int32) (y2 : Int32) (y3 : Int32) (σ : Mm) : Option (Mm) := K11 y1 y2 (y3 + 1) σ
def fX1_tryOut_11 : Nat → Int32 → Int32 → Int32 → Mm → Option (Mm)
  | 0, _, _, _, _ => none
  | n + 1, y1, y2, y3, σ => (if 48 ≤ y3 then (fX1_keepTrial y1 y2 σ).bind (fun σ2 => some σ2) else (fX3_turn (ms_rem y3 24) σ).bind (fun σ4 => (if (σ4 8 16) = 0 then fX1_tryOut_84 (fX1_tryOut_11 n) y1 y2 y3 σ4 else (fJ6_bitCount_0f7a4 ((σ4 8 16) &&& (σ4 18 4))).bind (fun r6 => (fJ6_bitCount_0f7a4 (σ4 8 16)).bind (fun r8 => (if (σ4 18 5) < (y1 + r6) then some σ4 else (if (y1 + r6) = (σ4 18 5) then (if (y2 + r8) < (σ4 18 6) then fX1_tryOut_84 (fX1_tryOut_11 n) (y1 + r6) (y2 + r8) y3 σ4 else some σ4) else fX1_tryOut_84 (fX1_tryOut_11 n) (y1 + r6) (y2 + r8) y3 σ4)))))))
def fX1_tryOut (σ : Mm) : Option (Mm) := (fX3_begin σ).bind (fun σ2 => fX1_tryOut_11 ms_fu 0 0 0 σ2)
/-! X1 search (LMarketSpring$Spring;LMarketSpring$Town;I)V -/
def fX1_search_81 (K58 : Int32 → Int32 → Mm → Option (Mm)) : Nat → Int32 → Int32 → Int32 → Mm → Option (Mm)
  | 0, _, _, _, _ => none
  | n + 1, y1, y2, y3, σ => (if (σ 18 3) ≤ y3 then (fX1_tryOut σ).bind (fun σ2 => K58 y1 (y2 + 1) σ2) else ms_g (ms_in y3 3) (ms_g (ms_in y3 3) (ms_g (ms_in y3 3) ((fX4_hoursOf σ (σ 19 (ms_ix y3)) (σ 20 (ms_ix y3))).bind (fun r4 => ms_g (ms_in (σ 19 (ms_ix y3)) 6) (ms_lt (ms_st σ 11 (ms_ix (σ 19 (ms_ix y3))) r4) (fun σ5 => fX1_search_81 K58 n y1 y2 (y3 + 1) σ5)))))))
def fX1_search_58 : Nat → Int32 → Int32 → Mm → Option (Mm)
  | 0, _, _, _ => none
  | n + 1, y1, y2, σ => (if y1 ≤ y2 then ms_lt (ms_st σ 18 7 1) (fun σ1 => some σ1) else (if (σ 18 6) ≤ 0 then ms_lt (ms_st σ 18 7 1) (fun σ2 => some σ2) else (fX1_layTrial y2 σ).bind (fun σ4 => fX1_search_81 (fX1_search_58 n) ms_fu y1 y2 0 σ4)))
def fX1_search_33 : Nat → Int32 → Int32 → Mm → Option (Mm)
  | 0, _, _, _ => none
  | n + 1, y1, y2, σ => (if (σ 18 3) ≤ y2 then fX1_search_58 ms_fu y1 0 σ else fX1_search_33 n (y1 * 24) (y2 + 1) σ)
def fX1_search (p2 : Int32) (σ : Mm) : Option (Mm) := (fX1_gather p2 σ).bind (fun σ2 => (fX4_mustBits σ2).bind (fun r4 => ms_lt (ms_st σ2 18 4 r4) (fun σ5 => ms_lt (ms_st σ5 18 5 289) (fun σ6 => ms_lt (ms_st σ6 18 6 289) (fun σ7 => fX1_search_33 ms_fu 1 0 σ7)))))
/-! X2 renew (II)V -/
def fX2_renew (j : Nat) (p0 : Int32) (p1 : Int32) (σ : Mm) : Option (Mm) := ms_lt (ms_fl1 σ (28 + 2 * j) 48 0) (fun σ1 => ms_lt (ms_st σ1 (27 + 2 * j) 1 p0) (fun σ2 => ms_lt (ms_st σ2 (27 + 2 * j) 2 p1) (fun σ3 => ms_lt (ms_st σ3 (27 + 2 * j) 3 0) (fun σ4 => some σ4))))
/-! X2 hasRun (II)Z -/
def fX2_hasRun (σ : Mm) (j : Nat) (p0 : Int32) (p1 : Int32) : Option (Int32) := (if p0 < 0 then some 0 else (if p1 < 0 then some 0 else (if (σ (27 + 2 * j) 2) < p1 then some 0 else (if ((σ (27 + 2 * j) 2) - p1) < p0 then some 0 else some 1))))
/-! X2 store (II)V -/
def fX2_store (j : Nat) (p0 : Int32) (p1 : Int32) (σ : Mm) : Option (Mm) := (if (σ (27 + 2 * j) 1) = 0 then ms_g (ms_in p0 48) (ms_lt (ms_st σ (28 + 2 * j) (ms_ix p0) (p1.toInt8.toInt32)) (fun σ3 => some σ3)) else (if (σ (27 + 2 * j) 1) = 1 then ms_g (ms_in p0 48) (ms_lt (ms_st σ (28 + 2 * j) (ms_ix p0) (p1.toInt16.toInt32)) (fun σ2 => some σ2)) else ms_g (ms_in p0 48) (ms_lt (ms_st σ (28 + 2 * j) (ms_ix p0) p1) (fun σ1 => some σ1))))
/-! X3 take ([I)V -/
def fX3_take (σ : Mm) : Option (Mm) := ms_g (ms_in 1 9) (ms_lt (ms_st σ 8 4 (σ 5 (ms_ix 1))) (fun σ1 => ms_g (ms_in 3 9) (ms_lt (ms_st σ1 8 5 (σ1 5 (ms_ix 3))) (fun σ2 => ms_g (ms_in 6 9) (ms_lt (ms_st σ2 8 6 (σ2 5 (ms_ix 6))) (fun σ3 => ms_g (ms_in 8 9) (ms_lt (ms_st σ3 8 7 (σ3 5 (ms_ix 8))) (fun σ4 => ms_g (ms_in 2 9) (ms_lt (ms_st σ4 8 8 (ms_minv (σ4 5 (ms_ix 2)) (σ4 8 4))) (fun σ5 => ms_g (ms_in 7 9) (ms_lt (ms_st σ5 8 9 (σ5 5 (ms_ix 7))) (fun σ6 => some σ6))))))))))))
/-! X3 rob (II)V -/
def fX3_rob (p0 : Int32) (p1 : Int32) (σ : Mm) : Option (Mm) := ms_lt (ms_st σ 8 10 p0) (fun σ1 => ms_lt (ms_st σ1 8 11 p1) (fun σ2 => some σ2))
/-! X3 leastLevel (I)I -/
def fX3_leastLevel_10 : Nat → Int32 → Int32 → Int32 → Mm → Option (Int32 × Mm)
  | 0, _, _, _, _ => none
  | n + 1, y1, y2, y3, σ => (if y1 ≤ y3 then some (y2, σ) else (fX3_turn (ms_rem y3 24) σ).bind (fun σ2 => fX3_leastLevel_10 n y1 (ms_minv y2 (σ2 8 12)) (y3 + 1) σ2))
def fX3_leastLevel (p0 : Int32) (σ : Mm) : Option (Int32 × Mm) := (fX3_begin σ).bind (fun σ2 => fX3_leastLevel_10 ms_fu p0 999 0 σ2)
/-! X3 allGoWithin (I)Z -/
def fX3_allGoWithin_6 : Nat → Int32 → Int32 → Mm → Option (Int32 × Mm)
  | 0, _, _, _ => none
  | n + 1, y1, y2, σ => (if y1 ≤ y2 then some (1, σ) else (fX3_turn (ms_rem y2 24) σ).bind (fun σ2 => (if (σ2 8 16) = 0 then fX3_allGoWithin_6 n y1 (y2 + 1) σ2 else some (0, σ2))))
def fX3_allGoWithin (p0 : Int32) (σ : Mm) : Option (Int32 × Mm) := (fX3_begin σ).bind (fun σ2 => fX3_allGoWithin_6 ms_fu p0 0 σ2)
/-! X4 append (I)V -/
def fX4_append (p0 : Int32) (σ : Mm) : Option (Mm) := (if 100 ≤ (σ 1 3) then some σ else ms_g (ms_in (σ 1 3) 100) (ms_lt (ms_st σ 2 (ms_ix (σ 1 3)) p0) (fun σ1 => ms_lt (ms_st σ1 1 3 ((σ1 1 3) + 1)) (fun σ2 => some σ2))))
/-! X4 hasThing (I)Z -/
def fX4_hasThing (σ : Mm) (p0 : Int32) : Option (Int32) := (if p0 < 0 then some 0 else (if (σ 1 4) ≤ p0 then some 0 else some 1))
/-! X4 hasGroup (I)Z -/
def fX4_hasGroup (σ : Mm) (p0 : Int32) : Option (Int32) := (if p0 < 0 then some 0 else (if (σ 1 5) ≤ p0 then some 0 else some 1))
/-! X4 ofGroup (II)I -/
def fX4_ofGroup (σ : Mm) (p0 : Int32) (p1 : Int32) : Option (Int32) := ms_g (ms_in ((p0 * 6) + p1) 48) (some (σ 4 (ms_ix ((p0 * 6) + p1))))
/-! X4 allPeople ()I -/
def fX4_allPeople_4 (σ : Mm) : Nat → Int32 → Int32 → Option (Int32)
  | 0, _, _ => none
  | n + 1, y1, y2 => (if (σ 1 5) ≤ y2 then some y1 else (fX4_ofGroup σ y2 0).bind (fun r2 => fX4_allPeople_4 σ n (y1 + r2) (y2 + 1)))
def fX4_allPeople (σ : Mm) : Option (Int32) := fX4_allPeople_4 σ ms_fu 0 0
/-! X4 forgetParts ()V -/
def fX4_forgetParts (σ : Mm) : Option (Mm) := ms_lt (ms_st σ 1 4 0) (fun σ1 => ms_lt (ms_st σ1 1 5 0) (fun σ2 => ms_lt (ms_st σ2 1 6 0) (fun σ3 => some σ3)))
/-! X4 next ()I -/
def fX4_next (σ : Mm) : Option (Int32) := (if (σ 1 3) ≤ (σ 1 8) then some (-1) else ms_g (ms_in (σ 1 8) 100) (some (σ 2 (ms_ix (σ 1 8)))))
/-! X7 within (III)Z -/
def fX7_within (p0 : Int32) (p1 : Int32) (p2 : Int32) : Option (Int32) := (if p0 < p1 then some 0 else (if p2 < p0 then some 0 else some 1))
/-! X4 figure ()I -/
def fX4_figure (σ : Mm) : Option (Int32 × Mm) := (if (σ 1 7) = (-1) then (fX4_next σ).bind (fun r2 => (fX7_within r2 48 57).bind (fun r4 => (if r4 = 0 then ms_lt (ms_st σ 1 7 (σ 1 8)) (fun σ6 => some (0, σ6)) else ms_lt (ms_st σ 1 8 ((σ 1 8) + 1)) (fun σ5 => some (r2 - 48, σ5))))) else some (0, σ))
/-! X4 twoFigures (II)I -/
def fX4_twoFigures (p0 : Int32) (p1 : Int32) (σ : Mm) : Option (Int32 × Mm) := (fX4_figure σ).bind (fun (r2, σ3) => (fX4_figure σ3).bind (fun (r5, σ6) => (if (σ6 1 7) = (-1) then (fX7_within ((r2 * 10) + r5) p0 p1).bind (fun r8 => (if r8 = 0 then ms_lt (ms_st σ6 1 7 ((σ6 1 8) - 2)) (fun σ9 => some ((r2 * 10) + r5, σ9)) else some ((r2 * 10) + r5, σ6))) else some ((r2 * 10) + r5, σ6))))
/-! X4 parseThing (I)V -/
def fX4_parseThing (p0 : Int32) (σ : Mm) : Option (Mm) := (fX4_twoFigures 1 40 σ).bind (fun (r2, σ3) => ms_g (ms_in (p0 + 0) 24) (ms_lt (ms_st σ3 3 (ms_ix (p0 + 0)) r2) (fun σ4 => (fX4_twoFigures 0 23 σ4).bind (fun (r6, σ7) => ms_g (ms_in (p0 + 1) 24) (ms_lt (ms_st σ7 3 (ms_ix (p0 + 1)) r6) (fun σ8 => (fX4_twoFigures 1 24 σ8).bind (fun (r10, σ11) => ms_g (ms_in (p0 + 2) 24) (ms_lt (ms_st σ11 3 (ms_ix (p0 + 2)) r10) (fun σ12 => ms_g (ms_in (p0 + 3) 24) (ms_lt (ms_st σ12 3 (ms_ix (p0 + 3)) 0) (fun σ13 => (if (σ13 1 7) = (-1) then (fX4_next σ13).bind (fun r15 => (if r15 = 33 then ms_g (ms_in (p0 + 3) 24) (ms_lt (ms_st σ13 3 (ms_ix (p0 + 3)) 1) (fun σ16 => ms_lt (ms_st σ16 1 8 ((σ16 1 8) + 1)) (fun σ17 => some σ17))) else some σ13)) else some σ13))))))))))))
/-! X4 refuseLast (Z)V -/
def fX4_refuseLast (p0 : Int32) (σ : Mm) : Option (Mm) := (if p0 = 0 then some σ else ms_lt (ms_st σ 1 7 ((σ 1 8) - 1)) (fun σ1 => some σ1))
/-! X4 oneFigure (I)I -/
def fX4_oneFigure_24 (y1 : Int32) (y2 : Int32) (σ : Mm) : Option (Int32 × Mm) := (fX4_refuseLast y2 σ).bind (fun σ2 => some (y1, σ2))
def fX4_oneFigure (p0 : Int32) (σ : Mm) : Option (Int32 × Mm) := (fX4_figure σ).bind (fun (r2, σ3) => (if (σ3 1 7) = (-1) then (if r2 ≤ p0 then fX4_oneFigure_24 r2 0 σ3 else fX4_oneFigure_24 r2 1 σ3) else some (r2, σ3)))
/-! X4 parseHandle ()V -/
def fX4_parseHandle_33 (y1 : Int32) (y2 : Int32) (σ : Mm) : Option (Mm) := (fX4_refuseLast y2 σ).bind (fun σ2 => ms_lt (ms_st σ2 1 6 ((σ2 1 6) ||| (ms_shl 1 y1))) (fun σ3 => some σ3))
def fX4_parseHandle (σ : Mm) : Option (Mm) := (fX4_oneFigure 8 σ).bind (fun (r2, σ3) => (if (σ3 1 7) = (-1) then (fX7_bit (σ3 1 6) r2).bind (fun r5 => (if r5 = 1 then fX4_parseHandle_33 r2 1 σ3 else fX4_parseHandle_33 r2 0 σ3)) else some σ3))
/-! X4 parseGroup (I)V -/
def fX4_parseGroup_98 (y1 : Int32) (σ : Mm) : Option (Mm) := (fX4_oneFigure 9 σ).bind (fun (r2, σ3) => ms_g (ms_in (y1 + 4) 48) (ms_lt (ms_st σ3 4 (ms_ix (y1 + 4)) r2) (fun σ4 => (fX4_oneFigure 9 σ4).bind (fun (r6, σ7) => ms_g (ms_in ((y1 + 4) + 1) 48) (ms_lt (ms_st σ7 4 (ms_ix ((y1 + 4) + 1)) r6) (fun σ8 => some σ8))))))
def fX4_parseGroup_95 (y1 : Int32) (y2 : Int32) (σ : Mm) : Option (Mm) := (fX4_refuseLast y2 σ).bind (fun σ2 => fX4_parseGroup_98 y1 σ2)
def fX4_parseGroup (p0 : Int32) (σ : Mm) : Option (Mm) := (fX4_twoFigures 1 99 σ).bind (fun (r2, σ3) => ms_g (ms_in (p0 + 0) 48) (ms_lt (ms_st σ3 4 (ms_ix (p0 + 0)) r2) (fun σ4 => (fX4_twoFigures 0 23 σ4).bind (fun (r6, σ7) => ms_g (ms_in (p0 + 1) 48) (ms_lt (ms_st σ7 4 (ms_ix (p0 + 1)) r6) (fun σ8 => (fX4_oneFigure 8 σ8).bind (fun (r10, σ11) => ms_g (ms_in (p0 + 2) 48) (ms_lt (ms_st σ11 4 (ms_ix (p0 + 2)) r10) (fun σ12 => (fX4_oneFigure 8 σ12).bind (fun (r14, σ15) => ms_g (ms_in ((p0 + 2) + 1) 48) (ms_lt (ms_st σ15 4 (ms_ix ((p0 + 2) + 1)) r14) (fun σ16 => (if (σ16 1 7) = (-1) then ms_g (ms_in (p0 + 2) 48) (ms_g (ms_in ((p0 + 2) + 1) 48) ((if (σ16 4 (ms_ix (p0 + 2))) = (σ16 4 (ms_ix ((p0 + 2) + 1))) then fX4_parseGroup_95 p0 1 σ16 else fX4_parseGroup_95 p0 0 σ16))) else fX4_parseGroup_98 p0 σ16)))))))))))))
/-! X4 parsePart ()V -/
def fX4_parsePart_125 (σ : Mm) : Option (Mm) := ms_lt (ms_st σ 1 7 (σ 1 8)) (fun σ1 => some σ1)
def fX4_parsePart_53 (y1 : Int32) (σ : Mm) : Option (Mm) := (if y1 = 104 then ms_lt (ms_st σ 1 8 ((σ 1 8) + 1)) (fun σ5 => (fX4_parseHandle σ5).bind (fun σ7 => some σ7)) else (if y1 = 103 then (if 8 ≤ (σ 1 5) then fX4_parsePart_125 σ else ms_lt (ms_st σ 1 8 ((σ 1 8) + 1)) (fun σ1 => (fX4_parseGroup ((σ1 1 5) * 6) σ1).bind (fun σ3 => ms_lt (ms_st σ3 1 5 ((σ3 1 5) + 1)) (fun σ4 => some σ4)))) else fX4_parsePart_125 σ))
def fX4_parsePart (σ : Mm) : Option (Mm) := (fX4_next σ).bind (fun r2 => (if r2 = 116 then (if 6 ≤ (σ 1 4) then fX4_parsePart_53 r2 σ else ms_lt (ms_st σ 1 8 ((σ 1 8) + 1)) (fun σ3 => (fX4_parseThing ((σ3 1 4) * 4) σ3).bind (fun σ5 => ms_lt (ms_st σ5 1 4 ((σ5 1 4) + 1)) (fun σ6 => some σ6)))) else fX4_parsePart_53 r2 σ))
/-! X4 parseBetween ()V -/
def fX4_parseBetween (σ : Mm) : Option (Mm) := (fX4_next σ).bind (fun r2 => (if r2 = 59 then ms_lt (ms_st σ 1 8 ((σ 1 8) + 1)) (fun σ4 => some σ4) else ms_lt (ms_st σ 1 7 (σ 1 8)) (fun σ3 => some σ3)))
/-! X4 parse ()V -/
def fX4_parse_96 (σ : Mm) : Option (Mm) := (if (σ 1 7) = (-1) then some σ else (fX4_forgetParts σ).bind (fun σ2 => some σ2))
def fX4_parse_90 (K29 : Int32 → Int32 → Mm → Option (Mm)) (y1 : Int32) (y2 : Int32) (σ : Mm) : Option (Mm) := K29 y1 (y2 + 1) σ
def fX4_parse_89 (K29 : Int32 → Int32 → Mm → Option (Mm)) (y1 : Int32) (y2 : Int32) (σ : Mm) : Option (Mm) := fX4_parse_90 K29 y2 y1 σ
def fX4_parse_67 (K29 : Int32 → Int32 → Mm → Option (Mm)) (y1 : Int32) (y2 : Int32) (σ : Mm) : Option (Mm) := (if y2 = 0 then fX4_parse_90 K29 y2 y1 σ else (fX4_parseBetween σ).bind (fun σ2 => (if (σ2 1 7) = (-1) then fX4_parse_89 K29 y1 1 σ2 else fX4_parse_89 K29 y1 0 σ2)))
def fX4_parse_66 (K29 : Int32 → Int32 → Mm → Option (Mm)) (y1 : Int32) (σ : Mm) : Option (Mm) := fX4_parse_67 K29 y1 0 σ
def fX4_parse_29 : Nat → Int32 → Int32 → Mm → Option (Mm)
  | 0, _, _, _ => none
  | n + 1, y1, y2, σ => (if 100 ≤ y2 then fX4_parse_96 σ else (if y1 = 0 then fX4_parse_96 σ else (fX4_parsePart σ).bind (fun σ2 => (if (σ2 1 7) = (-1) then (if (σ2 1 3) ≤ (σ2 1 8) then fX4_parse_66 (fX4_parse_29 n) y2 σ2 else fX4_parse_67 (fX4_parse_29 n) y2 1 σ2) else fX4_parse_66 (fX4_parse_29 n) y2 σ2))))
def fX4_parse_26 (y1 : Int32) (σ : Mm) : Option (Mm) := fX4_parse_29 ms_fu y1 0 σ
def fX4_parse (σ : Mm) : Option (Mm) := (fX4_forgetParts σ).bind (fun σ2 => ms_lt (ms_st σ2 1 7 (-1)) (fun σ3 => ms_lt (ms_st σ3 1 8 0) (fun σ4 => (if (σ4 1 3) ≤ 0 then fX4_parse_26 0 σ4 else fX4_parse_26 1 σ4))))
/-! X5 note (II)V -/
def fX5_note (p0 : Int32) (p1 : Int32) (σ : Mm) : Option (Mm) := (if 12 ≤ (σ 22 3) then some σ else ms_g (ms_in (σ 22 3) 12) (ms_lt (ms_st σ 23 (ms_ix (σ 22 3)) p0) (fun σ1 => ms_g (ms_in (σ1 22 3) 12) (ms_lt (ms_st σ1 24 (ms_ix (σ1 22 3)) p1) (fun σ2 => ms_lt (ms_st σ2 22 3 ((σ2 22 3) + 1)) (fun σ3 => ms_lt (ms_st σ3 22 8 0) (fun σ4 => some σ4)))))))
/-! X5 clearNotes ()V -/
def fX5_clearNotes (σ : Mm) : Option (Mm) := ms_lt (ms_st σ 22 3 0) (fun σ1 => ms_lt (ms_st σ1 22 8 0) (fun σ2 => some σ2))
/-! X5 differing ([I)I -/
def fX5_differing_35 (σ : Mm) (K4 : Int32 → Int32 → Option (Int32)) (y1 : Int32) (y2 : Int32) (y3 : Int32) : Option (Int32) := K4 (y3 + y2) (y1 + 1)
def fX5_differing_4 (σ : Mm) : Nat → Int32 → Int32 → Option (Int32)
  | 0, _, _ => none
  | n + 1, y1, y2 => (if (σ 22 3) ≤ y2 then some y1 else ms_g (ms_in y2 12) (ms_g (ms_in (σ 23 (ms_ix y2)) 240) (ms_g (ms_in y2 12) ((if (σ 13 (ms_ix (σ 23 (ms_ix y2)))) = (σ 24 (ms_ix y2)) then fX5_differing_35 σ (fX5_differing_4 σ n) y2 0 y1 else fX5_differing_35 σ (fX5_differing_4 σ n) y2 1 y1)))))
def fX5_differing (σ : Mm) : Option (Int32) := fX5_differing_4 σ ms_fu 0 0
/-! X5 layDue ()V -/
def fX5_layDue_73 (K20 : Int32 → Mm → Option (Mm)) (y1 : Int32) (y2 : Int32) (y3 : Int32) (σ : Mm) : Option (Mm) := ms_g (y3 = 0 ∨ y3 = 1) (ms_lt (ms_st σ 22 5 y3) (fun σ1 => ms_g (ms_in y1 12) (ms_g (ms_in y2 240) (ms_lt (ms_st σ1 25 (ms_ix y2) (σ1 24 (ms_ix y1))) (fun σ2 => ms_lt (ms_st σ2 22 4 (ms_maxv (σ2 22 4) (y2 + 1))) (fun σ3 => K20 (y1 + 1) σ3))))))
def fX5_layDue_68 (K20 : Int32 → Mm → Option (Mm)) (y1 : Int32) (y2 : Int32) (σ : Mm) : Option (Mm) := fX5_layDue_73 K20 y1 y2 1 σ
def fX5_layDue_72 (K20 : Int32 → Mm → Option (Mm)) (y1 : Int32) (y2 : Int32) (σ : Mm) : Option (Mm) := fX5_layDue_73 K20 y1 y2 0 σ
def fX5_layDue_20 : Nat → Int32 → Mm → Option (Mm)
  | 0, _, _ => none
  | n + 1, y1, σ => (if (σ 22 3) ≤ y1 then some σ else ms_g (ms_in y1 12) ((if (σ 22 5) = 0 then ms_g (ms_in (σ 23 (ms_ix y1)) 240) ((if (σ 25 (ms_ix (σ 23 (ms_ix y1)))) = (-1) then fX5_layDue_72 (fX5_layDue_20 n) y1 (σ 23 (ms_ix y1)) σ else ms_g (ms_in (σ 23 (ms_ix y1)) 240) (ms_g (ms_in y1 12) ((if (σ 25 (ms_ix (σ 23 (ms_ix y1)))) = (σ 24 (ms_ix y1)) then fX5_layDue_72 (fX5_layDue_20 n) y1 (σ 23 (ms_ix y1)) σ else fX5_layDue_68 (fX5_layDue_20 n) y1 (σ 23 (ms_ix y1)) σ))))) else fX5_layDue_68 (fX5_layDue_20 n) y1 (σ 23 (ms_ix y1)) σ)))
def fX5_layDue (σ : Mm) : Option (Mm) := ms_lt (ms_fl1 σ 25 240 (-1)) (fun σ1 => ms_lt (ms_st σ1 22 4 0) (fun σ2 => ms_lt (ms_st σ2 22 5 0) (fun σ3 => fX5_layDue_20 ms_fu 0 σ3)))
/-! X5 fits (LMarketSpring$Spring;)Z -/
def fX5_fits_47 (K6 : Int32 → Mm → Option (Int32 × Mm)) (y1 : Int32) (σ : Mm) : Option (Int32 × Mm) := K6 (y1 + 1) σ
def fX5_fits_6 : Nat → Int32 → Mm → Option (Int32 × Mm)
  | 0, _, _ => none
  | n + 1, y1, σ => (if (σ 22 4) ≤ y1 then some (1, σ) else (fX3_turn (ms_rem y1 24) σ).bind (fun σ2 => ms_g (ms_in y1 240) ((if (σ2 25 (ms_ix y1)) = (-1) then fX5_fits_47 (fX5_fits_6 n) y1 σ2 else ms_g (ms_in y1 240) ((if (σ2 25 (ms_ix y1)) = (σ2 8 12) then fX5_fits_47 (fX5_fits_6 n) y1 σ2 else some (0, σ2)))))))
def fX5_fits (σ : Mm) : Option (Int32 × Mm) := (fX3_begin σ).bind (fun σ2 => fX5_fits_6 ms_fu 0 σ2)
/-! X5 search (LMarketSpring$Spring;)V -/
def fX5_search_85 (K31 : Int32 → Int32 → Mm → Option (Mm)) (y1 : Int32) (y2 : Int32) (σ : Mm) : Option (Mm) := K31 y1 (y2 + 1) σ
def fX5_search_72 (K31 : Int32 → Int32 → Mm → Option (Mm)) (y1 : Int32) (y2 : Int32) (y3 : Int32) (σ : Mm) : Option (Mm) := ms_lt (ms_st σ 22 7 y3) (fun σ1 => ms_lt (ms_st σ1 22 6 ((σ1 22 6) + 1)) (fun σ2 => fX5_search_85 K31 y1 y2 σ2))
def fX5_search_31 (K16 : Int32 → Mm → Option (Mm)) : Nat → Int32 → Int32 → Mm → Option (Mm)
  | 0, _, _, _ => none
  | n + 1, y1, y2, σ => (if 40 < y2 then K16 (y1 + 1) σ else (fX3_rob y1 y2 σ).bind (fun σ2 => (fX5_fits σ2).bind (fun (r4, σ5) => (if r4 = 0 then fX5_search_85 (fX5_search_31 K16 n) y1 y2 σ5 else (if (σ5 22 6) = 0 then fX5_search_72 (fX5_search_31 K16 n) y1 y2 ((100 * y1) + y2) σ5 else fX5_search_72 (fX5_search_31 K16 n) y1 y2 (σ5 22 7) σ5)))))
def fX5_search_16 : Nat → Int32 → Mm → Option (Mm)
  | 0, _, _ => none
  | n + 1, y1, σ => (if 24 ≤ y1 then ms_lt (ms_st σ 22 8 1) (fun σ1 => some σ1) else (if (σ 22 5) = 0 then fX5_search_31 (fX5_search_16 n) ms_fu y1 1 σ else ms_lt (ms_st σ 22 8 1) (fun σ2 => some σ2)))
def fX5_search (σ : Mm) : Option (Mm) := (fX5_layDue σ).bind (fun σ2 => ms_lt (ms_st σ2 22 6 0) (fun σ3 => ms_lt (ms_st σ3 22 7 (-1)) (fun σ4 => fX5_search_16 ms_fu 0 σ4)))
/-! X6 sideOf (III)I -/
def fX6_sideOf_45 (σ : Mm) (y1 : Int32) (y2 : Int32) (y3 : Int32) : Option (Int32) := (fX4_ofGroup σ y1 4).bind (fun r2 => ms_g (ms_in 4 9) (ms_lt (r2 + (y2 * (σ 5 (ms_ix 4)))) (fun x3 => (fX4_ofGroup σ y1 5).bind (fun r5 => ms_g (ms_in 4 9) (ms_lt (r5 + (y3 * (σ 5 (ms_ix 4)))) (fun x6 => (if x3 ≤ x6 then some 0 else some 1)))))))
def fX6_sideOf (σ : Mm) (p0 : Int32) (p1 : Int32) (p2 : Int32) : Option (Int32) := (fX4_ofGroup σ p0 2).bind (fun r2 => (fX7_bit p1 r2).bind (fun r4 => (fX4_ofGroup σ p0 3).bind (fun r6 => (fX7_bit p1 r6).bind (fun r8 => (if p2 = 1 then (if r4 = r8 then fX6_sideOf_45 σ p0 r4 r8 else some r8) else fX6_sideOf_45 σ p0 r4 r8)))))
/-! X6 costOfAll (II)I -/
def fX6_costOfAll_5 (σ : Mm) : Nat → Int32 → Int32 → Int32 → Int32 → Option (Int32)
  | 0, _, _, _, _ => none
  | n + 1, y1, y2, y3, y4 => (if (σ 1 5) ≤ y4 then some y3 else (fX6_sideOf σ y4 y1 y2).bind (fun r2 => (fX4_ofGroup σ y4 (2 + r2)).bind (fun r4 => (fX7_bit y1 r4).bind (fun r6 => (fX4_ofGroup σ y4 (4 + r2)).bind (fun r8 => ms_g (ms_in 4 9) (ms_lt (r8 + (r6 * (σ 5 (ms_ix 4)))) (fun x9 => (fX4_ofGroup σ y4 0).bind (fun r11 => fX6_costOfAll_5 σ n y1 y2 (y3 + (r11 * x9)) (y4 + 1)))))))))
def fX6_costOfAll (σ : Mm) (p0 : Int32) (p1 : Int32) : Option (Int32) := fX6_costOfAll_5 σ ms_fu p0 p1 0 0
/-! X6 windingOfGroup (II)I -/
def fX6_windingOfGroup (σ : Mm) (p0 : Int32) (p1 : Int32) : Option (Int32) := ms_g (ms_in 5 9) ((fX6_sideOf σ p0 p1 (σ 5 (ms_ix 5))).bind (fun r2 => (fX4_ofGroup σ p0 (2 + r2)).bind (fun r4 => (fX7_bit p1 r4).bind (fun r6 => ms_g (ms_in 0 9) ((fX4_ofGroup σ p0 0).bind (fun r8 => some ((r6 * (σ 5 (ms_ix 0))) * r8)))))))
/-! X6 windingOf (II)I -/
def fX6_windingOf_41 (σ : Mm) (K5 : Int32 → Int32 → Int32 → Int32 → Option (Int32)) (y1 : Int32) (y2 : Int32) (y3 : Int32) (y4 : Int32) : Option (Int32) := K5 y1 y2 y3 (y4 + 1)
def fX6_windingOf_5 (σ : Mm) : Nat → Int32 → Int32 → Int32 → Int32 → Option (Int32)
  | 0, _, _, _, _ => none
  | n + 1, y1, y2, y3, y4 => (if (σ 1 5) ≤ y4 then some y3 else (fX4_ofGroup σ y4 1).bind (fun r2 => (if r2 = y1 then (fX6_windingOfGroup σ y4 y2).bind (fun r4 => fX6_windingOf_41 σ (fX6_windingOf_5 σ n) y1 y2 (y3 + r4) y4) else fX6_windingOf_41 σ (fX6_windingOf_5 σ n) y1 y2 y3 y4)))
def fX6_windingOf (σ : Mm) (p0 : Int32) (p1 : Int32) : Option (Int32) := fX6_windingOf_5 σ ms_fu p0 p1 0 0
/-! X6 windingOfDay (I)I -/
def fX6_windingOfDay_4 (σ : Mm) : Nat → Int32 → Int32 → Int32 → Option (Int32)
  | 0, _, _, _ => none
  | n + 1, y1, y2, y3 => (if (σ 1 5) ≤ y3 then some y2 else (fX6_windingOfGroup σ y3 y1).bind (fun r2 => fX6_windingOfDay_4 σ n y1 (y2 + r2) (y3 + 1)))
def fX6_windingOfDay (σ : Mm) (p0 : Int32) : Option (Int32) := fX6_windingOfDay_4 σ ms_fu p0 0 0
/-! X6 windDay (I[I)V -/
def fX6_windDay_7 : Nat → Int32 → Int32 → Mm → Option (Mm)
  | 0, _, _, _ => none
  | n + 1, y1, y2, σ => (if (σ 1 5) ≤ y2 then some σ else (fX4_ofGroup σ y2 1).bind (fun r2 => ms_g (ms_in r2 24) ((fX6_windingOfGroup σ y2 y1).bind (fun r4 => ms_g (ms_in r2 24) (ms_lt (ms_st σ 9 (ms_ix r2) ((σ 9 (ms_ix r2)) + r4)) (fun σ5 => fX6_windDay_7 n y1 (y2 + 1) σ5))))))
def fX6_windDay (p0 : Int32) (σ : Mm) : Option (Mm) := ms_lt (ms_fl1 σ 9 24 0) (fun σ1 => fX6_windDay_7 ms_fu p0 0 σ1)
/-! X7 outdate ()V -/
def fX7_outdate (σ : Mm) : Option (Mm) := ms_lt (ms_st σ 12 5 0) (fun σ1 => ms_lt (ms_st σ1 18 7 0) (fun σ2 => ms_lt (ms_st σ2 22 8 0) (fun σ3 => some σ3)))
/-! X7 type (I)I -/
def fX7_type (p0 : Int32) (σ : Mm) : Option (Int32 × Mm) := (fX7_within p0 0 255).bind (fun r2 => (if r2 = 0 then some ((-2), σ) else (if (σ 1 3) < 100 then (fX4_append p0 σ).bind (fun σ4 => (fX4_parse σ4).bind (fun σ6 => (fX7_outdate σ6).bind (fun σ8 => some (σ8 1 3, σ8)))) else some ((-4), σ))))
/-! X7 wipe ()I -/
def fX7_wipe (σ : Mm) : Option (Int32 × Mm) := ms_lt (ms_st σ 1 3 0) (fun σ1 => (fX4_parse σ1).bind (fun σ3 => (fX7_outdate σ3).bind (fun σ5 => some (σ 1 3, σ5))))
/-! X7 fault ()I -/
def fX7_fault (σ : Mm) : Option (Int32) := some (σ 1 7)
/-! X7 thing (II)I -/
def fX7_thing (σ : Mm) (p0 : Int32) (p1 : Int32) : Option (Int32) := (fX4_hasThing σ p0).bind (fun r2 => (if r2 = 0 then some (-2) else (fX7_within p1 0 5).bind (fun r4 => (if r4 = 0 then some (-2) else (if p1 = 4 then (fX7_bit (σ 0 3) p0).bind (fun r8 => some r8) else (if p1 = 5 then ms_g (ms_in p0 6) (some (σ 6 (ms_ix p0))) else (fX4_ofThing σ p0 p1).bind (fun r6 => some r6)))))))
/-! X7 handle (I)I -/
def fX7_handle (σ : Mm) (p0 : Int32) : Option (Int32) := (fX7_within p0 0 8).bind (fun r2 => (if r2 = 0 then some (-2) else (fX7_bit (σ 1 6) p0).bind (fun r4 => some r4)))
/-! X7 group (II)I -/
def fX7_group (σ : Mm) (p0 : Int32) (p1 : Int32) : Option (Int32) := (fX4_hasGroup σ p0).bind (fun r2 => (if r2 = 0 then some (-2) else (fX7_within p1 0 5).bind (fun r4 => (if r4 = 0 then some (-2) else (fX4_ofGroup σ p0 p1).bind (fun r6 => some r6)))))
/-! X7 set (II)I -/
def fX7_set (p0 : Int32) (p1 : Int32) (σ : Mm) : Option (Int32 × Mm) := (fX7_within p0 0 8).bind (fun r2 => (if r2 = 0 then some ((-5), σ) else ms_g (ms_in p0 9) (ms_g (ms_in p0 9) ((fX7_within p1 (ms_sl (ms_ix p0)) (ms_sm (ms_ix p0))).bind (fun r4 => (if r4 = 0 then some ((-5), σ) else ms_g (ms_in p0 9) (ms_g (ms_in p0 9) (ms_lt (ms_st σ 5 (ms_ix p0) p1) (fun σ5 => (fX7_outdate σ5).bind (fun σ7 => some (σ 5 (ms_ix p0), σ7)))))))))))
/-! X7 shut (II)I -/
def fX7_shut_57 (y1 : Int32) (y2 : Int32) (σ : Mm) : Option (Int32 × Mm) := ms_lt (ms_st σ 0 3 y2) (fun σ1 => (fX7_outdate σ1).bind (fun σ3 => some (y1, σ3)))
def fX7_shut (p0 : Int32) (p1 : Int32) (σ : Mm) : Option (Int32 × Mm) := (fX7_within p0 0 5).bind (fun r2 => (if r2 = 0 then some ((-2), σ) else (fX7_within p1 0 1).bind (fun r4 => (if r4 = 0 then some ((-2), σ) else (fX7_bit (σ 0 3) p0).bind (fun r6 => (if p1 = 1 then fX7_shut_57 r6 ((σ 0 3) ||| (ms_shl 1 p0)) σ else fX7_shut_57 r6 ((σ 0 3) &&& ((ms_shl 1 p0) ^^^ (-1))) σ))))))
/-! X7 shift (II)I -/
def fX7_shift (p0 : Int32) (p1 : Int32) (σ : Mm) : Option (Int32 × Mm) := (fX7_within p0 0 5).bind (fun r2 => (if r2 = 0 then some ((-2), σ) else (fX7_within p1 0 23).bind (fun r4 => (if r4 = 0 then some ((-2), σ) else ms_g (ms_in p0 6) (ms_g (ms_in p0 6) (ms_lt (ms_st σ 6 (ms_ix p0) p1) (fun σ5 => (fX7_outdate σ5).bind (fun σ7 => some (σ 6 (ms_ix p0), σ7)))))))))
/-! X7 isSheet (I)Z -/
def fX7_isSheet (p0 : Int32) : Option (Int32) := (fX7_within p0 0 3).bind (fun r2 => ms_g (r2 = 0 ∨ r2 = 1) (some r2))
/-! X7 find (I)I -/
def fX7_find (p0 : Int32) (σ : Mm) : Option (Int32 × Mm) := ms_lt (ms_st σ 0 10 p0) (fun σ1 => some ((-10) - p0, σ1))
/-! X7 read (I)I -/
def fX7_read_90 (y1 : Int32) (σ : Mm) : Option (Int32 × Mm) := (fX7_outdate σ).bind (fun σ2 => some (y1, σ2))
def fX7_read_48 : Nat → Nat → Int32 → Int32 → Mm → Option (Int32 × Mm)
  | 0, _, _, _, _ => none
  | n + 1, y1, y2, y3, σ => (if y2 ≤ y3 then fX7_read_90 y3 σ else ms_g (ms_in y3 48) ((fX7_within (σ (28 + 2 * y1) (ms_ix y3)) 0 23).bind (fun r2 => (if r2 = 0 then fX7_read_90 y3 σ else ms_g (ms_in y3 48) (ms_g (ms_in y3 6) (ms_lt (ms_st σ 6 (ms_ix y3) (σ (28 + 2 * y1) (ms_ix y3))) (fun σ3 => fX7_read_48 n y1 y2 (y3 + 1) σ3)))))))
def fX7_read (p0 : Int32) (σ : Mm) : Option (Int32 × Mm) := (fX7_isSheet p0).bind (fun r2 => (if r2 = 0 then some ((-2), σ) else ms_g (ms_in p0 4) ((if (σ (27 + 2 * (ms_ix p0)) 3) = 0 then ms_g (ms_in p0 4) (ms_lt (ms_minv (σ (27 + 2 * (ms_ix p0)) 2) 6) (fun x5 => fX7_read_48 ms_fu (ms_ix p0) x5 0 σ)) else (fX7_find 1 σ).bind (fun (r7, σ8) => some (r7, σ8))))))
/-! X7 goes (I)I -/
def fX7_goes (σ : Mm) (p0 : Int32) : Option (Int32) := (fX4_hasGroup σ p0).bind (fun r2 => (if r2 = 0 then some (-2) else ms_g (ms_in 5 9) ((fX6_sideOf σ p0 (σ 1 6) (σ 5 (ms_ix 5))).bind (fun r4 => (fX4_ofGroup σ p0 (2 + r4)).bind (fun r6 => some r6)))))
/-! X7 toil (I)I -/
def fX7_toil (σ : Mm) (p0 : Int32) : Option (Int32) := (fX7_within p0 0 1).bind (fun r2 => (if r2 = 0 then some (-2) else (fX6_costOfAll σ (σ 1 6) p0).bind (fun r4 => some r4)))
/-! X7 wound (I)I -/
def fX7_wound (σ : Mm) (p0 : Int32) : Option (Int32) := (fX7_within p0 0 23).bind (fun r2 => (if r2 = 0 then some (-2) else (fX6_windingOf σ p0 (σ 1 6)).bind (fun r4 => some r4)))
/-! X7 isHour (I)Z -/
def fX7_isHour (p0 : Int32) : Option (Int32) := (fX7_within p0 0 239).bind (fun r2 => ms_g (r2 = 0 ∨ r2 = 1) (some r2))
/-! X7 makeReady (II)V -/
def fX7_makeReady_91 (K27 : Int32 → Int32 → Int32 → Mm → Option (Mm)) (y1 : Int32) (y2 : Int32) (y3 : Int32) (y4 : Int32) (y5 : Int32) (σ : Mm) : Option (Mm) := ms_g (ms_in y5 6) (ms_lt (ms_st σ 11 (ms_ix y5) y4) (fun σ1 => K27 y1 y2 (y3 + 1) σ1))
def fX7_makeReady_27 : Nat → Int32 → Int32 → Int32 → Mm → Option (Mm)
  | 0, _, _, _, _ => none
  | n + 1, y1, y2, y3, σ => (if (σ 1 4) ≤ y3 then (fX6_windDay y1 σ).bind (fun σ2 => (fX3_rob (-1) 0 σ2).bind (fun σ4 => some σ4)) else (fX4_ofThing σ y3 0).bind (fun r6 => ms_g (ms_in y3 6) (ms_lt (ms_st σ 10 (ms_ix y3) r6) (fun σ7 => (fX7_bit y2 y3).bind (fun r9 => (if r9 = 1 then fX7_makeReady_91 (fX7_makeReady_27 n) y1 y2 y3 0 y3 σ7 else ms_g (ms_in y3 6) ((fX4_hoursOf σ7 y3 (σ7 6 (ms_ix y3))).bind (fun r11 => fX7_makeReady_91 (fX7_makeReady_27 n) y1 y2 y3 r11 y3 σ7))))))))
def fX7_makeReady (p0 : Int32) (p1 : Int32) (σ : Mm) : Option (Mm) := (fX3_take σ).bind (fun σ2 => ms_lt (ms_st σ2 8 3 (σ2 1 4)) (fun σ3 => fX7_makeReady_27 ms_fu p0 p1 0 σ3))
/-! X7 recordDays ()V -/
def fX7_recordDays (σ : Mm) : Option (Mm) := (if (σ 12 5) = 0 then (fX7_makeReady (σ 1 6) (σ 0 3) σ).bind (fun σ2 => (fX0_record σ2).bind (fun σ4 => some σ4)) else some σ)
/-! X7 level (II)I -/
def fX7_level (p0 : Int32) (p1 : Int32) (σ : Mm) : Option (Int32 × Mm) := (fX7_isHour p0).bind (fun r2 => (if r2 = 0 then some ((-2), σ) else (fX7_within p1 0 1).bind (fun r4 => (if r4 = 0 then some ((-2), σ) else (fX7_recordDays σ).bind (fun σ6 => (if p1 = 0 then ms_g (ms_in p0 240) (some (σ6 13 (ms_ix p0), σ6)) else ms_g (ms_in p0 240) (some (σ6 14 (ms_ix p0), σ6))))))))
/-! X7 stands (II)I -/
def fX7_stands (p0 : Int32) (p1 : Int32) (σ : Mm) : Option (Int32 × Mm) := (fX4_hasThing σ p0).bind (fun r2 => (if r2 = 0 then some ((-2), σ) else (fX7_isHour p1).bind (fun r4 => (if r4 = 0 then some ((-2), σ) else (fX7_recordDays σ).bind (fun σ6 => ms_g (ms_in p1 240) ((fX7_bit (σ6 17 (ms_ix p1)) p0).bind (fun r8 => some (r8, σ6))))))))
/-! X7 areDays (I)Z -/
def fX7_areDays (p0 : Int32) : Option (Int32) := (fX7_within p0 1 9).bind (fun r2 => ms_g (r2 = 0 ∨ r2 = 1) (some r2))
/-! X7 stood (II)I -/
def fX7_stood (p0 : Int32) (p1 : Int32) (σ : Mm) : Option (Int32 × Mm) := (fX4_hasThing σ p0).bind (fun r2 => (if r2 = 0 then some ((-2), σ) else (fX7_areDays p1).bind (fun r4 => (if r4 = 0 then some ((-2), σ) else (fX7_recordDays σ).bind (fun σ6 => (fX0_hoursStood σ6 p0 (p1 * 24)).bind (fun r8 => some (r8, σ6)))))))
/-! X7 lost (I)I -/
def fX7_lost (p0 : Int32) (σ : Mm) : Option (Int32 × Mm) := (fX7_areDays p0).bind (fun r2 => (if r2 = 0 then some ((-2), σ) else (fX7_recordDays σ).bind (fun σ4 => (fX0_spiltWithin σ4 (p0 * 24)).bind (fun r6 => some (r6, σ4)))))
/-! X7 flow (I)I -/
def fX7_flow (p0 : Int32) (σ : Mm) : Option (Int32 × Mm) := (fX7_isHour p0).bind (fun r2 => (if r2 = 0 then some ((-10002), σ) else (fX7_recordDays σ).bind (fun σ4 => ms_g (ms_in p0 240) (some (σ4 15 (ms_ix p0), σ4)))))
/-! X7 worst (II)I -/
def fX7_worst (p0 : Int32) (p1 : Int32) (σ : Mm) : Option (Int32 × Mm) := (fX7_areDays p0).bind (fun r2 => (if r2 = 0 then some ((-2), σ) else (fX7_within p1 0 1).bind (fun r4 => (if r4 = 0 then some ((-2), σ) else (fX7_recordDays σ).bind (fun σ6 => (fX0_worstHour σ6 (p0 * 24)).bind (fun r8 => (if p1 = 0 then ms_g (ms_in r8 240) (some (σ6 13 (ms_ix r8), σ6)) else some (r8, σ6))))))))
/-! X7 fewest (I)I -/
def fX7_fewest_96 (K36 : Int32 → Int32 → Int32 → Int32 → Mm → Option (Int32 × Mm)) (y1 : Int32) (y2 : Int32) (y3 : Int32) (y4 : Int32) (σ : Mm) : Option (Int32 × Mm) := K36 y1 y2 y3 (y4 + 1) σ
def fX7_fewest_36 (K22 : Int32 → Int32 → Int32 → Mm → Option (Int32 × Mm)) : Nat → Int32 → Int32 → Int32 → Int32 → Mm → Option (Int32 × Mm)
  | 0, _, _, _, _, _ => none
  | n + 1, y1, y2, y3, y4, σ => (if y2 ≤ y4 then K22 y1 y2 (y3 + 1) σ else (fJ6_bitCount_0f7a4 y4).bind (fun r2 => (if r2 = y3 then (if (y4 &&& (σ 0 3)) = 0 then (fX7_makeReady (σ 1 6) ((σ 0 3) ||| y4) σ).bind (fun σ4 => (fX3_allGoWithin (y1 * 24) σ4).bind (fun (r6, σ7) => (if r6 = 0 then fX7_fewest_96 (fX7_fewest_36 K22 n) y1 y2 y3 y4 σ7 else some (y4, σ7)))) else fX7_fewest_96 (fX7_fewest_36 K22 n) y1 y2 y3 y4 σ) else fX7_fewest_96 (fX7_fewest_36 K22 n) y1 y2 y3 y4 σ)))
def fX7_fewest_22 : Nat → Int32 → Int32 → Int32 → Mm → Option (Int32 × Mm)
  | 0, _, _, _, _ => none
  | n + 1, y1, y2, y3, σ => (if (σ 1 4) < y3 then some ((-1), σ) else fX7_fewest_36 (fX7_fewest_22 n) ms_fu y1 y2 y3 0 σ)
def fX7_fewest (p0 : Int32) (σ : Mm) : Option (Int32 × Mm) := (fX7_areDays p0).bind (fun r2 => (if r2 = 0 then some ((-2), σ) else fX7_fewest_22 ms_fu p0 (ms_shl 1 (σ 1 4)) 0 σ))
/-! X7 place (II)I -/
def fX7_place_96 (K27 : Int32 → Int32 → Int32 → Int32 → Int32 → Mm → Option (Int32 × Mm)) (y1 : Int32) (y2 : Int32) (y3 : Int32) (y4 : Int32) (y5 : Int32) (σ : Mm) : Option (Int32 × Mm) := K27 y1 y2 y3 y4 (y5 + 1) σ
def fX7_place_27 : Nat → Int32 → Int32 → Int32 → Int32 → Int32 → Mm → Option (Int32 × Mm)
  | 0, _, _, _, _, _, _ => none
  | n + 1, y1, y2, y3, y4, y5, σ => (if 9 ≤ y5 then (if y2 = 0 then some (y3, σ) else some (y4, σ)) else (fX7_bit (σ 1 6) y5).bind (fun r2 => (if r2 = 0 then (fX7_makeReady ((σ 1 6) ||| (ms_shl 1 y5)) (σ 0 3) σ).bind (fun σ4 => (fX3_leastLevel (y1 * 24) σ4).bind (fun (r6, σ7) => (if r6 ≤ y4 then fX7_place_96 (fX7_place_27 n) y1 y2 y3 y4 y5 σ7 else fX7_place_96 (fX7_place_27 n) y1 y2 y5 r6 y5 σ7))) else fX7_place_96 (fX7_place_27 n) y1 y2 y3 y4 y5 σ)))
def fX7_place (p0 : Int32) (p1 : Int32) (σ : Mm) : Option (Int32 × Mm) := (fX7_areDays p0).bind (fun r2 => (if r2 = 0 then some ((-2), σ) else (fX7_within p1 0 1).bind (fun r4 => (if r4 = 0 then some ((-2), σ) else fX7_place_27 ms_fu p0 p1 (-1) (-1) 0 σ))))
/-! X7 waitingBits ()I -/
def fX7_waitingBits (σ : Mm) : Option (Int32) := (fX4_mustBits σ).bind (fun r2 => some ((((ms_shl 1 (σ 1 4)) - 1) &&& (r2 ^^^ (-1))) &&& ((σ 0 3) ^^^ (-1))))
/-! X7 best (I)I -/
def fX7_best_97 (y1 : Int32) (σ : Mm) : Option (Int32 × Mm) := (if y1 = (-1) then some (σ 18 5, σ) else (if y1 = (-2) then some (σ 18 6, σ) else (fX1_shiftOf σ y1).bind (fun r2 => some (r2, σ))))
def fX7_best_56 (y1 : Int32) (y2 : Int32) (σ : Mm) : Option (Int32 × Mm) := (if (σ 18 7) = 0 then (fX7_makeReady (σ 1 6) (σ 0 3) σ).bind (fun σ2 => (fX1_search y2 σ2).bind (fun σ4 => fX7_best_97 y1 σ4)) else fX7_best_97 y1 σ)
def fX7_best_25 (y1 : Int32) (σ : Mm) : Option (Int32 × Mm) := (fX7_waitingBits σ).bind (fun r2 => (fJ6_bitCount_0f7a4 r2).bind (fun r4 => (if r4 ≤ 3 then (if y1 < 0 then fX7_best_56 y1 r2 σ else (fX7_bit r2 y1).bind (fun r6 => (if r6 = 0 then some ((-3), σ) else fX7_best_56 y1 r2 σ))) else some ((-4), σ))))
def fX7_best (p0 : Int32) (σ : Mm) : Option (Int32 × Mm) := (if p0 = (-1) then fX7_best_25 p0 σ else (if p0 = (-2) then fX7_best_25 p0 σ else (fX4_hasThing σ p0).bind (fun r2 => (if r2 = 0 then some ((-2), σ) else fX7_best_25 p0 σ))))
/-! X7 lasts ()I -/
def fX7_lasts (σ : Mm) : Option (Int32 × Mm) := (fX7_recordDays σ).bind (fun σ2 => (fX0_firstStanding σ2).bind (fun r4 => some (r4, σ2)))
/-! X7 seen (II)I -/
def fX7_seen (p0 : Int32) (p1 : Int32) (σ : Mm) : Option (Int32 × Mm) := (fX7_isHour p0).bind (fun r2 => (if r2 = 0 then some ((-2), σ) else (fX7_within p1 0 999).bind (fun r4 => (if r4 = 0 then some ((-2), σ) else (if (σ 22 3) < 12 then (fX5_note p0 p1 σ).bind (fun σ6 => some (σ6 22 3, σ6)) else some ((-4), σ))))))
/-! X7 forget ()I -/
def fX7_forget (σ : Mm) : Option (Int32 × Mm) := (fX5_clearNotes σ).bind (fun σ2 => some (σ 22 3, σ2))
/-! X7 unlike ()I -/
def fX7_unlike (σ : Mm) : Option (Int32 × Mm) := (fX7_recordDays σ).bind (fun σ2 => (fX5_differing σ2).bind (fun r4 => some (r4, σ2)))
/-! X7 thief (I)I -/
def fX7_thief_48 (y1 : Int32) (σ : Mm) : Option (Int32 × Mm) := (if y1 = 0 then some (σ 22 6, σ) else some (σ 22 7, σ))
def fX7_thief (p0 : Int32) (σ : Mm) : Option (Int32 × Mm) := (fX7_within p0 0 1).bind (fun r2 => (if r2 = 0 then some ((-2), σ) else (if (σ 22 8) = 0 then (fX7_makeReady (σ 1 6) (σ 0 3) σ).bind (fun σ4 => (fX5_search σ4).bind (fun σ6 => fX7_thief_48 p0 σ6)) else fX7_thief_48 p0 σ)))
/-! X7 robbed (III)I -/
def fX7_robbed_64 : Nat → Int32 → Int32 → Mm → Option (Int32 × Mm)
  | 0, _, _, _ => none
  | n + 1, y1, y2, σ => (if y1 < y2 then some (σ 8 12, σ) else (fX3_turn (ms_rem y2 24) σ).bind (fun σ2 => fX7_robbed_64 n y1 (y2 + 1) σ2))
def fX7_robbed (p0 : Int32) (p1 : Int32) (p2 : Int32) (σ : Mm) : Option (Int32 × Mm) := (fX7_within p0 0 23).bind (fun r2 => (if r2 = 0 then some ((-2), σ) else (fX7_within p1 0 40).bind (fun r4 => (if r4 = 0 then some ((-2), σ) else (fX7_isHour p2).bind (fun r6 => (if r6 = 0 then some ((-2), σ) else (fX7_makeReady (σ 1 6) (σ 0 3) σ).bind (fun σ8 => (fX3_rob p0 p1 σ8).bind (fun σ10 => (fX3_begin σ10).bind (fun σ12 => fX7_robbed_64 ms_fu p2 0 σ12)))))))))
/-! X7 isForm (I)Z -/
def fX7_isForm (p0 : Int32) : Option (Int32) := (fX7_within p0 0 2).bind (fun r2 => ms_g (r2 = 0 ∨ r2 = 1) (some r2))
/-! X7 sheet (III)I -/
def fX7_sheet (p0 : Int32) (p1 : Int32) (p2 : Int32) (σ : Mm) : Option (Int32 × Mm) := (fX7_isSheet p0).bind (fun r2 => (if r2 = 0 then some ((-2), σ) else (fX7_isForm p1).bind (fun r4 => (if r4 = 0 then some ((-2), σ) else (if p2 ≤ 48 then (if 0 ≤ p2 then ms_g (ms_in p0 4) ((fX2_renew (ms_ix p0) p1 p2 σ).bind (fun σ7 => some (p2, σ7))) else (fX7_find 5 σ).bind (fun (r9, σ10) => some (r9, σ10))) else some ((-2), σ))))))
/-! X7 lose (I)I -/
def fX7_lose (p0 : Int32) (σ : Mm) : Option (Int32 × Mm) := (fX7_isSheet p0).bind (fun r2 => (if r2 = 0 then some ((-2), σ) else ms_g (ms_in p0 4) ((if (σ (27 + 2 * (ms_ix p0)) 3) = 0 then ms_g (ms_in p0 4) (ms_lt (ms_st σ (27 + 2 * (ms_ix p0)) 3 1) (fun σ5 => ms_g (ms_in p0 4) (some (σ5 (27 + 2 * (ms_ix p0)) 2, σ5)))) else (fX7_find 1 σ).bind (fun (r8, σ9) => some (r8, σ9))))))
/-! X7 findingOfItem (LMarketSpring$Sheet;II)I -/
def fX7_findingOfItem (σ : Mm) (j0 : Nat) (p1 : Int32) (p2 : Int32) : Option (Int32) := (if (σ (27 + 2 * j0) 3) = 0 then (if (σ (27 + 2 * j0) 1) = p1 then (fX7_within p2 0 ((σ (27 + 2 * j0) 2) - 1)).bind (fun r2 => (if r2 = 0 then some 2 else some 0)) else some 3) else some 1)
/-! X7 put (IIII)I -/
def fX7_put (p0 : Int32) (p1 : Int32) (p2 : Int32) (p3 : Int32) (σ : Mm) : Option (Int32 × Mm) := (fX7_isSheet p0).bind (fun r2 => (if r2 = 0 then some ((-2), σ) else (fX7_isForm p1).bind (fun r4 => (if r4 = 0 then some ((-2), σ) else ms_g (ms_in p0 4) ((fX7_findingOfItem σ (ms_ix p0) p1 p2).bind (fun r7 => (if r7 = 0 then ms_g (ms_in p0 4) ((fX2_store (ms_ix p0) p2 p3 σ).bind (fun σ10 => some (1, σ10))) else (fX7_find r7 σ).bind (fun (r12, σ13) => some (r12, σ13)))))))))
/-! X7 get (III)I -/
def fX7_get (p0 : Int32) (p1 : Int32) (p2 : Int32) (σ : Mm) : Option (Int32 × Mm) := (fX7_isSheet p0).bind (fun r2 => (if r2 = 0 then some ((-2147483648), σ) else (fX7_isForm p1).bind (fun r4 => (if r4 = 0 then some ((-2147483648), σ) else ms_g (ms_in p0 4) ((fX7_findingOfItem σ (ms_ix p0) p1 p2).bind (fun r7 => (if r7 = 0 then ms_g (ms_in p0 4) (ms_g (ms_in p2 48) (some (σ (28 + 2 * (ms_ix p0)) (ms_ix p2), σ))) else ms_lt (ms_st σ 0 10 r7) (fun σ9 => some ((-2147483648), σ9)))))))))
/-! X7 copy (IIIII)I -/
def fX7_copy_49 (σ : Mm) : Option (Int32 × Mm) := (fX7_find 1 σ).bind (fun (r2, σ3) => some (r2, σ3))
def fX7_copy_97 (σ : Mm) : Option (Int32 × Mm) := (fX7_find 2 σ).bind (fun (r2, σ3) => some (r2, σ3))
def fX7_copy (p0 : Int32) (p1 : Int32) (p2 : Int32) (p3 : Int32) (p4 : Int32) (σ : Mm) : Option (Int32 × Mm) := (fX7_isSheet p0).bind (fun r2 => (if r2 = 0 then some ((-2), σ) else (fX7_isSheet p2).bind (fun r4 => (if r4 = 0 then some ((-2), σ) else ms_g (ms_in p0 4) (ms_g (ms_in p2 4) ((if (σ (27 + 2 * (ms_ix p0)) 3) = 0 then (if (σ (27 + 2 * (ms_ix p2)) 3) = 0 then (if (σ (27 + 2 * (ms_ix p0)) 1) = (σ (27 + 2 * (ms_ix p2)) 1) then (fX2_hasRun σ (ms_ix p0) p1 p4).bind (fun r8 => (if r8 = 0 then fX7_copy_97 σ else (fX2_hasRun σ (ms_ix p2) p3 p4).bind (fun r10 => (if r10 = 0 then fX7_copy_97 σ else ms_g (ms_cg p1 p3 p4) (ms_lt (ms_cp σ (28 + 2 * (ms_ix p0)) (28 + 2 * (ms_ix p2)) p1 p3 p4) (fun σ11 => some (1, σ11))))))) else (fX7_find 4 σ).bind (fun (r13, σ14) => some (r13, σ14))) else fX7_copy_49 σ) else fX7_copy_49 σ)))))))
/-! X7 write (II)I -/
def fX7_write_60 : Nat → Int32 → Int32 → Int32 → Int32 → Mm → Option (Int32 × Mm)
  | 0, _, _, _, _, _ => none
  | n + 1, y1, y2, y3, y4, σ => (if y3 ≤ y4 then some (y3, σ) else ms_g (ms_in y2 4) (ms_g (ms_in (y1 + y4) 240) ((fX2_store (ms_ix y2) y4 (σ 13 (ms_ix (y1 + y4))) σ).bind (fun σ3 => fX7_write_60 n y1 y2 y3 (y4 + 1) σ3))))
def fX7_write (p0 : Int32) (p1 : Int32) (σ : Mm) : Option (Int32 × Mm) := (fX7_isHour p0).bind (fun r2 => (if r2 = 0 then some ((-2), σ) else (fX7_isSheet p1).bind (fun r4 => (if r4 = 0 then some ((-2), σ) else ms_g (ms_in p1 4) ((if (σ (27 + 2 * (ms_ix p1)) 3) = 0 then (fX7_recordDays σ).bind (fun σ7 => ms_g (ms_in p1 4) (ms_lt (ms_minv (σ7 (27 + 2 * (ms_ix p1)) 2) (240 - p0)) (fun x9 => fX7_write_60 ms_fu p0 p1 x9 0 σ7))) else (fX7_find 1 σ).bind (fun (r11, σ12) => some (r11, σ12))))))))
/-! X7 count (I)I -/
def fX7_count (σ : Mm) (p0 : Int32) : Option (Int32) := (if p0 = 0 then some (σ 1 4) else (if p0 = 1 then (fJ6_bitCount_0f7a4 (σ 1 6)).bind (fun r2 => some r2) else (if p0 = 2 then some (σ 1 5) else (if p0 = 3 then some (σ 1 3) else (if p0 = 4 then some (σ 22 3) else (if p0 = 5 then (fX4_allPeople σ).bind (fun r4 => some r4) else (if p0 = 6 then (fX4_mustBits σ).bind (fun r6 => (fJ6_bitCount_0f7a4 r6).bind (fun r8 => some r8)) else (if p0 = 7 then (fX6_windingOfDay σ (σ 1 6)).bind (fun r10 => some r10) else (if p0 = 8 then some (σ 0 10) else some (-2))))))))))
/-! X7 digest ()J -/
def fX7_digest_59 (K45 : Int64 → Int32 → Mm → Option (Int64 × Mm)) : Nat → Int64 → Int32 → Int32 → Mm → Option (Int64 × Mm)
  | 0, _, _, _, _ => none
  | n + 1, y1, y2, y3, σ => (if 5 < y3 then (fX7_stood y2 2 σ).bind (fun (r2, σ3) => ms_lt ((31 * y1) + (((r2 : Int32)).toInt64)) (fun x4 => K45 x4 (y2 + 1) σ3)) else (fX7_thing σ y2 y3).bind (fun r6 => ms_lt ((31 * y1) + (((r6 : Int32)).toInt64)) (fun x7 => fX7_digest_59 K45 n x7 y2 (y3 + 1) σ)))
def fX7_digest_175 : Nat → Int64 → Int32 → Int32 → Mm → Option (Int64 × Mm)
  | 0, _, _, _, _ => none
  | n + 1, y1, y2, y3, σ => (if y2 ≤ y3 then (fX7_lost 2 σ).bind (fun (r2, σ3) => ms_lt ((31 * y1) + (((r2 : Int32)).toInt64)) (fun x4 => (fX7_worst 3 0 σ3).bind (fun (r6, σ7) => ms_lt ((31 * x4) + (((r6 : Int32)).toInt64)) (fun x8 => (fX7_worst 3 1 σ7).bind (fun (r10, σ11) => ms_lt ((31 * x8) + (((r10 : Int32)).toInt64)) (fun x12 => (fX7_fewest 2 σ11).bind (fun (r14, σ15) => ms_lt ((31 * x12) + (((r14 : Int32)).toInt64)) (fun x16 => (fX7_place 2 0 σ15).bind (fun (r18, σ19) => ms_lt ((31 * x16) + (((r18 : Int32)).toInt64)) (fun x20 => (fX7_place 2 1 σ19).bind (fun (r22, σ23) => ms_lt ((31 * x20) + (((r22 : Int32)).toInt64)) (fun x24 => (fX7_lasts σ23).bind (fun (r26, σ27) => ms_lt ((31 * x24) + (((r26 : Int32)).toInt64)) (fun x28 => (fX7_unlike σ27).bind (fun (r30, σ31) => ms_lt ((31 * x28) + (((r30 : Int32)).toInt64)) (fun x32 => (fX7_robbed 9 5 47 σ31).bind (fun (r34, σ35) => some ((31 * x32) + (((r34 : Int32)).toInt64), σ35)))))))))))))))))) else ms_g (ms_in y3 5) ((fX7_level (ms_dh (ms_ix y3)) 0 σ).bind (fun (r37, σ38) => ms_lt ((31 * y1) + (((r37 : Int32)).toInt64)) (fun x39 => (fX7_level (ms_dh (ms_ix y3)) 1 σ38).bind (fun (r41, σ42) => ms_lt ((31 * x39) + (((r41 : Int32)).toInt64)) (fun x43 => (fX7_flow (ms_dh (ms_ix y3)) σ42).bind (fun (r45, σ46) => ms_lt ((31 * x43) + (((r45 : Int32)).toInt64)) (fun x47 => fX7_digest_175 n x47 y2 (y3 + 1) σ46))))))))
def fX7_digest_108 : Nat → Int64 → Int32 → Mm → Option (Int64 × Mm)
  | 0, _, _, _ => none
  | n + 1, y1, y2, σ => (if (σ 1 5) ≤ y2 then (fX7_toil σ 0).bind (fun r2 => ms_lt ((31 * y1) + (((r2 : Int32)).toInt64)) (fun x3 => (fX7_toil σ 1).bind (fun r5 => ms_lt ((31 * x3) + (((r5 : Int32)).toInt64)) (fun x6 => fX7_digest_175 ms_fu x6 5 0 σ)))) else (fX7_goes σ y2).bind (fun r8 => ms_lt ((31 * y1) + (((r8 : Int32)).toInt64)) (fun x9 => fX7_digest_108 n x9 (y2 + 1) σ)))
def fX7_digest_45 : Nat → Int64 → Int32 → Mm → Option (Int64 × Mm)
  | 0, _, _, _ => none
  | n + 1, y1, y2, σ => (if (σ 1 4) ≤ y2 then fX7_digest_108 ms_fu y1 0 σ else fX7_digest_59 (fX7_digest_45 n) ms_fu y1 y2 0 σ)
def fX7_digest_6 : Nat → Int64 → Int32 → Mm → Option (Int64 × Mm)
  | 0, _, _, _ => none
  | n + 1, y1, y2, σ => (if 7 < y2 then (fX7_fault σ).bind (fun r2 => ms_lt ((31 * y1) + (((r2 : Int32)).toInt64)) (fun x3 => fX7_digest_45 ms_fu x3 0 σ)) else (fX7_count σ y2).bind (fun r5 => ms_lt ((31 * y1) + (((r5 : Int32)).toInt64)) (fun x6 => fX7_digest_6 n x6 (y2 + 1) σ)))
def fX7_digest (σ : Mm) : Option (Int64 × Mm) := fX7_digest_6 ms_fu 17 0 σ
/-! X8 in (III)Z -/
def fX8_in (p0 : Int32) (p1 : Int32) (p2 : Int32) : Option (Int32) := (if p0 < p1 then some 0 else (if p2 < p0 then some 0 else some 1))
/-! X8 isIn (II)Z -/
def fX8_isIn (p0 : Int32) (p1 : Int32) : Option (Int32) := (if ((ms_shr p0 p1) &&& 1) = 1 then some 1 else some 0)
/-! X8 ones (I)I -/
def fX8_ones_4 : Nat → Int32 → Int32 → Int32 → Option (Int32)
  | 0, _, _, _ => none
  | n + 1, y1, y2, y3 => (if 9 ≤ y3 then some y2 else ms_lt (y2 + ((ms_shr y1 y3) &&& 1)) (fun x1 => fX8_ones_4 n y1 x1 (y3 + 1)))
def fX8_ones (p0 : Int32) : Option (Int32) := fX8_ones_4 ms_fu p0 0 0
/-! X8 type (I)I -/
def fX8_type (p0 : Int32) (σ : Mm) : Option (Int32 × Mm) := (fX8_in p0 0 255).bind (fun r2 => (if r2 = 0 then some ((-2), σ) else (if (σ 0 0) = 100 then some ((-4), σ) else ms_g (ms_in (σ 0 0) 100) (ms_lt (ms_st σ 1 (ms_ix (σ 0 0)) p0) (fun σ3 => ms_lt (ms_st σ3 0 0 ((σ3 0 0) + 1)) (fun σ4 => some (σ4 0 0, σ4)))))))
/-! X8 wipe ()I -/
def fX8_wipe (σ : Mm) : Option (Int32 × Mm) := ms_lt (ms_st σ 0 0 0) (fun σ1 => some (σ 0 0, σ1))
/-! X8 byteAt (I)I -/
def fX8_byteAt (σ : Mm) (p0 : Int32) : Option (Int32) := (if (σ 0 0) ≤ p0 then some (-1) else ms_g (ms_in p0 100) (some (σ 1 (ms_ix p0))))
/-! X8 figureAt (I)I -/
def fX8_figureAt (σ : Mm) (p0 : Int32) : Option (Int32) := (fX8_byteAt σ p0).bind (fun r2 => (fX8_in r2 48 57).bind (fun r4 => (if r4 = 0 then some (-1) else some (r2 - 48))))
/-! X8 numberAt (I)I -/
def fX8_numberAt (σ : Mm) (p0 : Int32) : Option (Int32) := (fX8_figureAt σ p0).bind (fun r2 => (fX8_figureAt σ (p0 + 1)).bind (fun r4 => some ((10 * r2) + r4)))
/-! X8 wrongAt (III)I -/
def fX8_wrongAt (σ : Mm) (p0 : Int32) (p1 : Int32) (p2 : Int32) : Option (Int32) := (fX8_figureAt σ p0).bind (fun r2 => (if r2 = (-1) then some p0 else (fX8_figureAt σ (p0 + 1)).bind (fun r4 => (if r4 = (-1) then some (p0 + 1) else (fX8_numberAt σ p0).bind (fun r6 => (fX8_in r6 p1 p2).bind (fun r8 => (if r8 = 0 then some p0 else some (-1))))))))
/-! X8 wrongThing (I)I -/
def fX8_wrongThing (σ : Mm) (p0 : Int32) : Option (Int32) := (fX8_wrongAt σ p0 1 40).bind (fun r2 => (fX8_wrongAt σ (p0 + 2) 0 23).bind (fun r4 => (if r2 = (-1) then (if r4 = (-1) then (fX8_wrongAt σ (p0 + 4) 1 24).bind (fun r6 => some r6) else some r4) else some r2)))
/-! X8 wrongGroup (I)I -/
def fX8_wrongGroup_30 (σ : Mm) (y1 : Int32) (y2 : Int32) : Option (Int32) := (if y1 = (-1) then some y2 else some y1)
def fX8_wrongGroup (σ : Mm) (p0 : Int32) : Option (Int32) := (fX8_wrongAt σ p0 1 99).bind (fun r2 => (fX8_wrongAt σ (p0 + 2) 0 23).bind (fun r4 => (if r2 = (-1) then (if r4 = (-1) then (fX8_figureAt σ (p0 + 4)).bind (fun r6 => (fX8_in r6 0 8).bind (fun r8 => (if r8 = 0 then some (p0 + 4) else (fX8_figureAt σ (p0 + 5)).bind (fun r10 => (fX8_in r10 0 8).bind (fun r12 => (if r12 = 0 then some (p0 + 5) else (fX8_figureAt σ (p0 + 5)).bind (fun r14 => (fX8_figureAt σ (p0 + 4)).bind (fun r16 => (if r14 = r16 then some (p0 + 5) else (fX8_figureAt σ (p0 + 6)).bind (fun r18 => (if r18 = (-1) then some (p0 + 6) else (fX8_figureAt σ (p0 + 7)).bind (fun r20 => (if r20 = (-1) then some (p0 + 7) else some (-1)))))))))))))) else fX8_wrongGroup_30 σ r2 r4) else fX8_wrongGroup_30 σ r2 r4)))
/-! X8 reads ()I -/
def fX8_reads_386 (K17 : Int32 → Mm → Option (Int32 × Mm)) (y1 : Int32) (y2 : Int32) (σ : Mm) : Option (Int32 × Mm) := (if y2 = (-1) then (if y1 = (σ 0 0) then some ((-1), σ) else (fX8_byteAt σ y1).bind (fun r2 => (if r2 = 59 then K17 (y1 + 1) σ else some (y1, σ)))) else some (y2, σ))
def fX8_reads_239 (K17 : Int32 → Mm → Option (Int32 × Mm)) (y1 : Int32) (y2 : Int32) (y3 : Int32) (y4 : Int32) (σ : Mm) : Option (Int32 × Mm) := ms_lt (ms_st σ 0 10 (y4 ||| y3)) (fun σ1 => fX8_reads_386 K17 (y1 + 2) y2 σ1)
def fX8_reads_220 (K17 : Int32 → Mm → Option (Int32 × Mm)) (y1 : Int32) (y2 : Int32) (y3 : Int32) (σ : Mm) : Option (Int32 × Mm) := (if y3 = (-1) then fX8_reads_239 K17 y1 y3 (ms_shl 1 y2) (σ 0 10) σ else fX8_reads_239 K17 y1 y3 0 (σ 0 10) σ)
def fX8_reads_213 (K17 : Int32 → Mm → Option (Int32 × Mm)) (y1 : Int32) (y2 : Int32) (σ : Mm) : Option (Int32 × Mm) := fX8_reads_220 K17 y1 y2 (y1 + 1) σ
def fX8_reads_307 (K17 : Int32 → Mm → Option (Int32 × Mm)) : Nat → Int32 → Int32 → Int32 → Mm → Option (Int32 × Mm)
  | 0, _, _, _, _ => none
  | n + 1, y1, y2, y3, σ => (if 2 ≤ y3 then ms_lt (ms_st σ 0 11 ((σ 0 11) + 1)) (fun σ1 => fX8_reads_386 K17 (y1 + 9) y2 σ1) else (fX8_figureAt σ ((y1 + 5) + y3)).bind (fun r3 => ms_g (ms_in ((2 * (σ 0 11)) + y3) 18) (ms_lt (ms_st σ 11 (ms_ix ((2 * (σ 0 11)) + y3)) r3) (fun σ4 => (fX8_figureAt σ4 ((y1 + 7) + y3)).bind (fun r6 => ms_g (ms_in ((2 * (σ4 0 11)) + y3) 18) (ms_lt (ms_st σ4 12 (ms_ix ((2 * (σ4 0 11)) + y3)) r6) (fun σ7 => fX8_reads_307 K17 n y1 y2 (y3 + 1) σ7)))))))
def fX8_reads_175 (K17 : Int32 → Mm → Option (Int32 × Mm)) (y1 : Int32) (y2 : Int32) (σ : Mm) : Option (Int32 × Mm) := (if y2 = 104 then (fX8_figureAt σ (y1 + 1)).bind (fun r10 => (fX8_in r10 0 8).bind (fun r12 => (if r12 = 0 then fX8_reads_213 K17 y1 r10 σ else (fX8_isIn (σ 0 10) r10).bind (fun r14 => (if r14 = 0 then fX8_reads_220 K17 y1 r10 (-1) σ else fX8_reads_213 K17 y1 r10 σ))))) else (if y2 = 103 then (if 8 ≤ (σ 0 11) then some (y1, σ) else (fX8_wrongGroup σ (y1 + 1)).bind (fun r2 => (fX8_numberAt σ (y1 + 1)).bind (fun r4 => ms_g (ms_in (σ 0 11) 9) (ms_lt (ms_st σ 9 (ms_ix (σ 0 11)) r4) (fun σ5 => (fX8_numberAt σ5 (y1 + 3)).bind (fun r7 => ms_g (ms_in (σ5 0 11) 9) (ms_lt (ms_st σ5 10 (ms_ix (σ5 0 11)) r7) (fun σ8 => fX8_reads_307 K17 ms_fu y1 r2 0 σ8)))))))) else some (y1, σ)))
def fX8_reads_170 (K17 : Int32 → Mm → Option (Int32 × Mm)) (y1 : Int32) (y2 : Int32) (y3 : Int32) (σ : Mm) : Option (Int32 × Mm) := fX8_reads_386 K17 (y3 + y2) y1 σ
def fX8_reads_146 (K17 : Int32 → Mm → Option (Int32 × Mm)) (y1 : Int32) (y2 : Int32) (y3 : Int32) (y4 : Int32) (y5 : Int32) (σ : Mm) : Option (Int32 × Mm) := ms_g (ms_in y5 7) (ms_lt (ms_st σ 6 (ms_ix y5) y4) (fun σ1 => ms_lt (ms_st σ1 0 3 ((σ1 0 3) + 1)) (fun σ2 => (if y3 = 0 then fX8_reads_170 K17 y2 7 y1 σ2 else fX8_reads_170 K17 y2 8 y1 σ2))))
def fX8_reads_126 (K17 : Int32 → Mm → Option (Int32 × Mm)) (y1 : Int32) (y2 : Int32) (y3 : Int32) (σ : Mm) : Option (Int32 × Mm) := (if y3 = 0 then fX8_reads_146 K17 y1 y2 y3 0 (σ 0 3) σ else fX8_reads_146 K17 y1 y2 y3 1 (σ 0 3) σ)
def fX8_reads_29 (K17 : Int32 → Mm → Option (Int32 × Mm)) (y1 : Int32) (σ : Mm) : Option (Int32 × Mm) := (fX8_byteAt σ y1).bind (fun r2 => (if r2 = 116 then (if 6 ≤ (σ 0 3) then fX8_reads_175 K17 y1 r2 σ else (fX8_wrongThing σ (y1 + 1)).bind (fun r4 => (fX8_numberAt σ (y1 + 1)).bind (fun r6 => ms_g (ms_in (σ 0 3) 7) (ms_lt (ms_st σ 3 (ms_ix (σ 0 3)) r6) (fun σ7 => (fX8_numberAt σ7 (y1 + 3)).bind (fun r9 => ms_g (ms_in (σ7 0 3) 7) (ms_lt (ms_st σ7 4 (ms_ix (σ7 0 3)) r9) (fun σ10 => (fX8_numberAt σ10 (y1 + 5)).bind (fun r12 => ms_g (ms_in (σ10 0 3) 7) (ms_lt (ms_st σ10 5 (ms_ix (σ10 0 3)) r12) (fun σ13 => (fX8_byteAt σ13 (y1 + 7)).bind (fun r15 => (if r15 = 33 then fX8_reads_126 K17 y1 r4 1 σ13 else fX8_reads_126 K17 y1 r4 0 σ13))))))))))))) else fX8_reads_175 K17 y1 r2 σ))
def fX8_reads_17 : Nat → Int32 → Mm → Option (Int32 × Mm)
  | 0, _, _ => none
  | n + 1, y1, σ => (if y1 < (σ 0 0) then fX8_reads_29 (fX8_reads_17 n) y1 σ else (if y1 ≤ 0 then some ((-1), σ) else fX8_reads_29 (fX8_reads_17 n) y1 σ))
def fX8_reads (σ : Mm) : Option (Int32 × Mm) := ms_lt (ms_st σ 0 3 0) (fun σ1 => ms_lt (ms_st σ1 0 10 0) (fun σ2 => ms_lt (ms_st σ2 0 11 0) (fun σ3 => fX8_reads_17 ms_fu 0 σ3)))
/-! X8 faultNow ()I -/
def fX8_faultNow (σ : Mm) : Option (Int32 × Mm) := (fX8_reads σ).bind (fun (r2, σ3) => (if r2 = (-1) then some (r2, σ3) else ms_lt (ms_st σ3 0 3 0) (fun σ4 => ms_lt (ms_st σ4 0 10 0) (fun σ5 => ms_lt (ms_st σ5 0 11 0) (fun σ6 => some (r2, σ6))))))
/-! X8 fault ()I -/
def fX8_fault (σ : Mm) : Option (Int32 × Mm) := (fX8_faultNow σ).bind (fun (r2, σ3) => some (r2, σ3))
/-! X8 isThing (I)Z -/
def fX8_isThing (p0 : Int32) (σ : Mm) : Option (Int32 × Mm) := (fX8_faultNow σ).bind (fun (r2, σ3) => (fX8_in p0 0 ((σ3 0 3) - 1)).bind (fun r5 => ms_g (r5 = 0 ∨ r5 = 1) (some (r5, σ3))))
/-! X8 thingOf (II)I -/
def fX8_thingOf (σ : Mm) (p0 : Int32) (p1 : Int32) : Option (Int32) := (if p1 = 0 then ms_g (ms_in p0 7) (some (σ 3 (ms_ix p0))) else (if p1 = 1 then ms_g (ms_in p0 7) (some (σ 4 (ms_ix p0))) else (if p1 = 2 then ms_g (ms_in p0 7) (some (σ 5 (ms_ix p0))) else (if p1 = 3 then ms_g (ms_in p0 7) (some (σ 6 (ms_ix p0))) else (if p1 = 4 then ms_g (ms_in p0 6) (some (σ 7 (ms_ix p0))) else ms_g (ms_in p0 6) (some (σ 8 (ms_ix p0))))))))
/-! X8 thing (II)I -/
def fX8_thing (p0 : Int32) (p1 : Int32) (σ : Mm) : Option (Int32 × Mm) := (fX8_isThing p0 σ).bind (fun (r2, σ3) => (if r2 = 0 then some ((-2), σ3) else (fX8_in p1 0 5).bind (fun r5 => (if r5 = 0 then some ((-2), σ3) else (fX8_thingOf σ3 p0 p1).bind (fun r7 => some (r7, σ3))))))
/-! X8 handleOf (I)I -/
def fX8_handleOf (p0 : Int32) (σ : Mm) : Option (Int32 × Mm) := (fX8_faultNow σ).bind (fun (r2, σ3) => (fX8_isIn (σ3 0 10) p0).bind (fun r5 => (if r5 = 0 then some (0, σ3) else some (1, σ3))))
/-! X8 handle (I)I -/
def fX8_handle (p0 : Int32) (σ : Mm) : Option (Int32 × Mm) := (fX8_in p0 0 8).bind (fun r2 => (if r2 = 0 then some ((-2), σ) else (fX8_handleOf p0 σ).bind (fun (r4, σ5) => some (r4, σ5))))
/-! X8 isGroup (I)Z -/
def fX8_isGroup (p0 : Int32) (σ : Mm) : Option (Int32 × Mm) := (fX8_faultNow σ).bind (fun (r2, σ3) => (fX8_in p0 0 ((σ3 0 11) - 1)).bind (fun r5 => ms_g (r5 = 0 ∨ r5 = 1) (some (r5, σ3))))
/-! X8 group (II)I -/
def fX8_group (p0 : Int32) (p1 : Int32) (σ : Mm) : Option (Int32 × Mm) := (fX8_isGroup p0 σ).bind (fun (r2, σ3) => (if r2 = 0 then some ((-2), σ3) else (fX8_in p1 0 5).bind (fun r5 => (if r5 = 0 then some ((-2), σ3) else (if p1 = 0 then ms_g (ms_in p0 9) (some (σ3 9 (ms_ix p0), σ3)) else (if p1 = 1 then ms_g (ms_in p0 9) (some (σ3 10 (ms_ix p0), σ3)) else (if 4 ≤ p1 then ms_g (ms_in (((2 * p0) + p1) - 4) 18) (some (σ3 12 (ms_ix (((2 * p0) + p1) - 4)), σ3)) else ms_g (ms_in (((2 * p0) + p1) - 2) 18) (some (σ3 11 (ms_ix (((2 * p0) + p1) - 2)), σ3)))))))))
/-! X8 mostOf (I)I -/
def fX8_mostOf (p0 : Int32) : Option (Int32) := (if p0 = 0 then some 9 else (if p0 = 1 then some 999 else (if p0 = 2 then some 999 else (if p0 = 7 then some 999 else (if p0 = 4 then some 9 else (if p0 = 5 then some 1 else some 99))))))
/-! X8 set (II)I -/
def fX8_set_21 (y1 : Int32) (y2 : Int32) (y3 : Int32) (y4 : Int32) (σ : Mm) : Option (Int32 × Mm) := (fX8_mostOf y1).bind (fun r2 => (fX8_in y4 y3 r2).bind (fun r4 => (if r4 = 0 then some ((-5), σ) else ms_g (ms_in y1 9) (ms_g (ms_in y1 9) (ms_lt (ms_st σ 2 (ms_ix y1) y2) (fun σ5 => some (σ 2 (ms_ix y1), σ5)))))))
def fX8_set (p0 : Int32) (p1 : Int32) (σ : Mm) : Option (Int32 × Mm) := (fX8_in p0 0 8).bind (fun r2 => (if r2 = 0 then some ((-5), σ) else (if 2 ≤ p0 then fX8_set_21 p0 p1 0 p1 σ else fX8_set_21 p0 p1 1 p1 σ)))
/-! X8 shut (II)I -/
def fX8_shut (p0 : Int32) (p1 : Int32) (σ : Mm) : Option (Int32 × Mm) := (fX8_in p0 0 5).bind (fun r2 => (if r2 = 0 then some ((-2), σ) else (fX8_in p1 0 1).bind (fun r4 => (if r4 = 0 then some ((-2), σ) else ms_g (ms_in p0 6) (ms_g (ms_in p0 6) (ms_lt (ms_st σ 7 (ms_ix p0) p1) (fun σ5 => some (σ 7 (ms_ix p0), σ5))))))))
/-! X8 shift (II)I -/
def fX8_shift (p0 : Int32) (p1 : Int32) (σ : Mm) : Option (Int32 × Mm) := (fX8_in p0 0 5).bind (fun r2 => (if r2 = 0 then some ((-2), σ) else (fX8_in p1 0 23).bind (fun r4 => (if r4 = 0 then some ((-2), σ) else ms_g (ms_in p0 6) (ms_g (ms_in p0 6) (ms_lt (ms_st σ 8 (ms_ix p0) p1) (fun σ5 => some (σ 8 (ms_ix p0), σ5))))))))
/-! X8 isSheet (I)Z -/
def fX8_isSheet (p0 : Int32) : Option (Int32) := (fX8_in p0 0 3).bind (fun r2 => ms_g (r2 = 0 ∨ r2 = 1) (some r2))
/-! X8 meets (I)I -/
def fX8_meets (p0 : Int32) (σ : Mm) : Option (Int32 × Mm) := ms_lt (ms_st σ 0 33 p0) (fun σ1 => some ((-10) - p0, σ1))
/-! X8 read (I)I -/
def fX8_read_27 : Nat → Int32 → Int32 → Mm → Option (Int32 × Mm)
  | 0, _, _, _ => none
  | n + 1, y1, y2, σ => ms_g (ms_in y1 4) ((if (σ 26 (ms_ix y1)) ≤ y2 then some (y2, σ) else (if 6 ≤ y2 then some (y2, σ) else ms_g (ms_in ((48 * y1) + y2) 192) ((fX8_in (σ 27 (ms_ix ((48 * y1) + y2))) 0 23).bind (fun r2 => (if r2 = 0 then some (y2, σ) else ms_g (ms_in ((48 * y1) + y2) 192) (ms_g (ms_in y2 6) (ms_lt (ms_st σ 8 (ms_ix y2) (σ 27 (ms_ix ((48 * y1) + y2)))) (fun σ3 => fX8_read_27 n y1 (y2 + 1) σ3)))))))))
def fX8_read (p0 : Int32) (σ : Mm) : Option (Int32 × Mm) := (fX8_isSheet p0).bind (fun r2 => (if r2 = 0 then some ((-2), σ) else ms_g (ms_in p0 4) ((if (σ 24 (ms_ix p0)) = 0 then (fX8_meets 1 σ).bind (fun (r4, σ5) => some (r4, σ5)) else fX8_read_27 ms_fu p0 0 σ))))
/-! X8 costOf (II)I -/
def fX8_costOf (σ : Mm) (p0 : Int32) (p1 : Int32) : Option (Int32) := ms_g (ms_in ((2 * p0) + p1) 18) (ms_g (ms_in ((2 * p0) + p1) 18) ((fX8_isIn (σ 0 10) (σ 11 (ms_ix ((2 * p0) + p1)))).bind (fun r2 => (if r2 = 0 then some ((σ 12 (ms_ix ((2 * p0) + p1))) + 0) else ms_g (ms_in 4 9) (some ((σ 12 (ms_ix ((2 * p0) + p1))) + (σ 2 (ms_ix 4))))))))
/-! X8 wayOf (II)I -/
def fX8_wayOf_56 (σ : Mm) (y1 : Int32) : Option (Int32) := (fX8_costOf σ y1 1).bind (fun r2 => (fX8_costOf σ y1 0).bind (fun r4 => (if r4 ≤ r2 then some 0 else some 1)))
def fX8_wayOf (σ : Mm) (p0 : Int32) (p1 : Int32) : Option (Int32) := ms_g (ms_in (2 * p0) 18) ((fX8_isIn (σ 0 10) (σ 11 (ms_ix (2 * p0)))).bind (fun r2 => ms_g (ms_in ((2 * p0) + 1) 18) ((fX8_isIn (σ 0 10) (σ 11 (ms_ix ((2 * p0) + 1)))).bind (fun r4 => (if p1 = 1 then (if r2 = r4 then fX8_wayOf_56 σ p0 else (if r2 = 0 then some 1 else some 0)) else fX8_wayOf_56 σ p0)))))
/-! X8 goesOf (I)I -/
def fX8_goesOf (σ : Mm) (p0 : Int32) : Option (Int32) := ms_g (ms_in 5 9) ((fX8_wayOf σ p0 (σ 2 (ms_ix 5))).bind (fun r2 => ms_g (ms_in ((2 * p0) + r2) 18) (some (σ 11 (ms_ix ((2 * p0) + r2))))))
/-! X8 goes (I)I -/
def fX8_goes (p0 : Int32) (σ : Mm) : Option (Int32 × Mm) := (fX8_isGroup p0 σ).bind (fun (r2, σ3) => (if r2 = 0 then some ((-2), σ3) else (fX8_goesOf σ3 p0).bind (fun r5 => some (r5, σ3))))
/-! X8 toilOf (I)I -/
def fX8_toilOf_10 : Nat → Int32 → Int32 → Int32 → Mm → Option (Int32 × Mm)
  | 0, _, _, _, _ => none
  | n + 1, y1, y2, y3, σ => (if (σ 0 11) ≤ y3 then some (y2, σ) else ms_g (ms_in y3 9) ((fX8_wayOf σ y3 y1).bind (fun r2 => (fX8_costOf σ y3 r2).bind (fun r4 => ms_lt (y2 + ((σ 9 (ms_ix y3)) * r4)) (fun x5 => fX8_toilOf_10 n y1 x5 (y3 + 1) σ)))))
def fX8_toilOf (p0 : Int32) (σ : Mm) : Option (Int32 × Mm) := (fX8_faultNow σ).bind (fun (r2, σ3) => fX8_toilOf_10 ms_fu p0 0 0 σ3)
/-! X8 toil (I)I -/
def fX8_toil (p0 : Int32) (σ : Mm) : Option (Int32 × Mm) := (fX8_in p0 0 1).bind (fun r2 => (if r2 = 0 then some ((-2), σ) else (fX8_toilOf p0 σ).bind (fun (r4, σ5) => some (r4, σ5))))
/-! X8 woundAt (I)I -/
def fX8_woundAt_55 (σ : Mm) (K4 : Int32 → Int32 → Int32 → Option (Int32)) (y1 : Int32) (y2 : Int32) (y3 : Int32) (y4 : Int32) : Option (Int32) := K4 y1 (y4 + y3) (y2 + 1)
def fX8_woundAt_54 (σ : Mm) (K4 : Int32 → Int32 → Int32 → Option (Int32)) (y1 : Int32) (y2 : Int32) (y3 : Int32) : Option (Int32) := fX8_woundAt_55 σ K4 y1 y2 0 y3
def fX8_woundAt_4 (σ : Mm) : Nat → Int32 → Int32 → Int32 → Option (Int32)
  | 0, _, _, _ => none
  | n + 1, y1, y2, y3 => (if (σ 0 11) ≤ y3 then some y2 else ms_g (ms_in y3 9) ((if (σ 10 (ms_ix y3)) = y1 then (fX8_goesOf σ y3).bind (fun r2 => (fX8_isIn (σ 0 10) r2).bind (fun r4 => (if r4 = 0 then fX8_woundAt_54 σ (fX8_woundAt_4 σ n) y1 y3 y2 else ms_g (ms_in 0 9) (ms_g (ms_in y3 9) (fX8_woundAt_55 σ (fX8_woundAt_4 σ n) y1 y3 ((σ 2 (ms_ix 0)) * (σ 9 (ms_ix y3))) y2))))) else fX8_woundAt_54 σ (fX8_woundAt_4 σ n) y1 y3 y2)))
def fX8_woundAt (σ : Mm) (p0 : Int32) : Option (Int32) := fX8_woundAt_4 σ ms_fu p0 0 0
/-! X8 wound (I)I -/
def fX8_wound (p0 : Int32) (σ : Mm) : Option (Int32 × Mm) := (fX8_in p0 0 23).bind (fun r2 => (if r2 = 0 then some ((-2), σ) else (fX8_faultNow σ).bind (fun (r4, σ5) => (fX8_woundAt σ5 p0).bind (fun r7 => some (r7, σ5)))))
/-! X8 laysWinds ()V -/
def fX8_laysWinds_2 : Nat → Int32 → Mm → Option (Mm)
  | 0, _, _ => none
  | n + 1, y1, σ => (if 24 ≤ y1 then some σ else (fX8_woundAt σ y1).bind (fun r2 => ms_g (ms_in y1 24) (ms_lt (ms_st σ 13 (ms_ix y1) r2) (fun σ3 => fX8_laysWinds_2 n (y1 + 1) σ3))))
def fX8_laysWinds (σ : Mm) : Option (Mm) := fX8_laysWinds_2 ms_fu 0 σ
/-! X8 isGoing (III)Z -/
def fX8_isGoing (σ : Mm) (p0 : Int32) (p1 : Int32) (p2 : Int32) : Option (Int32) := ms_g (ms_in p0 7) (ms_g (ms_in p0 6) (ms_lt (ms_rem ((σ 4 (ms_ix p0)) + (σ 8 (ms_ix p0))) 24) (fun x1 => ms_lt (ms_rem (((ms_rem p1 24) - x1) + 24) 24) (fun x2 => ms_g (ms_in p0 7) ((if (σ 5 (ms_ix p0)) ≤ x2 then some 0 else ms_g (ms_in p0 6) ((if (σ 7 (ms_ix p0)) = 0 then (fX8_isIn p2 p0).bind (fun r4 => (if r4 = 0 then some 1 else some 0)) else some 0))))))))
/-! X8 runs (IIII)V -/
def fX8_runs_239 (K155 : Int32 → Int32 → Int32 → Int32 → Int32 → Int32 → Int32 → Int32 → Mm → Option (Mm)) (y1 : Int32) (y2 : Int32) (y3 : Int32) (y4 : Int32) (y5 : Int32) (y6 : Int32) (y7 : Int32) (y8 : Int32) (σ : Mm) : Option (Mm) := K155 y1 y2 y3 y4 y5 y6 y7 (y8 + 1) σ
def fX8_runs_237 (K155 : Int32 → Int32 → Int32 → Int32 → Int32 → Int32 → Int32 → Int32 → Mm → Option (Mm)) (y1 : Int32) (y2 : Int32) (y3 : Int32) (y4 : Int32) (y5 : Int32) (y6 : Int32) (y7 : Int32) (y8 : Int32) (y9 : Int32) (y10 : Int32) (y11 : Int32) (σ : Mm) : Option (Mm) := ms_g (ms_in y11 240) (ms_lt (ms_st σ 18 (ms_ix y11) (y10 ||| y9)) (fun σ1 => fX8_runs_239 K155 y1 y2 y3 y4 y5 y6 y7 y8 σ1))
def fX8_runs_213 (K155 : Int32 → Int32 → Int32 → Int32 → Int32 → Int32 → Int32 → Int32 → Mm → Option (Mm)) (y1 : Int32) (y2 : Int32) (y3 : Int32) (y4 : Int32) (y5 : Int32) (y6 : Int32) (y7 : Int32) (y8 : Int32) (y9 : Int32) (y10 : Int32) (σ : Mm) : Option (Mm) := ms_g (ms_in y6 240) ((if y8 = 0 then fX8_runs_237 K155 y1 y2 y3 y4 (y10 - y9) y5 y6 y7 (ms_shl 1 y7) (σ 18 (ms_ix y6)) y6 σ else fX8_runs_237 K155 y1 y2 y3 y4 (y10 - y9) y5 y6 y7 0 (σ 18 (ms_ix y6)) y6 σ))
def fX8_runs_193 (K155 : Int32 → Int32 → Int32 → Int32 → Int32 → Int32 → Int32 → Int32 → Mm → Option (Mm)) (y1 : Int32) (y2 : Int32) (y3 : Int32) (y4 : Int32) (y5 : Int32) (y6 : Int32) (y7 : Int32) (y8 : Int32) (y9 : Int32) (σ : Mm) : Option (Mm) := (if y9 = 0 then fX8_runs_213 K155 y1 y2 y3 y4 y6 y7 y8 y9 0 y5 σ else ms_g (ms_in y8 7) (fX8_runs_213 K155 y1 y2 y3 y4 y6 y7 y8 y9 (σ 3 (ms_ix y8)) y5 σ))
def fX8_runs_386 (K44 : Int32 → Int32 → Int32 → Int32 → Int32 → Int32 → Int32 → Mm → Option (Mm)) (y1 : Int32) (y2 : Int32) (y3 : Int32) (y4 : Int32) (y5 : Int32) (y6 : Int32) (y7 : Int32) (y8 : Int32) (σ : Mm) : Option (Mm) := ms_g (ms_in y7 240) (ms_lt (ms_st σ 14 (ms_ix y7) (y5 + y8)) (fun σ1 => ms_g (ms_in y7 240) (ms_lt (ms_st σ1 15 (ms_ix y7) (y6 - y8)) (fun σ2 => ms_g (ms_in y7 240) (ms_lt (ms_st σ2 17 (ms_ix y7) y8) (fun σ3 => K44 y1 y2 y3 y4 (y5 + y8) (y6 - y8) (y7 + 1) σ3))))))
def fX8_runs_376 (K44 : Int32 → Int32 → Int32 → Int32 → Int32 → Int32 → Int32 → Mm → Option (Mm)) (y1 : Int32) (y2 : Int32) (y3 : Int32) (y4 : Int32) (y5 : Int32) (y6 : Int32) (y7 : Int32) (y8 : Int32) (σ : Mm) : Option (Mm) := fX8_runs_386 K44 y1 y2 y3 y4 y5 y6 y7 y8 σ
def fX8_runs_339 (K44 : Int32 → Int32 → Int32 → Int32 → Int32 → Int32 → Int32 → Mm → Option (Mm)) (y1 : Int32) (y2 : Int32) (y3 : Int32) (y4 : Int32) (y5 : Int32) (y6 : Int32) (y7 : Int32) (y8 : Int32) (σ : Mm) : Option (Mm) := (if y6 ≤ y5 then fX8_runs_386 K44 y1 y2 y3 y4 y5 y6 y7 (-y8) σ else ms_g (ms_in 1 9) ((if ((σ 2 (ms_ix 1)) - y5) ≤ y8 then ms_g (ms_in 1 9) (fX8_runs_376 K44 y1 y2 y3 y4 y5 y6 y7 ((σ 2 (ms_ix 1)) - y5) σ) else fX8_runs_376 K44 y1 y2 y3 y4 y5 y6 y7 y8 σ)))
def fX8_runs_311 (K44 : Int32 → Int32 → Int32 → Int32 → Int32 → Int32 → Int32 → Mm → Option (Mm)) (y1 : Int32) (y2 : Int32) (y3 : Int32) (y4 : Int32) (y5 : Int32) (y6 : Int32) (y7 : Int32) (y8 : Int32) (σ : Mm) : Option (Mm) := ms_g (ms_in 6 9) ((if (σ 2 (ms_ix 6)) ≤ (y8 / 2) then ms_g (ms_in 6 9) (fX8_runs_339 K44 y1 y2 y3 y4 y5 y6 y7 (σ 2 (ms_ix 6)) σ) else fX8_runs_339 K44 y1 y2 y3 y4 y5 y6 y7 (y8 / 2) σ))
def fX8_runs_288 (K44 : Int32 → Int32 → Int32 → Int32 → Int32 → Int32 → Int32 → Mm → Option (Mm)) (y1 : Int32) (y2 : Int32) (y3 : Int32) (y4 : Int32) (y5 : Int32) (y6 : Int32) (y7 : Int32) (y8 : Int32) (σ : Mm) : Option (Mm) := (if (y8 - y7) ≤ y5 then fX8_runs_311 K44 y1 y2 y3 y4 y5 (y8 - y7) y6 (y5 - (y8 - y7)) σ else fX8_runs_311 K44 y1 y2 y3 y4 y5 (y8 - y7) y6 ((y8 - y7) - y5) σ)
def fX8_runs_155 (K44 : Int32 → Int32 → Int32 → Int32 → Int32 → Int32 → Int32 → Mm → Option (Mm)) : Nat → Int32 → Int32 → Int32 → Int32 → Int32 → Int32 → Int32 → Int32 → Mm → Option (Mm)
  | 0, _, _, _, _, _, _, _, _, _ => none
  | n + 1, y1, y2, y3, y4, y5, y6, y7, y8, σ => (if (σ 0 3) ≤ y8 then ms_g (ms_in 3 9) (ms_lt (y5 - ((y5 * (σ 2 (ms_ix 3))) / 100)) (fun x1 => ms_g (ms_in 8 9) ((if (σ 2 (ms_ix 8)) ≤ y6 then ms_g (ms_in 8 9) (fX8_runs_288 K44 y1 y2 y3 y4 x1 y7 (σ 2 (ms_ix 8)) y6 σ) else fX8_runs_288 K44 y1 y2 y3 y4 x1 y7 y6 y6 σ)))) else (fX8_isGoing σ y8 y7 y2).bind (fun r3 => (if r3 = 0 then fX8_runs_239 (fX8_runs_155 K44 n) y1 y2 y3 y4 y5 y6 y7 y8 σ else ms_g (ms_in y8 7) ((if y5 < (σ 3 (ms_ix y8)) then fX8_runs_193 (fX8_runs_155 K44 n) y1 y2 y3 y4 y5 y6 y7 y8 0 σ else fX8_runs_193 (fX8_runs_155 K44 n) y1 y2 y3 y4 y5 y6 y7 y8 1 σ)))))
def fX8_runs_131 (K44 : Int32 → Int32 → Int32 → Int32 → Int32 → Int32 → Int32 → Mm → Option (Mm)) (y1 : Int32) (y2 : Int32) (y3 : Int32) (y4 : Int32) (y5 : Int32) (y6 : Int32) (y7 : Int32) (y8 : Int32) (y9 : Int32) (σ : Mm) : Option (Mm) := ms_g (ms_in y9 240) (ms_lt (ms_st σ 16 (ms_ix y9) y8) (fun σ1 => ms_g (ms_in y6 240) (ms_g (ms_in y6 240) (ms_lt (ms_st σ1 18 (ms_ix y6) 0) (fun σ2 => fX8_runs_155 K44 ms_fu y1 y2 y3 y4 (y7 - (σ1 16 (ms_ix y6))) y5 y6 0 σ2)))))
def fX8_runs_83 (K44 : Int32 → Int32 → Int32 → Int32 → Int32 → Int32 → Int32 → Mm → Option (Mm)) (y1 : Int32) (y2 : Int32) (y3 : Int32) (y4 : Int32) (y5 : Int32) (y6 : Int32) (y7 : Int32) (y8 : Int32) (σ : Mm) : Option (Mm) := ms_g (ms_in (ms_rem y6 24) 24) (ms_lt ((y8 - y7) + (σ 13 (ms_ix (ms_rem y6 24)))) (fun x1 => ms_g (ms_in 1 9) ((if x1 ≤ (σ 2 (ms_ix 1)) then fX8_runs_131 K44 y1 y2 y3 y4 y5 y6 x1 0 y6 σ else ms_g (ms_in 1 9) (fX8_runs_131 K44 y1 y2 y3 y4 y5 y6 x1 (x1 - (σ 2 (ms_ix 1))) y6 σ)))))
def fX8_runs_65 (K44 : Int32 → Int32 → Int32 → Int32 → Int32 → Int32 → Int32 → Mm → Option (Mm)) (y1 : Int32) (y2 : Int32) (y3 : Int32) (y4 : Int32) (y5 : Int32) (y6 : Int32) (y7 : Int32) (y8 : Int32) (σ : Mm) : Option (Mm) := (if y5 ≤ y8 then fX8_runs_83 K44 y1 y2 y3 y4 y6 y7 y5 y5 σ else fX8_runs_83 K44 y1 y2 y3 y4 y6 y7 y8 y5 σ)
def fX8_runs_44 : Nat → Int32 → Int32 → Int32 → Int32 → Int32 → Int32 → Int32 → Mm → Option (Mm)
  | 0, _, _, _, _, _, _, _, _ => none
  | n + 1, y1, y2, y3, y4, y5, y6, y7, σ => (if y1 ≤ y7 then some σ else (if (ms_rem y7 24) = y3 then fX8_runs_65 (fX8_runs_44 n) y1 y2 y3 y4 y5 y6 y7 y4 σ else fX8_runs_65 (fX8_runs_44 n) y1 y2 y3 y4 y5 y6 y7 0 σ))
def fX8_runs_30 (y1 : Int32) (y2 : Int32) (y3 : Int32) (y4 : Int32) (y5 : Int32) (σ : Mm) : Option (Mm) := ms_g (ms_in 7 9) (fX8_runs_44 ms_fu y1 y2 y3 y4 y5 (σ 2 (ms_ix 7)) 0 σ)
def fX8_runs (p0 : Int32) (p1 : Int32) (p2 : Int32) (p3 : Int32) (σ : Mm) : Option (Mm) := ms_g (ms_in 2 9) (ms_g (ms_in 1 9) ((if (σ 2 (ms_ix 1)) ≤ (σ 2 (ms_ix 2)) then ms_g (ms_in 1 9) (fX8_runs_30 p0 p1 p2 p3 (σ 2 (ms_ix 1)) σ) else ms_g (ms_in 2 9) (fX8_runs_30 p0 p1 p2 p3 (σ 2 (ms_ix 2)) σ))))
/-! X8 lays ()V -/
def fX8_lays (σ : Mm) : Option (Mm) := (fX8_faultNow σ).bind (fun (r2, σ3) => (fX8_laysWinds σ3).bind (fun σ5 => (fX8_runs 240 0 (-1) 0 σ5).bind (fun σ7 => some σ7)))
/-! X8 isHour (I)Z -/
def fX8_isHour (p0 : Int32) : Option (Int32) := (fX8_in p0 0 239).bind (fun r2 => ms_g (r2 = 0 ∨ r2 = 1) (some r2))
/-! X8 levelOf (II)I -/
def fX8_levelOf (p0 : Int32) (p1 : Int32) (σ : Mm) : Option (Int32 × Mm) := (fX8_lays σ).bind (fun σ2 => (if p1 = 0 then ms_g (ms_in p0 240) (some (σ2 14 (ms_ix p0), σ2)) else ms_g (ms_in p0 240) (some (σ2 15 (ms_ix p0), σ2))))
/-! X8 level (II)I -/
def fX8_level (p0 : Int32) (p1 : Int32) (σ : Mm) : Option (Int32 × Mm) := (fX8_isHour p0).bind (fun r2 => (if r2 = 0 then some ((-2), σ) else (fX8_in p1 0 1).bind (fun r4 => (if r4 = 0 then some ((-2), σ) else (fX8_levelOf p0 p1 σ).bind (fun (r6, σ7) => some (r6, σ7))))))
/-! X8 stands (II)I -/
def fX8_stands (p0 : Int32) (p1 : Int32) (σ : Mm) : Option (Int32 × Mm) := (fX8_isThing p0 σ).bind (fun (r2, σ3) => (if r2 = 0 then some ((-2), σ3) else (fX8_isHour p1).bind (fun r5 => (if r5 = 0 then some ((-2), σ3) else (fX8_lays σ3).bind (fun σ7 => ms_g (ms_in p1 240) (some ((ms_shr (σ7 18 (ms_ix p1)) p0) &&& 1, σ7)))))))
/-! X8 stoodBy (II)I -/
def fX8_stoodBy_5 (σ : Mm) : Nat → Int32 → Int32 → Int32 → Int32 → Option (Int32)
  | 0, _, _, _, _ => none
  | n + 1, y1, y2, y3, y4 => (if (24 * y2) ≤ y4 then some y3 else ms_g (ms_in y4 240) (ms_lt (y3 + ((ms_shr (σ 18 (ms_ix y4)) y1) &&& 1)) (fun x1 => fX8_stoodBy_5 σ n y1 y2 x1 (y4 + 1))))
def fX8_stoodBy (σ : Mm) (p0 : Int32) (p1 : Int32) : Option (Int32) := fX8_stoodBy_5 σ ms_fu p0 p1 0 0
/-! X8 stoodOf (II)I -/
def fX8_stoodOf (p0 : Int32) (p1 : Int32) (σ : Mm) : Option (Int32 × Mm) := (fX8_lays σ).bind (fun σ2 => (fX8_stoodBy σ2 p0 p1).bind (fun r4 => some (r4, σ2)))
/-! X8 areDays (I)Z -/
def fX8_areDays (p0 : Int32) : Option (Int32) := (fX8_in p0 1 9).bind (fun r2 => ms_g (r2 = 0 ∨ r2 = 1) (some r2))
/-! X8 stood (II)I -/
def fX8_stood (p0 : Int32) (p1 : Int32) (σ : Mm) : Option (Int32 × Mm) := (fX8_isThing p0 σ).bind (fun (r2, σ3) => (if r2 = 0 then some ((-2), σ3) else (fX8_areDays p1).bind (fun r5 => (if r5 = 0 then some ((-2), σ3) else (fX8_stoodOf p0 p1 σ3).bind (fun (r7, σ8) => some (r7, σ8))))))
/-! X8 lostOf (I)I -/
def fX8_lostOf_8 : Nat → Int32 → Int32 → Int32 → Mm → Option (Int32 × Mm)
  | 0, _, _, _, _ => none
  | n + 1, y1, y2, y3, σ => (if (24 * y1) ≤ y3 then some (y2, σ) else ms_g (ms_in y3 240) (fX8_lostOf_8 n y1 (y2 + (σ 16 (ms_ix y3))) (y3 + 1) σ))
def fX8_lostOf (p0 : Int32) (σ : Mm) : Option (Int32 × Mm) := (fX8_lays σ).bind (fun σ2 => fX8_lostOf_8 ms_fu p0 0 0 σ2)
/-! X8 lost (I)I -/
def fX8_lost (p0 : Int32) (σ : Mm) : Option (Int32 × Mm) := (fX8_areDays p0).bind (fun r2 => (if r2 = 0 then some ((-2), σ) else (fX8_lostOf p0 σ).bind (fun (r4, σ5) => some (r4, σ5))))
/-! X8 flowOf (I)I -/
def fX8_flowOf (p0 : Int32) (σ : Mm) : Option (Int32 × Mm) := (fX8_lays σ).bind (fun σ2 => ms_g (ms_in p0 240) (some (σ2 17 (ms_ix p0), σ2)))
/-! X8 flow (I)I -/
def fX8_flow (p0 : Int32) (σ : Mm) : Option (Int32 × Mm) := (fX8_isHour p0).bind (fun r2 => (if r2 = 0 then some ((-10002), σ) else (fX8_flowOf p0 σ).bind (fun (r4, σ5) => some (r4, σ5))))
/-! X8 worstBy (I)I -/
def fX8_worstBy_32 (σ : Mm) (K4 : Int32 → Int32 → Int32 → Option (Int32)) (y1 : Int32) (y2 : Int32) (y3 : Int32) : Option (Int32) := K4 y1 y3 (y2 + 1)
def fX8_worstBy_4 (σ : Mm) : Nat → Int32 → Int32 → Int32 → Option (Int32)
  | 0, _, _, _ => none
  | n + 1, y1, y2, y3 => (if (24 * y1) ≤ y3 then some y2 else ms_g (ms_in y3 240) (ms_g (ms_in y2 240) ((if (σ 14 (ms_ix y2)) ≤ (σ 14 (ms_ix y3)) then fX8_worstBy_32 σ (fX8_worstBy_4 σ n) y1 y3 y2 else fX8_worstBy_32 σ (fX8_worstBy_4 σ n) y1 y3 y3))))
def fX8_worstBy (σ : Mm) (p0 : Int32) : Option (Int32) := fX8_worstBy_4 σ ms_fu p0 0 1
/-! X8 worstOf (II)I -/
def fX8_worstOf (p0 : Int32) (p1 : Int32) (σ : Mm) : Option (Int32 × Mm) := (fX8_lays σ).bind (fun σ2 => (fX8_worstBy σ2 p0).bind (fun r4 => (if p1 = 0 then ms_g (ms_in r4 240) (some (σ2 14 (ms_ix r4), σ2)) else some (r4, σ2))))
/-! X8 worst (II)I -/
def fX8_worst (p0 : Int32) (p1 : Int32) (σ : Mm) : Option (Int32 × Mm) := (fX8_areDays p0).bind (fun r2 => (if r2 = 0 then some ((-2), σ) else (fX8_in p1 0 1).bind (fun r4 => (if r4 = 0 then some ((-2), σ) else (fX8_worstOf p0 p1 σ).bind (fun (r6, σ7) => some (r6, σ7))))))
/-! X8 fewestOf (I)I -/
def fX8_fewestOf_92 (K52 : Int32 → Int32 → Int32 → Int32 → Int32 → Mm → Option (Int32 × Mm)) (y1 : Int32) (y2 : Int32) (y3 : Int32) (y4 : Int32) (y5 : Int32) (σ : Mm) : Option (Int32 × Mm) := K52 y1 y2 y3 y5 (y4 + 1) σ
def fX8_fewestOf_91 (K52 : Int32 → Int32 → Int32 → Int32 → Int32 → Mm → Option (Int32 × Mm)) (y1 : Int32) (y2 : Int32) (y3 : Int32) (y4 : Int32) (σ : Mm) : Option (Int32 × Mm) := fX8_fewestOf_92 K52 y1 y2 y3 y4 0 σ
def fX8_fewestOf_87 (K52 : Int32 → Int32 → Int32 → Int32 → Int32 → Mm → Option (Int32 × Mm)) (y1 : Int32) (y2 : Int32) (y3 : Int32) (y4 : Int32) (σ : Mm) : Option (Int32 × Mm) := fX8_fewestOf_92 K52 y1 y2 y3 y4 1 σ
def fX8_fewestOf_162 (K14 : Int32 → Int32 → Int32 → Mm → Option (Int32 × Mm)) (y1 : Int32) (y2 : Int32) (y3 : Int32) (σ : Mm) : Option (Int32 × Mm) := K14 y1 y2 (y3 + 1) σ
def fX8_fewestOf_161 (K14 : Int32 → Int32 → Int32 → Mm → Option (Int32 × Mm)) (y1 : Int32) (y2 : Int32) (y3 : Int32) (σ : Mm) : Option (Int32 × Mm) := fX8_fewestOf_162 K14 y1 y3 y2 σ
def fX8_fewestOf_123 (K14 : Int32 → Int32 → Int32 → Mm → Option (Int32 × Mm)) : Nat → Int32 → Int32 → Int32 → Int32 → Int32 → Mm → Option (Int32 × Mm)
  | 0, _, _, _, _, _, _ => none
  | n + 1, y1, y2, y3, y4, y5, σ => (if (24 * y1) ≤ y5 then (if y4 = 0 then fX8_fewestOf_161 K14 y1 y3 y3 σ else fX8_fewestOf_161 K14 y1 y3 y2 σ) else ms_g (ms_in y5 240) (fX8_fewestOf_123 K14 n y1 y2 y3 (y4 ||| (σ 18 (ms_ix y5))) (y5 + 1) σ))
def fX8_fewestOf_52 (K14 : Int32 → Int32 → Int32 → Mm → Option (Int32 × Mm)) : Nat → Int32 → Int32 → Int32 → Int32 → Int32 → Mm → Option (Int32 × Mm)
  | 0, _, _, _, _, _, _ => none
  | n + 1, y1, y2, y3, y4, y5, σ => (if (σ 0 3) ≤ y5 then (if y4 = 0 then fX8_fewestOf_162 K14 y1 y2 y3 σ else (fX8_runs (24 * y1) y3 (-1) 0 σ).bind (fun σ2 => fX8_fewestOf_123 K14 ms_fu y1 y2 y3 0 0 σ2)) else (if y4 = 0 then fX8_fewestOf_91 (fX8_fewestOf_52 K14 n) y1 y2 y3 y5 σ else (fX8_isIn y3 y5).bind (fun r4 => (if r4 = 0 then fX8_fewestOf_87 (fX8_fewestOf_52 K14 n) y1 y2 y3 y5 σ else ms_g (ms_in y5 6) ((if (σ 7 (ms_ix y5)) = 1 then fX8_fewestOf_91 (fX8_fewestOf_52 K14 n) y1 y2 y3 y5 σ else fX8_fewestOf_87 (fX8_fewestOf_52 K14 n) y1 y2 y3 y5 σ))))))
def fX8_fewestOf_47 (K14 : Int32 → Int32 → Int32 → Mm → Option (Int32 × Mm)) (y1 : Int32) (y2 : Int32) (y3 : Int32) (y4 : Int32) (σ : Mm) : Option (Int32 × Mm) := fX8_fewestOf_52 K14 ms_fu y1 y2 y3 y4 0 σ
def fX8_fewestOf_42 (K14 : Int32 → Int32 → Int32 → Mm → Option (Int32 × Mm)) (y1 : Int32) (y2 : Int32) (y3 : Int32) (σ : Mm) : Option (Int32 × Mm) := fX8_fewestOf_47 K14 y1 y2 y3 1 σ
def fX8_fewestOf_14 : Nat → Int32 → Int32 → Int32 → Mm → Option (Int32 × Mm)
  | 0, _, _, _, _ => none
  | n + 1, y1, y2, y3, σ => (if (ms_shl 1 (σ 0 3)) ≤ y3 then some (y2, σ) else (if y2 = (-1) then fX8_fewestOf_42 (fX8_fewestOf_14 n) y1 y2 y3 σ else (fX8_ones y3).bind (fun r2 => (fX8_ones y2).bind (fun r4 => (if r4 ≤ r2 then fX8_fewestOf_47 (fX8_fewestOf_14 n) y1 y2 y3 0 σ else fX8_fewestOf_42 (fX8_fewestOf_14 n) y1 y2 y3 σ)))))
def fX8_fewestOf (p0 : Int32) (σ : Mm) : Option (Int32 × Mm) := (fX8_faultNow σ).bind (fun (r2, σ3) => (fX8_laysWinds σ3).bind (fun σ5 => fX8_fewestOf_14 ms_fu p0 (-1) 0 σ5))
/-! X8 fewest (I)I -/
def fX8_fewest (p0 : Int32) (σ : Mm) : Option (Int32 × Mm) := (fX8_areDays p0).bind (fun r2 => (if r2 = 0 then some ((-2), σ) else (fX8_fewestOf p0 σ).bind (fun (r4, σ5) => some (r4, σ5))))
/-! X8 placeOf (II)I -/
def fX8_placeOf_107 (K20 : Int32 → Int32 → Int32 → Int32 → Int32 → Int32 → Mm → Option (Int32 × Mm)) (y1 : Int32) (y2 : Int32) (y3 : Int32) (y4 : Int32) (y5 : Int32) (y6 : Int32) (σ : Mm) : Option (Int32 × Mm) := K20 y1 y2 y3 y4 y5 (y6 + 1) σ
def fX8_placeOf_105 (K20 : Int32 → Int32 → Int32 → Int32 → Int32 → Int32 → Mm → Option (Int32 × Mm)) (y1 : Int32) (y2 : Int32) (y3 : Int32) (y4 : Int32) (y5 : Int32) (y6 : Int32) (σ : Mm) : Option (Int32 × Mm) := fX8_placeOf_107 K20 y1 y2 y3 y4 y6 y5 σ
def fX8_placeOf_89 (K20 : Int32 → Int32 → Int32 → Int32 → Int32 → Int32 → Mm → Option (Int32 × Mm)) (y1 : Int32) (y2 : Int32) (y3 : Int32) (y4 : Int32) (y5 : Int32) (y6 : Int32) (y7 : Int32) (σ : Mm) : Option (Int32 × Mm) := (if y6 ≤ y4 then fX8_placeOf_105 K20 y1 y2 y3 y7 y5 y4 σ else fX8_placeOf_105 K20 y1 y2 y3 y7 y5 y6 σ)
def fX8_placeOf_20 : Nat → Int32 → Int32 → Int32 → Int32 → Int32 → Int32 → Mm → Option (Int32 × Mm)
  | 0, _, _, _, _, _, _, _ => none
  | n + 1, y1, y2, y3, y4, y5, y6, σ => (if 9 ≤ y6 then ms_lt (ms_st σ 0 10 y3) (fun σ1 => (if y2 = 0 then some (y4, σ1) else some (y5, σ1))) else (fX8_isIn y3 y6).bind (fun r3 => (if r3 = 0 then ms_lt (ms_st σ 0 10 (y3 ||| (ms_shl 1 y6))) (fun σ4 => (fX8_laysWinds σ4).bind (fun σ6 => (fX8_runs (24 * y1) 0 (-1) 0 σ6).bind (fun σ8 => (fX8_worstBy σ8 y1).bind (fun r10 => ms_g (ms_in r10 240) ((if (σ8 14 (ms_ix r10)) ≤ y5 then fX8_placeOf_89 (fX8_placeOf_20 n) y1 y2 y3 y5 y6 (σ8 14 (ms_ix r10)) y4 σ8 else fX8_placeOf_89 (fX8_placeOf_20 n) y1 y2 y3 y5 y6 (σ8 14 (ms_ix r10)) y6 σ8)))))) else fX8_placeOf_107 (fX8_placeOf_20 n) y1 y2 y3 y4 y5 y6 σ)))
def fX8_placeOf (p0 : Int32) (p1 : Int32) (σ : Mm) : Option (Int32 × Mm) := (fX8_faultNow σ).bind (fun (r2, σ3) => fX8_placeOf_20 ms_fu p0 p1 (σ3 0 10) (-1) (-1) 0 σ3)
/-! X8 place (II)I -/
def fX8_place (p0 : Int32) (p1 : Int32) (σ : Mm) : Option (Int32 × Mm) := (fX8_areDays p0).bind (fun r2 => (if r2 = 0 then some ((-2), σ) else (fX8_in p1 0 1).bind (fun r4 => (if r4 = 0 then some ((-2), σ) else (fX8_placeOf p0 p1 σ).bind (fun (r6, σ7) => some (r6, σ7))))))
/-! X8 mayWait (I)Z -/
def fX8_mayWait (σ : Mm) (p0 : Int32) : Option (Int32) := ms_g (ms_in p0 7) ((if (σ 6 (ms_ix p0)) = 0 then ms_g (ms_in p0 6) ((if (σ 7 (ms_ix p0)) = 0 then some 1 else some 0)) else some 0))
/-! X8 best (I)I -/
def fX8_best_78 (K35 : Int32 → Int32 → Int32 → Mm → Option (Int32 × Mm)) (y1 : Int32) (y2 : Int32) (y3 : Int32) (σ : Mm) : Option (Int32 × Mm) := K35 y1 y2 (y3 + 1) σ
def fX8_best_256 (K219 : Int32 → Int32 → Int32 → Int32 → Int32 → Int32 → Int32 → Int32 → Int32 → Mm → Option (Int32 × Mm)) (y1 : Int32) (y2 : Int32) (y3 : Int32) (y4 : Int32) (y5 : Int32) (y6 : Int32) (y7 : Int32) (y8 : Int32) (y9 : Int32) (y10 : Int32) (y11 : Int32) (σ : Mm) : Option (Int32 × Mm) := K219 y1 y2 y3 y4 y5 y6 (y11 + y10) (y7 + y9) (y8 + 1) σ
def fX8_best_339 (K150 : Int32 → Int32 → Int32 → Int32 → Int32 → Int32 → Mm → Option (Int32 × Mm)) (y1 : Int32) (y2 : Int32) (y3 : Int32) (y4 : Int32) (y5 : Int32) (y6 : Int32) (σ : Mm) : Option (Int32 × Mm) := K150 y1 y2 y3 y4 y5 (y6 + 1) σ
def fX8_best_310 (K150 : Int32 → Int32 → Int32 → Int32 → Int32 → Int32 → Mm → Option (Int32 × Mm)) : Nat → Int32 → Int32 → Int32 → Int32 → Int32 → Int32 → Int32 → Mm → Option (Int32 × Mm)
  | 0, _, _, _, _, _, _, _, _ => none
  | n + 1, y1, y2, y3, y4, y5, y6, y7, σ => (if (σ 0 3) ≤ y7 then fX8_best_339 K150 y1 y2 y3 y4 y5 y6 σ else ms_g (ms_in y7 6) (ms_g (ms_in y7 6) (ms_lt (ms_st σ 21 (ms_ix y7) (σ 8 (ms_ix y7))) (fun σ1 => fX8_best_310 K150 n y1 y2 y3 y4 y5 y6 (y7 + 1) σ1))))
def fX8_best_299 (K150 : Int32 → Int32 → Int32 → Int32 → Int32 → Int32 → Mm → Option (Int32 × Mm)) (y1 : Int32) (y2 : Int32) (y3 : Int32) (y4 : Int32) (y5 : Int32) (y6 : Int32) (σ : Mm) : Option (Int32 × Mm) := fX8_best_310 K150 ms_fu y1 y2 y3 y5 y6 y4 0 σ
def fX8_best_219 (K150 : Int32 → Int32 → Int32 → Int32 → Int32 → Int32 → Mm → Option (Int32 × Mm)) : Nat → Int32 → Int32 → Int32 → Int32 → Int32 → Int32 → Int32 → Int32 → Int32 → Mm → Option (Int32 × Mm)
  | 0, _, _, _, _, _, _, _, _, _, _ => none
  | n + 1, y1, y2, y3, y4, y5, y6, y7, y8, y9, σ => (if (σ 0 3) ≤ y9 then (if y4 = (-1) then fX8_best_299 K150 y1 y2 y3 y6 y7 y8 σ else (if y7 < y4 then fX8_best_299 K150 y1 y2 y3 y6 y7 y8 σ else (if y7 = y4 then (if y5 ≤ y8 then fX8_best_339 K150 y1 y2 y3 y4 y5 y6 σ else fX8_best_299 K150 y1 y2 y3 y6 y7 y8 σ) else fX8_best_339 K150 y1 y2 y3 y4 y5 y6 σ))) else (fX8_stoodBy σ y9 2).bind (fun r2 => ms_g (ms_in y9 7) ((if (σ 6 (ms_ix y9)) = 1 then fX8_best_256 (fX8_best_219 K150 n) y1 y2 y3 y4 y5 y6 y8 y9 r2 r2 y7 σ else fX8_best_256 (fX8_best_219 K150 n) y1 y2 y3 y4 y5 y6 y8 y9 r2 0 y7 σ))))
def fX8_best_166 (K150 : Int32 → Int32 → Int32 → Int32 → Int32 → Int32 → Mm → Option (Int32 × Mm)) : Nat → Int32 → Int32 → Int32 → Int32 → Int32 → Int32 → Int32 → Int32 → Mm → Option (Int32 × Mm)
  | 0, _, _, _, _, _, _, _, _, _ => none
  | n + 1, y1, y2, y3, y4, y5, y6, y7, y8, σ => (if y8 < 0 then (fX8_runs 48 0 (-1) 0 σ).bind (fun σ2 => fX8_best_219 K150 ms_fu y1 y2 y3 y4 y5 y6 0 0 0 σ2) else ms_g (ms_in y8 6) (ms_g (ms_in (σ 19 (ms_ix y8)) 6) (ms_lt (ms_st σ 8 (ms_ix (σ 19 (ms_ix y8))) (ms_rem y7 24)) (fun σ3 => fX8_best_166 K150 n y1 y2 y3 y4 y5 y6 (y7 / 24) (y8 + (-1)) σ3))))
def fX8_best_348 : Nat → Int32 → Int32 → Int32 → Int32 → Mm → Option (Int32 × Mm)
  | 0, _, _, _, _, _ => none
  | n + 1, y1, y2, y3, y4, σ => (if (σ 0 3) ≤ y4 then (if y1 = (-1) then some (y2, σ) else (if y1 = (-2) then some (y3, σ) else ms_g (ms_in y1 6) (some (σ 21 (ms_ix y1), σ)))) else ms_g (ms_in y4 6) (ms_g (ms_in y4 6) (ms_lt (ms_st σ 8 (ms_ix y4) (σ 20 (ms_ix y4))) (fun σ1 => fX8_best_348 n y1 y2 y3 (y4 + 1) σ1))))
def fX8_best_150 : Nat → Int32 → Int32 → Int32 → Int32 → Int32 → Int32 → Mm → Option (Int32 × Mm)
  | 0, _, _, _, _, _, _, _ => none
  | n + 1, y1, y2, y3, y4, y5, y6, σ => (if y3 ≤ y6 then fX8_best_348 ms_fu y1 y4 y5 0 σ else fX8_best_166 (fX8_best_150 n) ms_fu y1 y2 y3 y4 y5 y6 y6 (y2 - 1) σ)
def fX8_best_139 (y1 : Int32) (y2 : Int32) (y3 : Int32) (σ : Mm) : Option (Int32 × Mm) := fX8_best_150 ms_fu y1 y2 y3 (-1) 0 0 σ
def fX8_best_107 (y1 : Int32) (y2 : Int32) (σ : Mm) : Option (Int32 × Mm) := (if y2 = 0 then fX8_best_139 y1 y2 1 σ else (if y2 = 1 then fX8_best_139 y1 y2 24 σ else (if y2 = 2 then fX8_best_139 y1 y2 576 σ else fX8_best_139 y1 y2 13824 σ)))
def fX8_best_35 : Nat → Int32 → Int32 → Int32 → Mm → Option (Int32 × Mm)
  | 0, _, _, _, _ => none
  | n + 1, y1, y2, y3, σ => (if (σ 0 3) ≤ y3 then (if y2 ≤ 3 then (if y1 < 0 then fX8_best_107 y1 y2 σ else (fX8_mayWait σ y1).bind (fun r2 => (if r2 = 0 then some ((-3), σ) else fX8_best_107 y1 y2 σ))) else some ((-4), σ)) else ms_g (ms_in y3 6) (ms_g (ms_in y3 6) (ms_lt (ms_st σ 20 (ms_ix y3) (σ 8 (ms_ix y3))) (fun σ3 => (fX8_mayWait σ3 y3).bind (fun r5 => (if r5 = 0 then fX8_best_78 (fX8_best_35 n) y1 y2 y3 σ3 else ms_g (ms_in y2 6) (ms_lt (ms_st σ3 19 (ms_ix y2) y3) (fun σ6 => fX8_best_78 (fX8_best_35 n) y1 (y2 + 1) y3 σ6))))))))
def fX8_best_21 (y1 : Int32) (σ : Mm) : Option (Int32 × Mm) := (fX8_faultNow σ).bind (fun (r2, σ3) => (fX8_laysWinds σ3).bind (fun σ5 => fX8_best_35 ms_fu y1 0 0 σ5))
def fX8_best (p0 : Int32) (σ : Mm) : Option (Int32 × Mm) := (fX8_in p0 (-2) (-1)).bind (fun r2 => (if r2 = 0 then (fX8_isThing p0 σ).bind (fun (r4, σ5) => (if r4 = 0 then some ((-2), σ5) else fX8_best_21 p0 σ5)) else fX8_best_21 p0 σ))
/-! X8 lastsNow ()I -/
def fX8_lastsNow_6 : Nat → Int32 → Mm → Option (Int32 × Mm)
  | 0, _, _ => none
  | n + 1, y1, σ => (if 240 ≤ y1 then some ((-1), σ) else ms_g (ms_in y1 240) ((if (σ 18 (ms_ix y1)) = 0 then fX8_lastsNow_6 n (y1 + 1) σ else some (y1, σ))))
def fX8_lastsNow (σ : Mm) : Option (Int32 × Mm) := (fX8_lays σ).bind (fun σ2 => fX8_lastsNow_6 ms_fu 0 σ2)
/-! X8 lasts ()I -/
def fX8_lasts (σ : Mm) : Option (Int32 × Mm) := (fX8_lastsNow σ).bind (fun (r2, σ3) => some (r2, σ3))
/-! X8 seen (II)I -/
def fX8_seen (p0 : Int32) (p1 : Int32) (σ : Mm) : Option (Int32 × Mm) := (fX8_isHour p0).bind (fun r2 => (if r2 = 0 then some ((-2), σ) else (fX8_in p1 0 999).bind (fun r4 => (if r4 = 0 then some ((-2), σ) else (if (σ 0 25) = 12 then some ((-4), σ) else ms_g (ms_in (σ 0 25) 12) (ms_lt (ms_st σ 22 (ms_ix (σ 0 25)) p0) (fun σ5 => ms_g (ms_in (σ5 0 25) 12) (ms_lt (ms_st σ5 23 (ms_ix (σ5 0 25)) p1) (fun σ6 => ms_lt (ms_st σ6 0 25 ((σ6 0 25) + 1)) (fun σ7 => some (σ7 0 25, σ7)))))))))))
/-! X8 forget ()I -/
def fX8_forget (σ : Mm) : Option (Int32 × Mm) := ms_lt (ms_st σ 0 25 0) (fun σ1 => some (σ 0 25, σ1))
/-! X8 unlikeBy ()I -/
def fX8_unlikeBy_38 (σ : Mm) (K4 : Int32 → Int32 → Option (Int32)) (y1 : Int32) (y2 : Int32) (y3 : Int32) : Option (Int32) := K4 (y3 + y2) (y1 + 1)
def fX8_unlikeBy_4 (σ : Mm) : Nat → Int32 → Int32 → Option (Int32)
  | 0, _, _ => none
  | n + 1, y1, y2 => (if (σ 0 25) ≤ y2 then some y1 else ms_g (ms_in y2 12) (ms_g (ms_in (σ 22 (ms_ix y2)) 240) (ms_g (ms_in y2 12) ((if (σ 14 (ms_ix (σ 22 (ms_ix y2)))) = (σ 23 (ms_ix y2)) then fX8_unlikeBy_38 σ (fX8_unlikeBy_4 σ n) y2 0 y1 else fX8_unlikeBy_38 σ (fX8_unlikeBy_4 σ n) y2 1 y1)))))
def fX8_unlikeBy (σ : Mm) : Option (Int32) := fX8_unlikeBy_4 σ ms_fu 0 0
/-! X8 unlikeNow ()I -/
def fX8_unlikeNow (σ : Mm) : Option (Int32 × Mm) := (fX8_lays σ).bind (fun σ2 => (fX8_unlikeBy σ2).bind (fun r4 => some (r4, σ2)))
/-! X8 unlike ()I -/
def fX8_unlike (σ : Mm) : Option (Int32 × Mm) := (fX8_unlikeNow σ).bind (fun (r2, σ3) => some (r2, σ3))
/-! X8 thief (I)I -/
def fX8_thief_109 (K39 : Int32 → Int32 → Int32 → Int32 → Int32 → Mm → Option (Int32 × Mm)) (y1 : Int32) (y2 : Int32) (y3 : Int32) (y4 : Int32) (y5 : Int32) (σ : Mm) : Option (Int32 × Mm) := K39 y1 y2 y5 y3 (y4 + 1) σ
def fX8_thief_107 (K39 : Int32 → Int32 → Int32 → Int32 → Int32 → Mm → Option (Int32 × Mm)) (y1 : Int32) (y2 : Int32) (y3 : Int32) (y4 : Int32) (y5 : Int32) (σ : Mm) : Option (Int32 × Mm) := fX8_thief_109 K39 y1 y2 y4 y5 y3 σ
def fX8_thief_83 (K39 : Int32 → Int32 → Int32 → Int32 → Int32 → Mm → Option (Int32 × Mm)) (y1 : Int32) (y2 : Int32) (y3 : Int32) (y4 : Int32) (y5 : Int32) (y6 : Int32) (y7 : Int32) (σ : Mm) : Option (Int32 × Mm) := (if y5 = 0 then fX8_thief_107 K39 y1 (y7 + y6) y2 y3 y4 σ else (if y2 = (-1) then fX8_thief_109 K39 y1 (y7 + y6) y3 y4 ((100 * y3) + y4) σ else fX8_thief_107 K39 y1 (y7 + y6) y2 y3 y4 σ))
def fX8_thief_70 (K39 : Int32 → Int32 → Int32 → Int32 → Int32 → Mm → Option (Int32 × Mm)) (y1 : Int32) (y2 : Int32) (y3 : Int32) (y4 : Int32) (y5 : Int32) (y6 : Int32) (σ : Mm) : Option (Int32 × Mm) := (if y6 = 0 then fX8_thief_83 K39 y1 y3 y4 y5 y6 0 y2 σ else fX8_thief_83 K39 y1 y3 y4 y5 y6 1 y2 σ)
def fX8_thief_39 (K29 : Int32 → Int32 → Int32 → Int32 → Mm → Option (Int32 × Mm)) : Nat → Int32 → Int32 → Int32 → Int32 → Int32 → Mm → Option (Int32 × Mm)
  | 0, _, _, _, _, _, _ => none
  | n + 1, y1, y2, y3, y4, y5, σ => (if 41 ≤ y5 then K29 y1 y2 y3 (y4 + 1) σ else (fX8_runs 240 0 y4 y5 σ).bind (fun σ2 => (fX8_unlikeBy σ2).bind (fun r4 => (if r4 = 0 then fX8_thief_70 (fX8_thief_39 K29 n) y1 y2 y3 y4 y5 1 σ2 else fX8_thief_70 (fX8_thief_39 K29 n) y1 y2 y3 y4 y5 0 σ2))))
def fX8_thief_29 : Nat → Int32 → Int32 → Int32 → Int32 → Mm → Option (Int32 × Mm)
  | 0, _, _, _, _, _ => none
  | n + 1, y1, y2, y3, y4, σ => (if 24 ≤ y4 then (if y1 = 0 then some (y2, σ) else some (y3, σ)) else fX8_thief_39 (fX8_thief_29 n) ms_fu y1 y2 y3 y4 1 σ)
def fX8_thief (p0 : Int32) (σ : Mm) : Option (Int32 × Mm) := (fX8_in p0 0 1).bind (fun r2 => (if r2 = 0 then some ((-2), σ) else (fX8_faultNow σ).bind (fun (r4, σ5) => (fX8_laysWinds σ5).bind (fun σ7 => fX8_thief_29 ms_fu p0 0 (-1) 0 σ7))))
/-! X8 robbedOf (III)I -/
def fX8_robbedOf (p0 : Int32) (p1 : Int32) (p2 : Int32) (σ : Mm) : Option (Int32 × Mm) := (fX8_faultNow σ).bind (fun (r2, σ3) => (fX8_laysWinds σ3).bind (fun σ5 => (fX8_runs 240 0 p0 p1 σ5).bind (fun σ7 => ms_g (ms_in p2 240) (some (σ7 14 (ms_ix p2), σ7)))))
/-! X8 robbed (III)I -/
def fX8_robbed (p0 : Int32) (p1 : Int32) (p2 : Int32) (σ : Mm) : Option (Int32 × Mm) := (fX8_in p0 0 23).bind (fun r2 => (if r2 = 0 then some ((-2), σ) else (fX8_in p1 0 40).bind (fun r4 => (if r4 = 0 then some ((-2), σ) else (fX8_isHour p2).bind (fun r6 => (if r6 = 0 then some ((-2), σ) else (fX8_robbedOf p0 p1 p2 σ).bind (fun (r8, σ9) => some (r8, σ9))))))))
/-! X8 sheet (III)I -/
def fX8_sheet_59 : Nat → Int32 → Int32 → Int32 → Mm → Option (Int32 × Mm)
  | 0, _, _, _, _ => none
  | n + 1, y1, y2, y3, σ => (if 48 ≤ y3 then some (y2, σ) else ms_g (ms_in ((48 * y1) + y3) 192) (ms_lt (ms_st σ 27 (ms_ix ((48 * y1) + y3)) 0) (fun σ1 => fX8_sheet_59 n y1 y2 (y3 + 1) σ1)))
def fX8_sheet (p0 : Int32) (p1 : Int32) (p2 : Int32) (σ : Mm) : Option (Int32 × Mm) := (fX8_isSheet p0).bind (fun r2 => (if r2 = 0 then some ((-2), σ) else (fX8_in p1 0 2).bind (fun r4 => (if r4 = 0 then some ((-2), σ) else (if p2 ≤ 48 then (if 0 ≤ p2 then ms_g (ms_in p0 4) (ms_lt (ms_st σ 24 (ms_ix p0) 1) (fun σ5 => ms_g (ms_in p0 4) (ms_lt (ms_st σ5 25 (ms_ix p0) p1) (fun σ6 => ms_g (ms_in p0 4) (ms_lt (ms_st σ6 26 (ms_ix p0) p2) (fun σ7 => fX8_sheet_59 ms_fu p0 p2 0 σ7)))))) else (fX8_meets 5 σ).bind (fun (r9, σ10) => some (r9, σ10))) else some ((-2), σ))))))
/-! X8 lose (I)I -/
def fX8_lose (p0 : Int32) (σ : Mm) : Option (Int32 × Mm) := (fX8_isSheet p0).bind (fun r2 => (if r2 = 0 then some ((-2), σ) else ms_g (ms_in p0 4) ((if (σ 24 (ms_ix p0)) = 0 then (fX8_meets 1 σ).bind (fun (r5, σ6) => some (r5, σ6)) else ms_g (ms_in p0 4) (ms_lt (ms_st σ 24 (ms_ix p0) 0) (fun σ3 => ms_g (ms_in p0 4) (some (σ3 26 (ms_ix p0), σ3))))))))
/-! X8 lacks (III)I -/
def fX8_lacks (σ : Mm) (p0 : Int32) (p1 : Int32) (p2 : Int32) : Option (Int32) := ms_g (ms_in p0 4) ((if (σ 24 (ms_ix p0)) = 0 then some 1 else ms_g (ms_in p0 4) ((if (σ 25 (ms_ix p0)) = p1 then ms_g (ms_in p0 4) ((fX8_in p2 0 ((σ 26 (ms_ix p0)) - 1)).bind (fun r2 => (if r2 = 0 then some 2 else some 0))) else some 3))))
/-! X8 keep (III)V -/
def fX8_keep (p0 : Int32) (p1 : Int32) (p2 : Int32) (σ : Mm) : Option (Mm) := ms_g (ms_in p0 4) ((if (σ 25 (ms_ix p0)) = 0 then ms_g (ms_in ((48 * p0) + p1) 192) (ms_lt (ms_st σ 27 (ms_ix ((48 * p0) + p1)) (p2.toInt8.toInt32)) (fun σ3 => some σ3)) else ms_g (ms_in p0 4) ((if (σ 25 (ms_ix p0)) = 1 then ms_g (ms_in ((48 * p0) + p1) 192) (ms_lt (ms_st σ 27 (ms_ix ((48 * p0) + p1)) (p2.toInt16.toInt32)) (fun σ2 => some σ2)) else ms_g (ms_in ((48 * p0) + p1) 192) (ms_lt (ms_st σ 27 (ms_ix ((48 * p0) + p1)) p2) (fun σ1 => some σ1))))))
/-! X8 put (IIII)I -/
def fX8_put (p0 : Int32) (p1 : Int32) (p2 : Int32) (p3 : Int32) (σ : Mm) : Option (Int32 × Mm) := (fX8_isSheet p0).bind (fun r2 => (if r2 = 0 then some ((-2), σ) else (fX8_in p1 0 2).bind (fun r4 => (if r4 = 0 then some ((-2), σ) else (fX8_lacks σ p0 p1 p2).bind (fun r6 => (if r6 ≤ 0 then (fX8_keep p0 p2 p3 σ).bind (fun σ8 => some (1, σ8)) else (fX8_meets r6 σ).bind (fun (r10, σ11) => some (r10, σ11))))))))
/-! X8 get (III)I -/
def fX8_get (p0 : Int32) (p1 : Int32) (p2 : Int32) (σ : Mm) : Option (Int32 × Mm) := (fX8_isSheet p0).bind (fun r2 => (if r2 = 0 then some ((-2147483648), σ) else (fX8_in p1 0 2).bind (fun r4 => (if r4 = 0 then some ((-2147483648), σ) else (fX8_lacks σ p0 p1 p2).bind (fun r6 => (if r6 ≤ 0 then ms_g (ms_in ((48 * p0) + p2) 192) (some (σ 27 (ms_ix ((48 * p0) + p2)), σ)) else ms_lt (ms_st σ 0 33 r6) (fun σ7 => some ((-2147483648), σ7))))))))
/-! X8 copy (IIIII)I -/
def fX8_copy_35 (σ : Mm) : Option (Int32 × Mm) := (fX8_meets 1 σ).bind (fun (r2, σ3) => some (r2, σ3))
def fX8_copy_111 (σ : Mm) : Option (Int32 × Mm) := (fX8_meets 2 σ).bind (fun (r2, σ3) => some (r2, σ3))
def fX8_copy_157 : Nat → Int32 → Int32 → Int32 → Int32 → Mm → Option (Int32 × Mm)
  | 0, _, _, _, _, _ => none
  | n + 1, y1, y2, y3, y4, σ => (if y3 ≤ y4 then some (1, σ) else ms_g (ms_in y4 48) (ms_g (ms_in (((48 * y1) + y2) + y4) 192) (ms_lt (ms_st σ 27 (ms_ix (((48 * y1) + y2) + y4)) (σ 28 (ms_ix y4))) (fun σ1 => fX8_copy_157 n y1 y2 y3 (y4 + 1) σ1))))
def fX8_copy_120 : Nat → Int32 → Int32 → Int32 → Int32 → Int32 → Int32 → Mm → Option (Int32 × Mm)
  | 0, _, _, _, _, _, _, _ => none
  | n + 1, y1, y2, y3, y4, y5, y6, σ => (if y5 ≤ y6 then fX8_copy_157 ms_fu y3 y4 y5 0 σ else ms_g (ms_in (((48 * y1) + y2) + y6) 192) (ms_g (ms_in y6 48) (ms_lt (ms_st σ 28 (ms_ix y6) (σ 27 (ms_ix (((48 * y1) + y2) + y6)))) (fun σ1 => fX8_copy_120 n y1 y2 y3 y4 y5 (y6 + 1) σ1))))
def fX8_copy (p0 : Int32) (p1 : Int32) (p2 : Int32) (p3 : Int32) (p4 : Int32) (σ : Mm) : Option (Int32 × Mm) := (fX8_isSheet p0).bind (fun r2 => (if r2 = 0 then some ((-2), σ) else (fX8_isSheet p2).bind (fun r4 => (if r4 = 0 then some ((-2), σ) else ms_g (ms_in p0 4) ((if (σ 24 (ms_ix p0)) = 0 then fX8_copy_35 σ else ms_g (ms_in p2 4) ((if (σ 24 (ms_ix p2)) = 0 then fX8_copy_35 σ else ms_g (ms_in p0 4) (ms_g (ms_in p2 4) ((if (σ 25 (ms_ix p0)) = (σ 25 (ms_ix p2)) then (if p1 < 0 then fX8_copy_111 σ else (if p3 < 0 then fX8_copy_111 σ else (if p4 < 0 then fX8_copy_111 σ else ms_g (ms_in p0 4) ((if 0 < (lg_cmp ((((p1 : Int32)).toInt64) + (((p4 : Int32)).toInt64)) (((σ 26 (ms_ix p0) : Int32)).toInt64)) then fX8_copy_111 σ else ms_g (ms_in p2 4) ((if (lg_cmp ((((p3 : Int32)).toInt64) + (((p4 : Int32)).toInt64)) (((σ 26 (ms_ix p2) : Int32)).toInt64)) ≤ 0 then fX8_copy_120 ms_fu p0 p1 p2 p3 p4 0 σ else fX8_copy_111 σ))))))) else (fX8_meets 4 σ).bind (fun (r6, σ7) => some (r6, σ7)))))))))))))
/-! X8 write (II)I -/
def fX8_write_38 : Nat → Int32 → Int32 → Int32 → Mm → Option (Int32 × Mm)
  | 0, _, _, _, _ => none
  | n + 1, y1, y2, y3, σ => ms_g (ms_in y2 4) ((if (σ 26 (ms_ix y2)) ≤ y3 then some (y3, σ) else (if 240 ≤ (y1 + y3) then some (y3, σ) else ms_g (ms_in (y1 + y3) 240) ((fX8_keep y2 y3 (σ 14 (ms_ix (y1 + y3))) σ).bind (fun σ2 => fX8_write_38 n y1 y2 (y3 + 1) σ2)))))
def fX8_write (p0 : Int32) (p1 : Int32) (σ : Mm) : Option (Int32 × Mm) := (fX8_isHour p0).bind (fun r2 => (if r2 = 0 then some ((-2), σ) else (fX8_isSheet p1).bind (fun r4 => (if r4 = 0 then some ((-2), σ) else ms_g (ms_in p1 4) ((if (σ 24 (ms_ix p1)) = 0 then (fX8_meets 1 σ).bind (fun (r8, σ9) => some (r8, σ9)) else (fX8_lays σ).bind (fun σ6 => fX8_write_38 ms_fu p0 p1 0 σ6)))))))
/-! X8 sumOf (I)I -/
def fX8_sumOf_105 (y1 : Int32) (y2 : Int32) (σ : Mm) : Option (Int32 × Mm) := (if y1 = 0 then some (σ 0 3, σ) else (if y1 = 1 then (fX8_ones (σ 0 10)).bind (fun r2 => some (r2, σ)) else (if y1 = 2 then some (σ 0 11, σ) else some (y2, σ))))
def fX8_sumOf_77 : Nat → Int32 → Int32 → Int32 → Mm → Option (Int32 × Mm)
  | 0, _, _, _, _ => none
  | n + 1, y1, y2, y3, σ => (if 24 ≤ y3 then fX8_sumOf_105 y1 y2 σ else (if y1 = 7 then (fX8_woundAt σ y3).bind (fun r2 => fX8_sumOf_77 n y1 (y2 + r2) (y3 + 1) σ) else fX8_sumOf_105 y1 y2 σ))
def fX8_sumOf_74 (y1 : Int32) (y2 : Int32) (σ : Mm) : Option (Int32 × Mm) := fX8_sumOf_77 ms_fu y1 y2 0 σ
def fX8_sumOf_43 : Nat → Int32 → Int32 → Int32 → Mm → Option (Int32 × Mm)
  | 0, _, _, _, _ => none
  | n + 1, y1, y2, y3, σ => (if (σ 0 3) ≤ y3 then fX8_sumOf_74 y1 y2 σ else (if y1 = 6 then ms_g (ms_in y3 7) (fX8_sumOf_43 n y1 (y2 + (σ 6 (ms_ix y3))) (y3 + 1) σ) else fX8_sumOf_74 y1 y2 σ))
def fX8_sumOf_40 (y1 : Int32) (y2 : Int32) (σ : Mm) : Option (Int32 × Mm) := fX8_sumOf_43 ms_fu y1 y2 0 σ
def fX8_sumOf_10 : Nat → Int32 → Int32 → Int32 → Mm → Option (Int32 × Mm)
  | 0, _, _, _, _ => none
  | n + 1, y1, y2, y3, σ => (if (σ 0 11) ≤ y3 then fX8_sumOf_40 y1 y2 σ else (if y1 = 5 then ms_g (ms_in y3 9) (fX8_sumOf_10 n y1 (y2 + (σ 9 (ms_ix y3))) (y3 + 1) σ) else fX8_sumOf_40 y1 y2 σ))
def fX8_sumOf (p0 : Int32) (σ : Mm) : Option (Int32 × Mm) := (fX8_faultNow σ).bind (fun (r2, σ3) => fX8_sumOf_10 ms_fu p0 0 0 σ3)
/-! X8 count (I)I -/
def fX8_count (p0 : Int32) (σ : Mm) : Option (Int32 × Mm) := (if p0 = 0 then (fX8_sumOf p0 σ).bind (fun (r2, σ3) => some (r2, σ3)) else (if p0 = 1 then (fX8_sumOf p0 σ).bind (fun (r5, σ6) => some (r5, σ6)) else (if p0 = 2 then (fX8_sumOf p0 σ).bind (fun (r8, σ9) => some (r8, σ9)) else (if p0 = 3 then some (σ 0 0, σ) else (if p0 = 4 then some (σ 0 25, σ) else (if p0 = 5 then (fX8_sumOf p0 σ).bind (fun (r11, σ12) => some (r11, σ12)) else (if p0 = 6 then (fX8_sumOf p0 σ).bind (fun (r14, σ15) => some (r14, σ15)) else (if p0 = 7 then (fX8_sumOf p0 σ).bind (fun (r17, σ18) => some (r17, σ18)) else (if p0 = 8 then some (σ 0 33, σ) else some ((-2), σ))))))))))
/-! X8 digest ()J -/
def fX8_digest_56 (K45 : Int64 → Int32 → Mm → Option (Int64 × Mm)) : Nat → Int64 → Int32 → Int32 → Mm → Option (Int64 × Mm)
  | 0, _, _, _, _ => none
  | n + 1, y1, y2, y3, σ => (if 6 ≤ y3 then (fX8_stoodOf y2 2 σ).bind (fun (r2, σ3) => ms_lt ((31 * y1) + (((r2 : Int32)).toInt64)) (fun x4 => K45 x4 (y2 + 1) σ3)) else (fX8_thingOf σ y2 y3).bind (fun r6 => ms_lt ((31 * y1) + (((r6 : Int32)).toInt64)) (fun x7 => fX8_digest_56 K45 n x7 y2 (y3 + 1) σ)))
def fX8_digest_207 (K161 : Int64 → Int32 → Mm → Option (Int64 × Mm)) (y1 : Int64) (y2 : Int32) (y3 : Int32) (σ : Mm) : Option (Int64 × Mm) := (fX8_levelOf y3 0 σ).bind (fun (r2, σ3) => ms_lt ((31 * y1) + (((r2 : Int32)).toInt64)) (fun x4 => (fX8_levelOf y3 1 σ3).bind (fun (r6, σ7) => ms_lt ((31 * x4) + (((r6 : Int32)).toInt64)) (fun x8 => (fX8_flowOf y3 σ7).bind (fun (r10, σ11) => ms_lt ((31 * x8) + (((r10 : Int32)).toInt64)) (fun x12 => K161 x12 (y2 + 1) σ11))))))
def fX8_digest_161 : Nat → Int64 → Int32 → Mm → Option (Int64 × Mm)
  | 0, _, _, _ => none
  | n + 1, y1, y2, σ => (if 5 ≤ y2 then (fX8_lostOf 2 σ).bind (fun (r2, σ3) => ms_lt ((31 * y1) + (((r2 : Int32)).toInt64)) (fun x4 => (fX8_worstOf 3 0 σ3).bind (fun (r6, σ7) => ms_lt ((31 * x4) + (((r6 : Int32)).toInt64)) (fun x8 => (fX8_worstOf 3 1 σ7).bind (fun (r10, σ11) => ms_lt ((31 * x8) + (((r10 : Int32)).toInt64)) (fun x12 => (fX8_fewestOf 2 σ11).bind (fun (r14, σ15) => ms_lt ((31 * x12) + (((r14 : Int32)).toInt64)) (fun x16 => (fX8_placeOf 2 0 σ15).bind (fun (r18, σ19) => ms_lt ((31 * x16) + (((r18 : Int32)).toInt64)) (fun x20 => (fX8_placeOf 2 1 σ19).bind (fun (r22, σ23) => ms_lt ((31 * x20) + (((r22 : Int32)).toInt64)) (fun x24 => (fX8_lastsNow σ23).bind (fun (r26, σ27) => ms_lt ((31 * x24) + (((r26 : Int32)).toInt64)) (fun x28 => (fX8_unlikeNow σ27).bind (fun (r30, σ31) => ms_lt ((31 * x28) + (((r30 : Int32)).toInt64)) (fun x32 => (fX8_robbedOf 9 5 47 σ31).bind (fun (r34, σ35) => some ((31 * x32) + (((r34 : Int32)).toInt64), σ35)))))))))))))))))) else (if y2 = 0 then fX8_digest_207 (fX8_digest_161 n) y1 y2 0 σ else (if y2 = 1 then fX8_digest_207 (fX8_digest_161 n) y1 y2 7 σ else (if y2 = 2 then fX8_digest_207 (fX8_digest_161 n) y1 y2 23 σ else (if y2 = 3 then fX8_digest_207 (fX8_digest_161 n) y1 y2 100 σ else fX8_digest_207 (fX8_digest_161 n) y1 y2 239 σ)))))
def fX8_digest_106 : Nat → Int64 → Int32 → Mm → Option (Int64 × Mm)
  | 0, _, _, _ => none
  | n + 1, y1, y2, σ => (if (σ 0 11) ≤ y2 then (fX8_toilOf 0 σ).bind (fun (r2, σ3) => ms_lt ((31 * y1) + (((r2 : Int32)).toInt64)) (fun x4 => (fX8_toilOf 1 σ3).bind (fun (r6, σ7) => ms_lt ((31 * x4) + (((r6 : Int32)).toInt64)) (fun x8 => fX8_digest_161 ms_fu x8 0 σ7)))) else (fX8_goesOf σ y2).bind (fun r10 => ms_lt ((31 * y1) + (((r10 : Int32)).toInt64)) (fun x11 => fX8_digest_106 n x11 (y2 + 1) σ)))
def fX8_digest_45 : Nat → Int64 → Int32 → Mm → Option (Int64 × Mm)
  | 0, _, _, _ => none
  | n + 1, y1, y2, σ => (if (σ 0 3) ≤ y2 then fX8_digest_106 ms_fu y1 0 σ else fX8_digest_56 (fX8_digest_45 n) ms_fu y1 y2 0 σ)
def fX8_digest_6 : Nat → Int64 → Int32 → Mm → Option (Int64 × Mm)
  | 0, _, _, _ => none
  | n + 1, y1, y2, σ => (if 8 ≤ y2 then (fX8_faultNow σ).bind (fun (r2, σ3) => ms_lt ((31 * y1) + (((r2 : Int32)).toInt64)) (fun x4 => fX8_digest_45 ms_fu x4 0 σ3)) else (fX8_count y2 σ).bind (fun (r6, σ7) => ms_lt ((31 * y1) + (((r6 : Int32)).toInt64)) (fun x8 => fX8_digest_6 n x8 (y2 + 1) σ7)))
def fX8_digest (σ : Mm) : Option (Int64 × Mm) := fX8_digest_6 ms_fu 17 0 σ
