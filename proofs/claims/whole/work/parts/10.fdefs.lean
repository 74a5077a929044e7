-- the methods as functions: what each answers and what it leaves, none where the machine would not go on
abbrev FU : Nat := 100000
def slz (i : Nat) : Int := ((slen.getD i 0 : Nat) : Int)
def schz (i : Nat) (j : Int) : Int := schr i j.toNat
def cX_copyRow (N : Int) (a b : Int) (G : Hp) : Option Hp := cpyG 0 0 (min N N) N N (some (cpy2 G a 0 b 0 (min N N)))
def cTo_append_L3 (o : Int) (a1 : Int) : Nat → Int → Hp → Option (Hp)
  | 0, _, _ => none
  | n_3 + 1, x2_3, G_3 =>
  if x2_3 < 0 then some G_3 else (if G_3 o 1 < 600 then (gd (G_3 o 1) 600 (cTo_append_L3 o a1 n_3 (w32 (x2_3 + (-8))) (upd2 (upd2 G_3 (o + 1) (G_3 o 1) (w8 (iushr a1 x2_3))) o 1 (w32 (((upd2 G_3 (o + 1) (G_3 o 1) (w8 (iushr a1 x2_3))) o 1) + 1))))) else some G_3)
def cTo_append (o : Int) (a1 : Int) (G : Hp) : Option (Hp) :=
  cTo_append_L3 o a1 FU 24 G
def cX_feed (a1 : Int) (a2 : Int) (a3 : Int) (a4 : Int) (a5 : Int) (G : Hp) : Option (Int × Hp) :=
  if 600 < w32 ((G 1 1) + 20) then some ((-1), G) else ((cTo_append 1 a1 G).bind fun G23 => (cTo_append 1 a2 G23).bind fun G31 => (cTo_append 1 a3 G31).bind fun G39 => (cTo_append 1 a4 G39).bind fun G48 => (cTo_append 1 a5 G48).bind fun G57 => some (G57 1 1, G57))
def cX_end (a1 : Int) (G : Hp) : Option (Int × Hp) :=
  if a1 < 0 then some ((-1), G) else (if G 1 1 < a1 then some ((-1), G) else some (a1, upd2 G 1 1 a1))
def cNe_clear_L2 (o : Int) : Nat → Int → Hp → Option (Hp)
  | 0, _, _ => none
  | n_2 + 1, x1_2, G_2 =>
  if x1_2 < 10 then (gd x1_2 10 (cNe_clear_L2 o n_2 (w32 (x1_2 + 1)) (upd2 G_2 (o + 1) x1_2 0))) else some (upd2 G_2 o 3 0)
def cNe_clear (o : Int) (G : Hp) : Option (Hp) :=
  cNe_clear_L2 o FU 0 G
def cPa_clear_L24 (o : Int) : Nat → Int → Hp → Option (Hp)
  | 0, _, _ => none
  | n_24 + 1, x1_24, G_24 =>
  if x1_24 < 48 then (gd x1_24 48 (cPa_clear_L24 o n_24 (w32 (x1_24 + 1)) (upd2 G_24 (o + 7) x1_24 10))) else some G_24
def cPa_clear (o : Int) (G : Hp) : Option (Hp) :=
  (cNe_clear (o + 1) (upd2 (upd2 (upd2 G o 0 0) o 1 0) o 2 0)).bind fun G19 => cPa_clear_L24 o FU 0 G19
def cSc_byteAt (a1 : Int) (G : Hp) : Option (Int) :=
  if a1 < 0 then some (-1) else (if a1 < G 39 6 then (gd a1 600 (some (G 55 a1))) else some (-1))
def cSc_isLetter (a0 : Int) : Bool :=
  if 97 ≤ a0 then (if a0 ≤ 122 then true else false) else false
def cSc_isDigit (a0 : Int) : Bool :=
  if 48 ≤ a0 then (if a0 ≤ 57 then true else false) else false
def cSc_moveOverDigits_j70 (k5 : Hp → Option (Hp)) (s0_70 : Int) (G_70 : Hp) : Option (Hp) :=
  k5 (upd2 (upd2 G_70 39 10 s0_70) 39 7 (w32 (((upd2 G_70 39 10 s0_70) 39 7) + 1)))
def cSc_moveOverDigits_L5 (k86 : Hp → Option (Hp)) : Nat → Hp → Option (Hp)
  | 0, _ => none
  | n_5 + 1, G_5 =>
  if G_5 39 7 < G_5 39 6 then ((cSc_byteAt (G_5 39 7) G_5).bind fun v21 => if (cSc_isDigit v21) = true then (if w32 ((G_5 39 7) - (G_5 39 9)) < 2 then ((cSc_byteAt (G_5 39 7) G_5).bind fun v56 => cSc_moveOverDigits_j70 (cSc_moveOverDigits_L5 k86 n_5) (w32 ((w32 ((w32 (10 * (G_5 39 10))) + v56)) - 48)) G_5) else cSc_moveOverDigits_j70 (cSc_moveOverDigits_L5 k86 n_5) (G_5 39 10) G_5) else k86 G_5) else k86 G_5
def cSc_moveOverDigits (G : Hp) : Option (Hp) :=
  cSc_moveOverDigits_L5 (fun G_86 => if w32 ((G_86 39 7) - (G_86 39 9)) ≤ 2 then some (upd2 G_86 39 8 2) else some (upd2 G_86 39 8 4)) FU (upd2 G 39 10 0)
def cSc_move_L0 (k50 : Hp → Option (Hp)) : Nat → Hp → Option (Hp)
  | 0, _ => none
  | n_0 + 1, G_0 =>
  if G_0 39 7 < G_0 39 6 then ((cSc_byteAt (G_0 39 7) G_0).bind fun v16 => if v16 = 10 then cSc_move_L0 k50 n_0 (upd2 G_0 39 7 (w32 ((G_0 39 7) + 1))) else ((cSc_byteAt (G_0 39 7) G_0).bind fun v29 => if v29 = 32 then cSc_move_L0 k50 n_0 (upd2 G_0 39 7 (w32 ((G_0 39 7) + 1))) else k50 G_0)) else k50 G_0
def cSc_move_L96 : Nat → Hp → Option (Hp)
  | 0, _ => none
  | n_96 + 1, G_96 =>
  if G_96 39 7 < G_96 39 6 then ((cSc_byteAt (G_96 39 7) G_96).bind fun v112 => if (cSc_isLetter v112) = true then cSc_move_L96 n_96 (upd2 G_96 39 7 (w32 ((G_96 39 7) + 1))) else some G_96) else some G_96
def cSc_move (G : Hp) : Option (Hp) :=
  cSc_move_L0 (fun G_50 => if (upd2 G_50 39 9 (G_50 39 7)) 39 6 ≤ (upd2 G_50 39 9 (G_50 39 7)) 39 7 then some (upd2 (upd2 G_50 39 9 (G_50 39 7)) 39 8 0) else ((cSc_byteAt ((upd2 G_50 39 9 (G_50 39 7)) 39 7) (upd2 G_50 39 9 (G_50 39 7))).bind fun v82 => if (cSc_isLetter v82) = true then cSc_move_L96 FU (upd2 (upd2 G_50 39 9 (G_50 39 7)) 39 8 1) else ((cSc_byteAt ((upd2 G_50 39 9 (G_50 39 7)) 39 7) (upd2 G_50 39 9 (G_50 39 7))).bind fun v139 => if (cSc_isDigit v139) = true then ((cSc_moveOverDigits (upd2 G_50 39 9 (G_50 39 7))).bind fun G149 => some G149) else ((cSc_byteAt ((upd2 G_50 39 9 (G_50 39 7)) 39 7) (upd2 G_50 39 9 (G_50 39 7))).bind fun v161 => if v161 = 59 then some (upd2 (upd2 (upd2 G_50 39 9 (G_50 39 7)) 39 8 3) 39 7 (w32 (((upd2 (upd2 G_50 39 9 (G_50 39 7)) 39 8 3) 39 7) + 1))) else some (upd2 (upd2 (upd2 G_50 39 9 (G_50 39 7)) 39 8 4) 39 7 (w32 (((upd2 (upd2 G_50 39 9 (G_50 39 7)) 39 8 4) 39 7) + 1))))))) FU G
def cSc_spells_L22 (a1 : Nat) (G : Hp) (x2_22 : Int) : Nat → Int → Option (Bool)
  | 0, _ => none
  | n_22 + 1, x3_22 =>
  if x3_22 < x2_22 then ((cSc_byteAt (w32 ((G 39 9) + x3_22)) G).bind fun v34 => gd x3_22 (slz a1) (if v34 = schz a1 x3_22 then cSc_spells_L22 a1 G x2_22 n_22 (w32 (x3_22 + 1)) else some false)) else some true
def cSc_spells (a1 : Nat) (G : Hp) : Option (Bool) :=
  if w32 ((G 39 7) - (G 39 9)) = slz a1 then cSc_spells_L22 a1 G (slz a1) FU 0 else some false
def cSc_lineOf (a1 : Int) (G : Hp) : Option (Int) :=
  if G 39 8 = 1 then (if a1 = 0 then ((cSc_spells 0 G).bind fun v17 => if v17 = true then some 6 else ((cSc_spells 1 G).bind fun v31 => if v31 = true then some 7 else ((cSc_spells 2 G).bind fun v45 => if v45 = true then some 8 else ((cSc_spells 3 G).bind fun v59 => if v59 = true then some 9 else some (-1))))) else (if a1 = 1 then ((cSc_spells 4 G).bind fun v80 => if v80 = true then some 0 else ((cSc_spells 5 G).bind fun v93 => if v93 = true then some 1 else ((cSc_spells 6 G).bind fun v106 => if v106 = true then some 2 else ((cSc_spells 7 G).bind fun v119 => if v119 = true then some 3 else ((cSc_spells 8 G).bind fun v132 => if v132 = true then some 4 else ((cSc_spells 9 G).bind fun v145 => if v145 = true then some 5 else some (-1))))))) else ((cSc_spells 10 G).bind fun v160 => if v160 = true then some 10 else some (-1)))) else some (-1)
def cSc_breakOff (G : Hp) : Option (Hp) :=
  some (upd2 (upd2 G 39 3 1) 39 4 ((upd2 G 39 3 1) 39 9))
def cSc_isFull (a1 : Int) (G : Hp) : Option (Bool) :=
  if a1 = 6 then (if 8 ≤ G 40 1 then some true else some false) else if a1 = 7 then some false else if a1 = 8 then (if 6 ≤ G 40 2 then some true else some false) else if a1 = 9 then some false else if a1 = 10 then (if 8 ≤ G 52 0 then some true else some false) else (if 40 ≤ G 48 0 then some true else some false)
def cSc_note (a1 : Int) (a2 : Int) (G : Hp) : Option (Hp) :=
  if G 39 3 = 0 then some (upd2 (upd2 G 39 3 a1) 39 4 a2) else some G
def cSc_mayBe_j67 (a1 : Int) (a2 : Int) (G : Hp) (s0_67 : Int) : Option (Bool) :=
  if a2 = 1 then (if s0_67 = 0 then some true else (if G 56 1 = G 56 0 then some false else some true)) else some true
def cSc_mayBe_j46 (a1 : Int) (a2 : Int) (G : Hp) : Option (Bool) :=
  if a1 = 7 then cSc_mayBe_j67 a1 a2 G 1 else (if a1 = 3 then cSc_mayBe_j67 a1 a2 G 1 else (if a1 = 4 then cSc_mayBe_j67 a1 a2 G 1 else cSc_mayBe_j67 a1 a2 G 0))
def cSc_mayBe (a1 : Int) (a2 : Int) (G : Hp) : Option (Bool) :=
  gd a2 3 (gd (w32 ((w32 (3 * a1)) + a2)) 33 (if stg 1 (w32 ((w32 (3 * a1)) + a2)) < G 56 a2 then some false else (if a2 = 1 then (if a1 = 8 then (if 0 < G 56 1 then some true else some false) else cSc_mayBe_j46 a1 a2 G) else cSc_mayBe_j46 a1 a2 G)))
def cX_put (a0 : Int) (a1 : Int) (a2 : Int) : Int :=
  ior (iand a0 (ixor (ishl 15 (w32 (4 * a1))) (-1))) (ishl (iand a2 15) (w32 (4 * a1)))
def cPa_addPlace (o : Int) (a1 : Int) (G : Hp) : Option (Hp) :=
  if G o 1 < 8 then some (upd2 (upd2 G o 0 (cX_put (G o 0) (G o 1) a1)) o 1 (w32 (((upd2 G o 0 (cX_put (G o 0) (G o 1) a1)) o 1) + 1))) else some G
def cX_isWord (a0 : Int) : Bool :=
  if a0 < 0 then false else (if a0 < 10 then true else false)
def cNe_join (o : Int) (a1 : Int) (a2 : Int) (G : Hp) : Option (Hp) :=
  if (cX_isWord a1) = true then (if (cX_isWord a2) = true then (gd a1 10 (gd a1 10 (gd a2 10 (gd a2 10 (some (upd2 (upd2 (upd2 G (o + 1) a1 (ior (G (o + 1) a1) (ishl 1 a2))) (o + 1) a2 (ior ((upd2 G (o + 1) a1 (ior (G (o + 1) a1) (ishl 1 a2))) (o + 1) a2) (ishl 1 a1))) o 3 0)))))) else some G) else some G
def cPa_addReader (o : Int) (a1 : Int) (a2 : Int) (G : Hp) : Option (Hp) :=
  if G o 2 < 6 then (gd (G o 2) 6 (gd ((upd2 G (o + 5) (G o 2) a1) o 2) 6 (some (upd2 (upd2 (upd2 G (o + 5) (G o 2) a1) (o + 6) ((upd2 G (o + 5) (G o 2) a1) o 2) a2) o 2 (w32 (((upd2 (upd2 G (o + 5) (G o 2) a1) (o + 6) ((upd2 G (o + 5) (G o 2) a1) o 2) a2) o 2) + 1)))))) else some G
def cPa_want (o : Int) (a1 : Int) (a2 : Int) (a3 : Int) (G : Hp) : Option (Hp) :=
  if a1 < 0 then some G else (if a1 < 6 then (if a2 < 0 then some G else (if a2 < 8 then (gd (w32 ((w32 (8 * a1)) + a2)) 48 (some (upd2 G (o + 7) (w32 ((w32 (8 * a1)) + a2)) a3))) else some G)) else some G)
def cLg_add (o : Int) (a1 : Int) (a2 : Int) (G : Hp) : Option (Hp) :=
  if G o 0 < 8 then (gd (G o 0) 8 (gd ((upd2 G (o + 1) (G o 0) a1) o 0) 8 (some (upd2 (upd2 (upd2 G (o + 1) (G o 0) a1) (o + 2) ((upd2 G (o + 1) (G o 0) a1) o 0) a2) o 0 (w32 (((upd2 (upd2 G (o + 1) (G o 0) a1) (o + 2) ((upd2 G (o + 1) (G o 0) a1) o 0) a2) o 0) + 1)))))) else some G
def cWe_add (o : Int) (a1 : Int) (a2 : Int) (a3 : Int) (G : Hp) : Option (Hp) :=
  if G o 0 < 60 then (gd (G o 0) 60 (gd ((upd2 G (o + 1) (G o 0) a1) o 0) 60 (gd ((upd2 (upd2 G (o + 1) (G o 0) a1) (o + 2) ((upd2 G (o + 1) (G o 0) a1) o 0) a2) o 0) 60 (some (upd2 (upd2 (upd2 (upd2 G (o + 1) (G o 0) a1) (o + 2) ((upd2 G (o + 1) (G o 0) a1) o 0) a2) (o + 3) ((upd2 (upd2 G (o + 1) (G o 0) a1) (o + 2) ((upd2 G (o + 1) (G o 0) a1) o 0) a2) o 0) a3) o 0 (w32 (((upd2 (upd2 (upd2 G (o + 1) (G o 0) a1) (o + 2) ((upd2 G (o + 1) (G o 0) a1) o 0) a2) (o + 3) ((upd2 (upd2 G (o + 1) (G o 0) a1) (o + 2) ((upd2 G (o + 1) (G o 0) a1) o 0) a2) o 0) a3) o 0) + 1))))))) else some G
def cSc_keep_j223 (a1 : Int) (s0_223 : Int) (s1_223 : Int) (s2_223 : Int) (G_223 : Hp) : Option (Hp) :=
  (cWe_add 48 s2_223 s1_223 s0_223 G_223).bind fun G223 => some G223
def cSc_keep_j208 (a1 : Int) (x2_208 : Int) (s0_208 : Int) (s1_208 : Int) (G_208 : Hp) : Option (Hp) :=
  if 1 < x2_208 then cSc_keep_j223 a1 (G_208 56 1) s0_208 s1_208 G_208 else cSc_keep_j223 a1 (-1) s0_208 s1_208 G_208
def cSc_keep (a1 : Int) (G : Hp) : Option (Hp) :=
  if a1 = 6 then ((cPa_addPlace 40 (G 56 0) G).bind fun G46 => some G46) else if a1 = 7 then ((cNe_join 41 (G 56 0) (G 56 1) G).bind fun G71 => some G71) else if a1 = 8 then ((cPa_addReader 40 (G 56 0) (G 56 1) G).bind fun G93 => some G93) else if a1 = 9 then ((cPa_want 40 (G 56 0) (G 56 1) (G 56 2) G).bind fun G121 => some (upd2 (upd2 G121 39 12 (max (G121 39 12) (G121 56 0))) 39 13 (max ((upd2 G121 39 12 (max (G121 39 12) (G121 56 0))) 39 13) ((upd2 G121 39 12 (max (G121 39 12) (G121 56 0))) 56 1)))) else if a1 = 10 then ((cLg_add 52 (G 56 0) (G 56 1) G).bind fun G177 => some G177) else (gd a1 11 (if 0 < stg 0 a1 then cSc_keep_j208 a1 (stg 0 a1) (G 56 0) a1 G else cSc_keep_j208 a1 (stg 0 a1) (-1) a1 G))
def cSc_line_j95 (a1 : Int) (k46 : Int → Hp → Option (Hp)) (x2_95 : Int) (x3_95 : Int) (x4_95 : Int) (G_95 : Hp) : Option (Hp) :=
  (cSc_move G_95).bind fun G96 => k46 (w32 (x4_95 + 1)) G96
def cSc_line_L46 (a1 : Int) (x2_46 : Int) (x3_46 : Int) (k60 : Hp → Option (Hp)) (k105 : Hp → Option (Hp)) : Nat → Int → Hp → Option (Hp)
  | 0, _, _ => none
  | n_46 + 1, x4_46, G_46 =>
  if x4_46 < x3_46 then (if G_46 39 8 = 2 then (gd x4_46 3 ((cSc_mayBe x2_46 x4_46 (upd2 G_46 56 x4_46 (G_46 39 10))).bind fun v80 => if v80 = true then cSc_line_j95 a1 (cSc_line_L46 a1 x2_46 x3_46 k60 k105 n_46) x2_46 x3_46 x4_46 (upd2 G_46 56 x4_46 (G_46 39 10)) else ((cSc_note 2 ((upd2 G_46 56 x4_46 (G_46 39 10)) 39 9) (upd2 G_46 56 x4_46 (G_46 39 10))).bind fun G92 => cSc_line_j95 a1 (cSc_line_L46 a1 x2_46 x3_46 k60 k105 n_46) x2_46 x3_46 x4_46 G92))) else k60 G_46) else k105 G_46
def cSc_line_j33 (a1 : Int) (x2_33 : Int) (G_33 : Hp) : Option (Hp) :=
  gd x2_33 11 ((cSc_move G_33).bind fun G40 => cSc_line_L46 a1 x2_33 (stg 0 x2_33) (fun G_60 => (cSc_breakOff G_60).bind fun G61 => some G61) (fun G_105 => if G_105 39 8 = 3 then ((cSc_move G_105).bind fun G119 => (cSc_keep x2_33 G119).bind fun G124 => some G124) else ((cSc_breakOff G_105).bind fun G114 => some G114)) FU 0 G40)
def cSc_line (a1 : Int) (G : Hp) : Option (Hp) :=
  (cSc_lineOf a1 G).bind fun v2 => if v2 = (-1) then ((cSc_breakOff G).bind fun G12 => some G12) else ((cSc_isFull v2 G).bind fun v18 => if v18 = true then ((cSc_note 3 (G 39 9) G).bind fun G30 => cSc_line_j33 a1 v2 G30) else cSc_line_j33 a1 v2 G)
def cSc_take_L89 (a2 : Int) (a3 : Int) (k123 : Hp → Option (Hp)) : Nat → Int → Hp → Option (Hp)
  | 0, _, _ => none
  | n_89 + 1, x4_89, G_89 =>
  if x4_89 < 600 then (if G_89 39 8 = 0 then k123 G_89 else (if G_89 39 3 = 1 then k123 G_89 else ((cSc_line a3 G_89).bind fun G114 => cSc_take_L89 a2 a3 k123 n_89 (w32 (x4_89 + 1)) G114))) else k123 G_89
def cSc_take_j153 (a2 : Int) (a3 : Int) (G_153 : Hp) : Option (Hp) :=
  if G_153 39 3 = 0 then (if G_153 40 1 ≤ G_153 39 13 then ((cSc_note 5 (G_153 39 6) G_153).bind fun G180 => some G180) else some G_153) else some G_153
def cSc_take (a2 : Int) (a3 : Int) (G : Hp) : Option (Hp) :=
  cpyG 0 0 ((upd2 G 39 6 (max 0 (min a2 (min 600 600)))) 39 6) 600 600 ((cPa_clear 40 (cpy2 (upd2 G 39 6 (max 0 (min a2 (min 600 600)))) 2 0 55 0 ((upd2 G 39 6 (max 0 (min a2 (min 600 600)))) 39 6))).bind fun G38 => (cSc_move (upd2 (upd2 (upd2 (upd2 (upd2 (upd2 (upd2 G38 48 0 0) 52 0 0) 39 3 0) 39 4 (-1)) 39 7 0) 39 12 (-1)) 39 13 (-1))).bind fun G83 => cSc_take_L89 a2 a3 (fun G_123 => if G_123 39 3 = 0 then (if G_123 40 2 ≤ G_123 39 12 then ((cSc_note 4 (G_123 39 6) G_123).bind fun G150 => cSc_take_j153 a2 a3 G150) else cSc_take_j153 a2 a3 G_123) else cSc_take_j153 a2 a3 G_123) FU 0 G83)
def cNe_copy (o : Int) (a1 : Int) (G : Hp) : Option (Hp) :=
  (cX_copyRow 10 (a1 + 1) (o + 1) G).bind fun G8 => (cX_copyRow 100 (a1 + 2) (o + 2) G8).bind fun G19 => (cX_copyRow 100 (a1 + 3) (o + 3) G19).bind fun G30 => some (upd2 G30 o 3 (G30 a1 3))
def cPa_copy (o : Int) (a1 : Int) (G : Hp) : Option (Hp) :=
  (cNe_copy (o + 1) (a1 + 1) (upd2 (upd2 (upd2 G o 0 (G a1 0)) o 1 ((upd2 G o 0 (G a1 0)) a1 1)) o 2 ((upd2 (upd2 G o 0 (G a1 0)) o 1 ((upd2 G o 0 (G a1 0)) a1 1)) a1 2))).bind fun G32 => (cX_copyRow 6 (a1 + 5) (o + 5) G32).bind fun G43 => (cX_copyRow 6 (a1 + 6) (o + 6) G43).bind fun G54 => (cX_copyRow 48 (a1 + 7) (o + 7) G54).bind fun G65 => some G65
def cWe_copy (o : Int) (a1 : Int) (G : Hp) : Option (Hp) :=
  (cX_copyRow 60 (a1 + 1) (o + 1) (upd2 G o 0 (G a1 0))).bind fun G16 => (cX_copyRow 60 (a1 + 2) (o + 2) G16).bind fun G27 => (cX_copyRow 60 (a1 + 3) (o + 3) G27).bind fun G38 => some G38
def cLg_copy (o : Int) (a1 : Int) (G : Hp) : Option (Hp) :=
  (cX_copyRow 8 (a1 + 1) (o + 1) (upd2 G o 0 (G a1 0))).bind fun G16 => (cX_copyRow 8 (a1 + 2) (o + 2) G16).bind fun G27 => some G27
def cTo_take_j73 (o : Int) (a2 : Int) (a3 : Int) (G_73 : Hp) : Option (Hp) :=
  gd a2 3 (gd a2 3 (some (upd2 G_73 (o + 2) a2 (max (G_73 (o + 2) a2) (w32 (a3 + 1))))))
def cTo_take (o : Int) (a2 : Int) (a3 : Int) (G : Hp) : Option (Hp) :=
  if a2 < 0 then some G else (if a2 < 3 then (if a3 < 0 then some G else (if 2 ≤ a3 then some G else (if a2 = 0 then (gd a3 2 ((cPa_copy (RF0 (o + 3) a3) 40 G).bind fun G33 => cTo_take_j73 o a2 a3 G33)) else (if a2 = 1 then (gd a3 2 ((cWe_copy (RF0 (o + 4) a3) 48 G).bind fun G54 => cTo_take_j73 o a2 a3 G54)) else (gd a3 2 ((cLg_copy (RF0 (o + 5) a3) 52 G).bind fun G70 => cTo_take_j73 o a2 a3 G70)))))) else some G)
def cRw_forget (G : Hp) : Option (Hp) :=
  some (upd2 G 80 0 (-1))
def cX_text_j171 (a1 : Int) (a2 : Int) (s0_171 : Int) (G_171 : Hp) : Option (Int × Hp) :=
  (cTo_take 1 a1 s0_171 G_171).bind fun G184 => (cRw_forget G184).bind fun G191 => some (s0_171, G191)
def cX_text_j97 (a1 : Int) (a2 : Int) (x3_97 : Int) (x4_97 : Int) (G_97 : Hp) : Option (Int × Hp) :=
  (cSc_take x3_97 a1 G_97).bind fun G110 => if (upd2 (upd2 G110 1 2 (G110 39 3)) 1 3 ((upd2 G110 1 2 (G110 39 3)) 39 4)) 39 3 = 0 then (if x4_97 = 0 then cX_text_j171 a1 a2 a2 (upd2 (upd2 G110 1 2 (G110 39 3)) 1 3 ((upd2 G110 1 2 (G110 39 3)) 39 4)) else (gd a1 3 (cX_text_j171 a1 a2 ((upd2 (upd2 G110 1 2 (G110 39 3)) 1 3 ((upd2 G110 1 2 (G110 39 3)) 39 4)) 3 a1) (upd2 (upd2 G110 1 2 (G110 39 3)) 1 3 ((upd2 G110 1 2 (G110 39 3)) 39 4))))) else some ((-1), upd2 (upd2 G110 1 2 (G110 39 3)) 1 3 ((upd2 G110 1 2 (G110 39 3)) 39 4))
def cX_text_j54 (a1 : Int) (a2 : Int) (x3_54 : Int) (s0_54 : Int) (G_54 : Hp) : Option (Int × Hp) :=
  if s0_54 = 0 then (if a2 < 0 then some ((-2), G_54) else (gd a1 3 (if G_54 3 a1 ≤ a2 then some ((-2), G_54) else cX_text_j97 a1 a2 x3_54 s0_54 G_54))) else (gd a1 3 (if 2 ≤ G_54 3 a1 then some ((-2), G_54) else cX_text_j97 a1 a2 x3_54 s0_54 G_54))
def cX_text (a1 : Int) (a2 : Int) (G : Hp) : Option (Int × Hp) :=
  if a1 < 0 then some ((-2), upd2 (upd2 (upd2 G 1 1 0) 1 2 0) 1 3 (-1)) else (if 3 ≤ a1 then some ((-2), upd2 (upd2 (upd2 G 1 1 0) 1 2 0) 1 3 (-1)) else (if a2 = (-1) then cX_text_j54 a1 a2 (G 1 1) 1 (upd2 (upd2 (upd2 G 1 1 0) 1 2 0) 1 3 (-1)) else cX_text_j54 a1 a2 (G 1 1) 0 (upd2 (upd2 (upd2 G 1 1 0) 1 2 0) 1 3 (-1))))
def cX_fault (a1 : Int) (G : Hp) : Option (Int) :=
  if a1 = 0 then some (G 1 2) else (if a1 = 1 then some (G 1 3) else some (-1))
def cX_count (a1 : Int) (G : Hp) : Option (Int) :=
  if a1 < 0 then some (-2) else (if 3 ≤ a1 then some (-2) else (gd a1 3 (some (G 3 a1))))
def cTo_copy_L53 (o : Int) (a1 : Int) : Nat → Int → Hp → Option (Hp)
  | 0, _, _ => none
  | n_53 + 1, x2_53, G_53 =>
  if x2_53 < 2 then (gd x2_53 2 (gd x2_53 2 ((cPa_copy (RF0 (o + 3) x2_53) (RF0 (a1 + 3) x2_53) G_53).bind fun G70 => gd x2_53 2 (gd x2_53 2 ((cWe_copy (RF0 (o + 4) x2_53) (RF0 (a1 + 4) x2_53) G70).bind fun G85 => gd x2_53 2 (gd x2_53 2 ((cLg_copy (RF0 (o + 5) x2_53) (RF0 (a1 + 5) x2_53) G85).bind fun G100 => cTo_copy_L53 o a1 n_53 (w32 (x2_53 + 1)) G100))))))) else some G_53
def cTo_copy (o : Int) (a1 : Int) (G : Hp) : Option (Hp) :=
  cpyG 0 0 600 600 600 ((cX_copyRow 3 (a1 + 2) (o + 2) (upd2 (upd2 (upd2 (cpy2 G (a1 + 1) 0 (o + 1) 0 600) o 1 ((cpy2 G (a1 + 1) 0 (o + 1) 0 600) a1 1)) o 2 ((upd2 (cpy2 G (a1 + 1) 0 (o + 1) 0 600) o 1 ((cpy2 G (a1 + 1) 0 (o + 1) 0 600) a1 1)) a1 2)) o 3 ((upd2 (upd2 (cpy2 G (a1 + 1) 0 (o + 1) 0 600) o 1 ((cpy2 G (a1 + 1) 0 (o + 1) 0 600) a1 1)) o 2 ((upd2 (cpy2 G (a1 + 1) 0 (o + 1) 0 600) o 1 ((cpy2 G (a1 + 1) 0 (o + 1) 0 600) a1 1)) a1 2)) a1 3))).bind fun G48 => cTo_copy_L53 o a1 FU 0 G48)
def cX_image (a1 : Int) (G : Hp) : Option (Bool × Hp) :=
  if a1 < 0 then some (false, G) else (if 3 ≤ a1 then some (false, G) else (gd a1 3 ((cTo_copy (RF0 37 a1) 1 G).bind fun G21 => gd a1 3 (some (true, upd2 G21 38 a1 1)))))
def cX_again (a1 : Int) (G : Hp) : Option (Bool × Hp) :=
  if a1 < 0 then some (false, G) else (if a1 < 3 then (gd a1 3 (if G 38 a1 = 0 then some (false, G) else (gd a1 3 ((cTo_copy 1 (RF0 37 a1) G).bind fun G30 => (cRw_forget G30).bind fun G37 => some (true, G37))))) else some (false, G))
def cX_paperAt (a1 : Int) (G : Hp) : Option (Int) :=
  if a1 < 0 then some (-1) else (if G 3 0 ≤ a1 then some (-1) else (gd a1 2 (some (RF0 4 a1))))
def cX_weekAt (a1 : Int) (G : Hp) : Option (Int) :=
  if a1 < 0 then some (-1) else (if G 3 1 ≤ a1 then some (-1) else (gd a1 2 (some (RF0 5 a1))))
def cX_logAt (a1 : Int) (G : Hp) : Option (Int) :=
  if a1 < 0 then some (-1) else (if G 3 2 ≤ a1 then some (-1) else (gd a1 2 (some (RF0 6 a1))))
def cX_wordAt (a0 : Int) (a1 : Int) : Int :=
  iand (iushr a0 (w32 (4 * a1))) 15
def cPa_wish (o : Int) (a1 : Int) (a2 : Int) (G : Hp) : Option (Int) :=
  if a1 < 0 then some 10 else (if a1 < 6 then (if a2 < 0 then some 10 else (if 8 ≤ a2 then some 10 else (gd (w32 ((w32 (8 * a1)) + a2)) 48 (some (G (o + 7) (w32 ((w32 (8 * a1)) + a2))))))) else some 10)
def cPa_tell (o : Int) (a1 : Int) (G : Hp) : Option (Int) :=
  if a1 < 0 then some (-1) else (if idiv a1 10 = 0 then (if irem a1 10 = 0 then some (G o 1) else (if irem a1 10 = 1 then some (G o 2) else some (-1))) else if idiv a1 10 = 1 then (if irem a1 10 < G o 1 then some (cX_wordAt (G o 0) (irem a1 10)) else some (-1)) else if idiv a1 10 = 2 then (gd (irem a1 10) 10 (some (G ((o + 1) + 1) (irem a1 10)))) else if idiv a1 10 = 3 then (if irem a1 10 < G o 2 then (gd (irem a1 10) 6 (some (G (o + 5) (irem a1 10)))) else some (-1)) else if idiv a1 10 = 4 then (if irem a1 10 < G o 2 then (gd (irem a1 10) 6 (some (G (o + 6) (irem a1 10)))) else some (-1)) else (if w32 ((idiv a1 10) - 10) < 0 then some (-1) else (if w32 ((idiv a1 10) - 10) < G o 2 then (if G o 1 ≤ irem a1 10 then some (-1) else ((cPa_wish o (w32 ((idiv a1 10) - 10)) (irem a1 10) G).bind fun v177 => some v177)) else some (-1))))
def cX_paper (a1 : Int) (a2 : Int) (G : Hp) : Option (Int) :=
  (cX_paperAt a1 G).bind fun v2 => if v2 < 0 then some (-1) else ((cPa_tell v2 a2 G).bind fun v16 => some v16)
def cX_deed_j30 (a1 : Int) (a2 : Int) (a3 : Int) (G : Hp) (x4_30 : Int) : Option (Int) :=
  if a2 < 0 then some (-2) else (if a2 < G x4_30 0 then (if a3 < 0 then some (-2) else (if 2 < a3 then some (-2) else (if a3 = 0 then (gd a2 60 (some (G (x4_30 + 1) a2))) else (if a3 = 1 then (gd a2 60 (some (G (x4_30 + 2) a2))) else (gd a2 60 (some (G (x4_30 + 3) a2))))))) else some (-2))
def cX_deed (a1 : Int) (a2 : Int) (a3 : Int) (G : Hp) : Option (Int) :=
  (cX_weekAt a1 G).bind fun v2 => if v2 < 0 then some (-2) else (if a2 = (-1) then (if a3 = 0 then some (G v2 0) else cX_deed_j30 a1 a2 a3 G v2) else cX_deed_j30 a1 a2 a3 G v2)
def cX_fact_j30 (a1 : Int) (a2 : Int) (a3 : Int) (G : Hp) (x4_30 : Int) : Option (Int) :=
  if a2 < 0 then some (-2) else (if a2 < G x4_30 0 then (if a3 < 0 then some (-2) else (if 1 < a3 then some (-2) else (if a3 = 0 then (gd a2 8 (some (G (x4_30 + 1) a2))) else (gd a2 8 (some (G (x4_30 + 2) a2)))))) else some (-2))
def cX_fact (a1 : Int) (a2 : Int) (a3 : Int) (G : Hp) : Option (Int) :=
  (cX_logAt a1 G).bind fun v2 => if v2 < 0 then some (-2) else (if a2 = (-1) then (if a3 = 0 then some (G v2 0) else cX_fact_j30 a1 a2 a3 G v2) else cX_fact_j30 a1 a2 a3 G v2)
def cSt_begin_L26 (a1 : Int) (k52 : Hp → Option (Hp)) : Nat → Int → Hp → Option (Hp)
  | 0, _, _ => none
  | n_26 + 1, x2_26, G_26 =>
  if x2_26 < 6 then (gd x2_26 6 (gd x2_26 6 (cSt_begin_L26 a1 k52 n_26 (w32 (x2_26 + 1)) (upd2 (upd2 G_26 70 x2_26 0) 71 x2_26 0)))) else k52 G_26
def cSt_begin (a1 : Int) (G : Hp) : Option (Hp) :=
  (cNe_copy 66 (a1 + 1) (upd2 G 57 0 a1)).bind fun G13 => cSt_begin_L26 a1 (fun G_52 => some (upd2 (upd2 (upd2 (upd2 (upd2 (upd2 (upd2 G_52 57 5 0) 57 6 0) 57 8 0) 57 9 (-1)) 57 10 0) 57 11 0) 57 12 0)) FU 0 (upd2 G13 57 2 (G13 a1 0))
def cNe_near (o : Int) (a1 : Int) (a2 : Int) (G : Hp) : Option (Bool) :=
  if (cX_isWord a1) = true then (if (cX_isWord a2) = true then (gd a1 10 (if iand (ishr (G (o + 1) a1) a2) 1 = 0 then some false else some true)) else some false) else some false
def cSt_can_j20 (a1 : Int) (a2 : Int) (a3 : Int) (G : Hp) (s0_20 : Int) : Option (Bool) :=
  if a1 = 0 then ((zret s0_20).bind fun b_ => some b_) else if a1 = 1 then (if a2 < 0 then some false else (pg (G 57 0) (if a2 < G (G 57 0) 1 then (if (cX_wordAt (G 57 2) a2) = a3 then some false else some true) else some false))) else if a1 = 2 then (if s0_20 = 0 then some false else (if a3 < 0 then some false else (pg (G 57 0) (if a3 < G (G 57 0) 1 then (gd a2 6 (if iand (ishr (G 70 a2) a3) 1 = 0 then some true else some false)) else some false)))) else if a1 = 3 then (if a2 = a3 then some false else ((cNe_near 66 a2 a3 G).bind fun v142 => if v142 = true then some false else some true)) else if a1 = 4 then ((cNe_near 66 a2 a3 G).bind fun v160 => some v160) else some true
def cSt_can (a1 : Int) (a2 : Int) (a3 : Int) (G : Hp) : Option (Bool) :=
  if a2 < 0 then cSt_can_j20 a1 a2 a3 G 0 else (pg (G 57 0) (if a2 < G (G 57 0) 2 then cSt_can_j20 a1 a2 a3 G 1 else cSt_can_j20 a1 a2 a3 G 0))
def cNe_reach_L7 (o : Int) (a1 : Int) (x2_7 : Int) (k37 : Hp → Option (Hp)) : Nat → Int → Hp → Option (Hp)
  | 0, _, _ => none
  | n_7 + 1, x3_7, G_7 =>
  if x3_7 < 10 then (gd (w32 (x2_7 + x3_7)) 100 (gd (w32 (x2_7 + x3_7)) 100 (cNe_reach_L7 o a1 x2_7 k37 n_7 (w32 (x3_7 + 1)) (upd2 (upd2 G_7 (o + 2) (w32 (x2_7 + x3_7)) (-1)) (o + 3) (w32 (x2_7 + x3_7)) (-1))))) else k37 G_7
def cNe_reach_L113 (o : Int) (a1 : Int) (x2_113 : Int) (x3_113 : Int) (x4_113 : Int) (x5_113 : Int) (x6_113 : Int) (x7_113 : Int) (x8_113 : Int) (k163 : Hp → Option (Hp)) : Nat → Int → Hp → Option (Hp)
  | 0, _, _ => none
  | n_113 + 1, x9_113, G_113 =>
  if x9_113 < 10 then (if x8_113 = 0 then k163 G_113 else (if iand (ishr x8_113 x9_113) 1 = 0 then cNe_reach_L113 o a1 x2_113 x3_113 x4_113 x5_113 x6_113 x7_113 x8_113 k163 n_113 (w32 (x9_113 + 1)) G_113 else (gd (w32 (x2_113 + x9_113)) 100 (gd (w32 (x2_113 + x9_113)) 100 (cNe_reach_L113 o a1 x2_113 x3_113 x4_113 x5_113 x6_113 x7_113 x8_113 k163 n_113 (w32 (x9_113 + 1)) (upd2 (upd2 G_113 (o + 2) (w32 (x2_113 + x9_113)) x5_113) (o + 3) (w32 (x2_113 + x9_113)) x7_113)))))) else k163 G_113
def cNe_reach_j108 (o : Int) (a1 : Int) (k78 : Int → Int → Int → Hp → Option (Hp)) (x2_108 : Int) (x3_108 : Int) (x4_108 : Int) (x5_108 : Int) (x6_108 : Int) (x7_108 : Int) (s0_108 : Int) (G_108 : Hp) : Option (Hp) :=
  cNe_reach_L113 o a1 x2_108 x3_108 x4_108 x5_108 x6_108 x7_108 s0_108 (fun G_163 => k78 (iand x3_108 (ixor s0_108 (-1))) (ior x6_108 s0_108) (w32 (x7_108 + 1)) G_163) FU 0 G_108
def cNe_reach_L78 (o : Int) (a1 : Int) (x2_78 : Int) (x4_78 : Int) (x5_78 : Int) (k183 : Int → Int → Hp → Option (Hp)) : Nat → Int → Int → Int → Hp → Option (Hp)
  | 0, _, _, _, _ => none
  | n_78 + 1, x3_78, x6_78, x7_78, G_78 =>
  if x7_78 < 10 then (if iand (ishr x4_78 x7_78) 1 = 0 then cNe_reach_j108 o a1 (cNe_reach_L78 o a1 x2_78 x4_78 x5_78 k183 n_78) x2_78 x3_78 x4_78 x5_78 x6_78 x7_78 0 G_78 else (gd x7_78 10 (cNe_reach_j108 o a1 (cNe_reach_L78 o a1 x2_78 x4_78 x5_78 k183 n_78) x2_78 x3_78 x4_78 x5_78 x6_78 x7_78 (iand (G_78 (o + 1) x7_78) x3_78) G_78))) else k183 x3_78 x6_78 G_78
def cNe_reach_L60 (o : Int) (a1 : Int) (x2_60 : Int) (k193 : Hp → Option (Hp)) : Nat → Int → Int → Int → Hp → Option (Hp)
  | 0, _, _, _, _ => none
  | n_60 + 1, x3_60, x4_60, x5_60, G_60 =>
  if x5_60 < 10 then (if x4_60 = 0 then k193 G_60 else cNe_reach_L78 o a1 x2_60 x4_60 x5_60 (fun x3_183 x6_183 G_183 => cNe_reach_L60 o a1 x2_60 k193 n_60 x3_183 x6_183 (w32 (x5_60 + 1)) G_183) FU x3_60 0 0 G_60) else k193 G_60
def cNe_reach (o : Int) (a1 : Int) (G : Hp) : Option (Hp) :=
  cNe_reach_L7 o a1 (w32 (10 * a1)) (fun G_37 => gd (w32 ((w32 (10 * a1)) + a1)) 100 (cNe_reach_L60 o a1 (w32 (10 * a1)) (fun G_193 => some (upd2 G_193 o 3 (ior (G_193 o 3) (ishl 1 a1)))) FU (ixor (ishl 1 a1) (-1)) (ishl 1 a1) 1 (upd2 G_37 (o + 2) (w32 ((w32 (10 * a1)) + a1)) 0))) FU 0 G
def cNe_next_j38 (o : Int) (a1 : Int) (a2 : Int) (G_38 : Hp) : Option (Int × Hp) :=
  gd (w32 ((w32 (10 * a2)) + a1)) 100 (some (G_38 (o + 3) (w32 ((w32 (10 * a2)) + a1)), G_38))
def cNe_next (o : Int) (a1 : Int) (a2 : Int) (G : Hp) : Option (Int × Hp) :=
  if a1 < 0 then some ((-1), G) else (if a1 < 10 then (if a2 < 0 then some ((-1), G) else (if 10 ≤ a2 then some ((-1), G) else (if iand (ishr (G o 3) a2) 1 = 0 then ((cNe_reach o a2 G).bind fun G35 => cNe_next_j38 o a1 a2 G35) else cNe_next_j38 o a1 a2 G))) else some ((-1), G))
def cPa_readIn_j90 (o : Int) (a1 : Int) (a2 : Int) (a3 : Int) (a4 : Int) (k28 : Int → Int → Int → Hp → Option (Int × Hp)) (x5_90 : Int) (x6_90 : Int) (x7_90 : Int) (s0_90 : Int) (G_90 : Hp) : Option (Int × Hp) :=
  if s0_90 = (-1) then k28 x5_90 x6_90 (w32 (x7_90 + 1)) G_90 else k28 (cX_put x5_90 x7_90 s0_90) (w32 (x6_90 + (-1))) (w32 (x7_90 + 1)) G_90
def cPa_readIn_j64 (o : Int) (a1 : Int) (a2 : Int) (a3 : Int) (a4 : Int) (k28 : Int → Int → Int → Hp → Option (Int × Hp)) (x5_64 : Int) (x6_64 : Int) (x7_64 : Int) (s0_64 : Int) (G_64 : Hp) : Option (Int × Hp) :=
  if s0_64 = 10 then cPa_readIn_j90 o a1 a2 a3 a4 k28 x5_64 x6_64 x7_64 (-1) G_64 else ((cNe_next a1 (cX_wordAt x5_64 x7_64) s0_64 G_64).bind fun r87 => cPa_readIn_j90 o a1 a2 a3 a4 k28 x5_64 x6_64 x7_64 r87.1 r87.2)
def cPa_readIn_L28 (o : Int) (a1 : Int) (a2 : Int) (a3 : Int) (a4 : Int) : Nat → Int → Int → Int → Hp → Option (Int × Hp)
  | 0, _, _, _, _ => none
  | n_28 + 1, x5_28, x6_28, x7_28, G_28 =>
  if x7_28 < G_28 o 1 then (if 0 < x6_28 then (if iand (ishr a4 x7_28) 1 = 0 then ((cPa_wish o a2 x7_28 G_28).bind fun v61 => cPa_readIn_j64 o a1 a2 a3 a4 (cPa_readIn_L28 o a1 a2 a3 a4 n_28) x5_28 x6_28 x7_28 v61 G_28) else cPa_readIn_j64 o a1 a2 a3 a4 (cPa_readIn_L28 o a1 a2 a3 a4 n_28) x5_28 x6_28 x7_28 10 G_28) else some (x5_28, G_28)) else some (x5_28, G_28)
def cPa_readIn (o : Int) (a1 : Int) (a2 : Int) (a3 : Int) (a4 : Int) (G : Hp) : Option (Int × Hp) :=
  if a2 < 0 then some (a3, G) else (if G o 2 ≤ a2 then some (a3, G) else (gd a2 6 (cPa_readIn_L28 o a1 a2 a3 a4 FU a3 (G (o + 5) a2) 0 G)))
def cX_unlikePlaces_L4 (a0 : Int) (a1 : Int) (G : Hp) : Nat → Int → Int → Option (Int)
  | 0, _, _ => none
  | n_4 + 1, x2_4, x3_4 =>
  if x3_4 < 8 then (if (cX_wordAt a0 x3_4) = (cX_wordAt a1 x3_4) then cX_unlikePlaces_L4 a0 a1 G n_4 x2_4 (w32 (x3_4 + 1)) else cX_unlikePlaces_L4 a0 a1 G n_4 (ior x2_4 (ishl 1 x3_4)) (w32 (x3_4 + 1))) else some x2_4
def cX_unlikePlaces (a0 : Int) (a1 : Int) (G : Hp) : Option (Int) :=
  cX_unlikePlaces_L4 a0 a1 G FU 0 0
def jI_bitCount (a0 : Int) : Int :=
  iand (w32 ((w32 ((iand (w32 ((w32 ((iand (w32 (a0 - (iand (iushr a0 1) 1431655765))) 858993459) + (iand (iushr (w32 (a0 - (iand (iushr a0 1) 1431655765))) 2) 858993459))) + (iushr (w32 ((iand (w32 (a0 - (iand (iushr a0 1) 1431655765))) 858993459) + (iand (iushr (w32 (a0 - (iand (iushr a0 1) 1431655765))) 2) 858993459))) 4))) 252645135) + (iushr (iand (w32 ((w32 ((iand (w32 (a0 - (iand (iushr a0 1) 1431655765))) 858993459) + (iand (iushr (w32 (a0 - (iand (iushr a0 1) 1431655765))) 2) 858993459))) + (iushr (w32 ((iand (w32 (a0 - (iand (iushr a0 1) 1431655765))) 858993459) + (iand (iushr (w32 (a0 - (iand (iushr a0 1) 1431655765))) 2) 858993459))) 4))) 252645135) 8))) + (iushr (w32 ((iand (w32 ((w32 ((iand (w32 (a0 - (iand (iushr a0 1) 1431655765))) 858993459) + (iand (iushr (w32 (a0 - (iand (iushr a0 1) 1431655765))) 2) 858993459))) + (iushr (w32 ((iand (w32 (a0 - (iand (iushr a0 1) 1431655765))) 858993459) + (iand (iushr (w32 (a0 - (iand (iushr a0 1) 1431655765))) 2) 858993459))) 4))) 252645135) + (iushr (iand (w32 ((w32 ((iand (w32 (a0 - (iand (iushr a0 1) 1431655765))) 858993459) + (iand (iushr (w32 (a0 - (iand (iushr a0 1) 1431655765))) 2) 858993459))) + (iushr (w32 ((iand (w32 (a0 - (iand (iushr a0 1) 1431655765))) 858993459) + (iand (iushr (w32 (a0 - (iand (iushr a0 1) 1431655765))) 2) 858993459))) 4))) 252645135) 8))) 16))) 63
def cSt_read (a1 : Int) (G : Hp) : Option (Hp) :=
  pg (G 57 0) (gd a1 6 ((cPa_readIn (G 57 0) 66 a1 (G 57 2) (G 70 a1) G).bind fun r19 => (cX_unlikePlaces (r19.2 57 2) r19.1 r19.2).bind fun v28 => gd a1 6 (gd a1 6 (some (upd2 (upd2 (upd2 (upd2 r19.2 57 2 r19.1) 57 5 (w32 (((upd2 r19.2 57 2 r19.1) 57 5) + (jI_bitCount v28)))) 71 a1 (w32 (((upd2 (upd2 r19.2 57 2 r19.1) 57 5 (w32 (((upd2 r19.2 57 2 r19.1) 57 5) + (jI_bitCount v28)))) 71 a1) + (jI_bitCount v28)))) 57 11 (ior ((upd2 (upd2 (upd2 r19.2 57 2 r19.1) 57 5 (w32 (((upd2 r19.2 57 2 r19.1) 57 5) + (jI_bitCount v28)))) 71 a1 (w32 (((upd2 (upd2 r19.2 57 2 r19.1) 57 5 (w32 (((upd2 r19.2 57 2 r19.1) 57 5) + (jI_bitCount v28)))) 71 a1) + (jI_bitCount v28)))) 57 11) v28))))))
def cNe_part (o : Int) (a1 : Int) (a2 : Int) (G : Hp) : Option (Hp) :=
  if (cX_isWord a1) = true then (if (cX_isWord a2) = true then (gd a1 10 (gd a1 10 (gd a2 10 (gd a2 10 (some (upd2 (upd2 (upd2 G (o + 1) a1 (iand (G (o + 1) a1) (ixor (ishl 1 a2) (-1)))) (o + 1) a2 (iand ((upd2 G (o + 1) a1 (iand (G (o + 1) a1) (ixor (ishl 1 a2) (-1)))) (o + 1) a2) (ixor (ishl 1 a1) (-1)))) o 3 0)))))) else some G) else some G
def cSt_print_L20 (G_20 : Hp) (k48 : Option (Hp)) : Nat → Int → Option (Hp)
  | 0, _ => none
  | n_20 + 1, x1_20 =>
  if x1_20 < G_20 57 12 then (gd x1_20 60 (if G_20 72 x1_20 = G_20 57 2 then some G_20 else cSt_print_L20 G_20 k48 n_20 (w32 (x1_20 + 1)))) else k48
def cSt_print (G : Hp) : Option (Hp) :=
  cSt_print_L20 (upd2 (upd2 G 57 6 (w32 ((G 57 6) + 1))) 57 8 ((upd2 G 57 6 (w32 ((G 57 6) + 1))) 57 2)) (if (upd2 (upd2 G 57 6 (w32 ((G 57 6) + 1))) 57 8 ((upd2 G 57 6 (w32 ((G 57 6) + 1))) 57 2)) 57 12 < 60 then (gd ((upd2 (upd2 G 57 6 (w32 ((G 57 6) + 1))) 57 8 ((upd2 G 57 6 (w32 ((G 57 6) + 1))) 57 2)) 57 12) 60 (some (upd2 (upd2 (upd2 (upd2 G 57 6 (w32 ((G 57 6) + 1))) 57 8 ((upd2 G 57 6 (w32 ((G 57 6) + 1))) 57 2)) 72 ((upd2 (upd2 G 57 6 (w32 ((G 57 6) + 1))) 57 8 ((upd2 G 57 6 (w32 ((G 57 6) + 1))) 57 2)) 57 12) ((upd2 (upd2 G 57 6 (w32 ((G 57 6) + 1))) 57 8 ((upd2 G 57 6 (w32 ((G 57 6) + 1))) 57 2)) 57 2)) 57 12 (w32 (((upd2 (upd2 (upd2 G 57 6 (w32 ((G 57 6) + 1))) 57 8 ((upd2 G 57 6 (w32 ((G 57 6) + 1))) 57 2)) 72 ((upd2 (upd2 G 57 6 (w32 ((G 57 6) + 1))) 57 8 ((upd2 G 57 6 (w32 ((G 57 6) + 1))) 57 2)) 57 12) ((upd2 (upd2 G 57 6 (w32 ((G 57 6) + 1))) 57 8 ((upd2 G 57 6 (w32 ((G 57 6) + 1))) 57 2)) 57 2)) 57 12) + 1))))) else some (upd2 (upd2 G 57 6 (w32 ((G 57 6) + 1))) 57 8 ((upd2 G 57 6 (w32 ((G 57 6) + 1))) 57 2))) FU 0
def cSt_does (a1 : Int) (a2 : Int) (a3 : Int) (G : Hp) : Option (Bool × Hp) :=
  (cSt_can a1 a2 a3 G).bind fun v4 => if v4 = true then (if a1 = 0 then ((cSt_read a2 G).bind fun G50 => some (true, G50)) else if a1 = 1 then some (true, upd2 (upd2 (upd2 G 57 2 (cX_put (G 57 2) a2 a3)) 57 10 (w32 (((upd2 G 57 2 (cX_put (G 57 2) a2 a3)) 57 10) + 1))) 57 11 (ior ((upd2 (upd2 G 57 2 (cX_put (G 57 2) a2 a3)) 57 10 (w32 (((upd2 G 57 2 (cX_put (G 57 2) a2 a3)) 57 10) + 1))) 57 11) (ishl 1 a2))) else if a1 = 2 then (gd a2 6 (gd a2 6 (some (true, upd2 G 70 a2 (ior (G 70 a2) (ishl 1 a3)))))) else if a1 = 3 then ((cNe_join 66 a2 a3 G).bind fun G115 => some (true, G115)) else if a1 = 4 then ((cNe_part 66 a2 a3 G).bind fun G127 => some (true, G127)) else ((cSt_print G).bind fun G134 => some (true, G134))) else some (false, G)
def cSt_run_L8 (a1 : Int) (a2 : Int) (a3 : Int) (k81 : Hp → Option (Int × Hp)) : Nat → Int → Hp → Option (Int × Hp)
  | 0, _, _ => none
  | n_8 + 1, x4_8, G_8 =>
  if x4_8 < a3 then (if x4_8 < G_8 a2 0 then (gd x4_8 60 (gd x4_8 60 (gd x4_8 60 ((cSt_does (G_8 (a2 + 1) x4_8) (G_8 (a2 + 2) x4_8) (G_8 (a2 + 3) x4_8) G_8).bind fun r45 => if r45.1 = true then (if 0 < r45.2 57 5 then (if r45.2 57 9 = (-1) then cSt_run_L8 a1 a2 a3 k81 n_8 (w32 (x4_8 + 1)) (upd2 r45.2 57 9 x4_8) else cSt_run_L8 a1 a2 a3 k81 n_8 (w32 (x4_8 + 1)) r45.2) else cSt_run_L8 a1 a2 a3 k81 n_8 (w32 (x4_8 + 1)) r45.2) else some (x4_8, r45.2))))) else k81 G_8) else k81 G_8
def cSt_run (a1 : Int) (a2 : Int) (a3 : Int) (G : Hp) : Option (Int × Hp) :=
  (cSt_begin a1 G).bind fun G2 => cSt_run_L8 a1 a2 a3 (fun G_81 => some (min a3 (G_81 a2 0), G_81)) FU 0 G2
def cX_stop (a1 : Int) (a2 : Int) (G : Hp) : Option (Int × Hp) :=
  (cX_paperAt a1 G).bind fun v2 => (cX_weekAt a2 G).bind fun v8 => if v2 < 0 then some ((-1), G) else (if v8 < 0 then some ((-1), G) else ((cSt_run v2 v8 (G v8 0) G).bind fun r38 => some (r38.1, r38.2)))
def cPa_content_L5 (o : Int) (a1 : Int) (a2 : Int) (G : Hp) : Nat → Int → Int → Option (Int)
  | 0, _, _ => none
  | n_5 + 1, x3_5, x4_5 =>
  if x4_5 < G o 1 then ((cPa_wish o a1 x4_5 G).bind fun v19 => if v19 = (cX_wordAt a2 x4_5) then cPa_content_L5 o a1 a2 G n_5 (w32 (x3_5 + 1)) (w32 (x4_5 + 1)) else cPa_content_L5 o a1 a2 G n_5 (w32 (x3_5 + 0)) (w32 (x4_5 + 1))) else some x3_5
def cPa_content (o : Int) (a1 : Int) (a2 : Int) (G : Hp) : Option (Int) :=
  cPa_content_L5 o a1 a2 G FU 0 0
def cSt_tell (a1 : Int) (G : Hp) : Option (Int) :=
  if a1 < 0 then some (-2) else (if idiv a1 10 = 0 then (if irem a1 10 = 0 then some (G 57 5) else (if irem a1 10 = 1 then some (G 57 6) else some (-2))) else if idiv a1 10 = 1 then (pg (G 57 0) (if irem a1 10 < G (G 57 0) 1 then some (cX_wordAt (G 57 2) (irem a1 10)) else some (-2))) else if idiv a1 10 = 2 then (pg (G 57 0) (if G (G 57 0) 1 ≤ irem a1 10 then some (-2) else (if G 57 6 = 0 then some 10 else some (cX_wordAt (G 57 8) (irem a1 10))))) else if idiv a1 10 = 3 then (pg (G 57 0) (if irem a1 10 < G (G 57 0) 2 then (pg (G 57 0) ((cPa_content (G 57 0) (irem a1 10) (G 57 2) G).bind fun v164 => some v164)) else some (-2))) else if idiv a1 10 = 4 then (pg (G 57 0) (if irem a1 10 < G (G 57 0) 2 then (gd (irem a1 10) 6 (some (G 70 (irem a1 10)))) else some (-2))) else if idiv a1 10 = 5 then (gd (irem a1 10) 10 (some (G 67 (irem a1 10)))) else some (-2))
def cX_state (a1 : Int) (a2 : Int) (a3 : Int) (a4 : Int) (G : Hp) : Option (Int × Hp) :=
  (cX_paperAt a1 G).bind fun v2 => (cX_weekAt a2 G).bind fun v9 => if v2 < 0 then some ((-2), G) else (if v9 < 0 then some ((-2), G) else (if a3 < 0 then some ((-2), G) else (if G v9 0 < a3 then some ((-2), G) else ((cSt_run v2 v9 a3 G).bind fun r49 => if r49.1 < a3 then some ((-2), r49.2) else ((cSt_tell a4 r49.2).bind fun v67 => some (v67, r49.2))))))
def cSt_busiest_L4 (G : Hp) : Nat → Int → Int → Option (Int)
  | 0, _, _ => none
  | n_4 + 1, x1_4, x2_4 =>
  pg (G 57 0) (if x2_4 < G (G 57 0) 2 then (gd x2_4 6 (if 0 < G 71 x2_4 then (if x1_4 = (-1) then cSt_busiest_L4 G n_4 x2_4 (w32 (x2_4 + 1)) else (gd x2_4 6 (gd x1_4 6 (if G 71 x1_4 < G 71 x2_4 then cSt_busiest_L4 G n_4 x2_4 (w32 (x2_4 + 1)) else cSt_busiest_L4 G n_4 x1_4 (w32 (x2_4 + 1)))))) else cSt_busiest_L4 G n_4 x1_4 (w32 (x2_4 + 1)))) else some x1_4)
def cSt_busiest (G : Hp) : Option (Int) :=
  cSt_busiest_L4 G FU (-1) 0
def cX_after (a1 : Int) (a2 : Int) (a3 : Int) (G : Hp) : Option (Int × Hp) :=
  (cX_paperAt a1 G).bind fun v2 => (cX_weekAt a2 G).bind fun v9 => if v2 < 0 then some ((-2), G) else (if v9 < 0 then some ((-2), G) else ((cSt_run v2 v9 (G v9 0) G).bind fun r40 => if a3 = 0 then some (r40.2 57 9, r40.2) else if a3 = 1 then ((cSt_busiest r40.2).bind fun v92 => some (v92, r40.2)) else if a3 = 2 then some (r40.2 57 10, r40.2) else if a3 = 3 then some (r40.2 57 11, r40.2) else if a3 = 4 then some (r40.2 57 12, r40.2) else some ((-2), r40.2)))
def cLo_below (a1 : Int) (G : Hp) : Option (Int × Hp) :=
  if 0 < a1 then (nz a1 (some (irem (iushr ((upd2 G 73 1 (w32 ((w32 ((G 73 1) * 1103515245)) + 12345))) 73 1) 16) a1, upd2 G 73 1 (w32 ((w32 ((G 73 1) * 1103515245)) + 12345))))) else some (0, upd2 G 73 1 (w32 ((w32 ((G 73 1) * 1103515245)) + 12345)))
def cLo_drawDeed_j129 (a1 : Int) (a2 : Int) (a3 : Int) (x4_129 : Int) (s0_129 : Int) (G_129 : Hp) : Option (Hp) :=
  (cLo_below 9 G_129).bind fun r138 => (cWe_add 74 s0_129 x4_129 (irem (w32 ((w32 (x4_129 + 1)) + r138.1)) 10) r138.2).bind fun G145 => some G145
def cLo_drawDeed (a1 : Int) (a2 : Int) (a3 : Int) (G : Hp) : Option (Hp) :=
  if a3 ≤ 3 then (if 0 < a1 then ((cLo_below a1 G).bind fun r16 => (cWe_add 74 0 r16.1 (-1) r16.2).bind fun G20 => some G20) else some G) else (if a3 ≤ 5 then (if 0 < a2 then ((cLo_below a2 G).bind fun r37 => (cLo_below 10 r37.2).bind fun r52 => (cWe_add 74 1 r37.1 r52.1 r52.2).bind fun G55 => some G55) else some G) else (if a3 = 6 then (if 0 < a1 then (if 0 < a2 then ((cLo_below a1 G).bind fun r77 => (cLo_below a2 r77.2).bind fun r91 => (cWe_add 74 2 r77.1 r91.1 r91.2).bind fun G94 => some G94) else some G) else some G) else (if a3 ≤ 8 then ((cLo_below 10 G).bind fun r109 => if a3 = 7 then cLo_drawDeed_j129 a1 a2 a3 r109.1 3 r109.2 else cLo_drawDeed_j129 a1 a2 a3 r109.1 4 r109.2) else ((cWe_add 74 5 (-1) (-1) G).bind fun G158 => some G158))))
def cLo_draw_L16 (a1 : Int) (a2 : Int) (a3 : Int) : Nat → Int → Hp → Option (Hp)
  | 0, _, _ => none
  | n_16 + 1, x4_16, G_16 =>
  if x4_16 < a3 then ((cLo_below 10 G_16).bind fun r34 => (cLo_drawDeed (G_16 a1 2) (G_16 a1 1) r34.1 r34.2).bind fun G37 => cLo_draw_L16 a1 a2 a3 n_16 (w32 (x4_16 + 1)) G37) else some G_16
def cLo_draw (a1 : Int) (a2 : Int) (a3 : Int) (G : Hp) : Option (Hp) :=
  cLo_draw_L16 a1 a2 a3 FU 0 (upd2 (upd2 G 74 0 0) 73 1 a2)
def cSt_runWhatMay_L7 (a1 : Int) (a2 : Int) : Nat → Int → Hp → Option (Hp)
  | 0, _, _ => none
  | n_7 + 1, x3_7, G_7 =>
  if x3_7 < G_7 a2 0 then (gd x3_7 60 (gd x3_7 60 (gd x3_7 60 ((cSt_does (G_7 (a2 + 1) x3_7) (G_7 (a2 + 2) x3_7) (G_7 (a2 + 3) x3_7) G_7).bind fun r34 => cSt_runWhatMay_L7 a1 a2 n_7 (w32 (x3_7 + 1)) r34.2)))) else some G_7
def cSt_runWhatMay (a1 : Int) (a2 : Int) (G : Hp) : Option (Hp) :=
  (cSt_begin a1 G).bind fun G2 => cSt_runWhatMay_L7 a1 a2 FU 0 G2
def cX_drawn (a1 : Int) (a2 : Int) (a3 : Int) (a4 : Int) (G : Hp) : Option (Int × Hp) :=
  (cX_paperAt a1 G).bind fun v2 => if v2 < 0 then some ((-2), G) else (if a3 < 0 then some ((-2), G) else (if 60 < a3 then some ((-2), G) else ((cLo_draw v2 a2 a3 G).bind fun G33 => (cSt_runWhatMay v2 74 G33).bind fun G49 => (cSt_tell a4 G49).bind fun v58 => some (v58, G49))))
def cNe_between_j38 (o : Int) (a1 : Int) (a2 : Int) (G_38 : Hp) : Option (Int × Hp) :=
  gd (w32 ((w32 (10 * a2)) + a1)) 100 (some (G_38 (o + 2) (w32 ((w32 (10 * a2)) + a1)), G_38))
def cNe_between (o : Int) (a1 : Int) (a2 : Int) (G : Hp) : Option (Int × Hp) :=
  if a1 < 0 then some ((-1), G) else (if a1 < 10 then (if a2 < 0 then some ((-1), G) else (if 10 ≤ a2 then some ((-1), G) else (if iand (ishr (G o 3) a2) 1 = 0 then ((cNe_reach o a2 G).bind fun G35 => cNe_between_j38 o a1 a2 G35) else cNe_between_j38 o a1 a2 G))) else some ((-1), G))
def cX_steps (a1 : Int) (a2 : Int) (a3 : Int) (G : Hp) : Option (Int × Hp) :=
  (cX_paperAt a1 G).bind fun v2 => if v2 < 0 then some ((-1), G) else ((cNe_between (v2 + 1) a2 a3 G).bind fun r23 => some (r23.1, r23.2))
def cX_towards (a1 : Int) (a2 : Int) (a3 : Int) (G : Hp) : Option (Int × Hp) :=
  (cX_paperAt a1 G).bind fun v2 => if v2 < 0 then some ((-1), G) else ((cNe_next (v2 + 1) a2 a3 G).bind fun r23 => some (r23.1, r23.2))
def cNe_kinOf_L4 (o : Int) (a1 : Int) : Nat → Int → Int → Hp → Option (Int × Hp)
  | 0, _, _, _ => none
  | n_4 + 1, x2_4, x3_4, G_4 =>
  if x3_4 < 10 then ((cNe_between o x3_4 a1 G_4).bind fun r13 => if r13.1 = (-1) then cNe_kinOf_L4 o a1 n_4 x2_4 (w32 (x3_4 + 1)) r13.2 else cNe_kinOf_L4 o a1 n_4 (ior x2_4 (ishl 1 x3_4)) (w32 (x3_4 + 1)) r13.2) else some (x2_4, G_4)
def cNe_kinOf (o : Int) (a1 : Int) (G : Hp) : Option (Int × Hp) :=
  cNe_kinOf_L4 o a1 FU 0 0 G
def cNe_kinds_L4 (o : Int) : Nat → Int → Int → Hp → Option (Int × Hp)
  | 0, _, _, _ => none
  | n_4 + 1, x1_4, x2_4, G_4 =>
  if x2_4 < 10 then ((cNe_kinOf o x2_4 G_4).bind fun r13 => if iand r13.1 (w32 ((ishl 1 x2_4) - 1)) = 0 then cNe_kinds_L4 o n_4 (w32 (x1_4 + 1)) (w32 (x2_4 + 1)) r13.2 else cNe_kinds_L4 o n_4 (w32 (x1_4 + 0)) (w32 (x2_4 + 1)) r13.2) else some (x1_4, G_4)
def cNe_kinds (o : Int) (G : Hp) : Option (Int × Hp) :=
  cNe_kinds_L4 o FU 0 0 G
def cNe_largest_L4 (o : Int) : Nat → Int → Int → Hp → Option (Int × Hp)
  | 0, _, _, _ => none
  | n_4 + 1, x1_4, x2_4, G_4 =>
  if x2_4 < 10 then ((cNe_kinOf o x2_4 G_4).bind fun r13 => cNe_largest_L4 o n_4 (max x1_4 (jI_bitCount r13.1)) (w32 (x2_4 + 1)) r13.2) else some (x1_4, G_4)
def cNe_largest (o : Int) (G : Hp) : Option (Int × Hp) :=
  cNe_largest_L4 o FU 0 0 G
def cNe_widest_L12 (o : Int) (x2_12 : Int) (k35 : Int → Hp → Option (Int × Hp)) : Nat → Int → Int → Hp → Option (Int × Hp)
  | 0, _, _, _ => none
  | n_12 + 1, x1_12, x3_12, G_12 =>
  if x3_12 < 10 then ((cNe_between o x2_12 x3_12 G_12).bind fun r22 => cNe_widest_L12 o x2_12 k35 n_12 (max x1_12 r22.1) (w32 (x3_12 + 1)) r22.2) else k35 x1_12 G_12
def cNe_widest_L4 (o : Int) : Nat → Int → Int → Hp → Option (Int × Hp)
  | 0, _, _, _ => none
  | n_4 + 1, x1_4, x2_4, G_4 =>
  if x2_4 < 10 then cNe_widest_L12 o x2_4 (fun x1_35 G_35 => cNe_widest_L4 o n_4 x1_35 (w32 (x2_4 + 1)) G_35) FU x1_4 0 G_4 else some (x1_4, G_4)
def cNe_widest (o : Int) (G : Hp) : Option (Int × Hp) :=
  cNe_widest_L4 o FU 0 0 G
def cNe_lone_L4 (o : Int) (G : Hp) : Nat → Int → Int → Option (Int)
  | 0, _, _ => none
  | n_4 + 1, x1_4, x2_4 =>
  if x2_4 < 10 then (gd x2_4 10 (if G (o + 1) x2_4 = 0 then cNe_lone_L4 o G n_4 (ior x1_4 (ishl 1 x2_4)) (w32 (x2_4 + 1)) else cNe_lone_L4 o G n_4 (ior x1_4 0) (w32 (x2_4 + 1)))) else some x1_4
def cNe_lone (o : Int) (G : Hp) : Option (Int) :=
  cNe_lone_L4 o G FU 0 0
def cX_aroundTo (a1 : Int) (a2 : Int) (G : Hp) : Option (Int × Hp) :=
  (cNe_part 87 a1 a2 G).bind fun G6 => (cNe_between 87 a1 a2 G6).bind fun r15 => (cNe_join 87 a1 a2 r15.2).bind fun G25 => some (r15.1, G25)
def cX_bridges_L26 (a1 : Int) (x3_26 : Int) (k66 : Int → Hp → Option (Int × Hp)) : Nat → Int → Int → Hp → Option (Int × Hp)
  | 0, _, _, _ => none
  | n_26 + 1, x2_26, x4_26, G_26 =>
  if x4_26 < 10 then ((cNe_near (a1 + 1) x3_26 x4_26 G_26).bind fun v40 => if v40 = true then ((cX_aroundTo x3_26 x4_26 G_26).bind fun r50 => if r50.1 = (-1) then cX_bridges_L26 a1 x3_26 k66 n_26 (w32 (x2_26 + 1)) (w32 (x4_26 + 1)) r50.2 else cX_bridges_L26 a1 x3_26 k66 n_26 x2_26 (w32 (x4_26 + 1)) r50.2) else cX_bridges_L26 a1 x3_26 k66 n_26 x2_26 (w32 (x4_26 + 1)) G_26) else k66 x2_26 G_26
def cX_bridges_L15 (a1 : Int) : Nat → Int → Int → Hp → Option (Int × Hp)
  | 0, _, _, _ => none
  | n_15 + 1, x2_15, x3_15, G_15 =>
  if x3_15 < 10 then cX_bridges_L26 a1 x3_15 (fun x2_66 G_66 => cX_bridges_L15 a1 n_15 x2_66 (w32 (x3_15 + 1)) G_66) FU x2_15 (w32 (x3_15 + 1)) G_15 else some (x2_15, G_15)
def cX_bridges (a1 : Int) (G : Hp) : Option (Int × Hp) :=
  (cNe_copy 87 (a1 + 1) G).bind fun G10 => cX_bridges_L15 a1 FU 0 0 G10
def cX_circle_j57 (a1 : Int) (k26 : Int → Int → Hp → Option (Int × Hp)) (x2_57 : Int) (x3_57 : Int) (x4_57 : Int) (s0_57 : Int) (G_57 : Hp) : Option (Int × Hp) :=
  if s0_57 = (-1) then k26 x2_57 (w32 (x4_57 + 1)) G_57 else (if x2_57 = (-1) then k26 (w32 (s0_57 + 1)) (w32 (x4_57 + 1)) G_57 else (if w32 (s0_57 + 1) < x2_57 then k26 (w32 (s0_57 + 1)) (w32 (x4_57 + 1)) G_57 else k26 x2_57 (w32 (x4_57 + 1)) G_57))
def cX_circle_L26 (a1 : Int) (x3_26 : Int) (k89 : Int → Hp → Option (Int × Hp)) : Nat → Int → Int → Hp → Option (Int × Hp)
  | 0, _, _, _ => none
  | n_26 + 1, x2_26, x4_26, G_26 =>
  if x4_26 < 10 then ((cNe_near (a1 + 1) x3_26 x4_26 G_26).bind fun v40 => if v40 = true then ((cX_aroundTo x3_26 x4_26 G_26).bind fun r50 => cX_circle_j57 a1 (cX_circle_L26 a1 x3_26 k89 n_26) x2_26 x3_26 x4_26 r50.1 r50.2) else cX_circle_j57 a1 (cX_circle_L26 a1 x3_26 k89 n_26) x2_26 x3_26 x4_26 (-1) G_26) else k89 x2_26 G_26
def cX_circle_L15 (a1 : Int) : Nat → Int → Int → Hp → Option (Int × Hp)
  | 0, _, _, _ => none
  | n_15 + 1, x2_15, x3_15, G_15 =>
  if x3_15 < 10 then cX_circle_L26 a1 x3_15 (fun x2_89 G_89 => cX_circle_L15 a1 n_15 x2_89 (w32 (x3_15 + 1)) G_89) FU x2_15 (w32 (x3_15 + 1)) G_15 else some (x2_15, G_15)
def cX_circle (a1 : Int) (G : Hp) : Option (Int × Hp) :=
  (cNe_copy 87 (a1 + 1) G).bind fun G10 => cX_circle_L15 a1 FU (-1) 0 G10
def cX_kin (a1 : Int) (a2 : Int) (G : Hp) : Option (Int × Hp) :=
  (cX_paperAt a1 G).bind fun v2 => if v2 < 0 then some ((-2), G) else (if a2 = 0 then ((cNe_kinds (v2 + 1) G).bind fun r56 => some (r56.1, r56.2)) else if a2 = 1 then ((cNe_largest (v2 + 1) G).bind fun r64 => some (r64.1, r64.2)) else if a2 = 2 then ((cNe_widest (v2 + 1) G).bind fun r72 => some (r72.1, r72.2)) else if a2 = 3 then ((cNe_lone (v2 + 1) G).bind fun v80 => some (v80, G)) else if a2 = 4 then ((cX_bridges v2 G).bind fun r86 => some (r86.1, r86.2)) else if a2 = 5 then ((cX_circle v2 G).bind fun r92 => some (r92.1, r92.2)) else some ((-2), G))
def cPa_readBy (o : Int) (a1 : Int) (a2 : Int) (G : Hp) : Option (Int × Hp) :=
  (cPa_readIn o (o + 1) a1 a2 0 G).bind fun r8 => some (r8.1, r8.2)
def cPa_contentOfAll_L4 (o : Int) (a1 : Int) (G : Hp) : Nat → Int → Int → Option (Int)
  | 0, _, _ => none
  | n_4 + 1, x2_4, x3_4 =>
  if x3_4 < G o 2 then ((cPa_content o x3_4 a1 G).bind fun v16 => cPa_contentOfAll_L4 o a1 G n_4 (w32 (x2_4 + v16)) (w32 (x3_4 + 1))) else some x2_4
def cPa_contentOfAll (o : Int) (a1 : Int) (G : Hp) : Option (Int) :=
  cPa_contentOfAll_L4 o a1 G FU 0 0
def cX_standsAt (a0 : Int) (a1 : Int) (a2 : Int) (G : Hp) : Option (Int) :=
  if w32 (a2 - 10) < 0 then some (-2) else (if G a0 1 ≤ w32 (a2 - 10) then some (-2) else some (cX_wordAt a1 (w32 (a2 - 10))))
def cX_reading (a1 : Int) (a2 : Int) (a3 : Int) (G : Hp) : Option (Int × Hp) :=
  (cX_paperAt a1 G).bind fun v2 => if v2 < 0 then some ((-2), G) else (if a2 < 0 then some ((-2), G) else (if G v2 2 ≤ a2 then some ((-2), G) else ((cPa_readBy v2 a2 (G v2 0) G).bind fun r36 => if a3 = 0 then ((cX_unlikePlaces (r36.2 v2 0) r36.1 r36.2).bind fun v52 => some ((jI_bitCount v52), r36.2)) else (if a3 = 1 then ((cPa_contentOfAll v2 r36.1 r36.2).bind fun v68 => some (v68, r36.2)) else ((cX_standsAt v2 r36.1 a3 r36.2).bind fun v79 => some (v79, r36.2))))))
def cRo_lap_L4 (a1 : Int) : Nat → Int → Int → Hp → Option (Bool × Hp)
  | 0, _, _, _ => none
  | n_4 + 1, x2_4, x3_4, G_4 =>
  if x3_4 < G_4 a1 2 then ((cPa_readBy a1 x3_4 (G_4 78 3) G_4).bind fun r18 => if x2_4 = 0 then (if r18.1 = r18.2 78 3 then cRo_lap_L4 a1 n_4 0 (w32 (x3_4 + 1)) (upd2 r18.2 78 3 r18.1) else cRo_lap_L4 a1 n_4 1 (w32 (x3_4 + 1)) (upd2 r18.2 78 3 r18.1)) else cRo_lap_L4 a1 n_4 1 (w32 (x3_4 + 1)) (upd2 r18.2 78 3 r18.1)) else ((zret x2_4).bind fun b_ => some (b_, G_4))
def cRo_lap (a1 : Int) (G : Hp) : Option (Bool × Hp) :=
  cRo_lap_L4 a1 FU 0 0 G
def cRo_seek_L2 (a1 : Int) : Nat → Int → Hp → Option (Hp)
  | 0, _, _ => none
  | n_2 + 1, x2_2, G_2 =>
  if x2_2 < a1 then (gd x2_2 61 (if G_2 79 x2_2 = G_2 78 3 then cRo_seek_L2 a1 n_2 (w32 (x2_2 + 1)) (upd2 G_2 78 2 (w32 (a1 - x2_2))) else cRo_seek_L2 a1 n_2 (w32 (x2_2 + 1)) G_2)) else some G_2
def cRo_seek (a1 : Int) (G : Hp) : Option (Hp) :=
  cRo_seek_L2 a1 FU 0 G
def cRo_run_L30 (a1 : Int) : Nat → Int → Hp → Option (Hp)
  | 0, _, _ => none
  | n_30 + 1, x2_30, G_30 =>
  if x2_30 ≤ 60 then (if G_30 78 1 = (-1) then (if G_30 78 2 = (-1) then ((cRo_lap a1 G_30).bind fun r54 => gd x2_30 61 (if r54.1 = true then ((cRo_seek x2_30 (upd2 r54.2 79 x2_30 (r54.2 78 3))).bind fun G84 => cRo_run_L30 a1 n_30 (w32 (x2_30 + 1)) G84) else cRo_run_L30 a1 n_30 (w32 (x2_30 + 1)) (upd2 (upd2 r54.2 79 x2_30 (r54.2 78 3)) 78 1 (w32 (x2_30 - 1))))) else some G_30) else some G_30) else some G_30
def cRo_run (a1 : Int) (G : Hp) : Option (Hp) :=
  cRo_run_L30 a1 FU 1 (upd2 (upd2 (upd2 (upd2 G 78 1 (-1)) 78 2 (-1)) 78 3 ((upd2 (upd2 G 78 1 (-1)) 78 2 (-1)) a1 0)) 79 0 ((upd2 (upd2 (upd2 G 78 1 (-1)) 78 2 (-1)) 78 3 ((upd2 (upd2 G 78 1 (-1)) 78 2 (-1)) a1 0)) 78 3))
def cX_rounds (a1 : Int) (a2 : Int) (G : Hp) : Option (Int × Hp) :=
  (cX_paperAt a1 G).bind fun v2 => if v2 < 0 then some ((-2), G) else ((cRo_run v2 G).bind fun G18 => if a2 = 0 then some (G18 78 1, G18) else (if a2 = 1 then some (G18 78 2, G18) else ((cX_standsAt v2 (G18 78 3) a2 G18).bind fun v57 => some (v57, G18))))
def cPa_farFrom_L4 (o : Int) (a1 : Int) : Nat → Int → Int → Hp → Option (Int × Hp)
  | 0, _, _, _ => none
  | n_4 + 1, x2_4, x3_4, G_4 =>
  if x3_4 < G_4 o 1 then ((cPa_wish o a1 x3_4 G_4).bind fun v29 => (cNe_between (o + 1) (cX_wordAt (G_4 o 0) x3_4) v29 G_4).bind fun r32 => cPa_farFrom_L4 o a1 n_4 (w32 (x2_4 + (max 0 r32.1))) (w32 (x3_4 + 1)) r32.2) else some (x2_4, G_4)
def cPa_farFrom (o : Int) (a1 : Int) (G : Hp) : Option (Int × Hp) :=
  cPa_farFrom_L4 o a1 FU 0 0 G
def cPa_readingsOf_L7 (o : Int) (a1 : Int) : Nat → Int → Int → Hp → Option (Int × Hp)
  | 0, _, _, _ => none
  | n_7 + 1, x2_7, x3_7, G_7 =>
  if x3_7 < 80 then ((cPa_readBy o a1 x2_7 G_7).bind fun r16 => if r16.1 = x2_7 then some (x3_7, r16.2) else cPa_readingsOf_L7 o a1 n_7 r16.1 (w32 (x3_7 + 1)) r16.2) else some (80, G_7)
def cPa_readingsOf (o : Int) (a1 : Int) (G : Hp) : Option (Int × Hp) :=
  cPa_readingsOf_L7 o a1 FU (G o 0) 0 G
def cPa_areRivals_L2 (o : Int) (a1 : Int) (a2 : Int) (G : Hp) : Nat → Int → Option (Bool)
  | 0, _ => none
  | n_2 + 1, x3_2 =>
  if x3_2 < G o 1 then ((cPa_wish o a1 x3_2 G).bind fun v13 => (cPa_wish o a2 x3_2 G).bind fun v21 => if v13 = 10 then cPa_areRivals_L2 o a1 a2 G n_2 (w32 (x3_2 + 1)) else (if v21 = 10 then cPa_areRivals_L2 o a1 a2 G n_2 (w32 (x3_2 + 1)) else (if v13 = v21 then cPa_areRivals_L2 o a1 a2 G n_2 (w32 (x3_2 + 1)) else some true))) else some false
def cPa_areRivals (o : Int) (a1 : Int) (a2 : Int) (G : Hp) : Option (Bool) :=
  cPa_areRivals_L2 o a1 a2 G FU 0
def cPa_rivals_L4 (o : Int) (a1 : Int) (G : Hp) : Nat → Int → Int → Option (Int)
  | 0, _, _ => none
  | n_4 + 1, x2_4, x3_4 =>
  if x3_4 < G o 2 then ((cPa_areRivals o a1 x3_4 G).bind fun v16 => if v16 = true then cPa_rivals_L4 o a1 G n_4 (ior x2_4 (ishl 1 x3_4)) (w32 (x3_4 + 1)) else cPa_rivals_L4 o a1 G n_4 (ior x2_4 0) (w32 (x3_4 + 1))) else some x2_4
def cPa_rivals (o : Int) (a1 : Int) (G : Hp) : Option (Int) :=
  cPa_rivals_L4 o a1 G FU 0 0
def cX_distance (a1 : Int) (a2 : Int) (a3 : Int) (G : Hp) : Option (Int × Hp) :=
  (cX_paperAt a1 G).bind fun v2 => if v2 < 0 then some ((-2), G) else (if a2 < 0 then some ((-2), G) else (if G v2 2 ≤ a2 then some ((-2), G) else (if a3 = 0 then ((cPa_farFrom v2 a2 G).bind fun r59 => some (r59.1, r59.2)) else if a3 = 1 then ((cPa_readingsOf v2 a2 G).bind fun r66 => some (r66.1, r66.2)) else if a3 = 2 then ((cPa_rivals v2 a2 G).bind fun v73 => some (v73, G)) else some ((-2), G))))
def cPa_idle_L4 (o : Int) : Nat → Int → Int → Hp → Option (Int × Hp)
  | 0, _, _, _ => none
  | n_4 + 1, x1_4, x2_4, G_4 =>
  if x2_4 < G_4 o 2 then ((cPa_readBy o x2_4 (G_4 o 0) G_4).bind fun r19 => if r19.1 = r19.2 o 0 then cPa_idle_L4 o n_4 (ior x1_4 (ishl 1 x2_4)) (w32 (x2_4 + 1)) r19.2 else cPa_idle_L4 o n_4 (ior x1_4 0) (w32 (x2_4 + 1)) r19.2) else some (x1_4, G_4)
def cPa_idle (o : Int) (G : Hp) : Option (Int × Hp) :=
  cPa_idle_L4 o FU 0 0 G
def cX_better (a0 : Int) (a1 : Int) (a2 : Int) (G : Hp) : Option (Int) :=
  if a0 < 0 then some (w32 ((w32 (100 * a1)) + a2)) else (if idiv a0 100 < a1 then some (w32 ((w32 (100 * a1)) + a2)) else some a0)
def cX_bestLast_L20 (a0 : Int) (x1_20 : Int) (x2_20 : Int) (k53 : Int → Hp → Option (Int × Hp)) : Nat → Int → Int → Hp → Option (Int × Hp)
  | 0, _, _, _ => none
  | n_20 + 1, x3_20, x4_20, G_20 =>
  if x4_20 < G_20 a0 2 then (if x4_20 = x2_20 then cX_bestLast_L20 a0 x1_20 x2_20 k53 n_20 x3_20 (w32 (x4_20 + 1)) G_20 else ((cPa_readBy a0 x4_20 x3_20 G_20).bind fun r43 => cX_bestLast_L20 a0 x1_20 x2_20 k53 n_20 r43.1 (w32 (x4_20 + 1)) r43.2)) else k53 x3_20 G_20
def cX_bestLast_L4 (a0 : Int) : Nat → Int → Int → Hp → Option (Int × Hp)
  | 0, _, _, _ => none
  | n_4 + 1, x1_4, x2_4, G_4 =>
  if x2_4 < G_4 a0 2 then (cX_bestLast_L20 a0 x1_4 x2_4 (fun x3_53 G_53 => (cPa_readBy a0 x2_4 x3_53 G_53).bind fun r58 => (cPa_contentOfAll a0 r58.1 r58.2).bind fun v61 => (cX_better x1_4 v61 x2_4 r58.2).bind fun v65 => cX_bestLast_L4 a0 n_4 v65 (w32 (x2_4 + 1)) r58.2) FU (G_4 a0 0) 0 G_4) else some (x1_4, G_4)
def cX_bestLast (a0 : Int) (G : Hp) : Option (Int × Hp) :=
  cX_bestLast_L4 a0 FU (-1) 0 G
def cX_which (a0 : Int) (G : Hp) : Option (Int) :=
  if a0 < 0 then some (-1) else some (irem a0 100)
def cX_howMuch (a0 : Int) (G : Hp) : Option (Int) :=
  if a0 < 0 then some 0 else some (idiv a0 100)
def cX_bestSwap_j65 (a0 : Int) (k33 : Int → Int → Hp → Option (Int × Hp)) (x1_65 : Int) (x2_65 : Int) (x3_65 : Int) (x4_65 : Int) (x5_65 : Int) (s0_65 : Int) (G_65 : Hp) : Option (Int × Hp) :=
  (cPa_readBy a0 s0_65 x4_65 G_65).bind fun r67 => k33 r67.1 (w32 (x5_65 + 1)) r67.2
def cX_bestSwap_L33 (a0 : Int) (x1_33 : Int) (x2_33 : Int) (x3_33 : Int) (k78 : Int → Hp → Option (Int × Hp)) : Nat → Int → Int → Hp → Option (Int × Hp)
  | 0, _, _, _ => none
  | n_33 + 1, x4_33, x5_33, G_33 =>
  if x5_33 < G_33 a0 2 then (if x5_33 = x2_33 then cX_bestSwap_j65 a0 (cX_bestSwap_L33 a0 x1_33 x2_33 x3_33 k78 n_33) x1_33 x2_33 x3_33 x4_33 x5_33 x3_33 G_33 else (if x5_33 = x3_33 then cX_bestSwap_j65 a0 (cX_bestSwap_L33 a0 x1_33 x2_33 x3_33 k78 n_33) x1_33 x2_33 x3_33 x4_33 x5_33 x2_33 G_33 else cX_bestSwap_j65 a0 (cX_bestSwap_L33 a0 x1_33 x2_33 x3_33 k78 n_33) x1_33 x2_33 x3_33 x4_33 x5_33 x5_33 G_33)) else k78 x4_33 G_33
def cX_bestSwap_L16 (a0 : Int) (x2_16 : Int) (k101 : Int → Hp → Option (Int × Hp)) : Nat → Int → Int → Hp → Option (Int × Hp)
  | 0, _, _, _ => none
  | n_16 + 1, x1_16, x3_16, G_16 =>
  if x3_16 < G_16 a0 2 then (cX_bestSwap_L33 a0 x1_16 x2_16 x3_16 (fun x4_78 G_78 => (cPa_contentOfAll a0 x4_78 G_78).bind fun v82 => (cX_better x1_16 v82 (w32 ((w32 (10 * x2_16)) + x3_16)) G_78).bind fun v91 => cX_bestSwap_L16 a0 x2_16 k101 n_16 v91 (w32 (x3_16 + 1)) G_78) FU (G_16 a0 0) 0 G_16) else k101 x1_16 G_16
def cX_bestSwap_L4 (a0 : Int) : Nat → Int → Int → Hp → Option (Int × Hp)
  | 0, _, _, _ => none
  | n_4 + 1, x1_4, x2_4, G_4 =>
  if x2_4 < G_4 a0 2 then cX_bestSwap_L16 a0 x2_4 (fun x1_101 G_101 => cX_bestSwap_L4 a0 n_4 x1_101 (w32 (x2_4 + 1)) G_101) FU x1_4 (w32 (x2_4 + 1)) G_4 else some (x1_4, G_4)
def cX_bestSwap (a0 : Int) (G : Hp) : Option (Int × Hp) :=
  cX_bestSwap_L4 a0 FU (-1) 0 G
def cPa_round_L5 (o : Int) (a1 : Int) (a2 : Int) : Nat → Int → Int → Hp → Option (Int × Hp)
  | 0, _, _, _ => none
  | n_5 + 1, x3_5, x4_5, G_5 =>
  if x4_5 < G_5 o 2 then ((cPa_readIn o a1 x4_5 x3_5 0 G_5).bind fun r20 => cPa_round_L5 o a1 a2 n_5 r20.1 (w32 (x4_5 + 1)) r20.2) else some (x3_5, G_5)
def cPa_round (o : Int) (a1 : Int) (a2 : Int) (G : Hp) : Option (Int × Hp) :=
  cPa_round_L5 o a1 a2 FU a2 0 G
def cX_bestCouple_L26 (a1 : Int) (x3_26 : Int) (k100 : Int → Hp → Option (Int × Hp)) : Nat → Int → Int → Hp → Option (Int × Hp)
  | 0, _, _, _ => none
  | n_26 + 1, x2_26, x4_26, G_26 =>
  if x4_26 < 10 then ((cNe_near (a1 + 1) x3_26 x4_26 G_26).bind fun v40 => if v40 = true then cX_bestCouple_L26 a1 x3_26 k100 n_26 x2_26 (w32 (x4_26 + 1)) G_26 else ((cNe_join 87 x3_26 x4_26 G_26).bind fun G53 => (cPa_round a1 87 (G53 a1 0) G53).bind fun r67 => (cPa_contentOfAll a1 r67.1 r67.2).bind fun v70 => (cX_better x2_26 v70 (w32 ((w32 (10 * x3_26)) + x4_26)) r67.2).bind fun v80 => (cNe_part 87 x3_26 x4_26 r67.2).bind fun G91 => cX_bestCouple_L26 a1 x3_26 k100 n_26 v80 (w32 (x4_26 + 1)) G91)) else k100 x2_26 G_26
def cX_bestCouple_L15 (a1 : Int) : Nat → Int → Int → Hp → Option (Int × Hp)
  | 0, _, _, _ => none
  | n_15 + 1, x2_15, x3_15, G_15 =>
  if x3_15 < 10 then cX_bestCouple_L26 a1 x3_15 (fun x2_100 G_100 => cX_bestCouple_L15 a1 n_15 x2_100 (w32 (x3_15 + 1)) G_100) FU x2_15 (w32 (x3_15 + 1)) G_15 else some (x2_15, G_15)
def cX_bestCouple (a1 : Int) (G : Hp) : Option (Int × Hp) :=
  (cNe_copy 87 (a1 + 1) G).bind fun G10 => cX_bestCouple_L15 a1 FU (-1) 0 G10
def cX_blame_L25 (a0 : Int) (a1 : Int) : Nat → Int → Int → Int → Hp → Option (Int × Hp)
  | 0, _, _, _, _ => none
  | n_25 + 1, x2_25, x3_25, x4_25, G_25 =>
  if x4_25 < G_25 a0 2 then ((cPa_readBy a0 x4_25 x3_25 G_25).bind fun r38 => if (cX_wordAt r38.1 a1) = (cX_wordAt x3_25 a1) then cX_blame_L25 a0 a1 n_25 x2_25 r38.1 (w32 (x4_25 + 1)) r38.2 else cX_blame_L25 a0 a1 n_25 x4_25 r38.1 (w32 (x4_25 + 1)) r38.2) else some (x2_25, G_25)
def cX_blame (a0 : Int) (a1 : Int) (G : Hp) : Option (Int × Hp) :=
  if a1 < 0 then some ((-2), G) else (if G a0 1 ≤ a1 then some ((-2), G) else cX_blame_L25 a0 a1 FU (-1) (G a0 0) 0 G)
def cX_lastWord (a1 : Int) (a2 : Int) (G : Hp) : Option (Int × Hp) :=
  (cX_paperAt a1 G).bind fun v2 => if v2 < 0 then some ((-2), G) else (if a2 = 0 then ((cPa_idle v2 G).bind fun r57 => some (r57.1, r57.2)) else if a2 = 1 then ((cX_bestLast v2 G).bind fun r62 => (cX_which r62.1 r62.2).bind fun v65 => some (v65, r62.2)) else if a2 = 2 then ((cX_bestLast v2 G).bind fun r70 => (cX_howMuch r70.1 r70.2).bind fun v73 => some (v73, r70.2)) else if a2 = 3 then ((cX_bestSwap v2 G).bind fun r78 => (cX_which r78.1 r78.2).bind fun v81 => some (v81, r78.2)) else if a2 = 4 then ((cX_bestSwap v2 G).bind fun r86 => (cX_howMuch r86.1 r86.2).bind fun v89 => some (v89, r86.2)) else if a2 = 5 then ((cX_bestCouple v2 G).bind fun r95 => (cX_which r95.1 r95.2).bind fun v98 => some (v98, r95.2)) else if a2 = 6 then ((cX_bestCouple v2 G).bind fun r104 => (cX_howMuch r104.1 r104.2).bind fun v107 => some (v107, r104.2)) else ((cX_blame v2 (w32 (a2 - 10)) G).bind fun r116 => some (r116.1, r116.2)))
def cX_clearRow_L2 : Nat → Int → Hp → Option (Hp)
  | 0, _, _ => none
  | n_2 + 1, x1_2, G_2 =>
  if x1_2 < 10 then (gd x1_2 10 (cX_clearRow_L2 n_2 (w32 (x1_2 + 1)) (upd2 G_2 91 x1_2 0))) else some G_2
def cX_clearRow (G : Hp) : Option (Hp) :=
  cX_clearRow_L2 FU 0 G
def cX_longestDesk_L18 (a1 : Int) (a2 : Int) (a3 : Int) : Nat → Int → Int → Int → Hp → Option (Int × Hp)
  | 0, _, _, _, _ => none
  | n_18 + 1, x4_18, x5_18, x6_18, G_18 =>
  if x6_18 < 0 then some (x5_18, G_18) else (if 0 < a2 then (if a2 ≤ 10 then (nz a2 (nz a2 (gd (irem x4_18 a2) 10 (gd x6_18 6 (gd (irem x4_18 a2) 10 (gd (irem x4_18 a2) 10 (cX_longestDesk_L18 a1 a2 a3 n_18 (idiv x4_18 a2) (max x5_18 ((upd2 G_18 91 (irem x4_18 a2) (w32 ((G_18 91 (irem x4_18 a2)) + (G_18 (a1 + 6) x6_18)))) 91 (irem x4_18 a2))) (w32 (x6_18 + (-1))) (upd2 G_18 91 (irem x4_18 a2) (w32 ((G_18 91 (irem x4_18 a2)) + (G_18 (a1 + 6) x6_18))))))))))) else some (x5_18, G_18)) else some (x5_18, G_18))
def cX_longestDesk (a1 : Int) (a2 : Int) (a3 : Int) (G : Hp) : Option (Int × Hp) :=
  (cX_clearRow G).bind fun G1 => cX_longestDesk_L18 a1 a2 a3 FU a3 0 (w32 ((G1 a1 2) - 1)) G1
def cX_deskOf_L11 (a0 : Int) (a1 : Int) (a2 : Int) (a3 : Int) (G : Hp) (k33 : Int → Option (Int)) : Nat → Int → Int → Option (Int)
  | 0, _, _ => none
  | n_11 + 1, x4_11, x5_11 =>
  if a3 < x5_11 then (if 0 < a1 then (nz a1 (cX_deskOf_L11 a0 a1 a2 a3 G k33 n_11 (idiv x4_11 a1) (w32 (x5_11 + (-1))))) else k33 x4_11) else k33 x4_11
def cX_deskOf (a0 : Int) (a1 : Int) (a2 : Int) (a3 : Int) (G : Hp) : Option (Int) :=
  cX_deskOf_L11 a0 a1 a2 a3 G (fun x4_33 => if 0 < a1 then (nz a1 (some (irem x4_33 a1))) else some 0) FU a2 (w32 ((G a0 2) - 1))
def cX_desks_L44 (a1 : Int) (a2 : Int) (a3 : Int) (x4_44 : Int) (G_44 : Hp) (k66 : Int → Option (Int × Hp)) : Nat → Int → Int → Option (Int × Hp)
  | 0, _, _ => none
  | n_44 + 1, x5_44, x6_44 =>
  if x6_44 < G_44 x4_44 2 then cX_desks_L44 a1 a2 a3 x4_44 G_44 k66 n_44 (w32 (x5_44 * a2)) (w32 (x6_44 + 1)) else k66 x5_44
def cX_desks_L76 (a1 : Int) (a2 : Int) (a3 : Int) (x4_76 : Int) (x5_76 : Int) (k115 : Int → Int → Hp → Option (Int × Hp)) : Nat → Int → Int → Int → Hp → Option (Int × Hp)
  | 0, _, _, _, _ => none
  | n_76 + 1, x6_76, x7_76, x8_76, G_76 =>
  if x8_76 < x5_76 then ((cX_longestDesk x4_76 a2 x8_76 G_76).bind fun r89 => if r89.1 < x7_76 then cX_desks_L76 a1 a2 a3 x4_76 x5_76 k115 n_76 x8_76 r89.1 (w32 (x8_76 + 1)) r89.2 else cX_desks_L76 a1 a2 a3 x4_76 x5_76 k115 n_76 x6_76 x7_76 (w32 (x8_76 + 1)) r89.2) else k115 x6_76 x7_76 G_76
def cX_desks (a1 : Int) (a2 : Int) (a3 : Int) (G : Hp) : Option (Int × Hp) :=
  (cX_paperAt a1 G).bind fun v2 => if v2 < 0 then some ((-1), G) else (if 1 ≤ a2 then (if a2 ≤ 3 then (if (-1) ≤ a3 then (if G v2 2 ≤ a3 then some ((-1), G) else (cX_desks_L44 a1 a2 a3 v2 G (fun x5_66 => cX_desks_L76 a1 a2 a3 v2 x5_66 (fun x6_115 x7_115 G_115 => if a3 = (-1) then some (x7_115, G_115) else ((cX_deskOf v2 a2 x6_115 a3 G_115).bind fun v131 => some (v131, G_115))) FU 0 55 0 G) FU 1 0)) else some ((-1), G)) else some ((-1), G)) else some ((-1), G))
def cPa_leadAt_j16 (o : Int) (a1 : Int) (a2 : Int) (a3 : Int) (a4 : Int) (G : Hp) (s0_16 : Int) : Option (Int) :=
  (cPa_wish o a2 a3 G).bind fun v19 => if v19 = a4 then some (w32 (s0_16 - 1)) else some (w32 (s0_16 - 0))
def cPa_leadAt (o : Int) (a1 : Int) (a2 : Int) (a3 : Int) (a4 : Int) (G : Hp) : Option (Int) :=
  (cPa_wish o a1 a3 G).bind fun v3 => if v3 = a4 then cPa_leadAt_j16 o a1 a2 a3 a4 G 1 else cPa_leadAt_j16 o a1 a2 a3 a4 G 0
def cPa_gain (o : Int) (a1 : Int) (a2 : Int) (a3 : Int) (a4 : Int) (a5 : Int) (G : Hp) : Option (Int) :=
  (cPa_leadAt o a1 a2 a3 a5 G).bind fun v6 => (cPa_leadAt o a1 a2 a3 (cX_wordAt a4 a3) G).bind fun v19 => some (w32 (v6 - v19))
def cX_bestLead_L27 (n : Nat) (rc : Int → Int → Int → Int → Int → Int → Hp → Option (Int × Hp)) (a0 : Int) (a1 : Int) (a2 : Int) (a3 : Int) (a4 : Int) (a5 : Int) : Nat → Int → Int → Hp → Option (Int × Hp)
  | 0, _, _, _ => none
  | n_27 + 1, x6_27, x7_27, G_27 =>
  if x7_27 < G_27 a0 1 then ((cPa_wish a0 a1 x7_27 G_27).bind fun v51 => (cNe_next (a0 + 1) (cX_wordAt a4 x7_27) v51 G_27).bind fun r54 => if r54.1 = (-1) then cX_bestLead_L27 n rc a0 a1 a2 a3 a4 a5 n_27 x6_27 (w32 (x7_27 + 1)) r54.2 else ((cPa_gain a0 a1 a2 x7_27 a4 r54.1 r54.2).bind fun v76 => (rc a0 a2 a1 (w32 (a3 - 1)) (cX_put a4 x7_27 r54.1) (w32 (-(w32 (a5 + v76)))) r54.2).bind fun r102 => cX_bestLead_L27 n rc a0 a1 a2 a3 a4 a5 n_27 (max x6_27 (w32 (-r102.1))) (w32 (x7_27 + 1)) r102.2)) else some (x6_27, G_27)
def cX_bestLead_b (n : Nat) (rc : Int → Int → Int → Int → Int → Int → Hp → Option (Int × Hp)) (a0 : Int) (a1 : Int) (a2 : Int) (a3 : Int) (a4 : Int) (a5 : Int) (G : Hp) : Option (Int × Hp) :=
  if 0 < a3 then ((rc a0 a2 a1 (w32 (a3 - 1)) a4 (w32 (-a5)) G).bind fun r18 => cX_bestLead_L27 n rc a0 a1 a2 a3 a4 a5 FU (w32 (-r18.1)) 0 r18.2) else some (a5, G)
def cX_bestLead : Nat → Int → Int → Int → Int → Int → Int → Hp → Option (Int × Hp)
  | 0, _, _, _, _, _, _, _ => none
  | n + 1, a0, a1, a2, a3, a4, a5, G => cX_bestLead_b n (cX_bestLead n) a0 a1 a2 a3 a4 a5 G
def cX_bestPlace_L31 (a0 : Int) (a1 : Int) (a2 : Int) (a3 : Int) (a4 : Int) : Nat → Int → Int → Int → Hp → Option (Int × Hp)
  | 0, _, _, _, _ => none
  | n_31 + 1, x5_31, x6_31, x7_31, G_31 =>
  if x7_31 < 0 then some (x5_31, G_31) else ((cPa_wish a0 a1 x7_31 G_31).bind fun v53 => (cNe_next (a0 + 1) (cX_wordAt (G_31 a0 0) x7_31) v53 G_31).bind fun r56 => if r56.1 = (-1) then cX_bestPlace_L31 a0 a1 a2 a3 a4 n_31 x5_31 x6_31 (w32 (x7_31 + (-1))) r56.2 else ((cPa_gain a0 a1 a2 x7_31 (r56.2 a0 0) r56.1 r56.2).bind fun v80 => (cX_bestLead 5 a0 a2 a1 (w32 (a3 - 1)) (cX_put (r56.2 a0 0) x7_31 r56.1) (w32 (-(w32 (a4 + v80)))) r56.2).bind fun r106 => if x6_31 ≤ w32 (-r106.1) then cX_bestPlace_L31 a0 a1 a2 a3 a4 n_31 x7_31 (w32 (-r106.1)) (w32 (x7_31 + (-1))) r106.2 else cX_bestPlace_L31 a0 a1 a2 a3 a4 n_31 x5_31 x6_31 (w32 (x7_31 + (-1))) r106.2))
def cX_bestPlace (a0 : Int) (a1 : Int) (a2 : Int) (a3 : Int) (a4 : Int) (G : Hp) : Option (Int × Hp) :=
  (cX_bestLead 5 a0 a2 a1 (w32 (a3 - 1)) (G a0 0) (w32 (-a4)) G).bind fun r17 => cX_bestPlace_L31 a0 a1 a2 a3 a4 FU 8 (w32 (-r17.1)) (w32 ((r17.2 a0 1) - 1)) r17.2
def cX_quarrel (a1 : Int) (a2 : Int) (a3 : Int) (a4 : Int) (a5 : Int) (G : Hp) : Option (Int × Hp) :=
  (cX_paperAt a1 G).bind fun v2 => if v2 < 0 then some ((-99), G) else (if a4 < 0 then some ((-99), G) else (if a4 ≤ 4 then (if a2 = a3 then some ((-99), G) else (if a2 < 0 then some ((-99), G) else (if a3 < 0 then some ((-99), G) else (if a2 < G v2 2 then (if G v2 2 ≤ a3 then some ((-99), G) else ((cPa_content v2 a2 (G v2 0) G).bind fun v65 => (cPa_content v2 a3 (G v2 0) G).bind fun v76 => if a5 = 0 then ((cX_bestLead 5 v2 a2 a3 a4 (G v2 0) (w32 (v65 - v76)) G).bind fun r100 => some (r100.1, r100.2)) else (if a4 = 0 then some ((-1), G) else ((cX_bestPlace v2 a2 a3 a4 (w32 (v65 - v76)) G).bind fun r121 => some (r121.1, r121.2))))) else some ((-99), G))))) else some ((-99), G)))
def cPa_unlikeWishes_L5 (o : Int) (a1 : Int) (a2 : Int) (G : Hp) : Nat → Int → Int → Option (Int)
  | 0, _, _ => none
  | n_5 + 1, x3_5, x4_5 =>
  if x4_5 < G o 1 then ((cPa_wish o a1 x4_5 G).bind fun v19 => (cPa_wish o a2 x4_5 G).bind fun v26 => if v19 = v26 then cPa_unlikeWishes_L5 o a1 a2 G n_5 (ior x3_5 0) (w32 (x4_5 + 1)) else cPa_unlikeWishes_L5 o a1 a2 G n_5 (ior x3_5 (ishl 1 x4_5)) (w32 (x4_5 + 1))) else some x3_5
def cPa_unlikeWishes (o : Int) (a1 : Int) (a2 : Int) (G : Hp) : Option (Int) :=
  cPa_unlikeWishes_L5 o a1 a2 G FU 0 0
def cX_tellsApart_L2 (a1 : Int) (a2 : Int) (G : Hp) : Nat → Int → Option (Bool)
  | 0, _ => none
  | n_2 + 1, x3_2 =>
  if x3_2 < a2 then (gd x3_2 36 (if iand (G 92 x3_2) a1 = 0 then some false else cX_tellsApart_L2 a1 a2 G n_2 (w32 (x3_2 + 1)))) else some true
def cX_tellsApart (a1 : Int) (a2 : Int) (G : Hp) : Option (Bool) :=
  cX_tellsApart_L2 a1 a2 G FU 0
def cX_signs_L33 (a1 : Int) (a2 : Int) (x3_33 : Int) (x5_33 : Int) (k66 : Int → Hp → Option (Int × Hp)) : Nat → Int → Int → Hp → Option (Int × Hp)
  | 0, _, _, _ => none
  | n_33 + 1, x4_33, x6_33, G_33 =>
  if x6_33 < G_33 x3_33 2 then ((cPa_unlikeWishes x3_33 x5_33 x6_33 G_33).bind fun v56 => gd x4_33 36 (cX_signs_L33 a1 a2 x3_33 x5_33 k66 n_33 (w32 (x4_33 + 1)) (w32 (x6_33 + 1)) (upd2 G_33 92 x4_33 v56))) else k66 x4_33 G_33
def cX_signs_L18 (a1 : Int) (a2 : Int) (x3_18 : Int) (k72 : Int → Hp → Option (Int × Hp)) : Nat → Int → Int → Hp → Option (Int × Hp)
  | 0, _, _, _ => none
  | n_18 + 1, x4_18, x5_18, G_18 =>
  if x5_18 < G_18 x3_18 2 then cX_signs_L33 a1 a2 x3_18 x5_18 (fun x4_66 G_66 => cX_signs_L18 a1 a2 x3_18 k72 n_18 x4_66 (w32 (x5_18 + 1)) G_66) FU x4_18 (w32 (x5_18 + 1)) G_18 else k72 x4_18 G_18
def cX_signs_L78 (a1 : Int) (a2 : Int) (x3_78 : Int) (x4_78 : Int) (G_78 : Hp) (k129 : Int → Option (Int × Hp)) : Nat → Int → Int → Option (Int × Hp)
  | 0, _, _ => none
  | n_78 + 1, x5_78, x6_78 =>
  if x6_78 < ishl 1 (G_78 x3_78 1) then ((cX_tellsApart x6_78 x4_78 G_78).bind fun v94 => if v94 = true then (if x5_78 = (-1) then cX_signs_L78 a1 a2 x3_78 x4_78 G_78 k129 n_78 x6_78 (w32 (x6_78 + 1)) else (if (jI_bitCount x6_78) < (jI_bitCount x5_78) then cX_signs_L78 a1 a2 x3_78 x4_78 G_78 k129 n_78 x6_78 (w32 (x6_78 + 1)) else cX_signs_L78 a1 a2 x3_78 x4_78 G_78 k129 n_78 x5_78 (w32 (x6_78 + 1)))) else cX_signs_L78 a1 a2 x3_78 x4_78 G_78 k129 n_78 x5_78 (w32 (x6_78 + 1))) else k129 x5_78
def cX_signs (a1 : Int) (a2 : Int) (G : Hp) : Option (Int × Hp) :=
  (cX_paperAt a1 G).bind fun v2 => if v2 < 0 then some ((-1), G) else cX_signs_L18 a1 a2 v2 (fun x4_72 G_72 => cX_signs_L78 a1 a2 v2 x4_72 G_72 (fun x5_129 => if x5_129 = (-1) then some (x5_129, G_72) else (if a2 = 0 then some ((jI_bitCount x5_129), G_72) else some (x5_129, G_72))) FU (-1) 0) FU 0 0 G
def cX_mostOfRow_L4 (G : Hp) : Nat → Int → Int → Option (Int)
  | 0, _, _ => none
  | n_4 + 1, x1_4, x2_4 =>
  if x2_4 < 10 then (gd x2_4 10 (if 0 < G 91 x2_4 then (if x1_4 = (-1) then cX_mostOfRow_L4 G n_4 x2_4 (w32 (x2_4 + 1)) else (gd x2_4 10 (gd x1_4 10 (if G 91 x1_4 < G 91 x2_4 then cX_mostOfRow_L4 G n_4 x2_4 (w32 (x2_4 + 1)) else cX_mostOfRow_L4 G n_4 x1_4 (w32 (x2_4 + 1)))))) else cX_mostOfRow_L4 G n_4 x1_4 (w32 (x2_4 + 1)))) else some x1_4
def cX_mostOfRow (G : Hp) : Option (Int) :=
  cX_mostOfRow_L4 G FU (-1) 0
def cX_vote_L31 (a1 : Int) (a2 : Int) (x3_31 : Int) (k73 : Hp → Option (Int × Hp)) : Nat → Int → Hp → Option (Int × Hp)
  | 0, _, _ => none
  | n_31 + 1, x4_31, G_31 =>
  if x4_31 < G_31 x3_31 2 then ((cPa_wish x3_31 x4_31 a2 G_31).bind fun v44 => if v44 < 10 then (gd v44 10 (gd v44 10 (cX_vote_L31 a1 a2 x3_31 k73 n_31 (w32 (x4_31 + 1)) (upd2 G_31 91 v44 (w32 ((G_31 91 v44) + 1)))))) else cX_vote_L31 a1 a2 x3_31 k73 n_31 (w32 (x4_31 + 1)) G_31) else k73 G_31
def cX_vote (a1 : Int) (a2 : Int) (G : Hp) : Option (Int × Hp) :=
  (cX_paperAt a1 G).bind fun v2 => if v2 < 0 then some ((-1), G) else (if a2 < 0 then some ((-1), G) else (if G v2 1 ≤ a2 then some ((-1), G) else ((cX_clearRow G).bind fun G25 => cX_vote_L31 a1 a2 v2 (fun G_73 => (cX_mostOfRow G_73).bind fun v74 => some (v74, G_73)) FU 0 G25)))
def cX_atPeace_L2 (a1 : Int) (a2 : Int) (G : Hp) : Nat → Int → Option (Bool)
  | 0, _ => none
  | n_2 + 1, x3_2 =>
  if x3_2 < a2 then (if iand (ishr a1 x3_2) 1 = 0 then cX_atPeace_L2 a1 a2 G n_2 (w32 (x3_2 + 1)) else (gd x3_2 36 (if iand a1 (G 92 x3_2) = 0 then cX_atPeace_L2 a1 a2 G n_2 (w32 (x3_2 + 1)) else some false))) else some true
def cX_atPeace (a1 : Int) (a2 : Int) (G : Hp) : Option (Bool) :=
  cX_atPeace_L2 a1 a2 G FU 0
def cX_peace_L15 (a1 : Int) (a2 : Int) (x3_15 : Int) (k43 : Hp → Option (Int × Hp)) : Nat → Int → Hp → Option (Int × Hp)
  | 0, _, _ => none
  | n_15 + 1, x4_15, G_15 =>
  if x4_15 < G_15 x3_15 2 then ((cPa_rivals x3_15 x4_15 G_15).bind fun v33 => gd x4_15 36 (cX_peace_L15 a1 a2 x3_15 k43 n_15 (w32 (x4_15 + 1)) (upd2 G_15 92 x4_15 v33))) else k43 G_15
def cX_peace_L49 (a1 : Int) (a2 : Int) (x3_49 : Int) (G_49 : Hp) (k96 : Int → Option (Int × Hp)) : Nat → Int → Int → Option (Int × Hp)
  | 0, _, _ => none
  | n_49 + 1, x4_49, x5_49 =>
  if x5_49 < ishl 1 (G_49 x3_49 2) then (if (jI_bitCount x4_49) < (jI_bitCount x5_49) then ((cX_atPeace x5_49 (G_49 x3_49 2) G_49).bind fun v80 => if v80 = true then cX_peace_L49 a1 a2 x3_49 G_49 k96 n_49 x5_49 (w32 (x5_49 + 1)) else cX_peace_L49 a1 a2 x3_49 G_49 k96 n_49 x4_49 (w32 (x5_49 + 1))) else cX_peace_L49 a1 a2 x3_49 G_49 k96 n_49 x4_49 (w32 (x5_49 + 1))) else k96 x4_49
def cX_peace (a1 : Int) (a2 : Int) (G : Hp) : Option (Int × Hp) :=
  (cX_paperAt a1 G).bind fun v2 => if v2 < 0 then some ((-1), G) else cX_peace_L15 a1 a2 v2 (fun G_43 => cX_peace_L49 a1 a2 v2 G_43 (fun x4_96 => if a2 = 0 then some ((jI_bitCount x4_96), G_43) else some (x4_96, G_43)) FU 0 1) FU 0 G
def cPa_stepsToAll_L5 (o : Int) (a1 : Int) (a2 : Int) : Nat → Int → Int → Hp → Option (Int × Hp)
  | 0, _, _, _ => none
  | n_5 + 1, x3_5, x4_5, G_5 =>
  if x4_5 < G_5 o 2 then ((cPa_wish o x4_5 a2 G_5).bind fun v18 => if v18 = 10 then cPa_stepsToAll_L5 o a1 a2 n_5 x3_5 (w32 (x4_5 + 1)) G_5 else ((cNe_between (o + 1) a1 v18 G_5).bind fun r37 => if r37.1 = (-1) then cPa_stepsToAll_L5 o a1 a2 n_5 (w32 (x3_5 + 10)) (w32 (x4_5 + 1)) r37.2 else cPa_stepsToAll_L5 o a1 a2 n_5 (w32 (x3_5 + r37.1)) (w32 (x4_5 + 1)) r37.2)) else some (x3_5, G_5)
def cPa_stepsToAll (o : Int) (a1 : Int) (a2 : Int) (G : Hp) : Option (Int × Hp) :=
  cPa_stepsToAll_L5 o a1 a2 FU 0 0 G
def cX_median_L42 (a1 : Int) (a2 : Int) (a3 : Int) (x4_42 : Int) (k80 : Int → Int → Hp → Option (Int × Hp)) : Nat → Int → Int → Int → Hp → Option (Int × Hp)
  | 0, _, _, _, _ => none
  | n_42 + 1, x5_42, x6_42, x7_42, G_42 =>
  if x7_42 < 10 then ((cPa_stepsToAll x4_42 x7_42 a2 G_42).bind fun r54 => if r54.1 < x6_42 then cX_median_L42 a1 a2 a3 x4_42 k80 n_42 x7_42 r54.1 (w32 (x7_42 + 1)) r54.2 else cX_median_L42 a1 a2 a3 x4_42 k80 n_42 x5_42 x6_42 (w32 (x7_42 + 1)) r54.2) else k80 x5_42 x6_42 G_42
def cX_median (a1 : Int) (a2 : Int) (a3 : Int) (G : Hp) : Option (Int × Hp) :=
  (cX_paperAt a1 G).bind fun v2 => if v2 < 0 then some ((-1), G) else (if a2 < 0 then some ((-1), G) else (if G v2 1 ≤ a2 then some ((-1), G) else ((cPa_stepsToAll v2 0 a2 G).bind fun r34 => cX_median_L42 a1 a2 a3 v2 (fun x5_80 x6_80 G_80 => if a3 = 0 then some (x5_80, G_80) else some (x6_80, G_80)) FU 0 r34.1 1 r34.2)))
def cX_longestRise_L25 (a1 : Int) (x2_25 : Int) (x3_25 : Int) (G_25 : Hp) (k74 : Int → Option (Int × Hp)) : Nat → Int → Int → Option (Int × Hp)
  | 0, _, _ => none
  | n_25 + 1, x4_25, x5_25 =>
  if x5_25 < G_25 a1 1 then (if (cX_wordAt (G_25 a1 0) x3_25) < (cX_wordAt (G_25 a1 0) x5_25) then (gd x5_25 10 (cX_longestRise_L25 a1 x2_25 x3_25 G_25 k74 n_25 (max x4_25 (G_25 91 x5_25)) (w32 (x5_25 + 1)))) else cX_longestRise_L25 a1 x2_25 x3_25 G_25 k74 n_25 x4_25 (w32 (x5_25 + 1))) else k74 x4_25
def cX_longestRise_L13 (a1 : Int) : Nat → Int → Int → Hp → Option (Int × Hp)
  | 0, _, _, _ => none
  | n_13 + 1, x2_13, x3_13, G_13 =>
  if x3_13 < 0 then some (x2_13, G_13) else cX_longestRise_L25 a1 x2_13 x3_13 G_13 (fun x4_74 => gd x3_13 10 (gd x3_13 10 (cX_longestRise_L13 a1 n_13 (max x2_13 ((upd2 G_13 91 x3_13 (w32 (x4_74 + 1))) 91 x3_13)) (w32 (x3_13 + (-1))) (upd2 G_13 91 x3_13 (w32 (x4_74 + 1)))))) FU 0 (w32 (x3_13 + 1))
def cX_longestRise (a1 : Int) (G : Hp) : Option (Int × Hp) :=
  (cX_clearRow G).bind fun G1 => cX_longestRise_L13 a1 FU 0 (w32 ((G1 a1 1) - 1)) G1
def cPa_bend_L4 (o : Int) (G : Hp) : Nat → Int → Int → Option (Int)
  | 0, _, _ => none
  | n_4 + 1, x1_4, x2_4 =>
  if x2_4 < w32 ((w32 ((G o 1) - 1)) - x2_4) then (if (cX_wordAt (G o 0) x2_4) = (cX_wordAt (G o 0) (w32 ((w32 ((G o 1) - 1)) - x2_4))) then cPa_bend_L4 o G n_4 (w32 (x1_4 + 0)) (w32 (x2_4 + 1)) else cPa_bend_L4 o G n_4 (w32 (x1_4 + 1)) (w32 (x2_4 + 1))) else some x1_4
def cPa_bend (o : Int) (G : Hp) : Option (Int) :=
  cPa_bend_L4 o G FU 0 0
def cPa_alikeFrom_L2 (o : Int) (a1 : Int) (a2 : Int) (G : Hp) : Nat → Int → Option (Int)
  | 0, _ => none
  | n_2 + 1, x3_2 =>
  if w32 (a2 + x3_2) < G o 1 then (if (cX_wordAt (G o 0) (w32 (a1 + x3_2))) = (cX_wordAt (G o 0) (w32 (a2 + x3_2))) then cPa_alikeFrom_L2 o a1 a2 G n_2 (w32 (x3_2 + 1)) else some x3_2) else some x3_2
def cPa_alikeFrom (o : Int) (a1 : Int) (a2 : Int) (G : Hp) : Option (Int) :=
  cPa_alikeFrom_L2 o a1 a2 G FU 0
def cPa_twice_L16 (o : Int) (G : Hp) (x2_16 : Int) (k41 : Int → Option (Int)) : Nat → Int → Int → Option (Int)
  | 0, _, _ => none
  | n_16 + 1, x1_16, x3_16 =>
  if x3_16 < G o 1 then ((cPa_alikeFrom o x2_16 x3_16 G).bind fun v28 => cPa_twice_L16 o G x2_16 k41 n_16 (max x1_16 v28) (w32 (x3_16 + 1))) else k41 x1_16
def cPa_twice_L4 (o : Int) (G : Hp) : Nat → Int → Int → Option (Int)
  | 0, _, _ => none
  | n_4 + 1, x1_4, x2_4 =>
  if x2_4 < G o 1 then cPa_twice_L16 o G x2_4 (fun x1_41 => cPa_twice_L4 o G n_4 x1_41 (w32 (x2_4 + 1))) FU x1_4 (w32 (x2_4 + 1)) else some x1_4
def cPa_twice (o : Int) (G : Hp) : Option (Int) :=
  cPa_twice_L4 o G FU 0 0
def cX_countWords_L6 (a1 : Int) : Nat → Int → Hp → Option (Hp)
  | 0, _, _ => none
  | n_6 + 1, x2_6, G_6 =>
  if x2_6 < G_6 a1 1 then (if (cX_wordAt (G_6 a1 0) x2_6) < 10 then (gd (cX_wordAt (G_6 a1 0) x2_6) 10 (gd (cX_wordAt (G_6 a1 0) x2_6) 10 (cX_countWords_L6 a1 n_6 (w32 (x2_6 + 1)) (upd2 G_6 91 (cX_wordAt (G_6 a1 0) x2_6) (w32 ((G_6 91 (cX_wordAt (G_6 a1 0) x2_6)) + 1)))))) else cX_countWords_L6 a1 n_6 (w32 (x2_6 + 1)) G_6) else some G_6
def cX_countWords (a1 : Int) (G : Hp) : Option (Hp) :=
  (cX_clearRow G).bind fun G1 => cX_countWords_L6 a1 FU 0 G1
def cX_unlikeWords_L9 (a1 : Int) (G_9 : Hp) : Nat → Int → Int → Option (Int × Hp)
  | 0, _, _ => none
  | n_9 + 1, x2_9, x3_9 =>
  if x3_9 < 10 then (gd x3_9 10 (if 0 < G_9 91 x3_9 then cX_unlikeWords_L9 a1 G_9 n_9 (w32 (x2_9 + 1)) (w32 (x3_9 + 1)) else cX_unlikeWords_L9 a1 G_9 n_9 (w32 (x2_9 + 0)) (w32 (x3_9 + 1)))) else some (x2_9, G_9)
def cX_unlikeWords (a1 : Int) (G : Hp) : Option (Int × Hp) :=
  (cX_countWords a1 G).bind fun G2 => cX_unlikeWords_L9 a1 G2 FU 0 0
def cX_commonWord (a1 : Int) (G : Hp) : Option (Int × Hp) :=
  (cX_countWords a1 G).bind fun G2 => (cX_mostOfRow G2).bind fun v6 => some (v6, G2)
def cX_riseAt_L30 (a1 : Int) (a2 : Int) (x3_30 : Int) (G_30 : Hp) : Nat → Int → Int → Int → Int → Option (Int × Hp)
  | 0, _, _, _, _ => none
  | n_30 + 1, x4_30, x5_30, x6_30, x7_30 =>
  if x7_30 < G_30 a1 1 then (if x4_30 ≤ a2 then (if x5_30 < (cX_wordAt (G_30 a1 0) x7_30) then (gd x7_30 10 (if G_30 91 x7_30 = w32 (x3_30 - x4_30) then cX_riseAt_L30 a1 a2 x3_30 G_30 n_30 (w32 (x4_30 + 1)) (cX_wordAt (G_30 a1 0) x7_30) x7_30 (w32 (x7_30 + 1)) else cX_riseAt_L30 a1 a2 x3_30 G_30 n_30 x4_30 x5_30 x6_30 (w32 (x7_30 + 1)))) else cX_riseAt_L30 a1 a2 x3_30 G_30 n_30 x4_30 x5_30 x6_30 (w32 (x7_30 + 1))) else cX_riseAt_L30 a1 a2 x3_30 G_30 n_30 x4_30 x5_30 x6_30 (w32 (x7_30 + 1))) else some (x6_30, G_30)
def cX_riseAt (a1 : Int) (a2 : Int) (G : Hp) : Option (Int × Hp) :=
  (cX_longestRise a1 G).bind fun r2 => if a2 < 0 then some ((-2), r2.2) else (if r2.1 ≤ a2 then some ((-2), r2.2) else cX_riseAt_L30 a1 a2 r2.1 r2.2 FU 0 (-1) (-1) 0)
def cX_rise (a1 : Int) (a2 : Int) (G : Hp) : Option (Int × Hp) :=
  (cX_paperAt a1 G).bind fun v2 => if v2 < 0 then some ((-2), G) else (if a2 = 0 then ((cX_longestRise v2 G).bind fun r50 => some (r50.1, r50.2)) else if a2 = 1 then ((cPa_bend v2 G).bind fun v55 => some (v55, G)) else if a2 = 2 then ((cPa_twice v2 G).bind fun v60 => some (v60, G)) else if a2 = 3 then ((cX_unlikeWords v2 G).bind fun r66 => some (r66.1, r66.2)) else if a2 = 4 then ((cX_commonWord v2 G).bind fun r72 => some (r72.1, r72.2)) else ((cX_riseAt v2 (w32 (a2 - 10)) G).bind fun r82 => some (r82.1, r82.2)))
def cRw_keep_L4 (a1 : Int) (G_4 : Hp) (k30 : Int → Option (Hp)) : Nat → Int → Int → Option (Hp)
  | 0, _, _ => none
  | n_4 + 1, x2_4, x3_4 =>
  if x3_4 < G_4 80 2 then (gd x3_4 6 (cRw_keep_L4 a1 G_4 k30 n_4 (w32 ((w32 (10 * x2_4)) + (G_4 81 x3_4))) (w32 (x3_4 + 1)))) else k30 x2_4
def cRw_keep (a1 : Int) (G : Hp) : Option (Hp) :=
  cRw_keep_L4 a1 G (fun x2_30 => gd (G 80 1) 720 (gd ((upd2 G 83 (G 80 1) x2_30) 80 2) 7 (gd ((upd2 G 83 (G 80 1) x2_30) 80 1) 720 (gd ((upd2 (upd2 G 83 (G 80 1) x2_30) 84 ((upd2 G 83 (G 80 1) x2_30) 80 1) ((upd2 G 83 (G 80 1) x2_30) 82 ((upd2 G 83 (G 80 1) x2_30) 80 2))) 80 2) 7 ((cPa_contentOfAll a1 ((upd2 (upd2 G 83 (G 80 1) x2_30) 84 ((upd2 G 83 (G 80 1) x2_30) 80 1) ((upd2 G 83 (G 80 1) x2_30) 82 ((upd2 G 83 (G 80 1) x2_30) 80 2))) 82 ((upd2 (upd2 G 83 (G 80 1) x2_30) 84 ((upd2 G 83 (G 80 1) x2_30) 80 1) ((upd2 G 83 (G 80 1) x2_30) 82 ((upd2 G 83 (G 80 1) x2_30) 80 2))) 80 2)) (upd2 (upd2 G 83 (G 80 1) x2_30) 84 ((upd2 G 83 (G 80 1) x2_30) 80 1) ((upd2 G 83 (G 80 1) x2_30) 82 ((upd2 G 83 (G 80 1) x2_30) 80 2)))).bind fun v76 => gd ((upd2 (upd2 G 83 (G 80 1) x2_30) 84 ((upd2 G 83 (G 80 1) x2_30) 80 1) ((upd2 G 83 (G 80 1) x2_30) 82 ((upd2 G 83 (G 80 1) x2_30) 80 2))) 80 1) 720 (some (upd2 (upd2 (upd2 (upd2 G 83 (G 80 1) x2_30) 84 ((upd2 G 83 (G 80 1) x2_30) 80 1) ((upd2 G 83 (G 80 1) x2_30) 82 ((upd2 G 83 (G 80 1) x2_30) 80 2))) 85 ((upd2 (upd2 G 83 (G 80 1) x2_30) 84 ((upd2 G 83 (G 80 1) x2_30) 80 1) ((upd2 G 83 (G 80 1) x2_30) 82 ((upd2 G 83 (G 80 1) x2_30) 80 2))) 80 1) v76) 80 1 (w32 (((upd2 (upd2 (upd2 G 83 (G 80 1) x2_30) 84 ((upd2 G 83 (G 80 1) x2_30) 80 1) ((upd2 G 83 (G 80 1) x2_30) 82 ((upd2 G 83 (G 80 1) x2_30) 80 2))) 85 ((upd2 (upd2 G 83 (G 80 1) x2_30) 84 ((upd2 G 83 (G 80 1) x2_30) 80 1) ((upd2 G 83 (G 80 1) x2_30) 82 ((upd2 G 83 (G 80 1) x2_30) 80 2))) 80 1) v76) 80 1) + 1))))))))) FU 1 0
def cRw_swap (a1 : Int) (a2 : Int) (G : Hp) : Option (Hp) :=
  gd a1 6 (gd a2 6 (gd a1 6 (gd a2 6 (some (upd2 (upd2 G 81 a1 (G 81 a2)) 81 a2 (G 81 a1))))))
def cRw_turn_L7 (G_7 : Hp) (k34 : Int → Option (Int × Hp)) : Nat → Int → Option (Int × Hp)
  | 0, _ => none
  | n_7 + 1, x1_7 =>
  if x1_7 < 0 then k34 x1_7 else (gd x1_7 6 (gd (w32 (x1_7 + 1)) 6 (if G_7 81 (w32 (x1_7 + 1)) < G_7 81 x1_7 then cRw_turn_L7 G_7 k34 n_7 (w32 (x1_7 + (-1))) else k34 x1_7)))
def cRw_turn_L47 (x1_47 : Int) (G_47 : Hp) (k73 : Int → Option (Int × Hp)) : Nat → Int → Option (Int × Hp)
  | 0, _ => none
  | n_47 + 1, x2_47 =>
  if x1_47 < x2_47 then (gd x2_47 6 (gd x1_47 6 (if G_47 81 x2_47 < G_47 81 x1_47 then cRw_turn_L47 x1_47 G_47 k73 n_47 (w32 (x2_47 + (-1))) else k73 x2_47))) else k73 x2_47
def cRw_turn_L91 (x1_91 : Int) : Nat → Int → Int → Hp → Option (Int × Hp)
  | 0, _, _, _ => none
  | n_91 + 1, x3_91, x4_91, G_91 =>
  if x3_91 < x4_91 then ((cRw_swap x3_91 x4_91 G_91).bind fun G101 => cRw_turn_L91 x1_91 n_91 (w32 (x3_91 + 1)) (w32 (x4_91 + (-1))) G101) else some (x1_91, G_91)
def cRw_turn (G : Hp) : Option (Int × Hp) :=
  cRw_turn_L7 G (fun x1_34 => if x1_34 < 0 then some ((-1), G) else (cRw_turn_L47 x1_34 G (fun x2_73 => (cRw_swap x1_34 x2_73 G).bind fun G76 => cRw_turn_L91 x1_34 FU (w32 (x1_34 + 1)) (w32 ((G76 80 2) - 1)) G76) FU (w32 ((G 80 2) - 1)))) FU (w32 ((G 80 2) - 2))
def cRw_make_L42 (a1 : Int) (a2 : Int) (k63 : Hp → Option (Hp)) : Nat → Int → Hp → Option (Hp)
  | 0, _, _ => none
  | n_42 + 1, x3_42, G_42 =>
  if x3_42 < G_42 80 2 then (gd x3_42 6 (cRw_make_L42 a1 a2 k63 n_42 (w32 (x3_42 + 1)) (upd2 G_42 81 x3_42 x3_42))) else k63 G_42
def cRw_make_L94 (a1 : Int) (a2 : Int) (x4_94 : Int) (k136 : Hp → Option (Hp)) : Nat → Int → Hp → Option (Hp)
  | 0, _, _ => none
  | n_94 + 1, x5_94, G_94 =>
  if x5_94 < G_94 80 2 then (gd x5_94 6 (gd x5_94 7 ((cPa_readBy a2 (G_94 81 x5_94) (G_94 82 x5_94) G_94).bind fun r126 => gd (w32 (x5_94 + 1)) 7 (cRw_make_L94 a1 a2 x4_94 k136 n_94 (w32 (x5_94 + 1)) (upd2 r126.2 82 (w32 (x5_94 + 1)) r126.1))))) else k136 G_94
def cRw_make_L78 (a1 : Int) (a2 : Int) : Nat → Int → Int → Hp → Option (Hp)
  | 0, _, _, _ => none
  | n_78 + 1, x3_78, x4_78, G_78 =>
  if x4_78 < 720 then (if x3_78 = (-1) then some G_78 else (cRw_make_L94 a1 a2 x4_78 (fun G_136 => (cRw_keep a2 G_136).bind fun G138 => (cRw_turn G138).bind fun r142 => cRw_make_L78 a1 a2 n_78 r142.1 (w32 (x4_78 + 1)) r142.2) FU x3_78 G_78)) else some G_78
def cRw_make (a1 : Int) (a2 : Int) (G : Hp) : Option (Hp) :=
  if G 80 0 = a1 then some G else cRw_make_L42 a1 a2 (fun G_63 => cRw_make_L78 a1 a2 FU 0 0 (upd2 G_63 82 0 (G_63 a2 0))) FU 0 (upd2 (upd2 (upd2 (upd2 G 80 0 a1) 80 1 0) 80 2 (min ((upd2 (upd2 G 80 0 a1) 80 1 0) a2 2) 6)) 80 3 ((upd2 (upd2 (upd2 G 80 0 a1) 80 1 0) 80 2 (min ((upd2 (upd2 G 80 0 a1) 80 1 0) a2 2) 6)) a2 1))
def cRw_mostContent_L4 (G : Hp) : Nat → Int → Int → Option (Int)
  | 0, _, _ => none
  | n_4 + 1, x1_4, x2_4 =>
  if x2_4 < G 80 1 then (gd x2_4 720 (gd x1_4 720 (if G 85 x1_4 < G 85 x2_4 then cRw_mostContent_L4 G n_4 x2_4 (w32 (x2_4 + 1)) else cRw_mostContent_L4 G n_4 x1_4 (w32 (x2_4 + 1))))) else some x1_4
def cRw_mostContent (G : Hp) : Option (Int) :=
  cRw_mostContent_L4 G FU 0 1
def cRw_readerAt (a1 : Int) (a2 : Int) (G : Hp) : Option (Int) :=
  if a1 < 0 then some (-1) else (if a1 < G 80 1 then (if a2 < 0 then some (-1) else (if G 80 2 ≤ a2 then some (-1) else (gd a1 720 (gd (w32 ((w32 ((G 80 2) - 1)) - a2)) 7 (nz (stg 2 (w32 ((w32 ((G 80 2) - 1)) - a2))) (some (irem (idiv (G 83 a1) (stg 2 (w32 ((w32 ((G 80 2) - 1)) - a2)))) 10))))))) else some (-1))
def cX_order (a1 : Int) (a2 : Int) (G : Hp) : Option (Int × Hp) :=
  (cX_paperAt a1 G).bind fun v2 => if v2 < 0 then some ((-1), G) else (if (-1) ≤ a2 then (if G v2 2 ≤ a2 then some ((-1), G) else ((cRw_make a1 v2 G).bind fun G31 => (cRw_mostContent G31).bind fun v38 => if a2 = (-1) then (gd v38 720 (some (G31 85 v38, G31))) else ((cRw_readerAt v38 a2 G31).bind fun v68 => some (v68, G31)))) else some ((-1), G))
def cLg_agrees_L2 (o : Int) (a1 : Int) (a2 : Int) (G : Hp) : Nat → Int → Option (Bool)
  | 0, _ => none
  | n_2 + 1, x3_2 =>
  if x3_2 < G o 0 then (gd x3_2 8 (if G (o + 1) x3_2 < a1 then (gd x3_2 8 (gd x3_2 8 (if (cX_wordAt a2 (G (o + 1) x3_2)) = G (o + 2) x3_2 then cLg_agrees_L2 o a1 a2 G n_2 (w32 (x3_2 + 1)) else some false))) else some false)) else some true
def cLg_agrees (o : Int) (a1 : Int) (a2 : Int) (G : Hp) : Option (Bool) :=
  cLg_agrees_L2 o a1 a2 G FU 0
def cRw_choose_L7 (a1 : Int) : Nat → Int → Hp → Option (Hp)
  | 0, _, _ => none
  | n_7 + 1, x2_7, G_7 =>
  if x2_7 < G_7 80 1 then (gd x2_7 720 ((cLg_agrees a1 (G_7 80 3) (G_7 84 x2_7) G_7).bind fun v26 => if v26 = true then (gd (G_7 80 10) 720 (cRw_choose_L7 a1 n_7 (w32 (x2_7 + 1)) (upd2 (upd2 G_7 86 (G_7 80 10) x2_7) 80 10 (w32 (((upd2 G_7 86 (G_7 80 10) x2_7) 80 10) + 1))))) else cRw_choose_L7 a1 n_7 (w32 (x2_7 + 1)) G_7)) else some G_7
def cRw_choose (a1 : Int) (G : Hp) : Option (Hp) :=
  cRw_choose_L7 a1 FU 0 (upd2 G 80 10 0)
def cRw_mostAlike_L2 (a1 : Int) (k18 : Hp → Option (Int × Hp)) : Nat → Int → Hp → Option (Int × Hp)
  | 0, _, _ => none
  | n_2 + 1, x3_2, G_2 =>
  if x3_2 < 10 then (gd x3_2 10 (cRw_mostAlike_L2 a1 k18 n_2 (w32 (x3_2 + 1)) (upd2 G_2 91 x3_2 0))) else k18 G_2
def cRw_mostAlike_L23 (a1 : Int) : Nat → Int → Int → Hp → Option (Int × Hp)
  | 0, _, _, _ => none
  | n_23 + 1, x3_23, x4_23, G_23 =>
  if x4_23 < G_23 80 10 then (gd x4_23 720 (gd (G_23 86 x4_23) 720 (if (cX_wordAt (G_23 84 (G_23 86 x4_23)) a1) < 10 then (gd (cX_wordAt (G_23 84 (G_23 86 x4_23)) a1) 10 (gd (cX_wordAt (G_23 84 (G_23 86 x4_23)) a1) 10 (gd (cX_wordAt (G_23 84 (G_23 86 x4_23)) a1) 10 (cRw_mostAlike_L23 a1 n_23 (max x3_23 ((upd2 G_23 91 (cX_wordAt (G_23 84 (G_23 86 x4_23)) a1) (w32 ((G_23 91 (cX_wordAt (G_23 84 (G_23 86 x4_23)) a1)) + 1))) 91 (cX_wordAt (G_23 84 (G_23 86 x4_23)) a1))) (w32 (x4_23 + 1)) (upd2 G_23 91 (cX_wordAt (G_23 84 (G_23 86 x4_23)) a1) (w32 ((G_23 91 (cX_wordAt (G_23 84 (G_23 86 x4_23)) a1)) + 1))))))) else cRw_mostAlike_L23 a1 n_23 x3_23 (w32 (x4_23 + 1)) G_23))) else some (x3_23, G_23)
def cRw_mostAlike (a1 : Int) (G : Hp) : Option (Int × Hp) :=
  cRw_mostAlike_L2 a1 (fun G_18 => cRw_mostAlike_L23 a1 FU 0 0 G_18) FU 0 G
def cRw_ask_L9 : Nat → Int → Int → Int → Hp → Option (Int × Hp)
  | 0, _, _, _, _ => none
  | n_9 + 1, x2_9, x3_9, x4_9, G_9 =>
  if x4_9 < G_9 80 3 then (if 0 < G_9 80 10 then ((cRw_mostAlike x4_9 G_9).bind fun r29 => if r29.1 < x3_9 then cRw_ask_L9 n_9 x4_9 r29.1 (w32 (x4_9 + 1)) r29.2 else cRw_ask_L9 n_9 x2_9 x3_9 (w32 (x4_9 + 1)) r29.2) else some (x2_9, G_9)) else some (x2_9, G_9)
def cRw_ask (G : Hp) : Option (Int × Hp) :=
  cRw_ask_L9 FU (-1) 721 0 G
def cRw_sure_L25 (a1 : Int) (G : Hp) (x2_25 : Int) : Nat → Int → Option (Int)
  | 0, _ => none
  | n_25 + 1, x3_25 =>
  if x3_25 < G 80 10 then (gd x3_25 720 ((cRw_readerAt (G 86 x3_25) a1 G).bind fun v41 => if v41 = x2_25 then cRw_sure_L25 a1 G x2_25 n_25 (w32 (x3_25 + 1)) else some (-1))) else some x2_25
def cRw_sure_j22 (a1 : Int) (G : Hp) (s0_22 : Int) : Option (Int) :=
  cRw_sure_L25 a1 G s0_22 FU 1
def cRw_sure (a1 : Int) (G : Hp) : Option (Int) :=
  if 0 < G 80 10 then ((cRw_readerAt (G 86 0) a1 G).bind fun v15 => cRw_sure_j22 a1 G v15) else cRw_sure_j22 a1 G (-1)
def cX_fits_j97 (a1 : Int) (a2 : Int) (a3 : Int) (G_97 : Hp) : Option (Int × Hp) :=
  if w32 (a3 - 10) < 0 then some ((-2), G_97) else (if G_97 80 10 ≤ w32 (a3 - 10) then some ((-2), G_97) else (gd (w32 (a3 - 10)) 720 (gd (G_97 86 (w32 (a3 - 10))) 720 (some (G_97 83 (G_97 86 (w32 (a3 - 10))), G_97)))))
def cX_fits (a1 : Int) (a2 : Int) (a3 : Int) (G : Hp) : Option (Int × Hp) :=
  (cX_paperAt a1 G).bind fun v2 => (cX_logAt a2 G).bind fun v9 => if v2 < 0 then some ((-2), G) else (if v9 < 0 then some ((-2), G) else ((cRw_make a1 v2 G).bind fun G34 => (cRw_choose v9 G34).bind fun G43 => if a3 = 0 then some (G43 80 10, G43) else (if a3 = 1 then ((cRw_ask G43).bind fun r71 => some (r71.1, r71.2)) else (if 2 ≤ a3 then (if a3 < 8 then ((cRw_sure (w32 (a3 - 2)) G43).bind fun v93 => some (v93, G43)) else cX_fits_j97 a1 a2 a3 G43) else cX_fits_j97 a1 a2 a3 G43))))
def cRw_manyAhead_L17 (a1 : Int) (a2 : Int) (G : Hp) (x3_17 : Int) (x4_17 : Int) (k53 : Int → Option (Int)) (k76 : Option (Int)) : Nat → Int → Option (Int)
  | 0, _ => none
  | n_17 + 1, x5_17 =>
  if x5_17 < G 80 2 then (gd x4_17 720 ((cRw_readerAt (G 86 x4_17) x5_17 G).bind fun v36 => if v36 = a1 then k53 v36 else (if v36 = a2 then k53 v36 else cRw_manyAhead_L17 a1 a2 G x3_17 x4_17 k53 k76 n_17 (w32 (x5_17 + 1))))) else k76
def cRw_manyAhead_L5 (a1 : Int) (a2 : Int) (G : Hp) : Nat → Int → Int → Option (Int)
  | 0, _, _ => none
  | n_5 + 1, x3_5, x4_5 =>
  if x4_5 < G 80 10 then cRw_manyAhead_L17 a1 a2 G x3_5 x4_5 (fun x6_53 => if x6_53 = a1 then cRw_manyAhead_L5 a1 a2 G n_5 (w32 (x3_5 + 1)) (w32 (x4_5 + 1)) else cRw_manyAhead_L5 a1 a2 G n_5 (w32 (x3_5 + 0)) (w32 (x4_5 + 1))) (cRw_manyAhead_L5 a1 a2 G n_5 x3_5 (w32 (x4_5 + 1))) FU 0 else some x3_5
def cRw_manyAhead (a1 : Int) (a2 : Int) (G : Hp) : Option (Int) :=
  cRw_manyAhead_L5 a1 a2 G FU 0 0
def cX_inLeast_L9 (a0 : Int) (a2 : Int) (a4 : Int) (G : Hp) (k44 : Int → Option (Int)) : Nat → Int → Int → Int → Option (Int)
  | 0, _, _, _ => none
  | n_9 + 1, x5_9, x7_9, x9_9 =>
  if x9_9 < 100 then (if lcmp x7_9 0 = 0 then k44 x5_9 else (nz x7_9 (cX_inLeast_L9 a0 a2 a4 G k44 n_9 x7_9 (lrem x5_9 x7_9) (w32 (x9_9 + 1))))) else k44 x5_9
def cX_inLeast_j54 (a0 : Int) (a2 : Int) (a4 : Int) (G : Hp) (x5_54 : Int) (s0_54 : Int) : Option (Int) :=
  if 0 < lcmp x5_54 0 then (nz x5_54 (some (ldiv s0_54 x5_54))) else some s0_54
def cX_inLeast (a0 : Int) (a2 : Int) (a4 : Int) (G : Hp) : Option (Int) :=
  cX_inLeast_L9 a0 a2 a4 G (fun x5_44 => if a4 = 0 then cX_inLeast_j54 a0 a2 a4 G x5_44 a0 else cX_inLeast_j54 a0 a2 a4 G x5_44 a2) FU a2 a0 0
def cX_ahead (a1 : Int) (a2 : Int) (a3 : Int) (a4 : Int) (a5 : Int) (G : Hp) : Option (Int × Hp) :=
  (cX_paperAt a1 G).bind fun v2 => (cX_logAt a2 G).bind fun v9 => if v2 < 0 then some ((-1), G) else (if v9 < 0 then some ((-1), G) else (if a3 = a4 then some ((-1), G) else (if a3 < 0 then some ((-1), G) else (if a4 < 0 then some ((-1), G) else (if a3 < G v2 2 then (if G v2 2 ≤ a4 then some ((-1), G) else ((cRw_make a1 v2 G).bind fun G67 => (cRw_choose v9 G67).bind fun G76 => if G76 80 10 = 0 then some ((-1), G76) else ((cRw_manyAhead a3 a4 G76).bind fun v98 => (cX_inLeast v98 (G76 80 10) a5 G76).bind fun v112 => some (w32 v112, G76)))) else some ((-1), G))))))
def cRw_readersAt_L4 (a1 : Int) (G : Hp) : Nat → Int → Int → Option (Int)
  | 0, _, _ => none
  | n_4 + 1, x2_4, x3_4 =>
  if x3_4 < G 80 10 then (gd x3_4 720 ((cRw_readerAt (G 86 x3_4) a1 G).bind fun v20 => if v20 = (-1) then cRw_readersAt_L4 a1 G n_4 (ior x2_4 0) (w32 (x3_4 + 1)) else cRw_readersAt_L4 a1 G n_4 (ior x2_4 (ishl 1 v20)) (w32 (x3_4 + 1)))) else some x2_4
def cRw_readersAt (a1 : Int) (G : Hp) : Option (Int) :=
  cRw_readersAt_L4 a1 G FU 0 0
def cRw_mostFitting_L4 (G : Hp) : Nat → Int → Int → Option (Int)
  | 0, _, _ => none
  | n_4 + 1, x1_4, x2_4 =>
  if x2_4 < G 80 10 then (gd x2_4 720 (gd (G 86 x2_4) 720 (cRw_mostFitting_L4 G n_4 (max x1_4 (G 85 (G 86 x2_4))) (w32 (x2_4 + 1))))) else some x1_4
def cRw_mostFitting (G : Hp) : Option (Int) :=
  cRw_mostFitting_L4 G FU (-1) 0
def cRw_leastFitting_L4 (G : Hp) : Nat → Int → Int → Option (Int)
  | 0, _, _ => none
  | n_4 + 1, x1_4, x2_4 =>
  if x2_4 < G 80 10 then (gd x2_4 720 (gd (G 86 x2_4) 720 (if x1_4 = (-1) then cRw_leastFitting_L4 G n_4 (G 85 (G 86 x2_4)) (w32 (x2_4 + 1)) else cRw_leastFitting_L4 G n_4 (min x1_4 (G 85 (G 86 x2_4))) (w32 (x2_4 + 1))))) else some x1_4
def cRw_leastFitting (G : Hp) : Option (Int) :=
  cRw_leastFitting_L4 G FU (-1) 0
def cX_firsts (a1 : Int) (a2 : Int) (a3 : Int) (G : Hp) : Option (Int × Hp) :=
  (cX_paperAt a1 G).bind fun v2 => (cX_logAt a2 G).bind fun v9 => if v2 < 0 then some ((-2), G) else (if v9 < 0 then some ((-2), G) else ((cRw_make a1 v2 G).bind fun G34 => (cRw_choose v9 G34).bind fun G43 => if a3 = 0 then ((cRw_readersAt 0 G43).bind fun v81 => some (v81, G43)) else if a3 = 1 then ((cRw_readersAt (w32 ((G43 v2 2) - 1)) G43).bind fun v96 => some (v96, G43)) else if a3 = 2 then ((cRw_mostFitting G43).bind fun v104 => some (v104, G43)) else if a3 = 3 then ((cRw_leastFitting G43).bind fun v112 => some (v112, G43)) else some ((-2), G43)))
def cX_come_L44 (a1 : Int) (a2 : Int) (a3 : Int) (a4 : Int) (G : Hp) (x5_44 : Int) (k74 : Int → Int → Option (Int)) : Nat → Int → Int → Int → Option (Int)
  | 0, _, _, _ => none
  | n_44 + 1, x6_44, x8_44, x10_44 =>
  if x10_44 < a3 then cX_come_L44 a1 a2 a3 a4 G x5_44 k74 n_44 (w64 (x6_44 * 10)) (w64 (x8_44 * (w32 (10 - a2)))) (w32 (x10_44 + 1)) else k74 x6_44 x8_44
def cX_come_L94 (a1 : Int) (a2 : Int) (a3 : Int) (a4 : Int) (G : Hp) (x5_94 : Int) (x10_94 : Int) : Nat → Int → Int → Option (Int)
  | 0, _, _ => none
  | n_94 + 1, x12_94, x14_94 =>
  if x14_94 < G x5_94 2 then cX_come_L94 a1 a2 a3 a4 G x5_94 x10_94 n_94 (w64 (x12_94 * x10_94)) (w32 (x14_94 + 1)) else some x12_94
def cX_come (a1 : Int) (a2 : Int) (a3 : Int) (a4 : Int) (G : Hp) : Option (Int) :=
  (cX_paperAt a1 G).bind fun v2 => if v2 < 0 then some (-1) else (if a2 < 0 then some (-1) else (if a2 ≤ 10 then (if a3 < 0 then some (-1) else (if 3 < a3 then some (-1) else (cX_come_L44 a1 a2 a3 a4 G v2 (fun x6_74 x8_74 => (cX_inLeast (w64 (x6_74 - x8_74)) x6_74 a4 G).bind fun v83 => cX_come_L94 a1 a2 a3 a4 G v2 v83 FU 1 0) FU 1 1 0))) else some (-1)))
def mm_isIn (a0 : Int) (a1 : Int) (a2 : Int) : Bool :=
  if a1 ≤ a0 then (if a0 ≤ a2 then true else false) else false
def mm_feed_j73 (a1 : Int) (a2 : Int) (a3 : Int) (a4 : Int) (a5 : Int) (k20 : Int → Hp → Option (Int × Hp)) (x6_73 : Int) (s0_73 : Int) (G_73 : Hp) : Option (Int × Hp) :=
  gd (w32 (10 + (G_73 202 4))) 4184 (k20 (w32 (x6_73 + 1)) (upd2 (upd2 G_73 202 (w32 (10 + (G_73 202 4))) (iand (ishr s0_73 (w32 (24 - (w32 (8 * (irem x6_73 4)))))) 255)) 202 4 (w32 (((upd2 G_73 202 (w32 (10 + (G_73 202 4))) (iand (ishr s0_73 (w32 (24 - (w32 (8 * (irem x6_73 4)))))) 255)) 202 4) + 1))))
def mm_feed_L20 (a1 : Int) (a2 : Int) (a3 : Int) (a4 : Int) (a5 : Int) : Nat → Int → Hp → Option (Int × Hp)
  | 0, _, _ => none
  | n_20 + 1, x6_20, G_20 =>
  if x6_20 < 20 then (if x6_20 < 4 then mm_feed_j73 a1 a2 a3 a4 a5 (mm_feed_L20 a1 a2 a3 a4 a5 n_20) x6_20 a1 G_20 else (if x6_20 < 8 then mm_feed_j73 a1 a2 a3 a4 a5 (mm_feed_L20 a1 a2 a3 a4 a5 n_20) x6_20 a2 G_20 else (if x6_20 < 12 then mm_feed_j73 a1 a2 a3 a4 a5 (mm_feed_L20 a1 a2 a3 a4 a5 n_20) x6_20 a3 G_20 else (if x6_20 < 16 then mm_feed_j73 a1 a2 a3 a4 a5 (mm_feed_L20 a1 a2 a3 a4 a5 n_20) x6_20 a4 G_20 else mm_feed_j73 a1 a2 a3 a4 a5 (mm_feed_L20 a1 a2 a3 a4 a5 n_20) x6_20 a5 G_20)))) else some (G_20 202 4, G_20)
def mm_feed (a1 : Int) (a2 : Int) (a3 : Int) (a4 : Int) (a5 : Int) (G : Hp) : Option (Int × Hp) :=
  if 600 < w32 ((G 202 4) + 20) then some ((-1), G) else mm_feed_L20 a1 a2 a3 a4 a5 FU 0 G
def mm_end (a1 : Int) (G : Hp) : Option (Int × Hp) :=
  if a1 < 0 then some ((-1), G) else (if G 202 4 < a1 then some ((-1), G) else some (a1, upd2 G 202 4 a1))
def mm_byteAt (a1 : Int) (G : Hp) : Option (Int) :=
  if a1 < G 201 2 then (gd (w32 (10 + a1)) 4184 (some (G 202 (w32 (10 + a1))))) else some (-1)
def mm_isLetter (a0 : Int) : Bool :=
  if 97 ≤ a0 then (if a0 ≤ 122 then true else false) else false
def mm_isDigit (a0 : Int) : Bool :=
  if 48 ≤ a0 then (if a0 ≤ 57 then true else false) else false
def mm_four (a0 : Int) (a1 : Int) (a2 : Int) (a3 : Int) : Int :=
  w32 ((w32 ((w32 ((w32 ((w32 ((w32 (a0 * 32)) + a1)) * 32)) + a2)) * 32)) + a3)
def mm_eight (a0 : Int) (a1 : Int) (a2 : Int) (a3 : Int) (a4 : Int) (a5 : Int) (a6 : Int) (a7 : Int) : Int :=
  w64 ((w64 ((mm_four a0 a1 a2 a3) * 1048576)) + (mm_four a4 a5 a6 a7))
def mm_wordOf (a0 : Int) : Int :=
  if lcmp a0 (mm_four 23 15 18 4) = 0 then 1 else (if lcmp a0 (mm_four 14 5 1 18) = 0 then 2 else (if lcmp a0 (mm_eight 0 0 18 5 1 4 5 18) = 0 then 3 else (if lcmp a0 (mm_eight 0 0 0 23 1 14 20 19) = 0 then 4 else (if lcmp a0 (mm_four 18 5 1 4) = 0 then 5 else (if lcmp a0 (mm_four 0 19 5 20) = 0 then 6 else (if lcmp a0 (mm_four 19 20 5 20) = 0 then 7 else (if lcmp a0 (mm_four 10 15 9 14) = 0 then 8 else (if lcmp a0 (mm_four 16 1 18 20) = 0 then 9 else (if lcmp a0 (mm_eight 0 0 0 16 18 9 14 20) = 0 then 10 else (if lcmp a0 (mm_four 0 23 1 19) = 0 then 11 else 99))))))))))
def mm_advance_L0 (k39 : Hp → Option (Hp)) : Nat → Hp → Option (Hp)
  | 0, _ => none
  | n_0 + 1, G_0 =>
  (mm_byteAt (G_0 201 3) G_0).bind fun v5 => if v5 = 10 then mm_advance_L0 k39 n_0 (upd2 G_0 201 3 (w32 ((G_0 201 3) + 1))) else ((mm_byteAt (G_0 201 3) G_0).bind fun v18 => if v18 = 32 then mm_advance_L0 k39 n_0 (upd2 G_0 201 3 (w32 ((G_0 201 3) + 1))) else k39 G_0)
def mm_advance_L77 (k138 : Int → Hp → Option (Hp)) : Nat → Int → Hp → Option (Hp)
  | 0, _, _ => none
  | n_77 + 1, x2_77, G_77 =>
  (mm_byteAt (G_77 201 3) G_77).bind fun v82 => if (mm_isLetter v82) = true then (if w32 ((G_77 201 3) - (G_77 201 4)) < 8 then ((mm_byteAt (G_77 201 3) G_77).bind fun v115 => mm_advance_L77 k138 n_77 (w64 ((w64 ((w64 (32 * x2_77)) + v115)) - 96)) (upd2 G_77 201 3 (w32 ((G_77 201 3) + 1)))) else mm_advance_L77 k138 n_77 x2_77 (upd2 G_77 201 3 (w32 ((G_77 201 3) + 1)))) else k138 x2_77 G_77
def mm_advance_j162 (s0_162 : Int) (G_162 : Hp) : Option (Hp) :=
  if (upd2 G_162 201 7 s0_162) 201 7 = 99 then some (upd2 (upd2 G_162 201 7 s0_162) 201 5 4) else some (upd2 (upd2 G_162 201 7 s0_162) 201 5 3)
def mm_advance_L198 (k261 : Hp → Option (Hp)) : Nat → Hp → Option (Hp)
  | 0, _ => none
  | n_198 + 1, G_198 =>
  (mm_byteAt (G_198 201 3) G_198).bind fun v203 => if (mm_isDigit v203) = true then (if w32 ((G_198 201 3) - (G_198 201 4)) < 2 then ((mm_byteAt (G_198 201 3) G_198).bind fun v238 => mm_advance_L198 k261 n_198 (upd2 (upd2 G_198 201 6 (w32 ((w32 ((w32 (10 * (G_198 201 6))) + v238)) - 48))) 201 3 (w32 (((upd2 G_198 201 6 (w32 ((w32 ((w32 (10 * (G_198 201 6))) + v238)) - 48))) 201 3) + 1)))) else mm_advance_L198 k261 n_198 (upd2 G_198 201 3 (w32 ((G_198 201 3) + 1)))) else k261 G_198
def mm_advance (G : Hp) : Option (Hp) :=
  mm_advance_L0 (fun G_39 => (mm_byteAt ((upd2 G_39 201 4 (G_39 201 3)) 201 3) (upd2 G_39 201 4 (G_39 201 3))).bind fun v52 => if v52 < 0 then some (upd2 (upd2 G_39 201 4 (G_39 201 3)) 201 5 0) else (if (mm_isLetter v52) = true then mm_advance_L77 (fun x2_138 G_138 => if 8 < w32 ((G_138 201 3) - (G_138 201 4)) then mm_advance_j162 99 G_138 else mm_advance_j162 (mm_wordOf x2_138) G_138) FU 0 (upd2 G_39 201 4 (G_39 201 3)) else (if (mm_isDigit v52) = true then mm_advance_L198 (fun G_261 => if 2 < w32 ((G_261 201 3) - (G_261 201 4)) then some (upd2 G_261 201 5 4) else some (upd2 G_261 201 5 1)) FU (upd2 (upd2 G_39 201 4 (G_39 201 3)) 201 6 0) else (if v52 = 59 then some (upd2 (upd2 (upd2 G_39 201 4 (G_39 201 3)) 201 3 (w32 (((upd2 G_39 201 4 (G_39 201 3)) 201 3) + 1))) 201 5 2) else some (upd2 (upd2 (upd2 G_39 201 4 (G_39 201 3)) 201 3 (w32 (((upd2 G_39 201 4 (G_39 201 3)) 201 3) + 1))) 201 5 4))))) FU G
def mm_ends (G : Hp) : Option (Hp) :=
  if G 201 8 = 0 then some (upd2 (upd2 (upd2 G 201 8 1) 202 5 1) 202 6 ((upd2 (upd2 G 201 8 1) 202 5 1) 201 4)) else some G
def mm_also_j49 (a1 : Int) (a2 : Int) (G_49 : Hp) : Option (Hp) :=
  some (upd2 (upd2 G_49 202 5 a1) 202 6 a2)
def mm_also (a1 : Int) (a2 : Int) (G : Hp) : Option (Hp) :=
  if G 201 8 = 0 then (if G 202 5 = 0 then mm_also_j49 a1 a2 G else (if a2 ≤ G 202 6 then (if G 202 6 = a2 then (if G 202 5 ≤ a1 then some G else mm_also_j49 a1 a2 G) else mm_also_j49 a1 a2 G) else some G)) else some G
def mm_numbered_j44 (a1 : Int) (a2 : Int) (x3_44 : Int) (G_44 : Hp) : Option (Int × Hp) :=
  (mm_advance G_44).bind fun G45 => if (mm_isIn x3_44 a1 a2) = true then some (x3_44, G45) else some (a1, G45)
def mm_numbered_j15 (a1 : Int) (a2 : Int) (G_15 : Hp) : Option (Int × Hp) :=
  (mm_ends G_15).bind fun G16 => some (a1, G16)
def mm_numbered (a1 : Int) (a2 : Int) (G : Hp) : Option (Int × Hp) :=
  if G 201 8 = 0 then (if G 201 5 = 1 then (if (mm_isIn (G 201 6) a1 a2) = true then mm_numbered_j44 a1 a2 (G 201 6) G else ((mm_also 2 (G 201 4) G).bind fun G41 => mm_numbered_j44 a1 a2 (G 201 6) G41)) else mm_numbered_j15 a1 a2 G) else mm_numbered_j15 a1 a2 G
def mm_wordIn_j27 (a1 : Int) (a2 : Int) (G_27 : Hp) : Option (Int × Hp) :=
  (mm_ends G_27).bind fun G28 => some (0, G28)
def mm_wordIn (a1 : Int) (a2 : Int) (G : Hp) : Option (Int × Hp) :=
  if G 201 8 = 0 then (if G 201 5 = 3 then (if (mm_isIn (G 201 7) a1 a2) = true then ((mm_advance G).bind fun G39 => some (G 201 7, G39)) else mm_wordIn_j27 a1 a2 G) else mm_wordIn_j27 a1 a2 G) else mm_wordIn_j27 a1 a2 G
def mm_endsLine_j22 (G_22 : Hp) : Option (Hp) :=
  (mm_ends G_22).bind fun G23 => some G23
def mm_endsLine (G : Hp) : Option (Hp) :=
  if G 201 8 = 0 then (if G 201 5 = 2 then ((mm_advance G).bind fun G16 => some G16) else mm_endsLine_j22 G) else mm_endsLine_j22 G
def mm_otherWord_j32 (a1 : Int) (G_32 : Hp) : Option (Int × Hp) :=
  (mm_numbered 0 9 G_32).bind fun r36 => some (r36.1, r36.2)
def mm_otherWord (a1 : Int) (G : Hp) : Option (Int × Hp) :=
  if G 201 8 = 0 then (if G 201 5 = 1 then (if G 201 6 = a1 then ((mm_also 2 (G 201 4) G).bind fun G29 => mm_otherWord_j32 a1 G29) else mm_otherWord_j32 a1 G) else mm_otherWord_j32 a1 G) else mm_otherWord_j32 a1 G
def mm_wordTold_j17 (a1 : Int) (G_17 : Hp) : Option (Hp) :=
  (mm_numbered 0 9 G_17).bind fun r21 => if 8 ≤ r21.2 204 0 then some r21.2 else (gd (w32 (2 + (r21.2 204 0))) 121 (some (upd2 (upd2 r21.2 204 (w32 (2 + (r21.2 204 0))) r21.1) 204 0 (w32 (((upd2 r21.2 204 (w32 (2 + (r21.2 204 0))) r21.1) 204 0) + 1)))))
def mm_wordTold (a1 : Int) (G : Hp) : Option (Hp) :=
  if 8 ≤ G 204 0 then ((mm_also 3 a1 G).bind fun G14 => mm_wordTold_j17 a1 G14) else mm_wordTold_j17 a1 G
def mm_nearTold (G : Hp) : Option (Hp) :=
  (mm_numbered 0 9 G).bind fun r4 => (mm_otherWord r4.1 r4.2).bind fun r10 => gd (w32 (10 + r4.1)) 121 (gd (w32 (10 + r4.1)) 121 (gd (w32 (10 + r10.1)) 121 (gd (w32 (10 + r10.1)) 121 (some (upd2 (upd2 r10.2 204 (w32 (10 + r4.1)) (ior (r10.2 204 (w32 (10 + r4.1))) (ishl 1 r10.1))) 204 (w32 (10 + r10.1)) (ior ((upd2 r10.2 204 (w32 (10 + r4.1)) (ior (r10.2 204 (w32 (10 + r4.1))) (ishl 1 r10.1))) 204 (w32 (10 + r10.1))) (ishl 1 r4.1)))))))
def mm_readerTold_j17 (a1 : Int) (G_17 : Hp) : Option (Hp) :=
  (mm_numbered 0 9 G_17).bind fun r21 => (mm_numbered 1 9 r21.2).bind fun r29 => if 6 ≤ r29.2 204 1 then some r29.2 else (gd (w32 (20 + (w32 (2 * (r29.2 204 1))))) 121 (gd (w32 (21 + (w32 (2 * ((upd2 r29.2 204 (w32 (20 + (w32 (2 * (r29.2 204 1))))) r21.1) 204 1))))) 121 (some (upd2 (upd2 (upd2 r29.2 204 (w32 (20 + (w32 (2 * (r29.2 204 1))))) r21.1) 204 (w32 (21 + (w32 (2 * ((upd2 r29.2 204 (w32 (20 + (w32 (2 * (r29.2 204 1))))) r21.1) 204 1))))) r29.1) 204 1 (w32 (((upd2 (upd2 r29.2 204 (w32 (20 + (w32 (2 * (r29.2 204 1))))) r21.1) 204 (w32 (21 + (w32 (2 * ((upd2 r29.2 204 (w32 (20 + (w32 (2 * (r29.2 204 1))))) r21.1) 204 1))))) r29.1) 204 1) + 1))))))
def mm_readerTold (a1 : Int) (G : Hp) : Option (Hp) :=
  if 6 ≤ G 204 1 then ((mm_also 3 a1 G).bind fun G14 => mm_readerTold_j17 a1 G14) else mm_readerTold_j17 a1 G
def mm_wantTold_j52 (x1_52 : Int) (x2_52 : Int) (s0_52 : Int) (G_52 : Hp) : Option (Hp) :=
  (mm_numbered 0 9 (upd2 G_52 201 10 s0_52)).bind fun r72 => gd (w32 ((w32 (32 + (w32 (8 * x1_52)))) + x2_52)) 121 (some (upd2 r72.2 204 (w32 ((w32 (32 + (w32 (8 * x1_52)))) + x2_52)) r72.1))
def mm_wantTold_j32 (x1_32 : Int) (x2_32 : Int) (s0_32 : Int) (G_32 : Hp) : Option (Hp) :=
  if (upd2 G_32 201 9 s0_32) 201 10 < x2_32 then mm_wantTold_j52 x1_32 x2_32 x2_32 (upd2 G_32 201 9 s0_32) else mm_wantTold_j52 x1_32 x2_32 ((upd2 G_32 201 9 s0_32) 201 10) (upd2 G_32 201 9 s0_32)
def mm_wantTold (G : Hp) : Option (Hp) :=
  (mm_numbered 0 5 G).bind fun r3 => (mm_numbered 0 7 r3.2).bind fun r11 => if r11.2 201 9 < r3.1 then mm_wantTold_j32 r3.1 r11.1 r3.1 r11.2 else mm_wantTold_j32 r3.1 r11.1 (r11.2 201 9) r11.2
def mm_paperLine_j86 (G_86 : Hp) : Option (Hp) :=
  (mm_endsLine G_86).bind fun G87 => some G87
def mm_paperLine_j24 (x1_24 : Int) (s0_24 : Int) (G_24 : Hp) : Option (Hp) :=
  if s0_24 = 1 then ((mm_wordTold x1_24 G_24).bind fun G58 => mm_paperLine_j86 G58) else if s0_24 = 2 then ((mm_nearTold G_24).bind fun G65 => mm_paperLine_j86 G65) else if s0_24 = 3 then ((mm_readerTold x1_24 G_24).bind fun G73 => mm_paperLine_j86 G73) else if s0_24 = 4 then ((mm_wantTold G_24).bind fun G80 => mm_paperLine_j86 G80) else mm_paperLine_j86 G_24
def mm_paperLine (G : Hp) : Option (Hp) :=
  (mm_wordIn 1 4 G).bind fun r8 => if r8.2 201 8 = 0 then mm_paperLine_j24 (G 201 4) r8.1 r8.2 else mm_paperLine_j24 (G 201 4) 0 r8.2
def mm_weekLine_j221 (G_221 : Hp) : Option (Hp) :=
  (mm_endsLine G_221).bind fun G222 => some G222
def mm_weekLine_j159 (x2_159 : Int) (x3_159 : Int) (x4_159 : Int) (G_159 : Hp) : Option (Hp) :=
  if G_159 204 0 < 40 then (gd (w32 (1 + (w32 (3 * (G_159 204 0))))) 121 (gd (w32 ((w32 (1 + (w32 (3 * (G_159 204 0))))) + 1)) 121 (gd (w32 ((w32 (1 + (w32 (3 * (G_159 204 0))))) + 2)) 121 (mm_weekLine_j221 (upd2 (upd2 (upd2 (upd2 G_159 204 (w32 (1 + (w32 (3 * (G_159 204 0))))) x2_159) 204 (w32 ((w32 (1 + (w32 (3 * (G_159 204 0))))) + 1)) x3_159) 204 (w32 ((w32 (1 + (w32 (3 * (G_159 204 0))))) + 2)) x4_159) 204 0 (w32 (((upd2 (upd2 (upd2 G_159 204 (w32 (1 + (w32 (3 * (G_159 204 0))))) x2_159) 204 (w32 ((w32 (1 + (w32 (3 * (G_159 204 0))))) + 1)) x3_159) 204 (w32 ((w32 (1 + (w32 (3 * (G_159 204 0))))) + 2)) x4_159) 204 0) + 1))))))) else mm_weekLine_j221 G_159
def mm_weekLine_j141 (k159 : Int → Int → Int → Hp → Option (Hp)) (x2_141 : Int) (G_141 : Hp) : Option (Hp) :=
  (mm_numbered 0 9 G_141).bind fun r145 => (mm_otherWord r145.1 r145.2).bind fun r151 => k159 x2_141 r145.1 r151.1 r151.2
def mm_weekLine_j56 (x2_56 : Int) (x3_56 : Int) (x4_56 : Int) (s0_56 : Int) (G_56 : Hp) : Option (Hp) :=
  if s0_56 = 0 then ((mm_numbered 0 5 G_56).bind fun r95 => mm_weekLine_j159 x2_56 r95.1 x4_56 r95.2) else if s0_56 = 1 then ((mm_numbered 0 7 G_56).bind fun r106 => (mm_numbered 0 9 r106.2).bind fun r114 => mm_weekLine_j159 x2_56 r106.1 r114.1 r114.2) else if s0_56 = 2 then ((mm_numbered 0 5 G_56).bind fun r125 => (mm_numbered 0 7 r125.2).bind fun r133 => mm_weekLine_j159 x2_56 r125.1 r133.1 r133.2) else if s0_56 = 3 then mm_weekLine_j141 mm_weekLine_j159 x2_56 G_56 else if s0_56 = 4 then mm_weekLine_j141 mm_weekLine_j159 x2_56 G_56 else mm_weekLine_j159 x2_56 x3_56 x4_56 G_56
def mm_weekLine_j39 (x2_39 : Int) (G_39 : Hp) : Option (Hp) :=
  if G_39 201 8 = 0 then mm_weekLine_j56 x2_39 (-1) (-1) x2_39 G_39 else mm_weekLine_j56 x2_39 (-1) (-1) 5 G_39
def mm_weekLine (G : Hp) : Option (Hp) :=
  (mm_wordIn 5 10 G).bind fun r9 => if r9.2 201 8 = 0 then (if 40 ≤ r9.2 204 0 then ((mm_also 3 (G 201 4) r9.2).bind fun G36 => mm_weekLine_j39 (w32 (r9.1 - 5)) G36) else mm_weekLine_j39 (w32 (r9.1 - 5)) r9.2) else mm_weekLine_j39 (w32 (r9.1 - 5)) r9.2
def mm_logLine_j107 (G_107 : Hp) : Option (Hp) :=
  (mm_endsLine G_107).bind fun G108 => some G108
def mm_logLine_j38 (G_38 : Hp) : Option (Hp) :=
  (mm_numbered 0 7 G_38).bind fun r42 => (mm_numbered 0 9 r42.2).bind fun r50 => if r50.2 204 0 < 8 then (gd (w32 (1 + (w32 (2 * (r50.2 204 0))))) 121 (gd (w32 (2 + (w32 (2 * ((upd2 r50.2 204 (w32 (1 + (w32 (2 * (r50.2 204 0))))) r42.1) 204 0))))) 121 (mm_logLine_j107 (upd2 (upd2 (upd2 r50.2 204 (w32 (1 + (w32 (2 * (r50.2 204 0))))) r42.1) 204 (w32 (2 + (w32 (2 * ((upd2 r50.2 204 (w32 (1 + (w32 (2 * (r50.2 204 0))))) r42.1) 204 0))))) r50.1) 204 0 (w32 (((upd2 (upd2 r50.2 204 (w32 (1 + (w32 (2 * (r50.2 204 0))))) r42.1) 204 (w32 (2 + (w32 (2 * ((upd2 r50.2 204 (w32 (1 + (w32 (2 * (r50.2 204 0))))) r42.1) 204 0))))) r50.1) 204 0) + 1)))))) else mm_logLine_j107 r50.2
def mm_logLine (G : Hp) : Option (Hp) :=
  (mm_wordIn 11 11 G).bind fun r10 => if r10.2 201 8 = 0 then (if 8 ≤ r10.2 204 0 then ((mm_also 3 (G 201 4) r10.2).bind fun G35 => mm_logLine_j38 G35) else mm_logLine_j38 r10.2) else mm_logLine_j38 r10.2
def mm_placeOf (a0 : Int) (a1 : Int) : Int :=
  if a0 = 0 then w32 (610 + (w32 (80 * a1))) else (if a0 = 1 then w32 (770 + (w32 (121 * a1))) else w32 (1012 + (w32 (17 * a1))))
def mm_sizeOf (a0 : Int) : Int :=
  if a0 = 0 then 80 else (if a0 = 1 then 121 else 17)
def mm_isOf (a1 : Int) (a2 : Int) (G : Hp) : Option (Bool) :=
  gd a1 4184 (some (mm_isIn a2 0 (w32 ((G 202 a1) - 1))))
def mm_beginsText_L22 (a1 : Int) : Nat → Int → Hp → Option (Hp)
  | 0, _, _ => none
  | n_22 + 1, x2_22, G_22 =>
  if x2_22 < 121 then (if a1 = 0 then (if (mm_isIn x2_22 32 79) = true then (gd x2_22 121 (mm_beginsText_L22 a1 n_22 (w32 (x2_22 + 1)) (upd2 G_22 204 x2_22 10))) else (gd x2_22 121 (mm_beginsText_L22 a1 n_22 (w32 (x2_22 + 1)) (upd2 G_22 204 x2_22 0)))) else (gd x2_22 121 (mm_beginsText_L22 a1 n_22 (w32 (x2_22 + 1)) (upd2 G_22 204 x2_22 0)))) else some G_22
def mm_beginsText (a1 : Int) (G : Hp) : Option (Hp) :=
  mm_beginsText_L22 a1 FU 0 (upd2 (upd2 (upd2 (upd2 G 201 3 0) 201 8 0) 201 9 (-1)) 201 10 (-1))
def mm_text_L80 (a1 : Int) (a2 : Int) (k141 : Hp → Option (Int × Hp)) : Nat → Hp → Option (Int × Hp)
  | 0, _ => none
  | n_80 + 1, G_80 =>
  if G_80 201 8 = 0 then (if G_80 201 5 = 0 then k141 G_80 else (if a1 = 0 then ((mm_paperLine G_80).bind fun G121 => mm_text_L80 a1 a2 k141 n_80 G121) else if a1 = 1 then ((mm_weekLine G_80).bind fun G128 => mm_text_L80 a1 a2 k141 n_80 G128) else ((mm_logLine G_80).bind fun G135 => mm_text_L80 a1 a2 k141 n_80 G135))) else k141 G_80
def mm_text_L256 (a1 : Int) (a2 : Int) (x3_256 : Int) : Nat → Int → Hp → Option (Int × Hp)
  | 0, _, _ => none
  | n_256 + 1, x4_256, G_256 =>
  if x4_256 < (mm_sizeOf a1) then (gd x4_256 121 (gd (w32 ((mm_placeOf a1 x3_256) + x4_256)) 4184 (mm_text_L256 a1 a2 x3_256 n_256 (w32 (x4_256 + 1)) (upd2 G_256 202 (w32 ((mm_placeOf a1 x3_256) + x4_256)) (G_256 204 x4_256))))) else some (x3_256, G_256)
def mm_text_j253 (a1 : Int) (a2 : Int) (x3_253 : Int) (G_253 : Hp) : Option (Int × Hp) :=
  mm_text_L256 a1 a2 x3_253 FU 0 G_253
def mm_text_j237 (a1 : Int) (a2 : Int) (s0_237 : Int) (G_237 : Hp) : Option (Int × Hp) :=
  if a2 = (-1) then (gd a1 4184 (gd a1 4184 (mm_text_j253 a1 a2 s0_237 (upd2 G_237 202 a1 (w32 ((G_237 202 a1) + 1)))))) else mm_text_j253 a1 a2 s0_237 G_237
def mm_text_j211 (a1 : Int) (a2 : Int) (G_211 : Hp) : Option (Int × Hp) :=
  if G_211 202 5 = 0 then (if a2 = (-1) then (gd a1 4184 (mm_text_j237 a1 a2 (G_211 202 a1) G_211)) else mm_text_j237 a1 a2 a2 G_211) else some ((-1), G_211)
def mm_text_j176 (a1 : Int) (a2 : Int) (G_176 : Hp) : Option (Int × Hp) :=
  if a1 = 0 then (if G_176 202 5 = 0 then (if G_176 204 0 ≤ G_176 201 10 then ((mm_also 5 (G_176 201 4) G_176).bind fun G208 => mm_text_j211 a1 a2 G208) else mm_text_j211 a1 a2 G_176) else mm_text_j211 a1 a2 G_176) else mm_text_j211 a1 a2 G_176
def mm_text_j71 (a1 : Int) (a2 : Int) (G_71 : Hp) : Option (Int × Hp) :=
  (mm_beginsText a1 G_71).bind fun G73 => (mm_advance G73).bind fun G77 => mm_text_L80 a1 a2 (fun G_141 => if a1 = 0 then (if G_141 202 5 = 0 then (if G_141 204 1 ≤ G_141 201 9 then ((mm_also 4 (G_141 201 4) G_141).bind fun G173 => mm_text_j176 a1 a2 G173) else mm_text_j176 a1 a2 G_141) else mm_text_j176 a1 a2 G_141) else mm_text_j176 a1 a2 G_141) FU G77
def mm_text (a1 : Int) (a2 : Int) (G : Hp) : Option (Int × Hp) :=
  if (mm_isIn a1 0 2) = true then (if a2 = (-1) then (gd a1 4184 (if 2 ≤ (upd2 (upd2 (upd2 (upd2 G 201 2 (G 202 4)) 202 4 0) 202 5 0) 202 6 (-1)) 202 a1 then some ((-2), upd2 (upd2 (upd2 (upd2 G 201 2 (G 202 4)) 202 4 0) 202 5 0) 202 6 (-1)) else mm_text_j71 a1 a2 (upd2 (upd2 (upd2 (upd2 G 201 2 (G 202 4)) 202 4 0) 202 5 0) 202 6 (-1)))) else ((mm_isOf a1 a2 (upd2 (upd2 (upd2 (upd2 G 201 2 (G 202 4)) 202 4 0) 202 5 0) 202 6 (-1))).bind fun v62 => if v62 = true then mm_text_j71 a1 a2 (upd2 (upd2 (upd2 (upd2 G 201 2 (G 202 4)) 202 4 0) 202 5 0) 202 6 (-1)) else some ((-2), upd2 (upd2 (upd2 (upd2 G 201 2 (G 202 4)) 202 4 0) 202 5 0) 202 6 (-1)))) else some ((-2), upd2 (upd2 (upd2 (upd2 G 201 2 (G 202 4)) 202 4 0) 202 5 0) 202 6 (-1))
def mm_fault (a1 : Int) (G : Hp) : Option (Int) :=
  if a1 = 0 then some (G 202 5) else (if a1 = 1 then some (G 202 6) else some (-1))
def mm_wordTold0 (a1 : Int) (G : Hp) : Option (Int) :=
  gd (w32 ((w32 ((G 201 12) + 2)) + a1)) 4184 (some (G 202 (w32 ((w32 ((G 201 12) + 2)) + a1))))
def mm_beginsProof_L7 (k37 : Hp → Option (Hp)) : Nat → Int → Hp → Option (Hp)
  | 0, _, _ => none
  | n_7 + 1, x1_7, G_7 =>
  if x1_7 < 8 then ((mm_wordTold0 x1_7 G_7).bind fun v20 => gd x1_7 8 (gd x1_7 8 (mm_beginsProof_L7 k37 n_7 (w32 (x1_7 + 1)) (upd2 (upd2 G_7 207 x1_7 v20) 211 x1_7 (-1))))) else k37 G_7
def mm_beginsProof_L39 : Nat → Int → Hp → Option (Hp)
  | 0, _, _ => none
  | n_39 + 1, x1_39, G_39 =>
  if x1_39 < 6 then (gd x1_39 6 (gd x1_39 6 (mm_beginsProof_L39 n_39 (w32 (x1_39 + 1)) (upd2 (upd2 G_39 209 x1_39 0) 210 x1_39 0)))) else some G_39
def mm_beginsProof (G : Hp) : Option (Hp) :=
  mm_beginsProof_L7 (fun G_37 => mm_beginsProof_L39 FU 0 G_37) FU 0 (upd2 G 201 17 0)
def mm_laysSteps_L14 (x1_14 : Int) (x2_14 : Int) (k47 : Hp → Option (Hp)) : Nat → Int → Hp → Option (Hp)
  | 0, _, _ => none
  | n_14 + 1, x3_14, G_14 =>
  if x3_14 < 10 then (if x1_14 = x3_14 then (gd (w32 ((w32 (10 * x1_14)) + x3_14)) 100 (mm_laysSteps_L14 x1_14 x2_14 k47 n_14 (w32 (x3_14 + 1)) (upd2 G_14 206 (w32 ((w32 (10 * x1_14)) + x3_14)) 0))) else (gd (w32 ((w32 (10 * x1_14)) + x3_14)) 100 (mm_laysSteps_L14 x1_14 x2_14 k47 n_14 (w32 (x3_14 + 1)) (upd2 G_14 206 (w32 ((w32 (10 * x1_14)) + x3_14)) (-1))))) else k47 G_14
def mm_laysSteps_L61 (x1_61 : Int) (x2_61 : Int) (x3_61 : Int) (G_61 : Hp) (k100 : Int → Option (Hp)) : Nat → Int → Int → Option (Hp)
  | 0, _, _ => none
  | n_61 + 1, x4_61, x5_61 =>
  if x5_61 < 10 then (if iand (ishr x2_61 x5_61) 1 = 1 then (gd x5_61 10 (mm_laysSteps_L61 x1_61 x2_61 x3_61 G_61 k100 n_61 (ior x4_61 (G_61 205 x5_61)) (w32 (x5_61 + 1)))) else mm_laysSteps_L61 x1_61 x2_61 x3_61 G_61 k100 n_61 (ior x4_61 0) (w32 (x5_61 + 1))) else k100 x4_61
def mm_laysSteps_L103 (x1_103 : Int) (x2_103 : Int) (x3_103 : Int) (x4_103 : Int) (k144 : Hp → Option (Hp)) : Nat → Int → Hp → Option (Hp)
  | 0, _, _ => none
  | n_103 + 1, x5_103, G_103 =>
  if x5_103 < 10 then (if iand (ishr (iand x4_103 (ixor x2_103 (-1))) x5_103) 1 = 1 then (gd (w32 ((w32 (10 * x1_103)) + x5_103)) 100 (mm_laysSteps_L103 x1_103 x2_103 x3_103 x4_103 k144 n_103 (w32 (x5_103 + 1)) (upd2 G_103 206 (w32 ((w32 (10 * x1_103)) + x5_103)) x3_103))) else mm_laysSteps_L103 x1_103 x2_103 x3_103 x4_103 k144 n_103 (w32 (x5_103 + 1)) G_103) else k144 G_103
def mm_laysSteps_L49 (x1_49 : Int) (k153 : Hp → Option (Hp)) : Nat → Int → Int → Hp → Option (Hp)
  | 0, _, _, _ => none
  | n_49 + 1, x2_49, x3_49, G_49 =>
  if x3_49 < 10 then mm_laysSteps_L61 x1_49 x2_49 x3_49 G_49 (fun x4_100 => mm_laysSteps_L103 x1_49 x2_49 x3_49 x4_100 (fun G_144 => mm_laysSteps_L49 x1_49 k153 n_49 x4_100 (w32 (x3_49 + 1)) G_144) FU 0 G_49) FU x2_49 0 else k153 G_49
def mm_laysSteps_L2 : Nat → Int → Hp → Option (Hp)
  | 0, _, _ => none
  | n_2 + 1, x1_2, G_2 =>
  if x1_2 < 10 then mm_laysSteps_L14 x1_2 (ishl 1 x1_2) (fun G_47 => mm_laysSteps_L49 x1_2 (fun G_153 => mm_laysSteps_L2 n_2 (w32 (x1_2 + 1)) G_153) FU (ishl 1 x1_2) 1 G_47) FU 0 G_2 else some G_2
def mm_laysSteps (G : Hp) : Option (Hp) :=
  mm_laysSteps_L2 FU 0 G
def mm_begins_L31 (k51 : Hp → Option (Hp)) : Nat → Int → Hp → Option (Hp)
  | 0, _, _ => none
  | n_31 + 1, x1_31, G_31 =>
  if x1_31 < 8 then (gd x1_31 8 (mm_begins_L31 k51 n_31 (w32 (x1_31 + 1)) (upd2 G_31 208 x1_31 10))) else k51 G_31
def mm_begins_L53 (k85 : Hp → Option (Hp)) : Nat → Int → Hp → Option (Hp)
  | 0, _, _ => none
  | n_53 + 1, x1_53, G_53 =>
  if x1_53 < 10 then (gd (w32 ((w32 ((G_53 201 12) + 10)) + x1_53)) 4184 (gd x1_53 10 (mm_begins_L53 k85 n_53 (w32 (x1_53 + 1)) (upd2 G_53 205 x1_53 (G_53 202 (w32 ((w32 ((G_53 201 12) + 10)) + x1_53))))))) else k85 G_53
def mm_begins (G : Hp) : Option (Hp) :=
  (mm_beginsProof G).bind fun G1 => mm_begins_L31 (fun G_51 => mm_begins_L53 (fun G_85 => (mm_laysSteps G_85).bind fun G86 => some G86) FU 0 G_51) FU 0 (upd2 (upd2 (upd2 (upd2 (upd2 G1 201 18 0) 201 19 0) 201 20 0) 201 21 0) 201 22 (-1))
def mm_isPaper (a1 : Int) (G : Hp) : Option (Bool × Hp) :=
  (mm_isOf 0 a1 G).bind fun v3 => if v3 = true then (gd ((upd2 G 201 12 (mm_placeOf 0 a1)) 201 12) 4184 (gd (w32 (((upd2 (upd2 G 201 12 (mm_placeOf 0 a1)) 201 13 ((upd2 G 201 12 (mm_placeOf 0 a1)) 202 ((upd2 G 201 12 (mm_placeOf 0 a1)) 201 12))) 201 12) + 1)) 4184 ((mm_begins (upd2 (upd2 (upd2 G 201 12 (mm_placeOf 0 a1)) 201 13 ((upd2 G 201 12 (mm_placeOf 0 a1)) 202 ((upd2 G 201 12 (mm_placeOf 0 a1)) 201 12))) 201 14 ((upd2 (upd2 G 201 12 (mm_placeOf 0 a1)) 201 13 ((upd2 G 201 12 (mm_placeOf 0 a1)) 202 ((upd2 G 201 12 (mm_placeOf 0 a1)) 201 12))) 202 (w32 (((upd2 (upd2 G 201 12 (mm_placeOf 0 a1)) 201 13 ((upd2 G 201 12 (mm_placeOf 0 a1)) 202 ((upd2 G 201 12 (mm_placeOf 0 a1)) 201 12))) 201 12) + 1))))).bind fun G49 => some (true, G49)))) else some (false, G)
def mm_isPlace (a1 : Int) (G : Hp) : Option (Bool) :=
  some (mm_isIn a1 0 (w32 ((G 201 13) - 1)))
def mm_isReader (a1 : Int) (G : Hp) : Option (Bool) :=
  some (mm_isIn a1 0 (w32 ((G 201 14) - 1)))
def mm_patienceOf (a1 : Int) (G : Hp) : Option (Int) :=
  gd (w32 ((w32 ((G 201 12) + 20)) + (w32 (2 * a1)))) 4184 (some (G 202 (w32 ((w32 ((G 201 12) + 20)) + (w32 (2 * a1))))))
def mm_daysOf (a1 : Int) (G : Hp) : Option (Int) :=
  gd (w32 ((w32 ((w32 ((G 201 12) + 20)) + 1)) + (w32 (2 * a1)))) 4184 (some (G 202 (w32 ((w32 ((w32 ((G 201 12) + 20)) + 1)) + (w32 (2 * a1))))))
def mm_wantOf (a1 : Int) (a2 : Int) (G : Hp) : Option (Int) :=
  gd (w32 ((w32 ((w32 ((G 201 12) + 32)) + (w32 (8 * a1)))) + a2)) 4184 (some (G 202 (w32 ((w32 ((w32 ((G 201 12) + 32)) + (w32 (8 * a1)))) + a2))))
def mm_paper (a1 : Int) (a2 : Int) (G : Hp) : Option (Int × Hp) :=
  (mm_isPaper a1 G).bind fun r2 => if r2.1 = true then (if a2 < 0 then some ((-1), r2.2) else (if idiv a2 10 = 0 then (if a2 < 2 then (gd (w32 ((r2.2 201 12) + a2)) 4184 (some (r2.2 202 (w32 ((r2.2 201 12) + a2)), r2.2))) else some ((-1), r2.2)) else if idiv a2 10 = 1 then ((mm_isPlace (irem a2 10) r2.2).bind fun v79 => if v79 = true then ((mm_wordTold0 (irem a2 10) r2.2).bind fun v87 => some (v87, r2.2)) else some ((-1), r2.2)) else if idiv a2 10 = 2 then (gd (w32 ((w32 ((r2.2 201 12) + 10)) + (irem a2 10))) 4184 (some (r2.2 202 (w32 ((w32 ((r2.2 201 12) + 10)) + (irem a2 10))), r2.2))) else if idiv a2 10 = 3 then ((mm_isReader (irem a2 10) r2.2).bind fun v112 => if v112 = true then ((mm_patienceOf (irem a2 10) r2.2).bind fun v120 => some (v120, r2.2)) else some ((-1), r2.2)) else if idiv a2 10 = 4 then ((mm_isReader (irem a2 10) r2.2).bind fun v130 => if v130 = true then ((mm_daysOf (irem a2 10) r2.2).bind fun v138 => some (v138, r2.2)) else some ((-1), r2.2)) else (if 100 ≤ a2 then ((mm_isReader (w32 ((idiv a2 10) - 10)) r2.2).bind fun v160 => if v160 = true then ((mm_isPlace (irem a2 10) r2.2).bind fun v168 => if v168 = true then ((mm_wantOf (w32 ((idiv a2 10) - 10)) (irem a2 10) r2.2).bind fun v183 => some (v183, r2.2)) else some ((-1), r2.2)) else some ((-1), r2.2)) else some ((-1), r2.2)))) else some ((-1), r2.2)
def mm_areNear (a1 : Int) (a2 : Int) (G : Hp) : Option (Bool) :=
  gd a1 10 (if iand (ishr (G 205 a1) a2) 1 = 1 then some true else some false)
def mm_joins_j69 (a1 : Int) (a2 : Int) (a3 : Int) (s0_69 : Int) (s1_69 : Int) (G_69 : Hp) : Option (Hp) :=
  gd s1_69 10 ((mm_laysSteps (upd2 G_69 205 s1_69 s0_69)).bind fun G71 => some G71)
def mm_joins_j34 (a1 : Int) (a2 : Int) (a3 : Int) (s0_34 : Int) (s1_34 : Int) (G_34 : Hp) : Option (Hp) :=
  gd s1_34 10 (if a3 = 0 then (gd a2 10 (mm_joins_j69 a1 a2 a3 (iand ((upd2 G_34 205 s1_34 s0_34) 205 a2) (ixor (ishl 1 a1) (-1))) a2 (upd2 G_34 205 s1_34 s0_34))) else (gd a2 10 (mm_joins_j69 a1 a2 a3 (ior ((upd2 G_34 205 s1_34 s0_34) 205 a2) (ishl 1 a1)) a2 (upd2 G_34 205 s1_34 s0_34))))
def mm_joins (a1 : Int) (a2 : Int) (a3 : Int) (G : Hp) : Option (Hp) :=
  if a3 = 0 then (gd a1 10 (mm_joins_j34 a1 a2 a3 (iand (G 205 a1) (ixor (ishl 1 a2) (-1))) a1 G)) else (gd a1 10 (mm_joins_j34 a1 a2 a3 (ior (G 205 a1) (ishl 1 a2)) a1 G))
def mm_towardsOf_L22 (a1 : Int) (a2 : Int) (G : Hp) (x3_22 : Int) : Nat → Int → Option (Int)
  | 0, _ => none
  | n_22 + 1, x4_22 =>
  if x4_22 < 10 then ((mm_areNear a1 x4_22 G).bind fun v33 => if v33 = true then (gd (w32 ((w32 (10 * x4_22)) + a2)) 100 (if G 206 (w32 ((w32 (10 * x4_22)) + a2)) = w32 (x3_22 - 1) then some x4_22 else mm_towardsOf_L22 a1 a2 G x3_22 n_22 (w32 (x4_22 + 1)))) else mm_towardsOf_L22 a1 a2 G x3_22 n_22 (w32 (x4_22 + 1))) else some (-1)
def mm_towardsOf (a1 : Int) (a2 : Int) (G : Hp) : Option (Int) :=
  gd (w32 ((w32 (10 * a1)) + a2)) 100 (if G 206 (w32 ((w32 (10 * a1)) + a2)) < 1 then some (-1) else mm_towardsOf_L22 a1 a2 G (G 206 (w32 ((w32 (10 * a1)) + a2))) FU 0)
def mm_isWord (a0 : Int) : Bool :=
  (mm_isIn a0 0 9)
def mm_steps (a1 : Int) (a2 : Int) (a3 : Int) (G : Hp) : Option (Int × Hp) :=
  (mm_isPaper a1 G).bind fun r2 => if r2.1 = true then (if (mm_isWord a2) = true then (if (mm_isWord a3) = true then (gd (w32 ((w32 (10 * a2)) + a3)) 100 (some (r2.2 206 (w32 ((w32 (10 * a2)) + a3)), r2.2))) else some ((-1), r2.2)) else some ((-1), r2.2)) else some ((-1), r2.2)
def mm_towards (a1 : Int) (a2 : Int) (a3 : Int) (G : Hp) : Option (Int × Hp) :=
  (mm_isPaper a1 G).bind fun r2 => if r2.1 = true then (if (mm_isWord a2) = true then (if (mm_isWord a3) = true then ((mm_towardsOf a2 a3 r2.2).bind fun v25 => some (v25, r2.2)) else some ((-1), r2.2)) else some ((-1), r2.2)) else some ((-1), r2.2)
def mm_putOf (a1 : Int) (a2 : Int) (G : Hp) : Option (Int) :=
  (mm_wantOf a1 a2 G).bind fun v3 => if v3 = 10 then some (-1) else (gd a2 8 ((mm_wantOf a1 a2 G).bind fun v25 => (mm_towardsOf (G 207 a2) v25 G).bind fun v28 => some v28))
def mm_reads_j45 (a1 : Int) (k4 : Int → Int → Hp → Option (Int × Hp)) (x2_45 : Int) (x3_45 : Int) (s0_45 : Int) (G_45 : Hp) : Option (Int × Hp) :=
  if s0_45 = (-1) then k4 x2_45 (w32 (x3_45 + 1)) G_45 else (gd x3_45 8 (gd x3_45 8 (k4 (w32 (x2_45 + 1)) (w32 (x3_45 + 1)) (upd2 (upd2 (upd2 G_45 207 x3_45 s0_45) 211 x3_45 a1) 201 20 (ior ((upd2 (upd2 G_45 207 x3_45 s0_45) 211 x3_45 a1) 201 20) (ishl 1 x3_45))))))
def mm_reads_L4 (a1 : Int) (k92 : Int → Hp → Option (Int × Hp)) : Nat → Int → Int → Hp → Option (Int × Hp)
  | 0, _, _, _ => none
  | n_4 + 1, x2_4, x3_4, G_4 =>
  if x3_4 < G_4 201 13 then ((mm_patienceOf a1 G_4).bind fun v15 => if x2_4 < v15 then (gd a1 6 (if iand (ishr (G_4 209 a1) x3_4) 1 = 1 then mm_reads_j45 a1 (mm_reads_L4 a1 k92 n_4) x2_4 x3_4 (-1) G_4 else ((mm_putOf a1 x3_4 G_4).bind fun v42 => mm_reads_j45 a1 (mm_reads_L4 a1 k92 n_4) x2_4 x3_4 v42 G_4))) else k92 x2_4 G_4) else k92 x2_4 G_4
def mm_reads (a1 : Int) (G : Hp) : Option (Int × Hp) :=
  mm_reads_L4 a1 (fun x2_92 G_92 => gd a1 6 (gd a1 6 (some (x2_92, upd2 (upd2 G_92 201 17 (w32 ((G_92 201 17) + x2_92))) 210 a1 (w32 (((upd2 G_92 201 17 (w32 ((G_92 201 17) + x2_92))) 210 a1) + x2_92)))))) FU 0 0 G
def mm_contentOf_L4 (a1 : Int) (G : Hp) : Nat → Int → Int → Option (Int)
  | 0, _, _ => none
  | n_4 + 1, x2_4, x3_4 =>
  if x3_4 < G 201 13 then (gd x3_4 8 ((mm_wantOf a1 x3_4 G).bind fun v22 => if G 207 x3_4 = v22 then mm_contentOf_L4 a1 G n_4 (w32 (x2_4 + 1)) (w32 (x3_4 + 1)) else mm_contentOf_L4 a1 G n_4 (w32 (x2_4 + 0)) (w32 (x3_4 + 1)))) else some x2_4
def mm_contentOf (a1 : Int) (G : Hp) : Option (Int) :=
  mm_contentOf_L4 a1 G FU 0 0
def mm_contentAll_L4 (G : Hp) : Nat → Int → Int → Option (Int)
  | 0, _, _ => none
  | n_4 + 1, x1_4, x2_4 =>
  if x2_4 < G 201 14 then ((mm_contentOf x2_4 G).bind fun v15 => mm_contentAll_L4 G n_4 (w32 (x1_4 + v15)) (w32 (x2_4 + 1))) else some x1_4
def mm_contentAll (G : Hp) : Option (Int) :=
  mm_contentAll_L4 G FU 0 0
def mm_reading (a1 : Int) (a2 : Int) (a3 : Int) (G : Hp) : Option (Int × Hp) :=
  (mm_isPaper a1 G).bind fun r2 => if r2.1 = true then ((mm_isReader a2 r2.2).bind fun v10 => if v10 = true then ((mm_reads a2 r2.2).bind fun r21 => if a3 = 0 then some (r21.1, r21.2) else (if a3 = 1 then ((mm_contentAll r21.2).bind fun v39 => some (v39, r21.2)) else (if (mm_isIn a3 10 17) = true then ((mm_isPlace (w32 (a3 - 10)) r21.2).bind fun v59 => if v59 = true then (gd (w32 (a3 - 10)) 8 (some (r21.2 207 (w32 (a3 - 10)), r21.2))) else some ((-2), r21.2)) else some ((-2), r21.2)))) else some ((-2), r2.2)) else some ((-2), r2.2)
def mm_round_L4 : Nat → Int → Int → Hp → Option (Int × Hp)
  | 0, _, _, _ => none
  | n_4 + 1, x1_4, x2_4, G_4 =>
  if x2_4 < G_4 201 14 then ((mm_reads x2_4 G_4).bind fun r15 => mm_round_L4 n_4 (w32 (x1_4 + r15.1)) (w32 (x2_4 + 1)) r15.2) else some (x1_4, G_4)
def mm_round (G : Hp) : Option (Int × Hp) :=
  mm_round_L4 FU 0 0 G
def mm_isAsAt_L5 (a1 : Int) (G : Hp) : Nat → Int → Int → Option (Bool)
  | 0, _, _ => none
  | n_5 + 1, x3_5, x4_5 =>
  if x4_5 < G 201 13 then (if x3_5 = 0 then mm_isAsAt_L5 a1 G n_5 0 (w32 (x4_5 + 1)) else (gd (w32 ((w32 (8 * a1)) + x4_5)) 488 (gd x4_5 8 (if G 212 (w32 ((w32 (8 * a1)) + x4_5)) = G 207 x4_5 then mm_isAsAt_L5 a1 G n_5 1 (w32 (x4_5 + 1)) else mm_isAsAt_L5 a1 G n_5 0 (w32 (x4_5 + 1)))))) else ((zret x3_5).bind fun b_ => some b_)
def mm_isAsAt (a1 : Int) (G : Hp) : Option (Bool) :=
  mm_isAsAt_L5 a1 G FU 1 0
def mm_keeps_L2 (a1 : Int) (a2 : Int) : Nat → Int → Hp → Option (Hp)
  | 0, _, _ => none
  | n_2 + 1, x3_2, G_2 =>
  if x3_2 < 8 then (gd x3_2 8 (gd (w32 ((w32 (8 * a1)) + x3_2)) 488 (mm_keeps_L2 a1 a2 n_2 (w32 (x3_2 + 1)) (upd2 G_2 a2 (w32 ((w32 (8 * a1)) + x3_2)) (G_2 207 x3_2))))) else some G_2
def mm_keeps (a1 : Int) (a2 : Int) (G : Hp) : Option (Hp) :=
  mm_keeps_L2 a1 a2 FU 0 G
def mm_roundsOf_L36 (a1 : Int) (x2_36 : Int) (G_36 : Hp) (k52 : Int → Int → Hp → Option (Int × Hp)) (k72 : Option (Int × Hp)) : Nat → Int → Option (Int × Hp)
  | 0, _ => none
  | n_36 + 1, x3_36 =>
  if x3_36 < 0 then k72 else ((mm_isAsAt x3_36 G_36).bind fun v46 => if v46 = true then k52 x2_36 x3_36 G_36 else mm_roundsOf_L36 a1 x2_36 G_36 k52 k72 n_36 (w32 (x3_36 + (-1))))
def mm_roundsOf_L11 (a1 : Int) (k24 : Int → Hp → Option (Int × Hp)) (k52 : Int → Int → Hp → Option (Int × Hp)) : Nat → Int → Hp → Option (Int × Hp)
  | 0, _, _ => none
  | n_11 + 1, x2_11, G_11 =>
  if x2_11 < 60 then ((mm_round G_11).bind fun r18 => if r18.1 = 0 then k24 x2_11 r18.2 else (mm_roundsOf_L36 a1 x2_11 r18.2 k52 ((mm_keeps (w32 (x2_11 + 1)) 212 r18.2).bind fun G80 => mm_roundsOf_L11 a1 k24 k52 n_11 (w32 (x2_11 + 1)) G80) FU x2_11)) else some ((-1), G_11)
def mm_roundsOf (a1 : Int) (G : Hp) : Option (Int × Hp) :=
  (mm_keeps 0 212 G).bind fun G6 => mm_roundsOf_L11 a1 (fun x2_24 G_24 => if a1 = 0 then some (x2_24, G_24) else some ((-1), G_24)) (fun x2_52 x3_52 G_52 => if a1 = 0 then some ((-1), G_52) else some (w32 ((w32 (x2_52 + 1)) - x3_52), G_52)) FU 0 G6
def mm_rounds_j31 (a1 : Int) (a2 : Int) (s0_31 : Int) (G_31 : Hp) : Option (Int × Hp) :=
  (mm_roundsOf s0_31 G_31).bind fun r31 => some (r31.1, r31.2)
def mm_rounds_j20 (a1 : Int) (a2 : Int) (G_20 : Hp) : Option (Int × Hp) :=
  if a2 = 1 then mm_rounds_j31 a1 a2 1 G_20 else mm_rounds_j31 a1 a2 0 G_20
def mm_rounds (a1 : Int) (a2 : Int) (G : Hp) : Option (Int × Hp) :=
  (mm_isPaper a1 G).bind fun r2 => if r2.1 = true then (if a2 = 0 then mm_rounds_j20 a1 a2 r2.2 else (if a2 = 1 then mm_rounds_j20 a1 a2 r2.2 else (if (mm_isIn a2 10 17) = true then ((mm_isPlace (w32 (a2 - 10)) r2.2).bind fun v51 => if v51 = true then ((mm_roundsOf 1 r2.2).bind fun r62 => gd (w32 (a2 - 10)) 8 (some (r62.2 207 (w32 (a2 - 10)), r62.2))) else some ((-2), r2.2)) else some ((-2), r2.2)))) else some ((-2), r2.2)
def mm_firstRow_L2 : Nat → Int → Hp → Option (Hp)
  | 0, _, _ => none
  | n_2 + 1, x1_2, G_2 =>
  if x1_2 < 6 then (gd x1_2 6 (mm_firstRow_L2 n_2 (w32 (x1_2 + 1)) (upd2 G_2 213 x1_2 x1_2))) else some G_2
def mm_firstRow (G : Hp) : Option (Hp) :=
  mm_firstRow_L2 FU 0 G
def mm_changesPlaces (a1 : Int) (a2 : Int) (G : Hp) : Option (Hp) :=
  gd a1 6 (gd a2 6 (gd a1 6 (gd a2 6 (some (upd2 (upd2 G 213 a1 (G 213 a2)) 213 a2 (G 213 a1))))))
def mm_nextRow_L7 (G_7 : Hp) (k34 : Int → Option (Bool × Hp)) : Nat → Int → Option (Bool × Hp)
  | 0, _ => none
  | n_7 + 1, x1_7 =>
  if x1_7 < 0 then k34 x1_7 else (gd x1_7 6 (gd (w32 (x1_7 + 1)) 6 (if G_7 213 (w32 (x1_7 + 1)) < G_7 213 x1_7 then mm_nextRow_L7 G_7 k34 n_7 (w32 (x1_7 + (-1))) else k34 x1_7)))
def mm_nextRow_L47 (x1_47 : Int) (G_47 : Hp) (k68 : Int → Option (Bool × Hp)) : Nat → Int → Option (Bool × Hp)
  | 0, _ => none
  | n_47 + 1, x2_47 =>
  gd x2_47 6 (gd x1_47 6 (if G_47 213 x2_47 < G_47 213 x1_47 then mm_nextRow_L47 x1_47 G_47 k68 n_47 (w32 (x2_47 + (-1))) else k68 x2_47))
def mm_nextRow_L86 : Nat → Int → Int → Hp → Option (Bool × Hp)
  | 0, _, _, _ => none
  | n_86 + 1, x3_86, x4_86, G_86 =>
  if x3_86 < x4_86 then ((mm_changesPlaces x3_86 x4_86 G_86).bind fun G96 => mm_nextRow_L86 n_86 (w32 (x3_86 + 1)) (w32 (x4_86 + (-1))) G96) else some (true, G_86)
def mm_nextRow (G : Hp) : Option (Bool × Hp) :=
  mm_nextRow_L7 G (fun x1_34 => if x1_34 < 0 then some (false, G) else (mm_nextRow_L47 x1_34 G (fun x2_68 => (mm_changesPlaces x1_34 x2_68 G).bind fun G71 => mm_nextRow_L86 FU (w32 (x1_34 + 1)) (w32 ((G71 201 14) - 1)) G71) FU (w32 ((G 201 14) - 1)))) FU (w32 ((G 201 14) - 2))
def mm_readsRow_L6 (k31 : Hp → Option (Int × Hp)) : Nat → Int → Hp → Option (Int × Hp)
  | 0, _, _ => none
  | n_6 + 1, x1_6, G_6 =>
  if x1_6 < G_6 201 14 then (gd x1_6 6 ((mm_reads (G_6 213 x1_6) G_6).bind fun r21 => mm_readsRow_L6 k31 n_6 (w32 (x1_6 + 1)) r21.2)) else k31 G_6
def mm_readsRow (G : Hp) : Option (Int × Hp) :=
  (mm_beginsProof G).bind fun G1 => mm_readsRow_L6 (fun G_31 => (mm_contentAll G_31).bind fun v32 => some (v32, G_31)) FU 0 G1
def mm_order_j82 (a1 : Int) (a2 : Int) (k32 : Int → Int → Hp → Option (Int × Hp)) (x3_82 : Int) (G_82 : Hp) : Option (Int × Hp) :=
  (mm_nextRow G_82).bind fun r83 => k32 x3_82 (b2i r83.1) r83.2
def mm_order_L55 (a1 : Int) (a2 : Int) (x3_55 : Int) (k82 : Int → Hp → Option (Int × Hp)) : Nat → Int → Hp → Option (Int × Hp)
  | 0, _, _ => none
  | n_55 + 1, x6_55, G_55 =>
  if x6_55 < 6 then (gd x6_55 6 (gd x6_55 6 (mm_order_L55 a1 a2 x3_55 k82 n_55 (w32 (x6_55 + 1)) (upd2 G_55 214 x6_55 (G_55 213 x6_55))))) else k82 x3_55 G_55
def mm_order_L32 (a1 : Int) (a2 : Int) (k91 : Int → Hp → Option (Int × Hp)) : Nat → Int → Int → Hp → Option (Int × Hp)
  | 0, _, _, _ => none
  | n_32 + 1, x3_32, x4_32, G_32 =>
  if x4_32 = 0 then k91 x3_32 G_32 else ((mm_readsRow G_32).bind fun r38 => if x3_32 < r38.1 then mm_order_L55 a1 a2 r38.1 (mm_order_j82 a1 a2 (mm_order_L32 a1 a2 k91 n_32)) FU 0 r38.2 else mm_order_j82 a1 a2 (mm_order_L32 a1 a2 k91 n_32) x3_32 r38.2)
def mm_order_j23 (a1 : Int) (a2 : Int) (G_23 : Hp) : Option (Int × Hp) :=
  (mm_firstRow G_23).bind fun G26 => mm_order_L32 a1 a2 (fun x3_91 G_91 => if a2 = (-1) then some (x3_91, G_91) else (gd a2 6 (some (G_91 214 a2, G_91)))) FU (-1) 1 G26
def mm_order (a1 : Int) (a2 : Int) (G : Hp) : Option (Int × Hp) :=
  (mm_isPaper a1 G).bind fun r2 => if r2.1 = true then (if a2 = (-1) then mm_order_j23 a1 a2 r2.2 else ((mm_isReader a2 r2.2).bind fun v15 => if v15 = true then mm_order_j23 a1 a2 r2.2 else some ((-1), r2.2))) else some ((-1), r2.2)
def mm_deskOf_L11 (a1 : Int) (a2 : Int) (a3 : Int) (G : Hp) : Nat → Int → Int → Option (Int)
  | 0, _, _ => none
  | n_11 + 1, x4_11, x5_11 =>
  if a3 < x5_11 then (nz a2 (mm_deskOf_L11 a1 a2 a3 G n_11 (idiv x4_11 a2) (w32 (x5_11 + (-1))))) else (nz a2 (some (irem x4_11 a2)))
def mm_deskOf (a1 : Int) (a2 : Int) (a3 : Int) (G : Hp) : Option (Int) :=
  mm_deskOf_L11 a1 a2 a3 G FU a1 (w32 ((G 201 14) - 1))
def mm_longest_L2 (a1 : Int) (a2 : Int) (k20 : Hp → Option (Int × Hp)) : Nat → Int → Hp → Option (Int × Hp)
  | 0, _, _ => none
  | n_2 + 1, x3_2, G_2 =>
  if x3_2 < 3 then (gd x3_2 3 (mm_longest_L2 a1 a2 k20 n_2 (w32 (x3_2 + 1)) (upd2 G_2 215 x3_2 0))) else k20 G_2
def mm_longest_L25 (a1 : Int) (a2 : Int) : Nat → Int → Int → Hp → Option (Int × Hp)
  | 0, _, _, _ => none
  | n_25 + 1, x3_25, x4_25, G_25 =>
  if x4_25 < G_25 201 14 then ((mm_deskOf a1 a2 x4_25 G_25).bind fun v39 => gd v39 3 ((mm_daysOf x4_25 G_25).bind fun v55 => gd v39 3 (gd v39 3 (if x3_25 < (upd2 G_25 215 v39 (w32 ((G_25 215 v39) + v55))) 215 v39 then (gd v39 3 (mm_longest_L25 a1 a2 n_25 ((upd2 G_25 215 v39 (w32 ((G_25 215 v39) + v55))) 215 v39) (w32 (x4_25 + 1)) (upd2 G_25 215 v39 (w32 ((G_25 215 v39) + v55))))) else mm_longest_L25 a1 a2 n_25 x3_25 (w32 (x4_25 + 1)) (upd2 G_25 215 v39 (w32 ((G_25 215 v39) + v55))))))) else some (x3_25, G_25)
def mm_longest (a1 : Int) (a2 : Int) (G : Hp) : Option (Int × Hp) :=
  mm_longest_L2 a1 a2 (fun G_20 => mm_longest_L25 a1 a2 FU 0 0 G_20) FU 0 G
def mm_desks_L38 (a1 : Int) (a2 : Int) (a3 : Int) (G_38 : Hp) (k59 : Int → Option (Int × Hp)) : Nat → Int → Int → Option (Int × Hp)
  | 0, _, _ => none
  | n_38 + 1, x4_38, x5_38 =>
  if x5_38 < G_38 201 14 then mm_desks_L38 a1 a2 a3 G_38 k59 n_38 (w32 (x4_38 * a2)) (w32 (x5_38 + 1)) else k59 x4_38
def mm_desks_L65 (a1 : Int) (a2 : Int) (a3 : Int) (x4_65 : Int) (k99 : Int → Hp → Option (Int × Hp)) : Nat → Int → Int → Hp → Option (Int × Hp)
  | 0, _, _, _ => none
  | n_65 + 1, x5_65, x6_65, G_65 =>
  if x6_65 < x4_65 then ((mm_longest x6_65 a2 G_65).bind fun r76 => (mm_longest x5_65 a2 r76.2).bind fun r83 => if r76.1 < r83.1 then mm_desks_L65 a1 a2 a3 x4_65 k99 n_65 x6_65 (w32 (x6_65 + 1)) r83.2 else mm_desks_L65 a1 a2 a3 x4_65 k99 n_65 x5_65 (w32 (x6_65 + 1)) r83.2) else k99 x5_65 G_65
def mm_desks_j32 (a1 : Int) (a2 : Int) (a3 : Int) (G_32 : Hp) : Option (Int × Hp) :=
  mm_desks_L38 a1 a2 a3 G_32 (fun x4_59 => mm_desks_L65 a1 a2 a3 x4_59 (fun x5_99 G_99 => if a3 = (-1) then ((mm_longest x5_99 a2 G_99).bind fun r108 => some (r108.1, r108.2)) else ((mm_deskOf x5_99 a2 a3 G_99).bind fun v119 => some (v119, G_99))) FU 0 1 G_32) FU 1 0
def mm_desks (a1 : Int) (a2 : Int) (a3 : Int) (G : Hp) : Option (Int × Hp) :=
  (mm_isPaper a1 G).bind fun r2 => if r2.1 = true then (if (mm_isIn a2 1 3) = true then (if a3 = (-1) then mm_desks_j32 a1 a2 a3 r2.2 else ((mm_isReader a3 r2.2).bind fun v24 => if v24 = true then mm_desks_j32 a1 a2 a3 r2.2 else some ((-1), r2.2))) else some ((-1), r2.2)) else some ((-1), r2.2)
def mm_laysTurn (a1 : Int) (G : Hp) : Option (Hp) :=
  gd a1 5 (gd a1 5 (some (upd2 (upd2 G 216 a1 (-1)) 218 a1 99999999)))
def mm_puts (a1 : Int) (a2 : Int) (a3 : Int) (G : Hp) : Option (Hp) :=
  gd a1 5 (if a2 = 8 then some (upd2 G 216 a1 a2) else (gd a2 8 (gd a1 5 ((mm_putOf a3 a2 (upd2 (upd2 G 216 a1 a2) 217 a1 ((upd2 G 216 a1 a2) 207 a2))).bind fun v34 => gd a2 8 (some (upd2 (upd2 (upd2 G 216 a1 a2) 217 a1 ((upd2 G 216 a1 a2) 207 a2)) 207 a2 v34))))))
def mm_comesBack_j70 (a1 : Int) (a2 : Int) (G_70 : Hp) : Option (Hp) :=
  gd a1 5 (if a1 = 0 then some (upd2 (upd2 G_70 218 a1 a2) 201 35 ((upd2 G_70 218 a1 a2) 216 0)) else some (upd2 G_70 218 a1 a2))
def mm_comesBack_j28 (a1 : Int) (a2 : Int) (G_28 : Hp) : Option (Hp) :=
  gd a1 5 (if G_28 218 a1 = 99999999 then mm_comesBack_j70 a1 a2 G_28 else (if irem a1 2 = 0 then (gd a1 5 (if a2 ≤ G_28 218 a1 then some G_28 else mm_comesBack_j70 a1 a2 G_28)) else (gd a1 5 (if G_28 218 a1 ≤ a2 then some G_28 else mm_comesBack_j70 a1 a2 G_28))))
def mm_comesBack (a1 : Int) (a2 : Int) (G : Hp) : Option (Hp) :=
  gd a1 5 (if G 216 a1 < 8 then (gd a1 5 (gd a1 5 (gd (G 216 a1) 8 (mm_comesBack_j28 a1 a2 (upd2 G 207 (G 216 a1) (G 217 a1)))))) else mm_comesBack_j28 a1 a2 G)
def mm_quarrelOf_L49 (a1 : Int) (a2 : Int) (a3 : Int) (x4_49 : Int) (x5_49 : Int) (G_49 : Hp) (k83 : Int → Option (Int × Hp)) : Nat → Int → Option (Int × Hp)
  | 0, _ => none
  | n_49 + 1, x6_49 =>
  if x6_49 < 8 then ((mm_isPlace x6_49 G_49).bind fun v59 => if v59 = true then ((mm_putOf x5_49 x6_49 G_49).bind fun v70 => if v70 = (-1) then mm_quarrelOf_L49 a1 a2 a3 x4_49 x5_49 G_49 k83 n_49 (w32 (x6_49 + 1)) else k83 x6_49) else mm_quarrelOf_L49 a1 a2 a3 x4_49 x5_49 G_49 k83 n_49 (w32 (x6_49 + 1))) else k83 x6_49
def mm_quarrelOf_j114 (a1 : Int) (a2 : Int) (a3 : Int) (k8 : Int → Hp → Option (Int × Hp)) (x4_114 : Int) (G_114 : Hp) : Option (Int × Hp) :=
  if w32 (x4_114 + (-1)) < 0 then k8 (w32 (x4_114 + (-1))) G_114 else (gd (w32 ((w32 (x4_114 + (-1))) + 1)) 5 ((mm_comesBack (w32 (x4_114 + (-1))) (G_114 218 (w32 ((w32 (x4_114 + (-1))) + 1))) G_114).bind fun G134 => k8 (w32 (x4_114 + (-1))) G134))
def mm_quarrelOf_j47 (a1 : Int) (a2 : Int) (a3 : Int) (k8 : Int → Hp → Option (Int × Hp)) (x4_47 : Int) (x5_47 : Int) (s0_47 : Int) (G_47 : Hp) : Option (Int × Hp) :=
  mm_quarrelOf_L49 a1 a2 a3 x4_47 x5_47 G_47 (fun x6_83 => if 8 < x6_83 then (if x4_47 = a3 then ((mm_contentOf a1 G_47).bind fun v104 => (mm_contentOf a2 G_47).bind fun v109 => gd x4_47 5 (mm_quarrelOf_j114 a1 a2 a3 k8 x4_47 (upd2 G_47 218 x4_47 (w32 (v104 - v109))))) else mm_quarrelOf_j114 a1 a2 a3 k8 x4_47 G_47) else ((mm_puts x4_47 x6_83 x5_47 G_47).bind fun G147 => (mm_laysTurn (w32 (x4_47 + 1)) G147).bind fun G156 => k8 (w32 (x4_47 + 1)) G156)) FU s0_47
def mm_quarrelOf_j25 (a1 : Int) (a2 : Int) (a3 : Int) (k8 : Int → Hp → Option (Int × Hp)) (x4_25 : Int) (s0_25 : Int) (G_25 : Hp) : Option (Int × Hp) :=
  if x4_25 = a3 then mm_quarrelOf_j47 a1 a2 a3 k8 x4_25 s0_25 9 G_25 else (gd x4_25 5 (mm_quarrelOf_j47 a1 a2 a3 k8 x4_25 s0_25 (w32 ((G_25 216 x4_25) + 1)) G_25))
def mm_quarrelOf_L8 (a1 : Int) (a2 : Int) (a3 : Int) : Nat → Int → Hp → Option (Int × Hp)
  | 0, _, _ => none
  | n_8 + 1, x4_8, G_8 =>
  if x4_8 < 0 then some (G_8 218 0, G_8) else (if irem x4_8 2 = 0 then mm_quarrelOf_j25 a1 a2 a3 (mm_quarrelOf_L8 a1 a2 a3 n_8) x4_8 a1 G_8 else mm_quarrelOf_j25 a1 a2 a3 (mm_quarrelOf_L8 a1 a2 a3 n_8) x4_8 a2 G_8)
def mm_quarrelOf (a1 : Int) (a2 : Int) (a3 : Int) (G : Hp) : Option (Int × Hp) :=
  (mm_laysTurn 0 G).bind fun G5 => mm_quarrelOf_L8 a1 a2 a3 FU 0 G5
def mm_quarrel (a1 : Int) (a2 : Int) (a3 : Int) (a4 : Int) (a5 : Int) (G : Hp) : Option (Int × Hp) :=
  (mm_isPaper a1 G).bind fun r2 => if r2.1 = true then ((mm_isReader a2 r2.2).bind fun v10 => if v10 = true then ((mm_isReader a3 r2.2).bind fun v18 => if v18 = true then (if a2 = a3 then some ((-99), r2.2) else (if (mm_isIn a4 0 4) = true then ((mm_quarrelOf a2 a3 a4 (upd2 r2.2 201 35 (-1))).bind fun r52 => if a5 = 0 then some (r52.1, r52.2) else some (r52.2 201 35, r52.2)) else some ((-99), r2.2))) else some ((-99), r2.2)) else some ((-99), r2.2)) else some ((-99), r2.2)
def mm_bitsOf_L4 (a0 : Int) (G : Hp) : Nat → Int → Int → Option (Int)
  | 0, _, _ => none
  | n_4 + 1, x1_4, x2_4 =>
  if x2_4 < 12 then mm_bitsOf_L4 a0 G n_4 (w32 (x1_4 + (iand (ishr a0 x2_4) 1))) (w32 (x2_4 + 1)) else some x1_4
def mm_bitsOf (a0 : Int) (G : Hp) : Option (Int) :=
  mm_bitsOf_L4 a0 G FU 0 0
def mm_unlikeAt_L5 (a1 : Int) (a2 : Int) (G : Hp) : Nat → Int → Int → Option (Int)
  | 0, _, _ => none
  | n_5 + 1, x3_5, x4_5 =>
  if x4_5 < G 201 13 then ((mm_wantOf a1 x4_5 G).bind fun v19 => (mm_wantOf a2 x4_5 G).bind fun v26 => if v19 = v26 then mm_unlikeAt_L5 a1 a2 G n_5 (ior x3_5 0) (w32 (x4_5 + 1)) else mm_unlikeAt_L5 a1 a2 G n_5 (ior x3_5 (ishl 1 x4_5)) (w32 (x4_5 + 1))) else some x3_5
def mm_unlikeAt (a1 : Int) (a2 : Int) (G : Hp) : Option (Int) :=
  mm_unlikeAt_L5 a1 a2 G FU 0 0
def mm_areSigns_L15 (a1 : Int) (G : Hp) (x3_15 : Int) (k49 : Int → Option (Bool)) : Nat → Int → Int → Option (Bool)
  | 0, _, _ => none
  | n_15 + 1, x2_15, x4_15 =>
  if x4_15 < x3_15 then (if x2_15 = 0 then mm_areSigns_L15 a1 G x3_15 k49 n_15 0 (w32 (x4_15 + 1)) else ((mm_unlikeAt x3_15 x4_15 G).bind fun v29 => if iand v29 a1 = 0 then mm_areSigns_L15 a1 G x3_15 k49 n_15 0 (w32 (x4_15 + 1)) else mm_areSigns_L15 a1 G x3_15 k49 n_15 1 (w32 (x4_15 + 1)))) else k49 x2_15
def mm_areSigns_L4 (a1 : Int) (G : Hp) : Nat → Int → Int → Option (Bool)
  | 0, _, _ => none
  | n_4 + 1, x2_4, x3_4 =>
  if x3_4 < G 201 14 then mm_areSigns_L15 a1 G x3_4 (fun x2_49 => mm_areSigns_L4 a1 G n_4 x2_49 (w32 (x3_4 + 1))) FU x2_4 0 else ((zret x2_4).bind fun b_ => some b_)
def mm_areSigns (a1 : Int) (G : Hp) : Option (Bool) :=
  mm_areSigns_L4 a1 G FU 1 0
def mm_signs_L22 (a1 : Int) (a2 : Int) (G_22 : Hp) (k62 : Int → Option (Int × Hp)) : Nat → Int → Int → Option (Int × Hp)
  | 0, _, _ => none
  | n_22 + 1, x3_22, x4_22 =>
  if x4_22 < 0 then k62 x3_22 else ((mm_areSigns x4_22 G_22).bind fun v30 => if v30 = true then (if x3_22 = (-1) then mm_signs_L22 a1 a2 G_22 k62 n_22 x4_22 (w32 (x4_22 + (-1))) else ((mm_bitsOf x4_22 G_22).bind fun v43 => (mm_bitsOf x3_22 G_22).bind fun v47 => if v43 ≤ v47 then mm_signs_L22 a1 a2 G_22 k62 n_22 x4_22 (w32 (x4_22 + (-1))) else mm_signs_L22 a1 a2 G_22 k62 n_22 x3_22 (w32 (x4_22 + (-1))))) else mm_signs_L22 a1 a2 G_22 k62 n_22 x3_22 (w32 (x4_22 + (-1))))
def mm_signs (a1 : Int) (a2 : Int) (G : Hp) : Option (Int × Hp) :=
  (mm_isPaper a1 G).bind fun r2 => if r2.1 = true then (mm_signs_L22 a1 a2 r2.2 (fun x3_62 => if x3_62 = (-1) then some (x3_62, r2.2) else (if a2 = 0 then ((mm_bitsOf x3_62 r2.2).bind fun v76 => some (v76, r2.2)) else some (x3_62, r2.2))) FU (-1) (w32 ((ishl 1 (r2.2 201 13)) - 1))) else some ((-1), r2.2)
def mm_vote_L39 (a1 : Int) (a2 : Int) (x3_39 : Int) (x4_39 : Int) (x5_39 : Int) (G_39 : Hp) (k76 : Int → Option (Int × Hp)) : Nat → Int → Int → Option (Int × Hp)
  | 0, _, _ => none
  | n_39 + 1, x6_39, x7_39 =>
  if x7_39 < G_39 201 14 then ((mm_wantOf x7_39 a2 G_39).bind fun v54 => if v54 = x5_39 then mm_vote_L39 a1 a2 x3_39 x4_39 x5_39 G_39 k76 n_39 (w32 (x6_39 + 1)) (w32 (x7_39 + 1)) else mm_vote_L39 a1 a2 x3_39 x4_39 x5_39 G_39 k76 n_39 (w32 (x6_39 + 0)) (w32 (x7_39 + 1))) else k76 x6_39
def mm_vote_L26 (a1 : Int) (a2 : Int) (G_26 : Hp) : Nat → Int → Int → Int → Option (Int × Hp)
  | 0, _, _, _ => none
  | n_26 + 1, x3_26, x4_26, x5_26 =>
  if x5_26 < 10 then mm_vote_L39 a1 a2 x3_26 x4_26 x5_26 G_26 (fun x6_76 => if x6_76 ≤ x4_26 then mm_vote_L26 a1 a2 G_26 n_26 x3_26 x4_26 (w32 (x5_26 + 1)) else mm_vote_L26 a1 a2 G_26 n_26 x5_26 x6_76 (w32 (x5_26 + 1))) FU 0 0 else some (x3_26, G_26)
def mm_vote (a1 : Int) (a2 : Int) (G : Hp) : Option (Int × Hp) :=
  (mm_isPaper a1 G).bind fun r2 => if r2.1 = true then ((mm_isPlace a2 r2.2).bind fun v10 => if v10 = true then mm_vote_L26 a1 a2 r2.2 FU (-1) 0 0 else some ((-1), r2.2)) else some ((-1), r2.2)
def mm_common_L6 (a0 : Int) (a2 : Int) (G : Hp) : Nat → Int → Int → Option (Int)
  | 0, _, _ => none
  | n_6 + 1, x4_6, x6_6 =>
  if lcmp x6_6 0 = 0 then some x4_6 else (nz x6_6 (mm_common_L6 a0 a2 G n_6 x6_6 (lrem x4_6 x6_6)))
def mm_common (a0 : Int) (a2 : Int) (G : Hp) : Option (Int) :=
  mm_common_L6 a0 a2 G FU a0 a2
def mm_parted_j10 (a0 : Int) (a2 : Int) (a4 : Int) (G : Hp) (s0_10 : Int) : Option (Int) :=
  (mm_common a0 a2 G).bind fun v12 => nz v12 (some (ldiv s0_10 v12))
def mm_parted (a0 : Int) (a2 : Int) (a4 : Int) (G : Hp) : Option (Int) :=
  if a4 = 0 then mm_parted_j10 a0 a2 a4 G a0 else mm_parted_j10 a0 a2 a4 G a2
def mm_powerOf_L5 (a0 : Int) (a2 : Int) (G : Hp) : Nat → Int → Int → Option (Int)
  | 0, _, _ => none
  | n_5 + 1, x3_5, x5_5 =>
  if x5_5 < a2 then mm_powerOf_L5 a0 a2 G n_5 (w64 (x3_5 * a0)) (w32 (x5_5 + 1)) else some x3_5
def mm_powerOf (a0 : Int) (a2 : Int) (G : Hp) : Option (Int) :=
  mm_powerOf_L5 a0 a2 G FU 1 0
def mm_come (a1 : Int) (a2 : Int) (a3 : Int) (a4 : Int) (G : Hp) : Option (Int × Hp) :=
  (mm_isPaper a1 G).bind fun r2 => if r2.1 = true then (if (mm_isIn a2 0 10) = true then (if (mm_isIn a3 0 3) = true then ((mm_powerOf 10 a3 r2.2).bind fun v35 => (mm_powerOf (w64 (10 - a2)) a3 r2.2).bind fun v45 => (mm_powerOf (w64 (v35 - v45)) (r2.2 201 14) r2.2).bind fun v57 => (mm_powerOf 10 (w32 (a3 * (r2.2 201 14))) r2.2).bind fun v69 => (mm_parted v57 v69 a4 r2.2).bind fun v74 => some (v74, r2.2)) else some ((-1), r2.2)) else some ((-1), r2.2)) else some ((-1), r2.2)
def mm_kinOf_L4 (a1 : Int) (G : Hp) : Nat → Int → Int → Option (Int)
  | 0, _, _ => none
  | n_4 + 1, x2_4, x3_4 =>
  if x3_4 < 10 then (gd (w32 ((w32 (10 * a1)) + x3_4)) 100 (if G 206 (w32 ((w32 (10 * a1)) + x3_4)) = (-1) then mm_kinOf_L4 a1 G n_4 (ior x2_4 0) (w32 (x3_4 + 1)) else mm_kinOf_L4 a1 G n_4 (ior x2_4 (ishl 1 x3_4)) (w32 (x3_4 + 1)))) else some x2_4
def mm_kinOf (a1 : Int) (G : Hp) : Option (Int) :=
  mm_kinOf_L4 a1 G FU 0 0
def mm_kinAll_j36 (a1 : Int) (G : Hp) (k7 : Int → Int → Int → Option (Int)) (x3_36 : Int) (x4_36 : Int) (s0_36 : Int) (s1_36 : Int) : Option (Int) :=
  (mm_kinOf x4_36 G).bind fun v41 => (mm_bitsOf v41 G).bind fun v44 => if x3_36 < v44 then ((mm_kinOf x4_36 G).bind fun v54 => (mm_bitsOf v54 G).bind fun v57 => k7 (w32 (s1_36 + s0_36)) v57 (w32 (x4_36 + 1))) else k7 (w32 (s1_36 + s0_36)) x3_36 (w32 (x4_36 + 1))
def mm_kinAll_L7 (a1 : Int) (G : Hp) (k71 : Int → Int → Option (Int)) : Nat → Int → Int → Int → Option (Int)
  | 0, _, _, _ => none
  | n_7 + 1, x2_7, x3_7, x4_7 =>
  if x4_7 < 10 then ((mm_kinOf x4_7 G).bind fun v18 => if iand v18 (w32 ((ishl 1 x4_7) - 1)) = 0 then mm_kinAll_j36 a1 G (mm_kinAll_L7 a1 G k71 n_7) x3_7 x4_7 1 x2_7 else mm_kinAll_j36 a1 G (mm_kinAll_L7 a1 G k71 n_7) x3_7 x4_7 0 x2_7) else k71 x2_7 x3_7
def mm_kinAll (a1 : Int) (G : Hp) : Option (Int) :=
  mm_kinAll_L7 a1 G (fun x2_71 x3_71 => if a1 = 0 then some x2_71 else some x3_71) FU 0 0 0
def mm_widest_L4 (G : Hp) : Nat → Int → Int → Option (Int)
  | 0, _, _ => none
  | n_4 + 1, x1_4, x2_4 =>
  if x2_4 < 100 then (gd x2_4 100 (if x1_4 < G 206 x2_4 then (gd x2_4 100 (mm_widest_L4 G n_4 (G 206 x2_4) (w32 (x2_4 + 1)))) else mm_widest_L4 G n_4 x1_4 (w32 (x2_4 + 1)))) else some x1_4
def mm_widest (G : Hp) : Option (Int) :=
  mm_widest_L4 G FU 0 0
def mm_lone_L4 (G : Hp) : Nat → Int → Int → Option (Int)
  | 0, _, _ => none
  | n_4 + 1, x1_4, x2_4 =>
  if x2_4 < 10 then (gd x2_4 10 (if G 205 x2_4 = 0 then mm_lone_L4 G n_4 (ior x1_4 (ishl 1 x2_4)) (w32 (x2_4 + 1)) else mm_lone_L4 G n_4 (ior x1_4 0) (w32 (x2_4 + 1)))) else some x1_4
def mm_lone (G : Hp) : Option (Int) :=
  mm_lone_L4 G FU 0 0
def mm_parting_j100 (a1 : Int) (k19 : Int → Int → Int → Hp → Option (Int × Hp)) (x2_100 : Int) (x4_100 : Int) (x5_100 : Int) (s0_100 : Int) (G_100 : Hp) : Option (Int × Hp) :=
  (mm_joins x4_100 x5_100 1 G_100).bind fun G107 => k19 x2_100 s0_100 (w32 (x5_100 + 1)) G107
def mm_parting_j76 (a1 : Int) (k19 : Int → Int → Int → Hp → Option (Int × Hp)) (x3_76 : Int) (x4_76 : Int) (x5_76 : Int) (x6_76 : Int) (s0_76 : Int) (s1_76 : Int) (G_76 : Hp) : Option (Int × Hp) :=
  if x6_76 = (-1) then mm_parting_j100 a1 k19 (w32 (s1_76 + s0_76)) x4_76 x5_76 x3_76 G_76 else (if w32 (x6_76 + 1) < x3_76 then mm_parting_j100 a1 k19 (w32 (s1_76 + s0_76)) x4_76 x5_76 (w32 (x6_76 + 1)) G_76 else mm_parting_j100 a1 k19 (w32 (s1_76 + s0_76)) x4_76 x5_76 x3_76 G_76)
def mm_parting_L19 (a1 : Int) (x4_19 : Int) (k116 : Int → Int → Hp → Option (Int × Hp)) : Nat → Int → Int → Int → Hp → Option (Int × Hp)
  | 0, _, _, _, _ => none
  | n_19 + 1, x2_19, x3_19, x5_19, G_19 =>
  if x5_19 < x4_19 then ((mm_areNear x4_19 x5_19 G_19).bind fun v31 => if v31 = true then ((mm_joins x4_19 x5_19 0 G_19).bind fun G46 => gd (w32 ((w32 (10 * x4_19)) + x5_19)) 100 (if G46 206 (w32 ((w32 (10 * x4_19)) + x5_19)) = (-1) then mm_parting_j76 a1 (mm_parting_L19 a1 x4_19 k116 n_19) x3_19 x4_19 x5_19 (G46 206 (w32 ((w32 (10 * x4_19)) + x5_19))) 1 x2_19 G46 else mm_parting_j76 a1 (mm_parting_L19 a1 x4_19 k116 n_19) x3_19 x4_19 x5_19 (G46 206 (w32 ((w32 (10 * x4_19)) + x5_19))) 0 x2_19 G46)) else mm_parting_L19 a1 x4_19 k116 n_19 x2_19 x3_19 (w32 (x5_19 + 1)) G_19) else k116 x2_19 x3_19 G_19
def mm_parting_L9 (a1 : Int) (k122 : Int → Int → Hp → Option (Int × Hp)) : Nat → Int → Int → Int → Hp → Option (Int × Hp)
  | 0, _, _, _, _ => none
  | n_9 + 1, x2_9, x3_9, x4_9, G_9 =>
  if x4_9 < 10 then mm_parting_L19 a1 x4_9 (fun x2_116 x3_116 G_116 => mm_parting_L9 a1 k122 n_9 x2_116 x3_116 (w32 (x4_9 + 1)) G_116) FU x2_9 x3_9 0 G_9 else k122 x2_9 x3_9 G_9
def mm_parting (a1 : Int) (G : Hp) : Option (Int × Hp) :=
  mm_parting_L9 a1 (fun x2_122 x3_122 G_122 => if a1 = 0 then some (x2_122, G_122) else (if x3_122 = 99999999 then some ((-1), G_122) else some (x3_122, G_122))) FU 0 99999999 0 G
def mm_kin_j63 (a1 : Int) (a2 : Int) (s0_63 : Int) (G_63 : Hp) : Option (Int × Hp) :=
  (mm_kinAll s0_63 G_63).bind fun v63 => some (v63, G_63)
def mm_kin_j52 (a1 : Int) (a2 : Int) (G_52 : Hp) : Option (Int × Hp) :=
  if a2 = 1 then mm_kin_j63 a1 a2 1 G_52 else mm_kin_j63 a1 a2 0 G_52
def mm_kin_j88 (a1 : Int) (a2 : Int) (s0_88 : Int) (G_88 : Hp) : Option (Int × Hp) :=
  (mm_parting s0_88 G_88).bind fun r88 => some (r88.1, r88.2)
def mm_kin_j77 (a1 : Int) (a2 : Int) (G_77 : Hp) : Option (Int × Hp) :=
  if a2 = 5 then mm_kin_j88 a1 a2 1 G_77 else mm_kin_j88 a1 a2 0 G_77
def mm_kin (a1 : Int) (a2 : Int) (G : Hp) : Option (Int × Hp) :=
  (mm_isPaper a1 G).bind fun r2 => if r2.1 = true then (if a2 = 0 then mm_kin_j52 a1 a2 r2.2 else if a2 = 1 then mm_kin_j52 a1 a2 r2.2 else if a2 = 2 then ((mm_widest r2.2).bind fun v68 => some (v68, r2.2)) else if a2 = 3 then ((mm_lone r2.2).bind fun v73 => some (v73, r2.2)) else if a2 = 4 then mm_kin_j77 a1 a2 r2.2 else if a2 = 5 then mm_kin_j77 a1 a2 r2.2 else some ((-2), r2.2)) else some ((-2), r2.2)
def mm_distanceOf_j48 (a1 : Int) (G : Hp) (k4 : Int → Int → Option (Int)) (x2_48 : Int) (x3_48 : Int) (s0_48 : Int) : Option (Int) :=
  if 0 < s0_48 then k4 (w32 (x2_48 + s0_48)) (w32 (x3_48 + 1)) else k4 (w32 (x2_48 + 0)) (w32 (x3_48 + 1))
def mm_distanceOf_L4 (a1 : Int) (G : Hp) : Nat → Int → Int → Option (Int)
  | 0, _, _ => none
  | n_4 + 1, x2_4, x3_4 =>
  if x3_4 < G 201 13 then ((mm_wantOf a1 x3_4 G).bind fun v15 => if v15 = 10 then mm_distanceOf_j48 a1 G (mm_distanceOf_L4 a1 G n_4) x2_4 x3_4 0 else (gd x3_4 8 ((mm_wantOf a1 x3_4 G).bind fun v43 => gd (w32 ((w32 (10 * (G 207 x3_4))) + v43)) 100 (mm_distanceOf_j48 a1 G (mm_distanceOf_L4 a1 G n_4) x2_4 x3_4 (G 206 (w32 ((w32 (10 * (G 207 x3_4))) + v43))))))) else some x2_4
def mm_distanceOf (a1 : Int) (G : Hp) : Option (Int) :=
  mm_distanceOf_L4 a1 G FU 0 0
def mm_aloneOf_L2 (a1 : Int) : Nat → Int → Hp → Option (Int × Hp)
  | 0, _, _ => none
  | n_2 + 1, x2_2, G_2 =>
  (mm_reads a1 G_2).bind fun r4 => if 0 < r4.1 then mm_aloneOf_L2 a1 n_2 (w32 (x2_2 + 1)) r4.2 else some (x2_2, r4.2)
def mm_aloneOf (a1 : Int) (G : Hp) : Option (Int × Hp) :=
  mm_aloneOf_L2 a1 FU 0 G
def mm_rivalsOf_L15 (a1 : Int) (G : Hp) (x3_15 : Int) (k77 : Int → Option (Int)) : Nat → Int → Int → Option (Int)
  | 0, _, _ => none
  | n_15 + 1, x2_15, x4_15 =>
  if x4_15 < G 201 13 then ((mm_wantOf a1 x4_15 G).bind fun v28 => if v28 = 10 then mm_rivalsOf_L15 a1 G x3_15 k77 n_15 x2_15 (w32 (x4_15 + 1)) else ((mm_wantOf x3_15 x4_15 G).bind fun v40 => if v40 = 10 then mm_rivalsOf_L15 a1 G x3_15 k77 n_15 x2_15 (w32 (x4_15 + 1)) else ((mm_wantOf a1 x4_15 G).bind fun v52 => (mm_wantOf x3_15 x4_15 G).bind fun v59 => if v52 = v59 then mm_rivalsOf_L15 a1 G x3_15 k77 n_15 x2_15 (w32 (x4_15 + 1)) else mm_rivalsOf_L15 a1 G x3_15 k77 n_15 (ior x2_15 (ishl 1 x3_15)) (w32 (x4_15 + 1))))) else k77 x2_15
def mm_rivalsOf_L4 (a1 : Int) (G : Hp) : Nat → Int → Int → Option (Int)
  | 0, _, _ => none
  | n_4 + 1, x2_4, x3_4 =>
  if x3_4 < G 201 14 then mm_rivalsOf_L15 a1 G x3_4 (fun x2_77 => mm_rivalsOf_L4 a1 G n_4 x2_77 (w32 (x3_4 + 1))) FU x2_4 0 else some x2_4
def mm_rivalsOf (a1 : Int) (G : Hp) : Option (Int) :=
  mm_rivalsOf_L4 a1 G FU 0 0
def mm_distance (a1 : Int) (a2 : Int) (a3 : Int) (G : Hp) : Option (Int × Hp) :=
  (mm_isPaper a1 G).bind fun r2 => if r2.1 = true then ((mm_isReader a2 r2.2).bind fun v10 => if v10 = true then (if a3 = 0 then ((mm_distanceOf a2 r2.2).bind fun v50 => some (v50, r2.2)) else if a3 = 1 then ((mm_aloneOf a2 r2.2).bind fun r56 => some (r56.1, r56.2)) else if a3 = 2 then ((mm_rivalsOf a2 r2.2).bind fun v62 => some (v62, r2.2)) else some ((-2), r2.2)) else some ((-2), r2.2)) else some ((-2), r2.2)
def mm_isPeace_L4 (a1 : Int) (G : Hp) : Nat → Int → Int → Option (Bool)
  | 0, _, _ => none
  | n_4 + 1, x2_4, x3_4 =>
  if x3_4 < G 201 14 then (if x2_4 = 0 then mm_isPeace_L4 a1 G n_4 0 (w32 (x3_4 + 1)) else (if iand (ishr a1 x3_4) 1 = 0 then mm_isPeace_L4 a1 G n_4 1 (w32 (x3_4 + 1)) else ((mm_rivalsOf x3_4 G).bind fun v26 => if iand v26 a1 = 0 then mm_isPeace_L4 a1 G n_4 1 (w32 (x3_4 + 1)) else mm_isPeace_L4 a1 G n_4 0 (w32 (x3_4 + 1))))) else ((zret x2_4).bind fun b_ => some b_)
def mm_isPeace (a1 : Int) (G : Hp) : Option (Bool) :=
  mm_isPeace_L4 a1 G FU 1 0
def mm_peace_L15 (a1 : Int) (a2 : Int) (G_15 : Hp) (k56 : Int → Option (Int × Hp)) : Nat → Int → Int → Option (Int × Hp)
  | 0, _, _ => none
  | n_15 + 1, x3_15, x4_15 =>
  if x4_15 < ishl 1 (G_15 201 14) then ((mm_bitsOf x4_15 G_15).bind fun v28 => (mm_bitsOf x3_15 G_15).bind fun v32 => if v32 < v28 then ((mm_isPeace x4_15 G_15).bind fun v41 => if v41 = true then mm_peace_L15 a1 a2 G_15 k56 n_15 x4_15 (w32 (x4_15 + 1)) else mm_peace_L15 a1 a2 G_15 k56 n_15 x3_15 (w32 (x4_15 + 1))) else mm_peace_L15 a1 a2 G_15 k56 n_15 x3_15 (w32 (x4_15 + 1))) else k56 x3_15
def mm_peace (a1 : Int) (a2 : Int) (G : Hp) : Option (Int × Hp) :=
  (mm_isPaper a1 G).bind fun r2 => if r2.1 = true then (mm_peace_L15 a1 a2 r2.2 (fun x3_56 => if a2 = 0 then ((mm_bitsOf x3_56 r2.2).bind fun v65 => some (v65, r2.2)) else some (x3_56, r2.2)) FU 0 1) else some ((-1), r2.2)
def mm_togetherFrom_L5 (a1 : Int) (a2 : Int) (G : Hp) : Nat → Int → Int → Option (Int)
  | 0, _, _ => none
  | n_5 + 1, x3_5, x4_5 =>
  if x4_5 < G 201 14 then ((mm_wantOf x4_5 a2 G).bind fun v18 => if v18 = 10 then mm_togetherFrom_L5 a1 a2 G n_5 x3_5 (w32 (x4_5 + 1)) else ((mm_wantOf x4_5 a2 G).bind fun v41 => gd (w32 ((w32 (10 * a1)) + v41)) 100 (if G 206 (w32 ((w32 (10 * a1)) + v41)) = (-1) then mm_togetherFrom_L5 a1 a2 G n_5 (w32 (x3_5 + 10)) (w32 (x4_5 + 1)) else mm_togetherFrom_L5 a1 a2 G n_5 (w32 (x3_5 + (G 206 (w32 ((w32 (10 * a1)) + v41))))) (w32 (x4_5 + 1))))) else some x3_5
def mm_togetherFrom (a1 : Int) (a2 : Int) (G : Hp) : Option (Int) :=
  mm_togetherFrom_L5 a1 a2 G FU 0 0
def mm_median_L24 (a1 : Int) (a2 : Int) (a3 : Int) (G_24 : Hp) (k63 : Int → Option (Int × Hp)) : Nat → Int → Int → Option (Int × Hp)
  | 0, _, _ => none
  | n_24 + 1, x4_24, x5_24 =>
  if x5_24 < 10 then ((mm_togetherFrom x5_24 a2 G_24).bind fun v35 => (mm_togetherFrom x4_24 a2 G_24).bind fun v42 => if v35 < v42 then mm_median_L24 a1 a2 a3 G_24 k63 n_24 x5_24 (w32 (x5_24 + 1)) else mm_median_L24 a1 a2 a3 G_24 k63 n_24 x4_24 (w32 (x5_24 + 1))) else k63 x4_24
def mm_median (a1 : Int) (a2 : Int) (a3 : Int) (G : Hp) : Option (Int × Hp) :=
  (mm_isPaper a1 G).bind fun r2 => if r2.1 = true then ((mm_isPlace a2 r2.2).bind fun v10 => if v10 = true then (mm_median_L24 a1 a2 a3 r2.2 (fun x4_63 => if a3 = 0 then some (x4_63, r2.2) else ((mm_togetherFrom x4_63 a2 r2.2).bind fun v71 => some (v71, r2.2))) FU 0 1) else some ((-1), r2.2)) else some ((-1), r2.2)
def mm_laysRise_L24 (x1_24 : Int) (x2_24 : Int) (k82 : Hp → Option (Int × Hp)) : Nat → Int → Hp → Option (Int × Hp)
  | 0, _, _ => none
  | n_24 + 1, x3_24, G_24 =>
  if x3_24 < G_24 201 13 then (gd x3_24 8 (gd x2_24 8 (if G_24 207 x2_24 < G_24 207 x3_24 then (gd x3_24 8 (gd x2_24 8 (if G_24 219 x2_24 ≤ G_24 219 x3_24 then (gd x3_24 8 (gd x2_24 8 (mm_laysRise_L24 x1_24 x2_24 k82 n_24 (w32 (x3_24 + 1)) (upd2 G_24 219 x2_24 (w32 ((G_24 219 x3_24) + 1)))))) else mm_laysRise_L24 x1_24 x2_24 k82 n_24 (w32 (x3_24 + 1)) G_24))) else mm_laysRise_L24 x1_24 x2_24 k82 n_24 (w32 (x3_24 + 1)) G_24))) else k82 G_24
def mm_laysRise_L9 : Nat → Int → Int → Hp → Option (Int × Hp)
  | 0, _, _, _ => none
  | n_9 + 1, x1_9, x2_9, G_9 =>
  if x2_9 < 0 then some (x1_9, G_9) else (gd x2_9 8 (mm_laysRise_L24 x1_9 x2_9 (fun G_82 => gd x2_9 8 (if x1_9 < G_82 219 x2_9 then (gd x2_9 8 (mm_laysRise_L9 n_9 (G_82 219 x2_9) (w32 (x2_9 + (-1))) G_82)) else mm_laysRise_L9 n_9 x1_9 (w32 (x2_9 + (-1))) G_82)) FU (w32 (x2_9 + 1)) (upd2 G_9 219 x2_9 1)))
def mm_laysRise (G : Hp) : Option (Int × Hp) :=
  mm_laysRise_L9 FU 0 (w32 ((G 201 13) - 1)) G
def mm_riseAt_L29 (a1 : Int) (x2_29 : Int) (x3_29 : Int) (x4_29 : Int) (G_29 : Hp) (k70 : Int → Option (Int × Hp)) : Nat → Int → Option (Int × Hp)
  | 0, _ => none
  | n_29 + 1, x5_29 =>
  gd x5_29 8 (if G_29 219 x5_29 = w32 (x2_29 - x4_29) then (if x3_29 = (-1) then k70 x5_29 else (gd x5_29 8 (gd x3_29 8 (if G_29 207 x5_29 ≤ G_29 207 x3_29 then mm_riseAt_L29 a1 x2_29 x3_29 x4_29 G_29 k70 n_29 (w32 (x5_29 + 1)) else k70 x5_29)))) else mm_riseAt_L29 a1 x2_29 x3_29 x4_29 G_29 k70 n_29 (w32 (x5_29 + 1)))
def mm_riseAt_L18 (a1 : Int) (x2_18 : Int) (G_18 : Hp) : Nat → Int → Int → Option (Int × Hp)
  | 0, _, _ => none
  | n_18 + 1, x3_18, x4_18 =>
  if x4_18 ≤ a1 then mm_riseAt_L29 a1 x2_18 x3_18 x4_18 G_18 (fun x5_70 => mm_riseAt_L18 a1 x2_18 G_18 n_18 x5_70 (w32 (x4_18 + 1))) FU (w32 (x3_18 + 1)) else some (x3_18, G_18)
def mm_riseAt (a1 : Int) (G : Hp) : Option (Int × Hp) :=
  (mm_laysRise G).bind fun r1 => if r1.1 ≤ a1 then some ((-2), r1.2) else mm_riseAt_L18 a1 r1.1 r1.2 FU (-1) 0
def mm_bendOf_L4 (G : Hp) : Nat → Int → Int → Option (Int)
  | 0, _, _ => none
  | n_4 + 1, x1_4, x2_4 =>
  if x2_4 < idiv (G 201 13) 2 then (gd x2_4 8 (gd (w32 ((w32 ((G 201 13) - 1)) - x2_4)) 8 (if G 207 x2_4 = G 207 (w32 ((w32 ((G 201 13) - 1)) - x2_4)) then mm_bendOf_L4 G n_4 (w32 (x1_4 + 0)) (w32 (x2_4 + 1)) else mm_bendOf_L4 G n_4 (w32 (x1_4 + 1)) (w32 (x2_4 + 1))))) else some x1_4
def mm_bendOf (G : Hp) : Option (Int) :=
  mm_bendOf_L4 G FU 0 0
def mm_twiceOf_L27 (G : Hp) (x1_27 : Int) (x2_27 : Int) (x3_27 : Int) (k65 : Int → Option (Int)) : Nat → Int → Option (Int)
  | 0, _ => none
  | n_27 + 1, x4_27 =>
  if w32 (x3_27 + x4_27) < G 201 13 then (gd (w32 (x2_27 + x4_27)) 8 (gd (w32 (x3_27 + x4_27)) 8 (if G 207 (w32 (x2_27 + x4_27)) = G 207 (w32 (x3_27 + x4_27)) then mm_twiceOf_L27 G x1_27 x2_27 x3_27 k65 n_27 (w32 (x4_27 + 1)) else k65 x4_27))) else k65 x4_27
def mm_twiceOf_L16 (G : Hp) (x2_16 : Int) (k84 : Int → Option (Int)) : Nat → Int → Int → Option (Int)
  | 0, _, _ => none
  | n_16 + 1, x1_16, x3_16 =>
  if x3_16 < G 201 13 then mm_twiceOf_L27 G x1_16 x2_16 x3_16 (fun x4_65 => if x1_16 < x4_65 then mm_twiceOf_L16 G x2_16 k84 n_16 x4_65 (w32 (x3_16 + 1)) else mm_twiceOf_L16 G x2_16 k84 n_16 x1_16 (w32 (x3_16 + 1))) FU 0 else k84 x1_16
def mm_twiceOf_L4 (G : Hp) : Nat → Int → Int → Option (Int)
  | 0, _, _ => none
  | n_4 + 1, x1_4, x2_4 =>
  if x2_4 < G 201 13 then mm_twiceOf_L16 G x2_4 (fun x1_84 => mm_twiceOf_L4 G n_4 x1_84 (w32 (x2_4 + 1))) FU x1_4 (w32 (x2_4 + 1)) else some x1_4
def mm_twiceOf (G : Hp) : Option (Int) :=
  mm_twiceOf_L4 G FU 0 0
def mm_standsAt_L4 (a1 : Int) (G : Hp) : Nat → Int → Int → Option (Int)
  | 0, _, _ => none
  | n_4 + 1, x2_4, x3_4 =>
  if x3_4 < G 201 13 then (gd x3_4 8 (if G 207 x3_4 = a1 then mm_standsAt_L4 a1 G n_4 (w32 (x2_4 + 1)) (w32 (x3_4 + 1)) else mm_standsAt_L4 a1 G n_4 (w32 (x2_4 + 0)) (w32 (x3_4 + 1)))) else some x2_4
def mm_standsAt (a1 : Int) (G : Hp) : Option (Int) :=
  mm_standsAt_L4 a1 G FU 0 0
def mm_wordsOf_j51 (a1 : Int) (G : Hp) (k7 : Int → Int → Int → Option (Int)) (x2_51 : Int) (x3_51 : Int) (x4_51 : Int) (s0_51 : Int) (s1_51 : Int) : Option (Int) :=
  if s0_51 < s1_51 then k7 x2_51 x4_51 (w32 (x4_51 + 1)) else k7 x2_51 x3_51 (w32 (x4_51 + 1))
def mm_wordsOf_j29 (a1 : Int) (G : Hp) (k7 : Int → Int → Int → Option (Int)) (x3_29 : Int) (x4_29 : Int) (s0_29 : Int) (s1_29 : Int) : Option (Int) :=
  (mm_standsAt x4_29 G).bind fun v34 => if x3_29 = (-1) then mm_wordsOf_j51 a1 G k7 (w32 (s1_29 + s0_29)) x3_29 x4_29 0 v34 else ((mm_standsAt x3_29 G).bind fun v48 => mm_wordsOf_j51 a1 G k7 (w32 (s1_29 + s0_29)) x3_29 x4_29 v48 v34)
def mm_wordsOf_L7 (a1 : Int) (G : Hp) (k63 : Int → Int → Option (Int)) : Nat → Int → Int → Int → Option (Int)
  | 0, _, _, _ => none
  | n_7 + 1, x2_7, x3_7, x4_7 =>
  if x4_7 < 10 then ((mm_standsAt x4_7 G).bind fun v18 => if 0 < v18 then mm_wordsOf_j29 a1 G (mm_wordsOf_L7 a1 G k63 n_7) x3_7 x4_7 1 x2_7 else mm_wordsOf_j29 a1 G (mm_wordsOf_L7 a1 G k63 n_7) x3_7 x4_7 0 x2_7) else k63 x2_7 x3_7
def mm_wordsOf (a1 : Int) (G : Hp) : Option (Int) :=
  mm_wordsOf_L7 a1 G (fun x2_63 x3_63 => if a1 = 0 then some x2_63 else some x3_63) FU 0 (-1) 0
def mm_rise_j74 (a1 : Int) (a2 : Int) (s0_74 : Int) (G_74 : Hp) : Option (Int × Hp) :=
  (mm_wordsOf s0_74 G_74).bind fun v74 => some (v74, G_74)
def mm_rise_j63 (a1 : Int) (a2 : Int) (G_63 : Hp) : Option (Int × Hp) :=
  if a2 = 4 then mm_rise_j74 a1 a2 1 G_63 else mm_rise_j74 a1 a2 0 G_63
def mm_rise (a1 : Int) (a2 : Int) (G : Hp) : Option (Int × Hp) :=
  (mm_isPaper a1 G).bind fun r2 => if r2.1 = true then (if a2 = 0 then ((mm_laysRise r2.2).bind fun r49 => some (r49.1, r49.2)) else if a2 = 1 then ((mm_bendOf r2.2).bind fun v54 => some (v54, r2.2)) else if a2 = 2 then ((mm_twiceOf r2.2).bind fun v59 => some (v59, r2.2)) else if a2 = 3 then mm_rise_j63 a1 a2 r2.2 else if a2 = 4 then mm_rise_j63 a1 a2 r2.2 else (if a2 < 10 then some ((-2), r2.2) else ((mm_riseAt (w32 (a2 - 10)) r2.2).bind fun r94 => some (r94.1, r94.2)))) else some ((-2), r2.2)
def mm_idleOf_L4 : Nat → Int → Int → Hp → Option (Int × Hp)
  | 0, _, _, _ => none
  | n_4 + 1, x1_4, x2_4, G_4 =>
  if x2_4 < G_4 201 14 then ((mm_beginsProof G_4).bind fun G13 => (mm_reads x2_4 G13).bind fun r19 => if r19.1 = 0 then mm_idleOf_L4 n_4 (ior x1_4 (ishl 1 x2_4)) (w32 (x2_4 + 1)) r19.2 else mm_idleOf_L4 n_4 (ior x1_4 0) (w32 (x2_4 + 1)) r19.2) else some (x1_4, G_4)
def mm_idleOf (G : Hp) : Option (Int × Hp) :=
  mm_idleOf_L4 FU 0 0 G
def mm_lastWordOf_L22 (a1 : Int) (x2_22 : Int) (x3_22 : Int) (x4_22 : Int) (k56 : Hp → Option (Int × Hp)) : Nat → Int → Int → Hp → Option (Int × Hp)
  | 0, _, _, _ => none
  | n_22 + 1, x5_22, x6_22, G_22 =>
  if x6_22 < G_22 201 14 then (if x6_22 = x4_22 then mm_lastWordOf_L22 a1 x2_22 x3_22 x4_22 k56 n_22 x5_22 (w32 (x6_22 + 1)) G_22 else (gd x5_22 6 (mm_lastWordOf_L22 a1 x2_22 x3_22 x4_22 k56 n_22 (w32 (x5_22 + 1)) (w32 (x6_22 + 1)) (upd2 G_22 213 x5_22 x6_22)))) else k56 G_22
def mm_lastWordOf_L7 (a1 : Int) (k101 : Int → Int → Hp → Option (Int × Hp)) : Nat → Int → Int → Int → Hp → Option (Int × Hp)
  | 0, _, _, _, _ => none
  | n_7 + 1, x2_7, x3_7, x4_7, G_7 =>
  if x4_7 < G_7 201 14 then (mm_lastWordOf_L22 a1 x2_7 x3_7 x4_7 (fun G_56 => gd (w32 ((G_56 201 14) - 1)) 6 ((mm_readsRow (upd2 G_56 213 (w32 ((G_56 201 14) - 1)) x4_7)).bind fun r70 => if x2_7 = (-1) then mm_lastWordOf_L7 a1 k101 n_7 x4_7 r70.1 (w32 (x4_7 + 1)) r70.2 else (if r70.1 ≤ x3_7 then mm_lastWordOf_L7 a1 k101 n_7 x2_7 x3_7 (w32 (x4_7 + 1)) r70.2 else mm_lastWordOf_L7 a1 k101 n_7 x4_7 r70.1 (w32 (x4_7 + 1)) r70.2))) FU 0 0 G_7) else k101 x2_7 x3_7 G_7
def mm_lastWordOf (a1 : Int) (G : Hp) : Option (Int × Hp) :=
  mm_lastWordOf_L7 a1 (fun x2_101 x3_101 G_101 => if a1 = 0 then some (x2_101, G_101) else some (x3_101, G_101)) FU (-1) 0 0 G
def mm_swapOf_j63 (a1 : Int) (k22 : Int → Int → Int → Hp → Option (Int × Hp)) (x4_63 : Int) (x5_63 : Int) (x6_63 : Int) (G_63 : Hp) : Option (Int × Hp) :=
  k22 (w32 ((w32 (10 * x4_63)) + x5_63)) x6_63 (w32 (x5_63 + 1)) G_63
def mm_swapOf_L22 (a1 : Int) (x4_22 : Int) (k81 : Int → Int → Hp → Option (Int × Hp)) : Nat → Int → Int → Int → Hp → Option (Int × Hp)
  | 0, _, _, _, _ => none
  | n_22 + 1, x2_22, x3_22, x5_22, G_22 =>
  if x5_22 < G_22 201 14 then ((mm_firstRow G_22).bind fun G32 => (mm_changesPlaces x4_22 x5_22 G32).bind fun G40 => (mm_readsRow G40).bind fun r44 => if x2_22 = (-1) then mm_swapOf_j63 a1 (mm_swapOf_L22 a1 x4_22 k81 n_22) x4_22 x5_22 r44.1 r44.2 else (if r44.1 ≤ x3_22 then mm_swapOf_L22 a1 x4_22 k81 n_22 x2_22 x3_22 (w32 (x5_22 + 1)) r44.2 else mm_swapOf_j63 a1 (mm_swapOf_L22 a1 x4_22 k81 n_22) x4_22 x5_22 r44.1 r44.2)) else k81 x2_22 x3_22 G_22
def mm_swapOf_L7 (a1 : Int) (k87 : Int → Int → Hp → Option (Int × Hp)) : Nat → Int → Int → Int → Hp → Option (Int × Hp)
  | 0, _, _, _, _ => none
  | n_7 + 1, x2_7, x3_7, x4_7, G_7 =>
  if x4_7 < G_7 201 14 then mm_swapOf_L22 a1 x4_7 (fun x2_81 x3_81 G_81 => mm_swapOf_L7 a1 k87 n_7 x2_81 x3_81 (w32 (x4_7 + 1)) G_81) FU x2_7 x3_7 (w32 (x4_7 + 1)) G_7 else k87 x2_7 x3_7 G_7
def mm_swapOf (a1 : Int) (G : Hp) : Option (Int × Hp) :=
  mm_swapOf_L7 a1 (fun x2_87 x3_87 G_87 => if a1 = 0 then some (x2_87, G_87) else some (x3_87, G_87)) FU (-1) 0 0 G
def mm_teachOf_j83 (a1 : Int) (k24 : Int → Int → Int → Hp → Option (Int × Hp)) (x4_83 : Int) (x5_83 : Int) (x6_83 : Int) (G_83 : Hp) : Option (Int × Hp) :=
  k24 (w32 ((w32 (10 * x4_83)) + x5_83)) x6_83 (w32 (x5_83 + 1)) G_83
def mm_teachOf_L24 (a1 : Int) (x4_24 : Int) (k101 : Int → Int → Hp → Option (Int × Hp)) : Nat → Int → Int → Int → Hp → Option (Int × Hp)
  | 0, _, _, _, _ => none
  | n_24 + 1, x2_24, x3_24, x5_24, G_24 =>
  if x5_24 < 10 then ((mm_areNear x4_24 x5_24 G_24).bind fun v36 => if v36 = true then mm_teachOf_L24 a1 x4_24 k101 n_24 x2_24 x3_24 (w32 (x5_24 + 1)) G_24 else ((mm_joins x4_24 x5_24 1 G_24).bind fun G51 => (mm_readsRow G51).bind fun r55 => (mm_joins x4_24 x5_24 0 r55.2).bind fun G66 => if x2_24 = (-1) then mm_teachOf_j83 a1 (mm_teachOf_L24 a1 x4_24 k101 n_24) x4_24 x5_24 r55.1 G66 else (if r55.1 ≤ x3_24 then mm_teachOf_L24 a1 x4_24 k101 n_24 x2_24 x3_24 (w32 (x5_24 + 1)) G66 else mm_teachOf_j83 a1 (mm_teachOf_L24 a1 x4_24 k101 n_24) x4_24 x5_24 r55.1 G66))) else k101 x2_24 x3_24 G_24
def mm_teachOf_L11 (a1 : Int) (k107 : Int → Int → Hp → Option (Int × Hp)) : Nat → Int → Int → Int → Hp → Option (Int × Hp)
  | 0, _, _, _, _ => none
  | n_11 + 1, x2_11, x3_11, x4_11, G_11 =>
  if x4_11 < 10 then mm_teachOf_L24 a1 x4_11 (fun x2_101 x3_101 G_101 => mm_teachOf_L11 a1 k107 n_11 x2_101 x3_101 (w32 (x4_11 + 1)) G_101) FU x2_11 x3_11 (w32 (x4_11 + 1)) G_11 else k107 x2_11 x3_11 G_11
def mm_teachOf (a1 : Int) (G : Hp) : Option (Int × Hp) :=
  (mm_firstRow G).bind fun G5 => mm_teachOf_L11 a1 (fun x2_107 x3_107 G_107 => if a1 = 0 then some (x2_107, G_107) else some (x3_107, G_107)) FU (-1) 0 0 G5
def mm_lastWord_j72 (a1 : Int) (a2 : Int) (s0_72 : Int) (G_72 : Hp) : Option (Int × Hp) :=
  (mm_lastWordOf s0_72 G_72).bind fun r72 => some (r72.1, r72.2)
def mm_lastWord_j61 (a1 : Int) (a2 : Int) (G_61 : Hp) : Option (Int × Hp) :=
  if a2 = 2 then mm_lastWord_j72 a1 a2 1 G_61 else mm_lastWord_j72 a1 a2 0 G_61
def mm_lastWord_j87 (a1 : Int) (a2 : Int) (s0_87 : Int) (G_87 : Hp) : Option (Int × Hp) :=
  (mm_swapOf s0_87 G_87).bind fun r87 => some (r87.1, r87.2)
def mm_lastWord_j76 (a1 : Int) (a2 : Int) (G_76 : Hp) : Option (Int × Hp) :=
  if a2 = 4 then mm_lastWord_j87 a1 a2 1 G_76 else mm_lastWord_j87 a1 a2 0 G_76
def mm_lastWord_j103 (a1 : Int) (a2 : Int) (s0_103 : Int) (G_103 : Hp) : Option (Int × Hp) :=
  (mm_teachOf s0_103 G_103).bind fun r103 => some (r103.1, r103.2)
def mm_lastWord_j91 (a1 : Int) (a2 : Int) (G_91 : Hp) : Option (Int × Hp) :=
  if a2 = 6 then mm_lastWord_j103 a1 a2 1 G_91 else mm_lastWord_j103 a1 a2 0 G_91
def mm_lastWord (a1 : Int) (a2 : Int) (G : Hp) : Option (Int × Hp) :=
  (mm_isPaper a1 G).bind fun r2 => if r2.1 = true then (if a2 = 0 then ((mm_idleOf r2.2).bind fun r57 => some (r57.1, r57.2)) else if a2 = 1 then mm_lastWord_j61 a1 a2 r2.2 else if a2 = 2 then mm_lastWord_j61 a1 a2 r2.2 else if a2 = 3 then mm_lastWord_j76 a1 a2 r2.2 else if a2 = 4 then mm_lastWord_j76 a1 a2 r2.2 else if a2 = 5 then mm_lastWord_j91 a1 a2 r2.2 else if a2 = 6 then mm_lastWord_j91 a1 a2 r2.2 else (if (mm_isIn a2 10 17) = true then ((mm_isPlace (w32 (a2 - 10)) r2.2).bind fun v123 => if v123 = true then ((mm_round r2.2).bind fun r133 => gd (w32 (a2 - 10)) 8 (some (r133.2 211 (w32 (a2 - 10)), r133.2))) else some ((-2), r2.2)) else some ((-2), r2.2))) else some ((-2), r2.2)
def mm_isWeek (a1 : Int) (G : Hp) : Option (Bool × Hp) :=
  (mm_isOf 1 a1 G).bind fun v3 => if v3 = true then some (true, upd2 G 201 37 (mm_placeOf 1 a1)) else some (false, G)
def mm_deed (a1 : Int) (a2 : Int) (a3 : Int) (G : Hp) : Option (Int × Hp) :=
  (mm_isWeek a1 G).bind fun r2 => if r2.1 = true then (if a2 = (-1) then (if a3 = 0 then (gd (r2.2 201 37) 4184 (some (r2.2 202 (r2.2 201 37), r2.2))) else some ((-2), r2.2)) else (gd (r2.2 201 37) 4184 (if (mm_isIn a2 0 (w32 ((r2.2 202 (r2.2 201 37)) - 1))) = true then (if (mm_isIn a3 0 2) = true then (gd (w32 ((w32 ((w32 ((r2.2 201 37) + 1)) + (w32 (3 * a2)))) + a3)) 4184 (some (r2.2 202 (w32 ((w32 ((w32 ((r2.2 201 37) + 1)) + (w32 (3 * a2)))) + a3)), r2.2))) else some ((-2), r2.2)) else some ((-2), r2.2)))) else some ((-2), r2.2)
def mm_readsDeed (a1 : Int) (G : Hp) : Option (Bool × Hp) :=
  (mm_isReader a1 G).bind fun v2 => if v2 = true then ((mm_reads a1 G).bind fun r12 => if 0 < r12.1 then (if r12.2 201 22 = (-1) then some (true, upd2 r12.2 201 22 (r12.2 201 21)) else some (true, r12.2)) else some (true, r12.2)) else some (false, G)
def mm_setsWord (a1 : Int) (a2 : Int) (G : Hp) : Option (Bool × Hp) :=
  (mm_isPlace a1 G).bind fun v2 => if v2 = true then (gd a1 8 (if G 207 a1 = a2 then some (false, G) else (gd a1 8 (some (true, upd2 (upd2 (upd2 G 207 a1 a2) 201 20 (ior ((upd2 G 207 a1 a2) 201 20) (ishl 1 a1))) 201 19 (w32 (((upd2 (upd2 G 207 a1 a2) 201 20 (ior ((upd2 G 207 a1 a2) 201 20) (ishl 1 a1))) 201 19) + 1))))))) else some (false, G)
def mm_stets (a1 : Int) (a2 : Int) (G : Hp) : Option (Bool × Hp) :=
  (mm_isReader a1 G).bind fun v2 => if v2 = true then ((mm_isPlace a2 G).bind fun v10 => if v10 = true then (gd a1 6 (if iand (ishr (G 209 a1) a2) 1 = 1 then some (false, G) else (gd a1 6 (gd a1 6 (some (true, upd2 G 209 a1 (ior (G 209 a1) (ishl 1 a2)))))))) else some (false, G)) else some (false, G)
def mm_joinsWords (a1 : Int) (a2 : Int) (a3 : Int) (G : Hp) : Option (Bool × Hp) :=
  (mm_areNear a1 a2 G).bind fun v3 => if (b2i v3) = a3 then some (false, G) else ((mm_joins a1 a2 a3 G).bind fun G16 => some (true, G16))
def mm_printsAll_L24 : Nat → Int → Hp → Option (Bool × Hp)
  | 0, _, _ => none
  | n_24 + 1, x1_24, G_24 =>
  if x1_24 < G_24 201 13 then (gd x1_24 8 (gd x1_24 8 (mm_printsAll_L24 n_24 (w32 (x1_24 + 1)) (upd2 G_24 208 x1_24 (G_24 207 x1_24))))) else some (true, G_24)
def mm_printsAll (G : Hp) : Option (Bool × Hp) :=
  (mm_keeps (G 201 18) 220 G).bind fun G9 => mm_printsAll_L24 FU 0 (upd2 G9 201 18 (w32 ((G9 201 18) + 1)))
def mm_does_j69 (a1 : Int) (a2 : Int) (a3 : Int) (s0_69 : Int) (s1_69 : Int) (s2_69 : Int) (G_69 : Hp) : Option (Bool × Hp) :=
  (mm_joinsWords s2_69 s1_69 s0_69 G_69).bind fun r69 => some (r69.1, r69.2)
def mm_does_j56 (a1 : Int) (a2 : Int) (a3 : Int) (G_56 : Hp) : Option (Bool × Hp) :=
  if a1 = 3 then mm_does_j69 a1 a2 a3 1 a3 a2 G_56 else mm_does_j69 a1 a2 a3 0 a3 a2 G_56
def mm_does (a1 : Int) (a2 : Int) (a3 : Int) (G : Hp) : Option (Bool × Hp) :=
  if a1 = 0 then ((mm_readsDeed a2 G).bind fun r38 => some (r38.1, r38.2)) else if a1 = 1 then ((mm_setsWord a2 a3 G).bind fun r45 => some (r45.1, r45.2)) else if a1 = 2 then ((mm_stets a2 a3 G).bind fun r52 => some (r52.1, r52.2)) else if a1 = 3 then mm_does_j56 a1 a2 a3 G else if a1 = 4 then mm_does_j56 a1 a2 a3 G else ((mm_printsAll G).bind fun r74 => some (r74.1, r74.2))
def mm_runs_L0 (a1 : Int) : Nat → Hp → Option (Hp)
  | 0, _ => none
  | n_0 + 1, G_0 =>
  if G_0 201 21 < a1 then (gd (G_0 201 37) 4184 (if G_0 201 21 < G_0 202 (G_0 201 37) then (gd (w32 ((w32 ((G_0 201 37) + 1)) + (w32 (3 * (G_0 201 21))))) 4184 (gd (w32 ((w32 ((G_0 201 37) + 2)) + (w32 (3 * (G_0 201 21))))) 4184 (gd (w32 ((w32 ((G_0 201 37) + 3)) + (w32 (3 * (G_0 201 21))))) 4184 ((mm_does (G_0 202 (w32 ((w32 ((G_0 201 37) + 1)) + (w32 (3 * (G_0 201 21)))))) (G_0 202 (w32 ((w32 ((G_0 201 37) + 2)) + (w32 (3 * (G_0 201 21)))))) (G_0 202 (w32 ((w32 ((G_0 201 37) + 3)) + (w32 (3 * (G_0 201 21)))))) G_0).bind fun r79 => if r79.1 = true then mm_runs_L0 a1 n_0 (upd2 r79.2 201 21 (w32 ((r79.2 201 21) + 1))) else some r79.2)))) else some G_0)) else some G_0
def mm_runs (a1 : Int) (G : Hp) : Option (Hp) :=
  mm_runs_L0 a1 FU G
def mm_stop (a1 : Int) (a2 : Int) (G : Hp) : Option (Int × Hp) :=
  (mm_isPaper a1 G).bind fun r2 => if r2.1 = true then ((mm_isWeek a2 r2.2).bind fun r10 => if r10.1 = true then ((mm_runs 40 r10.2).bind fun G21 => some (G21 201 21, G21)) else some ((-1), r10.2)) else some ((-1), r2.2)
def mm_nowOf (a1 : Int) (G : Hp) : Option (Int) :=
  if a1 < 0 then some (-2) else (if a1 < 2 then (if a1 = 0 then some (G 201 17) else some (G 201 18)) else (if idiv a1 10 = 1 then ((mm_isPlace (irem a1 10) G).bind fun v74 => if v74 = true then (gd (irem a1 10) 8 (some (G 207 (irem a1 10)))) else some (-2)) else if idiv a1 10 = 2 then ((mm_isPlace (irem a1 10) G).bind fun v94 => if v94 = true then (gd (irem a1 10) 8 (some (G 208 (irem a1 10)))) else some (-2)) else if idiv a1 10 = 3 then ((mm_isReader (irem a1 10) G).bind fun v114 => if v114 = true then ((mm_contentOf (irem a1 10) G).bind fun v122 => some v122) else some (-2)) else if idiv a1 10 = 4 then ((mm_isReader (irem a1 10) G).bind fun v133 => if v133 = true then (gd (irem a1 10) 6 (some (G 209 (irem a1 10)))) else some (-2)) else if idiv a1 10 = 5 then (gd (irem a1 10) 10 (some (G 205 (irem a1 10)))) else some (-2)))
def mm_state (a1 : Int) (a2 : Int) (a3 : Int) (a4 : Int) (G : Hp) : Option (Int × Hp) :=
  (mm_isPaper a1 G).bind fun r2 => if r2.1 = true then ((mm_isWeek a2 r2.2).bind fun r10 => if r10.1 = true then (if a3 < 0 then some ((-2), r10.2) else ((mm_runs a3 r10.2).bind fun G25 => if G25 201 21 = a3 then ((mm_nowOf a4 G25).bind fun v39 => some (v39, G25)) else some ((-2), G25))) else some ((-2), r10.2)) else some ((-2), r2.2)
def mm_editionsOf_L29 (G : Hp) (x1_29 : Int) (x2_29 : Int) (x3_29 : Int) (x4_29 : Int) (k84 : Int → Option (Int)) : Nat → Int → Int → Option (Int)
  | 0, _, _ => none
  | n_29 + 1, x5_29, x6_29 =>
  if x6_29 < G 201 13 then (if x5_29 = 0 then mm_editionsOf_L29 G x1_29 x2_29 x3_29 x4_29 k84 n_29 0 (w32 (x6_29 + 1)) else (gd (w32 ((w32 (8 * x2_29)) + x6_29)) 488 (gd (w32 ((w32 (8 * x4_29)) + x6_29)) 488 (if G 220 (w32 ((w32 (8 * x2_29)) + x6_29)) = G 220 (w32 ((w32 (8 * x4_29)) + x6_29)) then mm_editionsOf_L29 G x1_29 x2_29 x3_29 x4_29 k84 n_29 1 (w32 (x6_29 + 1)) else mm_editionsOf_L29 G x1_29 x2_29 x3_29 x4_29 k84 n_29 0 (w32 (x6_29 + 1)))))) else k84 x5_29
def mm_editionsOf_L17 (G : Hp) (x1_17 : Int) (x2_17 : Int) (k105 : Int → Option (Int)) : Nat → Int → Int → Option (Int)
  | 0, _, _ => none
  | n_17 + 1, x3_17, x4_17 =>
  if x4_17 < x2_17 then mm_editionsOf_L29 G x1_17 x2_17 x3_17 x4_17 (fun x5_84 => if x3_17 = 0 then (if x5_84 = 0 then mm_editionsOf_L17 G x1_17 x2_17 k105 n_17 0 (w32 (x4_17 + 1)) else mm_editionsOf_L17 G x1_17 x2_17 k105 n_17 1 (w32 (x4_17 + 1))) else mm_editionsOf_L17 G x1_17 x2_17 k105 n_17 1 (w32 (x4_17 + 1))) FU 1 0 else k105 x3_17
def mm_editionsOf_L4 (G : Hp) : Nat → Int → Int → Option (Int)
  | 0, _, _ => none
  | n_4 + 1, x1_4, x2_4 =>
  if x2_4 < G 201 18 then mm_editionsOf_L17 G x1_4 x2_4 (fun x3_105 => if x3_105 = 0 then mm_editionsOf_L4 G n_4 (w32 (x1_4 + 1)) (w32 (x2_4 + 1)) else mm_editionsOf_L4 G n_4 (w32 (x1_4 + 0)) (w32 (x2_4 + 1))) FU 0 0 else some x1_4
def mm_editionsOf (G : Hp) : Option (Int) :=
  mm_editionsOf_L4 G FU 0 0
def mm_busiestOf_j33 (G : Hp) (k4 : Int → Int → Option (Int)) (x1_33 : Int) (x2_33 : Int) (s0_33 : Int) (s1_33 : Int) : Option (Int) :=
  if s0_33 < s1_33 then k4 x2_33 (w32 (x2_33 + 1)) else k4 x1_33 (w32 (x2_33 + 1))
def mm_busiestOf_L4 (G : Hp) : Nat → Int → Int → Option (Int)
  | 0, _, _ => none
  | n_4 + 1, x1_4, x2_4 =>
  if x2_4 < G 201 14 then (gd x2_4 6 (if x1_4 = (-1) then mm_busiestOf_j33 G (mm_busiestOf_L4 G n_4) x1_4 x2_4 0 (G 210 x2_4) else (gd x1_4 6 (mm_busiestOf_j33 G (mm_busiestOf_L4 G n_4) x1_4 x2_4 (G 210 x1_4) (G 210 x2_4))))) else some x1_4
def mm_busiestOf (G : Hp) : Option (Int) :=
  mm_busiestOf_L4 G FU (-1) 0
def mm_after (a1 : Int) (a2 : Int) (a3 : Int) (G : Hp) : Option (Int × Hp) :=
  (mm_isPaper a1 G).bind fun r2 => if r2.1 = true then ((mm_isWeek a2 r2.2).bind fun r10 => if r10.1 = true then ((mm_runs 40 r10.2).bind fun G22 => if a3 = 0 then some (G22 201 22, G22) else if a3 = 1 then ((mm_busiestOf G22).bind fun v66 => some (v66, G22)) else if a3 = 2 then some (G22 201 19, G22) else if a3 = 3 then some (G22 201 20, G22) else if a3 = 4 then ((mm_editionsOf G22).bind fun v81 => some (v81, G22)) else some ((-2), G22)) else some ((-2), r10.2)) else some ((-2), r2.2)
def mm_isLog (a1 : Int) (G : Hp) : Option (Bool × Hp) :=
  (mm_isOf 2 a1 G).bind fun v3 => if v3 = true then some (true, upd2 G 201 39 (mm_placeOf 2 a1)) else some (false, G)
def mm_fact (a1 : Int) (a2 : Int) (a3 : Int) (G : Hp) : Option (Int × Hp) :=
  (mm_isLog a1 G).bind fun r2 => if r2.1 = true then (if a2 = (-1) then (if a3 = 0 then (gd (r2.2 201 39) 4184 (some (r2.2 202 (r2.2 201 39), r2.2))) else some ((-2), r2.2)) else (gd (r2.2 201 39) 4184 (if (mm_isIn a2 0 (w32 ((r2.2 202 (r2.2 201 39)) - 1))) = true then (if (mm_isIn a3 0 1) = true then (gd (w32 ((w32 ((w32 ((r2.2 201 39) + 1)) + (w32 (2 * a2)))) + a3)) 4184 (some (r2.2 202 (w32 ((w32 ((w32 ((r2.2 201 39) + 1)) + (w32 (2 * a2)))) + a3)), r2.2))) else some ((-2), r2.2)) else some ((-2), r2.2)))) else some ((-2), r2.2)
def mm_isSo_L4 (G : Hp) : Nat → Int → Int → Option (Bool)
  | 0, _, _ => none
  | n_4 + 1, x1_4, x2_4 =>
  gd (G 201 39) 4184 (if x2_4 < G 202 (G 201 39) then (if x1_4 = 0 then mm_isSo_L4 G n_4 0 (w32 (x2_4 + 1)) else (gd (w32 ((w32 ((G 201 39) + 1)) + (w32 (2 * x2_4)))) 4184 ((mm_isPlace (G 202 (w32 ((w32 ((G 201 39) + 1)) + (w32 (2 * x2_4))))) G).bind fun v37 => if v37 = true then (gd (w32 ((w32 ((G 201 39) + 1)) + (w32 (2 * x2_4)))) 4184 (gd (G 202 (w32 ((w32 ((G 201 39) + 1)) + (w32 (2 * x2_4))))) 8 (gd (w32 ((w32 ((G 201 39) + 2)) + (w32 (2 * x2_4)))) 4184 (if G 207 (G 202 (w32 ((w32 ((G 201 39) + 1)) + (w32 (2 * x2_4))))) = G 202 (w32 ((w32 ((G 201 39) + 2)) + (w32 (2 * x2_4)))) then mm_isSo_L4 G n_4 1 (w32 (x2_4 + 1)) else mm_isSo_L4 G n_4 0 (w32 (x2_4 + 1)))))) else mm_isSo_L4 G n_4 0 (w32 (x2_4 + 1))))) else ((zret x1_4).bind fun b_ => some b_))
def mm_isSo (G : Hp) : Option (Bool) :=
  mm_isSo_L4 G FU 1 0
def mm_laysNoFits_L17 (k36 : Hp → Option (Hp)) : Nat → Int → Hp → Option (Hp)
  | 0, _, _ => none
  | n_17 + 1, x1_17, G_17 =>
  if x1_17 < 6 then (gd x1_17 6 (mm_laysNoFits_L17 k36 n_17 (w32 (x1_17 + 1)) (upd2 G_17 221 x1_17 0))) else k36 G_17
def mm_laysNoFits_L38 (k57 : Hp → Option (Hp)) : Nat → Int → Hp → Option (Hp)
  | 0, _, _ => none
  | n_38 + 1, x1_38, G_38 =>
  if x1_38 < 80 then (gd x1_38 80 (mm_laysNoFits_L38 k57 n_38 (w32 (x1_38 + 1)) (upd2 G_38 222 x1_38 0))) else k57 G_38
def mm_laysNoFits_L59 : Nat → Int → Hp → Option (Hp)
  | 0, _, _ => none
  | n_59 + 1, x1_59, G_59 =>
  if x1_59 < 36 then (gd x1_59 36 (mm_laysNoFits_L59 n_59 (w32 (x1_59 + 1)) (upd2 G_59 223 x1_59 0))) else some G_59
def mm_laysNoFits (G : Hp) : Option (Hp) :=
  mm_laysNoFits_L17 (fun G_36 => mm_laysNoFits_L38 (fun G_57 => mm_laysNoFits_L59 FU 0 G_57) FU 0 G_36) FU 0 (upd2 (upd2 (upd2 G 201 40 0) 201 41 (-1)) 201 42 (-1))
def mm_laysFit_L59 (a1 : Int) (k93 : Hp → Option (Hp)) : Nat → Int → Hp → Option (Hp)
  | 0, _, _ => none
  | n_59 + 1, x2_59, G_59 =>
  if x2_59 < G_59 201 13 then (gd x2_59 8 (gd (w32 ((w32 (10 * x2_59)) + (G_59 207 x2_59))) 80 (gd (w32 ((w32 (10 * x2_59)) + (G_59 207 x2_59))) 80 (mm_laysFit_L59 a1 k93 n_59 (w32 (x2_59 + 1)) (upd2 G_59 222 (w32 ((w32 (10 * x2_59)) + (G_59 207 x2_59))) (w32 ((G_59 222 (w32 ((w32 (10 * x2_59)) + (G_59 207 x2_59)))) + 1))))))) else k93 G_59
def mm_laysFit_L124 (a1 : Int) (x2_124 : Int) (k163 : Hp → Option (Hp)) : Nat → Int → Hp → Option (Hp)
  | 0, _, _ => none
  | n_124 + 1, x3_124, G_124 =>
  if x3_124 < G_124 201 14 then (gd x2_124 6 (gd x3_124 6 (gd (w32 ((w32 (6 * (G_124 213 x2_124))) + (G_124 213 x3_124))) 36 (gd (w32 ((w32 (6 * (G_124 213 x2_124))) + (G_124 213 x3_124))) 36 (mm_laysFit_L124 a1 x2_124 k163 n_124 (w32 (x3_124 + 1)) (upd2 G_124 223 (w32 ((w32 (6 * (G_124 213 x2_124))) + (G_124 213 x3_124))) (w32 ((G_124 223 (w32 ((w32 (6 * (G_124 213 x2_124))) + (G_124 213 x3_124)))) + 1)))))))) else k163 G_124
def mm_laysFit_L95 (a1 : Int) : Nat → Int → Hp → Option (Hp)
  | 0, _, _ => none
  | n_95 + 1, x2_95, G_95 =>
  if x2_95 < G_95 201 14 then (gd x2_95 6 (gd x2_95 6 (gd x2_95 6 (mm_laysFit_L124 a1 x2_95 (fun G_163 => mm_laysFit_L95 a1 n_95 (w32 (x2_95 + 1)) G_163) FU (w32 (x2_95 + 1)) (upd2 G_95 221 x2_95 (ior (G_95 221 x2_95) (ishl 1 (G_95 213 x2_95)))))))) else some G_95
def mm_laysFit_j44 (a1 : Int) (s0_44 : Int) (G_44 : Hp) : Option (Hp) :=
  mm_laysFit_L59 a1 (fun G_93 => mm_laysFit_L95 a1 FU 0 G_93) FU 0 (upd2 (upd2 G_44 201 42 s0_44) 201 40 (w32 (((upd2 G_44 201 42 s0_44) 201 40) + 1)))
def mm_laysFit_j17 (a1 : Int) (s0_17 : Int) (G_17 : Hp) : Option (Hp) :=
  if (upd2 G_17 201 41 s0_17) 201 40 = 0 then mm_laysFit_j44 a1 a1 (upd2 G_17 201 41 s0_17) else (if a1 < (upd2 G_17 201 41 s0_17) 201 42 then mm_laysFit_j44 a1 a1 (upd2 G_17 201 41 s0_17) else mm_laysFit_j44 a1 ((upd2 G_17 201 41 s0_17) 201 42) (upd2 G_17 201 41 s0_17))
def mm_laysFit (a1 : Int) (G : Hp) : Option (Hp) :=
  if G 201 41 < a1 then mm_laysFit_j17 a1 a1 G else mm_laysFit_j17 a1 (G 201 41) G
def mm_numberOf_L4 (G : Hp) : Nat → Int → Int → Option (Int)
  | 0, _, _ => none
  | n_4 + 1, x1_4, x2_4 =>
  if x2_4 < G 201 14 then (gd x2_4 6 (mm_numberOf_L4 G n_4 (w32 ((w32 (10 * x1_4)) + (G 213 x2_4))) (w32 (x2_4 + 1)))) else some x1_4
def mm_numberOf (G : Hp) : Option (Int) :=
  mm_numberOf_L4 G FU 1 0
def mm_laysFits_j49 (a1 : Int) (k13 : Int → Int → Hp → Option (Int × Hp)) (x2_49 : Int) (G_49 : Hp) : Option (Int × Hp) :=
  (mm_nextRow G_49).bind fun r50 => k13 x2_49 (b2i r50.1) r50.2
def mm_laysFits_j43 (a1 : Int) (k49 : Int → Hp → Option (Int × Hp)) (x2_43 : Int) (x4_43 : Int) (G_43 : Hp) : Option (Int × Hp) :=
  (mm_laysFit x4_43 G_43).bind fun G46 => k49 x2_43 G46
def mm_laysFits_L13 (a1 : Int) : Nat → Int → Int → Hp → Option (Int × Hp)
  | 0, _, _, _ => none
  | n_13 + 1, x2_13, x3_13, G_13 =>
  if x3_13 = 0 then some (x2_13, G_13) else ((mm_readsRow G_13).bind fun r18 => (mm_isSo r18.2).bind fun v24 => if v24 = true then (if r18.2 201 40 = a1 then ((mm_numberOf r18.2).bind fun v39 => mm_laysFits_j43 a1 (mm_laysFits_j49 a1 (mm_laysFits_L13 a1 n_13)) v39 r18.1 r18.2) else mm_laysFits_j43 a1 (mm_laysFits_j49 a1 (mm_laysFits_L13 a1 n_13)) x2_13 r18.1 r18.2) else mm_laysFits_j49 a1 (mm_laysFits_L13 a1 n_13) x2_13 r18.2)
def mm_laysFits (a1 : Int) (G : Hp) : Option (Int × Hp) :=
  (mm_laysNoFits G).bind fun G1 => (mm_firstRow G1).bind fun G5 => mm_laysFits_L13 a1 FU (-2) 1 G5
def mm_askOf_L29 (G : Hp) (x1_29 : Int) (x2_29 : Int) (x3_29 : Int) (k78 : Int → Option (Int)) : Nat → Int → Int → Option (Int)
  | 0, _, _ => none
  | n_29 + 1, x4_29, x5_29 =>
  if x5_29 < 10 then (gd (w32 ((w32 (10 * x3_29)) + x5_29)) 80 (if x4_29 < G 222 (w32 ((w32 (10 * x3_29)) + x5_29)) then (gd (w32 ((w32 (10 * x3_29)) + x5_29)) 80 (mm_askOf_L29 G x1_29 x2_29 x3_29 k78 n_29 (G 222 (w32 ((w32 (10 * x3_29)) + x5_29))) (w32 (x5_29 + 1)))) else mm_askOf_L29 G x1_29 x2_29 x3_29 k78 n_29 x4_29 (w32 (x5_29 + 1)))) else k78 x4_29
def mm_askOf_L8 (G : Hp) : Nat → Int → Int → Int → Option (Int)
  | 0, _, _, _ => none
  | n_8 + 1, x1_8, x2_8, x3_8 =>
  if x3_8 < G 201 13 then (if 0 < G 201 40 then mm_askOf_L29 G x1_8 x2_8 x3_8 (fun x4_78 => if x2_8 ≤ x4_78 then mm_askOf_L8 G n_8 x1_8 x2_8 (w32 (x3_8 + 1)) else mm_askOf_L8 G n_8 x3_8 x4_78 (w32 (x3_8 + 1))) FU 0 0 else some x1_8) else some x1_8
def mm_askOf (G : Hp) : Option (Int) :=
  mm_askOf_L8 G FU (-1) 99999999 0
def mm_sureOf_L32 (a1 : Int) (G : Hp) : Nat → Int → Option (Int)
  | 0, _ => none
  | n_32 + 1, x2_32 =>
  gd a1 6 (if ishr (G 221 a1) x2_32 = 1 then some x2_32 else mm_sureOf_L32 a1 G n_32 (w32 (x2_32 + 1)))
def mm_sureOf (a1 : Int) (G : Hp) : Option (Int) :=
  if a1 < G 201 14 then (if G 201 40 = 0 then some (-1) else (gd a1 6 ((mm_bitsOf (G 221 a1) G).bind fun v21 => if v21 = 1 then mm_sureOf_L32 a1 G FU 0 else some (-1)))) else some (-1)
def mm_fits (a1 : Int) (a2 : Int) (a3 : Int) (G : Hp) : Option (Int × Hp) :=
  (mm_isPaper a1 G).bind fun r2 => if r2.1 = true then ((mm_isLog a2 r2.2).bind fun r10 => if r10.1 = true then (if a3 < 0 then some ((-2), r10.2) else (if (mm_isIn a3 8 9) = true then some ((-2), r10.2) else ((mm_laysFits (w32 (a3 - 10)) r10.2).bind fun r39 => if a3 = 0 then some (r39.2 201 40, r39.2) else (if a3 = 1 then ((mm_askOf r39.2).bind fun v59 => some (v59, r39.2)) else (if a3 < 8 then ((mm_sureOf (w32 (a3 - 2)) r39.2).bind fun v73 => some (v73, r39.2)) else some (r39.1, r39.2)))))) else some ((-2), r10.2)) else some ((-2), r2.2)
def mm_ahead (a1 : Int) (a2 : Int) (a3 : Int) (a4 : Int) (a5 : Int) (G : Hp) : Option (Int × Hp) :=
  (mm_isPaper a1 G).bind fun r2 => if r2.1 = true then ((mm_isLog a2 r2.2).bind fun r10 => if r10.1 = true then ((mm_isReader a3 r10.2).bind fun v18 => if v18 = true then ((mm_isReader a4 r10.2).bind fun v27 => if v27 = true then (if a3 = a4 then some ((-1), r10.2) else ((mm_laysFits (-1) r10.2).bind fun r43 => if r43.2 201 40 = 0 then some ((-1), r43.2) else (gd (w32 ((w32 (6 * a3)) + a4)) 36 ((mm_parted (r43.2 223 (w32 ((w32 (6 * a3)) + a4))) (r43.2 201 40) a5 r43.2).bind fun v78 => some (w32 v78, r43.2))))) else some ((-1), r10.2)) else some ((-1), r10.2)) else some ((-1), r10.2)) else some ((-1), r2.2)
def mm_firsts (a1 : Int) (a2 : Int) (a3 : Int) (G : Hp) : Option (Int × Hp) :=
  (mm_isPaper a1 G).bind fun r2 => if r2.1 = true then ((mm_isLog a2 r2.2).bind fun r10 => if r10.1 = true then ((mm_laysFits (-1) r10.2).bind fun r21 => if a3 = 0 then some (r21.2 221 0, r21.2) else if a3 = 1 then (if r21.2 201 14 = 0 then some (0, r21.2) else (gd (w32 ((r21.2 201 14) - 1)) 6 (some (r21.2 221 (w32 ((r21.2 201 14) - 1)), r21.2)))) else if a3 = 2 then some (r21.2 201 41, r21.2) else if a3 = 3 then some (r21.2 201 42, r21.2) else some ((-2), r21.2)) else some ((-2), r10.2)) else some ((-2), r2.2)
def mm_below (a1 : Int) (G : Hp) : Option (Int × Hp) :=
  nz a1 (some (irem (iushr ((upd2 G 201 46 (w32 ((w32 ((G 201 46) * 1103515245)) + 12345))) 201 46) 16) a1, upd2 G 201 46 (w32 ((w32 ((G 201 46) * 1103515245)) + 12345))))
def mm_draws_j182 (x2_182 : Int) (x3_182 : Int) (x4_182 : Int) (G_182 : Hp) : Option (Hp) :=
  (mm_does x2_182 x3_182 x4_182 G_182).bind fun r187 => some r187.2
def mm_draws_j164 (k182 : Int → Int → Int → Hp → Option (Hp)) (x2_164 : Int) (x3_164 : Int) (G_164 : Hp) : Option (Hp) :=
  (mm_below 9 G_164).bind fun r170 => k182 x2_164 x3_164 (irem (w32 ((w32 (x3_164 + 1)) + r170.1)) 10) r170.2
def mm_draws_j103 (x2_103 : Int) (s0_103 : Int) (G_103 : Hp) : Option (Hp) :=
  if x2_103 = 1 then ((mm_below 10 G_103).bind fun r143 => mm_draws_j182 x2_103 s0_103 r143.1 r143.2) else if x2_103 = 2 then ((mm_below (G_103 201 13) G_103).bind fun r156 => mm_draws_j182 x2_103 s0_103 r156.1 r156.2) else if x2_103 = 3 then mm_draws_j164 mm_draws_j182 x2_103 s0_103 G_103 else if x2_103 = 4 then mm_draws_j164 mm_draws_j182 x2_103 s0_103 G_103 else mm_draws_j182 x2_103 s0_103 (-1) G_103
def mm_draws_j100 (k103 : Int → Int → Hp → Option (Hp)) (x2_100 : Int) (s0_100 : Int) (G_100 : Hp) : Option (Hp) :=
  (mm_below s0_100 G_100).bind fun r100 => k103 x2_100 r100.1 r100.2
def mm_draws_j64 (x2_64 : Int) (G_64 : Hp) : Option (Hp) :=
  if x2_64 = 5 then mm_draws_j103 x2_64 (-1) G_64 else (if x2_64 = 1 then mm_draws_j100 mm_draws_j103 x2_64 (G_64 201 13) G_64 else (if x2_64 < 3 then mm_draws_j100 mm_draws_j103 x2_64 (G_64 201 14) G_64 else mm_draws_j100 mm_draws_j103 x2_64 10 G_64))
def mm_draws_j56 (k64 : Int → Hp → Option (Hp)) (x2_56 : Int) (G_56 : Hp) : Option (Hp) :=
  if G_56 201 13 = 0 then some G_56 else k64 x2_56 G_56
def mm_draws_j46 (x2_46 : Int) (G_46 : Hp) : Option (Hp) :=
  if x2_46 = 1 then mm_draws_j56 mm_draws_j64 x2_46 G_46 else (if x2_46 = 2 then mm_draws_j56 mm_draws_j64 x2_46 G_46 else mm_draws_j64 x2_46 G_46)
def mm_draws_j39 (k46 : Int → Hp → Option (Hp)) (x2_39 : Int) (G_39 : Hp) : Option (Hp) :=
  if G_39 201 14 = 0 then some G_39 else k46 x2_39 G_39
def mm_draws_j29 (s0_29 : Int) (G_29 : Hp) : Option (Hp) :=
  if s0_29 = 0 then mm_draws_j39 mm_draws_j46 s0_29 G_29 else (if s0_29 = 2 then mm_draws_j39 mm_draws_j46 s0_29 G_29 else mm_draws_j46 s0_29 G_29)
def mm_draws (G : Hp) : Option (Hp) :=
  (mm_below 10 G).bind fun r3 => if r3.1 < 4 then mm_draws_j29 0 r3.2 else (if r3.1 < 6 then mm_draws_j29 1 r3.2 else mm_draws_j29 (w32 (r3.1 - 4)) r3.2)
def mm_drawn_L29 (a1 : Int) (a2 : Int) (a3 : Int) (a4 : Int) (k45 : Hp → Option (Int × Hp)) : Nat → Int → Hp → Option (Int × Hp)
  | 0, _, _ => none
  | n_29 + 1, x5_29, G_29 =>
  if x5_29 < a3 then ((mm_draws G_29).bind fun G36 => mm_drawn_L29 a1 a2 a3 a4 k45 n_29 (w32 (x5_29 + 1)) G36) else k45 G_29
def mm_drawn (a1 : Int) (a2 : Int) (a3 : Int) (a4 : Int) (G : Hp) : Option (Int × Hp) :=
  (mm_isPaper a1 G).bind fun r2 => if r2.1 = true then (if (mm_isIn a3 0 60) = true then (mm_drawn_L29 a1 a2 a3 a4 (fun G_45 => (mm_nowOf a4 G_45).bind fun v48 => some (v48, G_45)) FU 0 (upd2 r2.2 201 46 a2)) else some ((-2), r2.2)) else some ((-2), r2.2)
def mm_count (a1 : Int) (G : Hp) : Option (Int) :=
  if (mm_isIn a1 0 2) = true then (gd a1 4184 (some (G 202 a1))) else some (-2)
def mm_image_L20 (a1 : Int) : Nat → Int → Hp → Option (Bool × Hp)
  | 0, _, _ => none
  | n_20 + 1, x2_20, G_20 =>
  if x2_20 < 1046 then (gd x2_20 4184 (gd (w32 ((w32 (1046 * (w32 (a1 + 1)))) + x2_20)) 4184 (mm_image_L20 a1 n_20 (w32 (x2_20 + 1)) (upd2 G_20 202 (w32 ((w32 (1046 * (w32 (a1 + 1)))) + x2_20)) (G_20 202 x2_20))))) else some (true, G_20)
def mm_image (a1 : Int) (G : Hp) : Option (Bool × Hp) :=
  if (mm_isIn a1 0 2) = true then (gd a1 3 (mm_image_L20 a1 FU 0 (upd2 G 203 a1 1))) else some (false, G)
def mm_again_L22 (a1 : Int) : Nat → Int → Hp → Option (Bool × Hp)
  | 0, _, _ => none
  | n_22 + 1, x2_22, G_22 =>
  if x2_22 < 1046 then (gd (w32 ((w32 (1046 * (w32 (a1 + 1)))) + x2_22)) 4184 (gd x2_22 4184 (mm_again_L22 a1 n_22 (w32 (x2_22 + 1)) (upd2 G_22 202 x2_22 (G_22 202 (w32 ((w32 (1046 * (w32 (a1 + 1)))) + x2_22))))))) else some (true, G_22)
def mm_again (a1 : Int) (G : Hp) : Option (Bool × Hp) :=
  if (mm_isIn a1 0 2) = true then (gd a1 3 (if G 203 a1 = 0 then some (false, G) else mm_again_L22 a1 FU 0 G)) else some (false, G)
