def m_L_law_b1089 (L : Nat) (xs : Nat → Int32) (rec18 : TT → Int32 → Option Unit) (T : TT) (x3 : Int32) : Option Unit := bT (x3 + (7 : Int32)) (fun y126 => rec18 T y126)
def m_L_law_h18 (L : Nat) (xs : Nat → Int32) (rec18 : TT → Int32 → Option Unit) (T : TT) (x3 : Int32) : Option Unit := if ((Int32.ofNat L) - (7 : Int32)) < x3 then (some ()) else (if inb x3 L then (if ((xs (Int32.toNatClampNeg x3)) &&& (31 : Int32)) = (0 : Int32) then ((m_X10_rank T).bind (fun z2 => (m_X11_rank z2.2).bind (fun z3 => if z2.1 = z3.1 then (m_L_law_b1089 L xs rec18 z3.2 x3) else (none)))) else (if ((xs (Int32.toNatClampNeg x3)) &&& (31 : Int32)) = (1 : Int32) then (if inb (x3 + (1 : Int32)) L then (if inb (x3 + (2 : Int32)) L then ((m_X10_driver T (xs (Int32.toNatClampNeg (x3 + (1 : Int32)))) (xs (Int32.toNatClampNeg (x3 + (2 : Int32))))).bind (fun z6 => if inb (x3 + (1 : Int32)) L then (if inb (x3 + (2 : Int32)) L then ((m_X11_driver z6.2 (xs (Int32.toNatClampNeg (x3 + (1 : Int32)))) (xs (Int32.toNatClampNeg (x3 + (2 : Int32))))).bind (fun z7 => if z6.1 = z7.1 then (m_L_law_b1089 L xs rec18 z7.2 x3) else (none))) else none) else none)) else none) else none) else (if ((xs (Int32.toNatClampNeg x3)) &&& (31 : Int32)) = (2 : Int32) then (if inb (x3 + (1 : Int32)) L then ((m_X10_type T (xs (Int32.toNatClampNeg (x3 + (1 : Int32))))).bind (fun z10 => if inb (x3 + (1 : Int32)) L then ((m_X11_type z10.2 (xs (Int32.toNatClampNeg (x3 + (1 : Int32))))).bind (fun z11 => if z10.1 = z11.1 then (m_L_law_b1089 L xs rec18 z11.2 x3) else (none))) else none)) else none) else (if ((xs (Int32.toNatClampNeg x3)) &&& (31 : Int32)) = (3 : Int32) then ((m_X10_clear T).bind (fun z14 => (m_X11_clear z14.2).bind (fun z15 => if z14.1 = z15.1 then (m_L_law_b1089 L xs rec18 z15.2 x3) else (none)))) else (if ((xs (Int32.toNatClampNeg x3)) &&& (31 : Int32)) = (4 : Int32) then ((m_X10_read T).bind (fun z18 => (m_X11_read z18.2).bind (fun z19 => if z18.1 = z19.1 then (m_L_law_b1089 L xs rec18 z19.2 x3) else (none)))) else (if ((xs (Int32.toNatClampNeg x3)) &&& (31 : Int32)) = (5 : Int32) then (if inb (x3 + (1 : Int32)) L then (if inb (x3 + (2 : Int32)) L then ((m_X10_days T (xs (Int32.toNatClampNeg (x3 + (1 : Int32)))) (xs (Int32.toNatClampNeg (x3 + (2 : Int32))))).bind (fun z22 => if inb (x3 + (1 : Int32)) L then (if inb (x3 + (2 : Int32)) L then ((m_X11_days z22.2 (xs (Int32.toNatClampNeg (x3 + (1 : Int32)))) (xs (Int32.toNatClampNeg (x3 + (2 : Int32))))).bind (fun z23 => if z22.1 = z23.1 then (m_L_law_b1089 L xs rec18 z23.2 x3) else (none))) else none) else none)) else none) else none) else (if ((xs (Int32.toNatClampNeg x3)) &&& (31 : Int32)) = (6 : Int32) then (if inb (x3 + (1 : Int32)) L then (if inb (x3 + (2 : Int32)) L then ((m_X10_day T (xs (Int32.toNatClampNeg (x3 + (1 : Int32)))) (xs (Int32.toNatClampNeg (x3 + (2 : Int32))))).bind (fun z26 => if inb (x3 + (1 : Int32)) L then (if inb (x3 + (2 : Int32)) L then ((m_X11_day z26.2 (xs (Int32.toNatClampNeg (x3 + (1 : Int32)))) (xs (Int32.toNatClampNeg (x3 + (2 : Int32))))).bind (fun z27 => if z26.1 = z27.1 then (m_L_law_b1089 L xs rec18 z27.2 x3) else (none))) else none) else none)) else none) else none) else (if ((xs (Int32.toNatClampNeg x3)) &&& (31 : Int32)) = (7 : Int32) then ((m_X10_undo T).bind (fun z30 => (m_X11_undo z30.2).bind (fun z31 => if z30.1 = z31.1 then (m_L_law_b1089 L xs rec18 z31.2 x3) else (none)))) else (if ((xs (Int32.toNatClampNeg x3)) &&& (31 : Int32)) = (8 : Int32) then (if inb (x3 + (1 : Int32)) L then (if inb (x3 + (2 : Int32)) L then ((m_X10_of T (xs (Int32.toNatClampNeg (x3 + (1 : Int32)))) (xs (Int32.toNatClampNeg (x3 + (2 : Int32))))).bind (fun z34 => if inb (x3 + (1 : Int32)) L then (if inb (x3 + (2 : Int32)) L then ((m_X11_of z34.2 (xs (Int32.toNatClampNeg (x3 + (1 : Int32)))) (xs (Int32.toNatClampNeg (x3 + (2 : Int32))))).bind (fun z35 => if z34.1 = z35.1 then (m_L_law_b1089 L xs rec18 z35.2 x3) else (none))) else none) else none)) else none) else none) else (if ((xs (Int32.toNatClampNeg x3)) &&& (31 : Int32)) = (9 : Int32) then (if inb (x3 + (1 : Int32)) L then (if inb (x3 + (2 : Int32)) L then ((m_X10_today T (xs (Int32.toNatClampNeg (x3 + (1 : Int32)))) (xs (Int32.toNatClampNeg (x3 + (2 : Int32))))).bind (fun z38 => if inb (x3 + (1 : Int32)) L then (if inb (x3 + (2 : Int32)) L then ((m_X11_today z38.2 (xs (Int32.toNatClampNeg (x3 + (1 : Int32)))) (xs (Int32.toNatClampNeg (x3 + (2 : Int32))))).bind (fun z39 => if z38.1 = z39.1 then (m_L_law_b1089 L xs rec18 z39.2 x3) else (none))) else none) else none)) else none) else none) else (if ((xs (Int32.toNatClampNeg x3)) &&& (31 : Int32)) = (10 : Int32) then (if inb (x3 + (1 : Int32)) L then (if inb (x3 + (2 : Int32)) L then (if inb (x3 + (3 : Int32)) L then (if inb (x3 + (4 : Int32)) L then ((m_X10_then T (xs (Int32.toNatClampNeg (x3 + (1 : Int32)))) (xs (Int32.toNatClampNeg (x3 + (2 : Int32)))) (xs (Int32.toNatClampNeg (x3 + (3 : Int32)))) (xs (Int32.toNatClampNeg (x3 + (4 : Int32))))).bind (fun z42 => if inb (x3 + (1 : Int32)) L then (if inb (x3 + (2 : Int32)) L then (if inb (x3 + (3 : Int32)) L then (if inb (x3 + (4 : Int32)) L then ((m_X11_then z42.2 (xs (Int32.toNatClampNeg (x3 + (1 : Int32)))) (xs (Int32.toNatClampNeg (x3 + (2 : Int32)))) (xs (Int32.toNatClampNeg (x3 + (3 : Int32)))) (xs (Int32.toNatClampNeg (x3 + (4 : Int32))))).bind (fun z43 => if z42.1 = z43.1 then (m_L_law_b1089 L xs rec18 z43.2 x3) else (none))) else none) else none) else none) else none)) else none) else none) else none) else none) else (if ((xs (Int32.toNatClampNeg x3)) &&& (31 : Int32)) = (11 : Int32) then (if inb (x3 + (1 : Int32)) L then ((m_X10_over T (xs (Int32.toNatClampNeg (x3 + (1 : Int32))))).bind (fun z46 => if inb (x3 + (1 : Int32)) L then ((m_X11_over z46.2 (xs (Int32.toNatClampNeg (x3 + (1 : Int32))))).bind (fun z47 => if z46.1 = z47.1 then (m_L_law_b1089 L xs rec18 z47.2 x3) else (none))) else none)) else none) else (if ((xs (Int32.toNatClampNeg x3)) &&& (31 : Int32)) = (12 : Int32) then (if inb (x3 + (1 : Int32)) L then (if inb (x3 + (2 : Int32)) L then (if inb (x3 + (3 : Int32)) L then ((m_X10_most T (xs (Int32.toNatClampNeg (x3 + (1 : Int32)))) (xs (Int32.toNatClampNeg (x3 + (2 : Int32)))) (xs (Int32.toNatClampNeg (x3 + (3 : Int32))))).bind (fun z50 => if inb (x3 + (1 : Int32)) L then (if inb (x3 + (2 : Int32)) L then (if inb (x3 + (3 : Int32)) L then ((m_X11_most z50.2 (xs (Int32.toNatClampNeg (x3 + (1 : Int32)))) (xs (Int32.toNatClampNeg (x3 + (2 : Int32)))) (xs (Int32.toNatClampNeg (x3 + (3 : Int32))))).bind (fun z51 => if z50.1 = z51.1 then (m_L_law_b1089 L xs rec18 z51.2 x3) else (none))) else none) else none) else none)) else none) else none) else none) else (if ((xs (Int32.toNatClampNeg x3)) &&& (31 : Int32)) = (13 : Int32) then (if inb (x3 + (1 : Int32)) L then (if inb (x3 + (2 : Int32)) L then ((m_X10_soonest T (xs (Int32.toNatClampNeg (x3 + (1 : Int32)))) (xs (Int32.toNatClampNeg (x3 + (2 : Int32))))).bind (fun z54 => if inb (x3 + (1 : Int32)) L then (if inb (x3 + (2 : Int32)) L then ((m_X11_soonest z54.2 (xs (Int32.toNatClampNeg (x3 + (1 : Int32)))) (xs (Int32.toNatClampNeg (x3 + (2 : Int32))))).bind (fun z55 => if z54.1 = z55.1 then (m_L_law_b1089 L xs rec18 z55.2 x3) else (none))) else none) else none)) else none) else none) else (if ((xs (Int32.toNatClampNeg x3)) &&& (31 : Int32)) = (14 : Int32) then (if inb (x3 + (1 : Int32)) L then (if inb (x3 + (2 : Int32)) L then (if inb (x3 + (3 : Int32)) L then ((m_X10_home T (xs (Int32.toNatClampNeg (x3 + (1 : Int32)))) (xs (Int32.toNatClampNeg (x3 + (2 : Int32)))) (xs (Int32.toNatClampNeg (x3 + (3 : Int32))))).bind (fun z58 => if inb (x3 + (1 : Int32)) L then (if inb (x3 + (2 : Int32)) L then (if inb (x3 + (3 : Int32)) L then ((m_X11_home z58.2 (xs (Int32.toNatClampNeg (x3 + (1 : Int32)))) (xs (Int32.toNatClampNeg (x3 + (2 : Int32)))) (xs (Int32.toNatClampNeg (x3 + (3 : Int32))))).bind (fun z59 => if z58.1 = z59.1 then (m_L_law_b1089 L xs rec18 z59.2 x3) else (none))) else none) else none) else none)) else none) else none) else none) else (if ((xs (Int32.toNatClampNeg x3)) &&& (31 : Int32)) = (15 : Int32) then (if inb (x3 + (1 : Int32)) L then ((m_X10_tell T (xs (Int32.toNatClampNeg (x3 + (1 : Int32))))).bind (fun z62 => if inb (x3 + (1 : Int32)) L then ((m_X11_tell z62.2 (xs (Int32.toNatClampNeg (x3 + (1 : Int32))))).bind (fun z63 => if z62.1 = z63.1 then (m_L_law_b1089 L xs rec18 z63.2 x3) else (none))) else none)) else none) else (if ((xs (Int32.toNatClampNeg x3)) &&& (31 : Int32)) = (16 : Int32) then (if inb (x3 + (1 : Int32)) L then (if inb (x3 + (2 : Int32)) L then (if inb (x3 + (3 : Int32)) L then (if inb (x3 + (4 : Int32)) L then (if inb (x3 + (5 : Int32)) L then (if inb (x3 + (6 : Int32)) L then ((m_X10_note T (xs (Int32.toNatClampNeg (x3 + (1 : Int32)))) (xs (Int32.toNatClampNeg (x3 + (2 : Int32)))) (xs (Int32.toNatClampNeg (x3 + (3 : Int32)))) (xs (Int32.toNatClampNeg (x3 + (4 : Int32)))) (xs (Int32.toNatClampNeg (x3 + (5 : Int32)))) (xs (Int32.toNatClampNeg (x3 + (6 : Int32))))).bind (fun z66 => if inb (x3 + (1 : Int32)) L then (if inb (x3 + (2 : Int32)) L then (if inb (x3 + (3 : Int32)) L then (if inb (x3 + (4 : Int32)) L then (if inb (x3 + (5 : Int32)) L then (if inb (x3 + (6 : Int32)) L then ((m_X11_note z66.2 (xs (Int32.toNatClampNeg (x3 + (1 : Int32)))) (xs (Int32.toNatClampNeg (x3 + (2 : Int32)))) (xs (Int32.toNatClampNeg (x3 + (3 : Int32)))) (xs (Int32.toNatClampNeg (x3 + (4 : Int32)))) (xs (Int32.toNatClampNeg (x3 + (5 : Int32)))) (xs (Int32.toNatClampNeg (x3 + (6 : Int32))))).bind (fun z67 => if z66.1 = z67.1 then (m_L_law_b1089 L xs rec18 z67.2 x3) else (none))) else none) else none) else none) else none) else none) else none)) else none) else none) else none) else none) else none) else none) else (if ((xs (Int32.toNatClampNeg x3)) &&& (31 : Int32)) = (17 : Int32) then (if inb (x3 + (1 : Int32)) L then (if inb (x3 + (2 : Int32)) L then (if inb (x3 + (3 : Int32)) L then ((m_X10_gone T (xs (Int32.toNatClampNeg (x3 + (1 : Int32)))) (xs (Int32.toNatClampNeg (x3 + (2 : Int32)))) (xs (Int32.toNatClampNeg (x3 + (3 : Int32))))).bind (fun z70 => if inb (x3 + (1 : Int32)) L then (if inb (x3 + (2 : Int32)) L then (if inb (x3 + (3 : Int32)) L then ((m_X11_gone z70.2 (xs (Int32.toNatClampNeg (x3 + (1 : Int32)))) (xs (Int32.toNatClampNeg (x3 + (2 : Int32)))) (xs (Int32.toNatClampNeg (x3 + (3 : Int32))))).bind (fun z71 => if z70.1 = z71.1 then (m_L_law_b1089 L xs rec18 z71.2 x3) else (none))) else none) else none) else none)) else none) else none) else none) else (if ((xs (Int32.toNatClampNeg x3)) &&& (31 : Int32)) = (18 : Int32) then (if inb (x3 + (1 : Int32)) L then ((m_X10_forget T (xs (Int32.toNatClampNeg (x3 + (1 : Int32))))).bind (fun z74 => if inb (x3 + (1 : Int32)) L then ((m_X11_forget z74.2 (xs (Int32.toNatClampNeg (x3 + (1 : Int32))))).bind (fun z75 => if z74.1 = z75.1 then (m_L_law_b1089 L xs rec18 z75.2 x3) else (none))) else none)) else none) else (if ((xs (Int32.toNatClampNeg x3)) &&& (31 : Int32)) = (19 : Int32) then (if inb (x3 + (1 : Int32)) L then ((m_X10_is T (xs (Int32.toNatClampNeg (x3 + (1 : Int32))))).bind (fun z78 => if inb (x3 + (1 : Int32)) L then ((m_X11_is z78.2 (xs (Int32.toNatClampNeg (x3 + (1 : Int32))))).bind (fun z79 => if z78.1 = z79.1 then (m_L_law_b1089 L xs rec18 z79.2 x3) else (none))) else none)) else none) else (if ((xs (Int32.toNatClampNeg x3)) &&& (31 : Int32)) = (20 : Int32) then (if inb (x3 + (1 : Int32)) L then ((m_X10_look T (xs (Int32.toNatClampNeg (x3 + (1 : Int32))))).bind (fun z82 => if inb (x3 + (1 : Int32)) L then ((m_X11_look z82.2 (xs (Int32.toNatClampNeg (x3 + (1 : Int32))))).bind (fun z83 => if z82.1 = z83.1 then (m_L_law_b1089 L xs rec18 z83.2 x3) else (none))) else none)) else none) else (if ((xs (Int32.toNatClampNeg x3)) &&& (31 : Int32)) = (21 : Int32) then (if inb (x3 + (1 : Int32)) L then (if inb (x3 + (2 : Int32)) L then ((m_X10_had T (xs (Int32.toNatClampNeg (x3 + (1 : Int32)))) (xs (Int32.toNatClampNeg (x3 + (2 : Int32))))).bind (fun z86 => if inb (x3 + (1 : Int32)) L then (if inb (x3 + (2 : Int32)) L then ((m_X11_had z86.2 (xs (Int32.toNatClampNeg (x3 + (1 : Int32)))) (xs (Int32.toNatClampNeg (x3 + (2 : Int32))))).bind (fun z87 => if z86.1 = z87.1 then (m_L_law_b1089 L xs rec18 z87.2 x3) else (none))) else none) else none)) else none) else none) else (if ((xs (Int32.toNatClampNeg x3)) &&& (31 : Int32)) = (22 : Int32) then (if inb (x3 + (1 : Int32)) L then (if inb (x3 + (2 : Int32)) L then ((m_X10_fares T (xs (Int32.toNatClampNeg (x3 + (1 : Int32)))) (xs (Int32.toNatClampNeg (x3 + (2 : Int32))))).bind (fun z90 => if inb (x3 + (1 : Int32)) L then (if inb (x3 + (2 : Int32)) L then ((m_X11_fares z90.2 (xs (Int32.toNatClampNeg (x3 + (1 : Int32)))) (xs (Int32.toNatClampNeg (x3 + (2 : Int32))))).bind (fun z91 => if z90.1 = z91.1 then (m_L_law_b1089 L xs rec18 z91.2 x3) else (none))) else none) else none)) else none) else none) else (if ((xs (Int32.toNatClampNeg x3)) &&& (31 : Int32)) = (23 : Int32) then (if inb (x3 + (1 : Int32)) L then (if inb (x3 + (2 : Int32)) L then (if inb (x3 + (3 : Int32)) L then ((m_X10_starts T (xs (Int32.toNatClampNeg (x3 + (1 : Int32)))) (xs (Int32.toNatClampNeg (x3 + (2 : Int32)))) (xs (Int32.toNatClampNeg (x3 + (3 : Int32))))).bind (fun z94 => if inb (x3 + (1 : Int32)) L then (if inb (x3 + (2 : Int32)) L then (if inb (x3 + (3 : Int32)) L then ((m_X11_starts z94.2 (xs (Int32.toNatClampNeg (x3 + (1 : Int32)))) (xs (Int32.toNatClampNeg (x3 + (2 : Int32)))) (xs (Int32.toNatClampNeg (x3 + (3 : Int32))))).bind (fun z95 => if z94.1 = z95.1 then (m_L_law_b1089 L xs rec18 z95.2 x3) else (none))) else none) else none) else none)) else none) else none) else none) else (if ((xs (Int32.toNatClampNeg x3)) &&& (31 : Int32)) = (24 : Int32) then (if inb (x3 + (1 : Int32)) L then (if inb (x3 + (2 : Int32)) L then ((m_X10_years T (xs (Int32.toNatClampNeg (x3 + (1 : Int32)))) (xs (Int32.toNatClampNeg (x3 + (2 : Int32))))).bind (fun z98 => if inb (x3 + (1 : Int32)) L then (if inb (x3 + (2 : Int32)) L then ((m_X11_years z98.2 (xs (Int32.toNatClampNeg (x3 + (1 : Int32)))) (xs (Int32.toNatClampNeg (x3 + (2 : Int32))))).bind (fun z99 => if z98.1 = z99.1 then (m_L_law_b1089 L xs rec18 z99.2 x3) else (none))) else none) else none)) else none) else none) else (if ((xs (Int32.toNatClampNeg x3)) &&& (31 : Int32)) = (25 : Int32) then (if inb (x3 + (1 : Int32)) L then ((m_X10_part T (xs (Int32.toNatClampNeg (x3 + (1 : Int32))))).bind (fun z102 => if inb (x3 + (1 : Int32)) L then ((m_X11_part z102.2 (xs (Int32.toNatClampNeg (x3 + (1 : Int32))))).bind (fun z103 => if (lg_cmp z102.1 z103.1) = 0 then (m_L_law_b1089 L xs rec18 z103.2 x3) else (none))) else none)) else none) else (if ((xs (Int32.toNatClampNeg x3)) &&& (31 : Int32)) = (26 : Int32) then (if inb (x3 + (1 : Int32)) L then ((m_X10_image T (xs (Int32.toNatClampNeg (x3 + (1 : Int32))))).bind (fun z106 => if inb (x3 + (1 : Int32)) L then ((m_X11_image z106.2 (xs (Int32.toNatClampNeg (x3 + (1 : Int32))))).bind (fun z107 => if z106.1 = z107.1 then (m_L_law_b1089 L xs rec18 z107.2 x3) else (none))) else none)) else none) else (if ((xs (Int32.toNatClampNeg x3)) &&& (31 : Int32)) = (27 : Int32) then (if inb (x3 + (1 : Int32)) L then ((m_X10_from T (xs (Int32.toNatClampNeg (x3 + (1 : Int32))))).bind (fun z110 => if inb (x3 + (1 : Int32)) L then ((m_X11_from z110.2 (xs (Int32.toNatClampNeg (x3 + (1 : Int32))))).bind (fun z111 => if z110.1 = z111.1 then (m_L_law_b1089 L xs rec18 z111.2 x3) else (none))) else none)) else none) else (if ((xs (Int32.toNatClampNeg x3)) &&& (31 : Int32)) = (28 : Int32) then (if inb (x3 + (1 : Int32)) L then ((m_X10_status T (xs (Int32.toNatClampNeg (x3 + (1 : Int32))))).bind (fun z114 => if inb (x3 + (1 : Int32)) L then ((m_X11_status z114.2 (xs (Int32.toNatClampNeg (x3 + (1 : Int32))))).bind (fun z115 => if z114.1 = z115.1 then (m_L_law_b1089 L xs rec18 z115.2 x3) else (none))) else none)) else none) else (if ((xs (Int32.toNatClampNeg x3)) &&& (31 : Int32)) = (29 : Int32) then (if inb (x3 + (1 : Int32)) L then ((m_X10_count T (xs (Int32.toNatClampNeg (x3 + (1 : Int32))))).bind (fun z118 => if inb (x3 + (1 : Int32)) L then ((m_X11_count z118.2 (xs (Int32.toNatClampNeg (x3 + (1 : Int32))))).bind (fun z119 => if z118.1 = z119.1 then (m_L_law_b1089 L xs rec18 z119.2 x3) else (none))) else none)) else none) else (if ((xs (Int32.toNatClampNeg x3)) &&& (31 : Int32)) = (30 : Int32) then ((m_X10_digest T).bind (fun z122 => (m_X11_digest z122.2).bind (fun z123 => if (lg_cmp z122.1 z123) = 0 then (m_L_law_b1089 L xs rec18 z122.2 x3) else (none)))) else (m_L_law_b1089 L xs rec18 T x3)))))))))))))))))))))))))))))))) else none)
def m_L_law_l18 (L : Nat) (xs : Nat → Int32) : Nat → TT → Int32 → Option Unit
  | 0 => fun _ _ => none
  | n + 1 => fun T x3 => m_L_law_h18 L xs (m_L_law_l18 L xs n) T x3
set_option maxHeartbeats 16000000 in
set_option maxRecDepth 100000 in
theorem k_L_law_b1089 {B : KB} {X : KE} {b L : Nat} {xs : Nat → Int32} {rec18 : TT → Int32 → Option Unit} (C : Cx B X "GriefEngineLaw" cL_law 4 20) (E : Lw B X b) (S : Sx B X b L xs) (hrec18 : ∀ (T : TT) (x3 : Int32), rec18 T x3 = some () → Wk B X 4 T 18 [(0, .ref b), (1, .ref (B.1 4 0)), (2, .ref (B.1 10 0)), (3, .int x3)] []) (T : TT) (x3 : Int32) (h : m_L_law_b1089 L xs rec18 T x3 = some ()) : Wk B X 4 T 1089 [(0, .ref b), (1, .ref (B.1 4 0)), (2, .ref (B.1 10 0)), (3, .int x3)] [] := by
  unfold m_L_law_b1089 at h
  refine k_iincN (pc := 1089) (x := x3) (c := (7 : Int32)) C (fun y126 => [(3, .int y126), (0, .ref b), (1, .ref (B.1 4 0)), (2, .ref (B.1 10 0))]) dL_law_1089 3 rfl ciconst_7 (by decide) (fun _ => rfl) h (fun y126 h => ?_)
  refine k_goto (pc := 1092) C 18 dL_law_1092 (by decide) ?_
  refine k_sub [1, 2, 3, 0] rfl ?_
  exact hrec18 T y126 h
set_option maxHeartbeats 16000000 in
set_option maxRecDepth 100000 in
theorem k_L_law_h18 {B : KB} {X : KE} {b L : Nat} {xs : Nat → Int32} {rec18 : TT → Int32 → Option Unit} (C : Cx B X "GriefEngineLaw" cL_law 4 20) (E : Lw B X b) (S : Sx B X b L xs) (hrec18 : ∀ (T : TT) (x3 : Int32), rec18 T x3 = some () → Wk B X 4 T 18 [(0, .ref b), (1, .ref (B.1 4 0)), (2, .ref (B.1 10 0)), (3, .int x3)] []) (T : TT) (x3 : Int32) (h : m_L_law_h18 L xs rec18 T x3 = some ()) : Wk B X 4 T 18 [(0, .ref b), (1, .ref (B.1 4 0)), (2, .ref (B.1 10 0)), (3, .int x3)] [] := by
  unfold m_L_law_h18 at h
  refine k_iload_n (pc := 18) C dL_law_18 3 rfl ?_
  refine k_aload_n (pc := 19) C dL_law_19 0 rfl ?_
  refine k_scrlen (pc := 20) C S dL_law_20 ?_
  refine k_bipush (pc := 21) (v := (7 : Int32)) C dL_law_21 cbipush_7 ?_
  refine k_isub (pc := 23) C dL_law_23 ?_
  refine k_icmp_gt (pc := 24) C 1095 dL_law_24 (by decide) h (fun c125 h => ?_) (fun c125 h => ?_)
  · refine k_iconst (pc := 1095) (v := (1 : Int32)) C dL_law_1095 ciconst_1 ?_
    exact k_lawret (pc := 1096) C E dL_law_1096
  · refine k_aload_n (pc := 27) C dL_law_27 0 rfl ?_
    refine k_iload_n (pc := 28) C dL_law_28 3 rfl ?_
    refine k_scrld (pc := 29) C S dL_law_29 h (fun h => ?_)
    refine k_bipush (pc := 30) (v := (31 : Int32)) C dL_law_30 cbipush_31 ?_
    refine k_iand (pc := 32) C dL_law_32 ?_
    by_cases c1 : ((xs (Int32.toNatClampNeg x3)) &&& (31 : Int32)) = (0 : Int32)
    · rw [if_pos c1] at h
      refine k_tabIn (pc := 33) C 172 (0 : Int32) dL_law_33 c1 (by decide) (by decide) rfl (by decide) ?_
      refine k_aload_n (pc := 172) C dL_law_172 1 rfl ?_
      obtain ⟨z2, e2, h⟩ := bnd h
      refine k_callvI (pc := 173) C lk_L_13 (by decide) ix_X10 wo_X10 rfl rfl (kc_X10_rank e2) dL_law_173 rfl rfl (Nat.le_of_ble_eq_true rfl) ?_
      refine k_aload_n (pc := 176) C dL_law_176 2 rfl ?_
      obtain ⟨z3, e3, h⟩ := bnd h
      refine k_callvI (pc := 177) C lk_L_17 (by decide) ix_X11 wo_X11 rfl rfl (kc_X11_rank e3) dL_law_177 rfl rfl (Nat.le_of_ble_eq_true rfl) ?_
      refine k_icmp_eq (pc := 180) C 1089 dL_law_180 (by decide) h (fun c4 h => ?_) (fun c4 h => ?_)
      · refine k_sub [0, 1, 2, 3] rfl ?_
        exact k_L_law_b1089 C E S hrec18 z3.2 x3 h
      · refine k_iconst (pc := 183) (v := (0 : Int32)) C dL_law_183 ciconst_0 ?_
        exact no_some h
    · rw [if_neg c1] at h
      by_cases c5 : ((xs (Int32.toNatClampNeg x3)) &&& (31 : Int32)) = (1 : Int32)
      · rw [if_pos c5] at h
        refine k_tabIn (pc := 33) C 185 (1 : Int32) dL_law_33 c5 (by decide) (by decide) rfl (by decide) ?_
        refine k_aload_n (pc := 185) C dL_law_185 1 rfl ?_
        refine k_aload_n (pc := 186) C dL_law_186 0 rfl ?_
        refine k_iload_n (pc := 187) C dL_law_187 3 rfl ?_
        refine k_iconst (pc := 188) (v := (1 : Int32)) C dL_law_188 ciconst_1 ?_
        refine k_iadd (pc := 189) C dL_law_189 ?_
        refine k_scrld (pc := 190) C S dL_law_190 h (fun h => ?_)
        refine k_aload_n (pc := 191) C dL_law_191 0 rfl ?_
        refine k_iload_n (pc := 192) C dL_law_192 3 rfl ?_
        refine k_iconst (pc := 193) (v := (2 : Int32)) C dL_law_193 ciconst_2 ?_
        refine k_iadd (pc := 194) C dL_law_194 ?_
        refine k_scrld (pc := 195) C S dL_law_195 h (fun h => ?_)
        obtain ⟨z6, e6, h⟩ := bnd h
        refine k_callvI (pc := 196) C lk_L_18 (by decide) ix_X10 wo_X10 rfl rfl (kc_X10_driver e6) dL_law_196 rfl rfl (Nat.le_of_ble_eq_true rfl) ?_
        refine k_aload_n (pc := 199) C dL_law_199 2 rfl ?_
        refine k_aload_n (pc := 200) C dL_law_200 0 rfl ?_
        refine k_iload_n (pc := 201) C dL_law_201 3 rfl ?_
        refine k_iconst (pc := 202) (v := (1 : Int32)) C dL_law_202 ciconst_1 ?_
        refine k_iadd (pc := 203) C dL_law_203 ?_
        refine k_scrld (pc := 204) C S dL_law_204 h (fun h => ?_)
        refine k_aload_n (pc := 205) C dL_law_205 0 rfl ?_
        refine k_iload_n (pc := 206) C dL_law_206 3 rfl ?_
        refine k_iconst (pc := 207) (v := (2 : Int32)) C dL_law_207 ciconst_2 ?_
        refine k_iadd (pc := 208) C dL_law_208 ?_
        refine k_scrld (pc := 209) C S dL_law_209 h (fun h => ?_)
        obtain ⟨z7, e7, h⟩ := bnd h
        refine k_callvI (pc := 210) C lk_L_22 (by decide) ix_X11 wo_X11 rfl rfl (kc_X11_driver e7) dL_law_210 rfl rfl (Nat.le_of_ble_eq_true rfl) ?_
        refine k_icmp_eq (pc := 213) C 1089 dL_law_213 (by decide) h (fun c8 h => ?_) (fun c8 h => ?_)
        · refine k_sub [0, 1, 2, 3] rfl ?_
          exact k_L_law_b1089 C E S hrec18 z7.2 x3 h
        · refine k_iconst (pc := 216) (v := (0 : Int32)) C dL_law_216 ciconst_0 ?_
          exact no_some h
      · rw [if_neg c5] at h
        by_cases c9 : ((xs (Int32.toNatClampNeg x3)) &&& (31 : Int32)) = (2 : Int32)
        · rw [if_pos c9] at h
          refine k_tabIn (pc := 33) C 218 (2 : Int32) dL_law_33 c9 (by decide) (by decide) rfl (by decide) ?_
          refine k_aload_n (pc := 218) C dL_law_218 1 rfl ?_
          refine k_aload_n (pc := 219) C dL_law_219 0 rfl ?_
          refine k_iload_n (pc := 220) C dL_law_220 3 rfl ?_
          refine k_iconst (pc := 221) (v := (1 : Int32)) C dL_law_221 ciconst_1 ?_
          refine k_iadd (pc := 222) C dL_law_222 ?_
          refine k_scrld (pc := 223) C S dL_law_223 h (fun h => ?_)
          obtain ⟨z10, e10, h⟩ := bnd h
          refine k_callvI (pc := 224) C lk_L_23 (by decide) ix_X10 wo_X10 rfl rfl (kc_X10_type e10) dL_law_224 rfl rfl (Nat.le_of_ble_eq_true rfl) ?_
          refine k_aload_n (pc := 227) C dL_law_227 2 rfl ?_
          refine k_aload_n (pc := 228) C dL_law_228 0 rfl ?_
          refine k_iload_n (pc := 229) C dL_law_229 3 rfl ?_
          refine k_iconst (pc := 230) (v := (1 : Int32)) C dL_law_230 ciconst_1 ?_
          refine k_iadd (pc := 231) C dL_law_231 ?_
          refine k_scrld (pc := 232) C S dL_law_232 h (fun h => ?_)
          obtain ⟨z11, e11, h⟩ := bnd h
          refine k_callvI (pc := 233) C lk_L_27 (by decide) ix_X11 wo_X11 rfl rfl (kc_X11_type e11) dL_law_233 rfl rfl (Nat.le_of_ble_eq_true rfl) ?_
          refine k_icmp_eq (pc := 236) C 1089 dL_law_236 (by decide) h (fun c12 h => ?_) (fun c12 h => ?_)
          · refine k_sub [0, 1, 2, 3] rfl ?_
            exact k_L_law_b1089 C E S hrec18 z11.2 x3 h
          · refine k_iconst (pc := 239) (v := (0 : Int32)) C dL_law_239 ciconst_0 ?_
            exact no_some h
        · rw [if_neg c9] at h
          by_cases c13 : ((xs (Int32.toNatClampNeg x3)) &&& (31 : Int32)) = (3 : Int32)
          · rw [if_pos c13] at h
            refine k_tabIn (pc := 33) C 241 (3 : Int32) dL_law_33 c13 (by decide) (by decide) rfl (by decide) ?_
            refine k_aload_n (pc := 241) C dL_law_241 1 rfl ?_
            obtain ⟨z14, e14, h⟩ := bnd h
            refine k_callvI (pc := 242) C lk_L_28 (by decide) ix_X10 wo_X10 rfl rfl (kc_X10_clear e14) dL_law_242 rfl rfl (Nat.le_of_ble_eq_true rfl) ?_
            refine k_aload_n (pc := 245) C dL_law_245 2 rfl ?_
            obtain ⟨z15, e15, h⟩ := bnd h
            refine k_callvI (pc := 246) C lk_L_31 (by decide) ix_X11 wo_X11 rfl rfl (kc_X11_clear e15) dL_law_246 rfl rfl (Nat.le_of_ble_eq_true rfl) ?_
            refine k_icmp_eq (pc := 249) C 1089 dL_law_249 (by decide) h (fun c16 h => ?_) (fun c16 h => ?_)
            · refine k_sub [0, 1, 2, 3] rfl ?_
              exact k_L_law_b1089 C E S hrec18 z15.2 x3 h
            · refine k_iconst (pc := 252) (v := (0 : Int32)) C dL_law_252 ciconst_0 ?_
              exact no_some h
          · rw [if_neg c13] at h
            by_cases c17 : ((xs (Int32.toNatClampNeg x3)) &&& (31 : Int32)) = (4 : Int32)
            · rw [if_pos c17] at h
              refine k_tabIn (pc := 33) C 254 (4 : Int32) dL_law_33 c17 (by decide) (by decide) rfl (by decide) ?_
              refine k_aload_n (pc := 254) C dL_law_254 1 rfl ?_
              obtain ⟨z18, e18, h⟩ := bnd h
              refine k_callvI (pc := 255) C lk_L_32 (by decide) ix_X10 wo_X10 rfl rfl (kc_X10_read e18) dL_law_255 rfl rfl (Nat.le_of_ble_eq_true rfl) ?_
              refine k_aload_n (pc := 258) C dL_law_258 2 rfl ?_
              obtain ⟨z19, e19, h⟩ := bnd h
              refine k_callvI (pc := 259) C lk_L_35 (by decide) ix_X11 wo_X11 rfl rfl (kc_X11_read e19) dL_law_259 rfl rfl (Nat.le_of_ble_eq_true rfl) ?_
              refine k_icmp_eq (pc := 262) C 1089 dL_law_262 (by decide) h (fun c20 h => ?_) (fun c20 h => ?_)
              · refine k_sub [0, 1, 2, 3] rfl ?_
                exact k_L_law_b1089 C E S hrec18 z19.2 x3 h
              · refine k_iconst (pc := 265) (v := (0 : Int32)) C dL_law_265 ciconst_0 ?_
                exact no_some h
            · rw [if_neg c17] at h
              by_cases c21 : ((xs (Int32.toNatClampNeg x3)) &&& (31 : Int32)) = (5 : Int32)
              · rw [if_pos c21] at h
                refine k_tabIn (pc := 33) C 267 (5 : Int32) dL_law_33 c21 (by decide) (by decide) rfl (by decide) ?_
                refine k_aload_n (pc := 267) C dL_law_267 1 rfl ?_
                refine k_aload_n (pc := 268) C dL_law_268 0 rfl ?_
                refine k_iload_n (pc := 269) C dL_law_269 3 rfl ?_
                refine k_iconst (pc := 270) (v := (1 : Int32)) C dL_law_270 ciconst_1 ?_
                refine k_iadd (pc := 271) C dL_law_271 ?_
                refine k_scrld (pc := 272) C S dL_law_272 h (fun h => ?_)
                refine k_aload_n (pc := 273) C dL_law_273 0 rfl ?_
                refine k_iload_n (pc := 274) C dL_law_274 3 rfl ?_
                refine k_iconst (pc := 275) (v := (2 : Int32)) C dL_law_275 ciconst_2 ?_
                refine k_iadd (pc := 276) C dL_law_276 ?_
                refine k_scrld (pc := 277) C S dL_law_277 h (fun h => ?_)
                obtain ⟨z22, e22, h⟩ := bnd h
                refine k_callvI (pc := 278) C lk_L_36 (by decide) ix_X10 wo_X10 rfl rfl (kc_X10_days e22) dL_law_278 rfl rfl (Nat.le_of_ble_eq_true rfl) ?_
                refine k_aload_n (pc := 281) C dL_law_281 2 rfl ?_
                refine k_aload_n (pc := 282) C dL_law_282 0 rfl ?_
                refine k_iload_n (pc := 283) C dL_law_283 3 rfl ?_
                refine k_iconst (pc := 284) (v := (1 : Int32)) C dL_law_284 ciconst_1 ?_
                refine k_iadd (pc := 285) C dL_law_285 ?_
                refine k_scrld (pc := 286) C S dL_law_286 h (fun h => ?_)
                refine k_aload_n (pc := 287) C dL_law_287 0 rfl ?_
                refine k_iload_n (pc := 288) C dL_law_288 3 rfl ?_
                refine k_iconst (pc := 289) (v := (2 : Int32)) C dL_law_289 ciconst_2 ?_
                refine k_iadd (pc := 290) C dL_law_290 ?_
                refine k_scrld (pc := 291) C S dL_law_291 h (fun h => ?_)
                obtain ⟨z23, e23, h⟩ := bnd h
                refine k_callvI (pc := 292) C lk_L_39 (by decide) ix_X11 wo_X11 rfl rfl (kc_X11_days e23) dL_law_292 rfl rfl (Nat.le_of_ble_eq_true rfl) ?_
                refine k_icmp_eq (pc := 295) C 1089 dL_law_295 (by decide) h (fun c24 h => ?_) (fun c24 h => ?_)
                · refine k_sub [0, 1, 2, 3] rfl ?_
                  exact k_L_law_b1089 C E S hrec18 z23.2 x3 h
                · refine k_iconst (pc := 298) (v := (0 : Int32)) C dL_law_298 ciconst_0 ?_
                  exact no_some h
              · rw [if_neg c21] at h
                by_cases c25 : ((xs (Int32.toNatClampNeg x3)) &&& (31 : Int32)) = (6 : Int32)
                · rw [if_pos c25] at h
                  refine k_tabIn (pc := 33) C 300 (6 : Int32) dL_law_33 c25 (by decide) (by decide) rfl (by decide) ?_
                  refine k_aload_n (pc := 300) C dL_law_300 1 rfl ?_
                  refine k_aload_n (pc := 301) C dL_law_301 0 rfl ?_
                  refine k_iload_n (pc := 302) C dL_law_302 3 rfl ?_
                  refine k_iconst (pc := 303) (v := (1 : Int32)) C dL_law_303 ciconst_1 ?_
                  refine k_iadd (pc := 304) C dL_law_304 ?_
                  refine k_scrld (pc := 305) C S dL_law_305 h (fun h => ?_)
                  refine k_aload_n (pc := 306) C dL_law_306 0 rfl ?_
                  refine k_iload_n (pc := 307) C dL_law_307 3 rfl ?_
                  refine k_iconst (pc := 308) (v := (2 : Int32)) C dL_law_308 ciconst_2 ?_
                  refine k_iadd (pc := 309) C dL_law_309 ?_
                  refine k_scrld (pc := 310) C S dL_law_310 h (fun h => ?_)
                  obtain ⟨z26, e26, h⟩ := bnd h
                  refine k_callvI (pc := 311) C lk_L_40 (by decide) ix_X10 wo_X10 rfl rfl (kc_X10_day e26) dL_law_311 rfl rfl (Nat.le_of_ble_eq_true rfl) ?_
                  refine k_aload_n (pc := 314) C dL_law_314 2 rfl ?_
                  refine k_aload_n (pc := 315) C dL_law_315 0 rfl ?_
                  refine k_iload_n (pc := 316) C dL_law_316 3 rfl ?_
                  refine k_iconst (pc := 317) (v := (1 : Int32)) C dL_law_317 ciconst_1 ?_
                  refine k_iadd (pc := 318) C dL_law_318 ?_
                  refine k_scrld (pc := 319) C S dL_law_319 h (fun h => ?_)
                  refine k_aload_n (pc := 320) C dL_law_320 0 rfl ?_
                  refine k_iload_n (pc := 321) C dL_law_321 3 rfl ?_
                  refine k_iconst (pc := 322) (v := (2 : Int32)) C dL_law_322 ciconst_2 ?_
                  refine k_iadd (pc := 323) C dL_law_323 ?_
                  refine k_scrld (pc := 324) C S dL_law_324 h (fun h => ?_)
                  obtain ⟨z27, e27, h⟩ := bnd h
                  refine k_callvI (pc := 325) C lk_L_43 (by decide) ix_X11 wo_X11 rfl rfl (kc_X11_day e27) dL_law_325 rfl rfl (Nat.le_of_ble_eq_true rfl) ?_
                  refine k_icmp_eq (pc := 328) C 1089 dL_law_328 (by decide) h (fun c28 h => ?_) (fun c28 h => ?_)
                  · refine k_sub [0, 1, 2, 3] rfl ?_
                    exact k_L_law_b1089 C E S hrec18 z27.2 x3 h
                  · refine k_iconst (pc := 331) (v := (0 : Int32)) C dL_law_331 ciconst_0 ?_
                    exact no_some h
                · rw [if_neg c25] at h
                  by_cases c29 : ((xs (Int32.toNatClampNeg x3)) &&& (31 : Int32)) = (7 : Int32)
                  · rw [if_pos c29] at h
                    refine k_tabIn (pc := 33) C 333 (7 : Int32) dL_law_33 c29 (by decide) (by decide) rfl (by decide) ?_
                    refine k_aload_n (pc := 333) C dL_law_333 1 rfl ?_
                    obtain ⟨z30, e30, h⟩ := bnd h
                    refine k_callvI (pc := 334) C lk_L_44 (by decide) ix_X10 wo_X10 rfl rfl (kc_X10_undo e30) dL_law_334 rfl rfl (Nat.le_of_ble_eq_true rfl) ?_
                    refine k_aload_n (pc := 337) C dL_law_337 2 rfl ?_
                    obtain ⟨z31, e31, h⟩ := bnd h
                    refine k_callvI (pc := 338) C lk_L_47 (by decide) ix_X11 wo_X11 rfl rfl (kc_X11_undo e31) dL_law_338 rfl rfl (Nat.le_of_ble_eq_true rfl) ?_
                    refine k_icmp_eq (pc := 341) C 1089 dL_law_341 (by decide) h (fun c32 h => ?_) (fun c32 h => ?_)
                    · refine k_sub [0, 1, 2, 3] rfl ?_
                      exact k_L_law_b1089 C E S hrec18 z31.2 x3 h
                    · refine k_iconst (pc := 344) (v := (0 : Int32)) C dL_law_344 ciconst_0 ?_
                      exact no_some h
                  · rw [if_neg c29] at h
                    by_cases c33 : ((xs (Int32.toNatClampNeg x3)) &&& (31 : Int32)) = (8 : Int32)
                    · rw [if_pos c33] at h
                      refine k_tabIn (pc := 33) C 346 (8 : Int32) dL_law_33 c33 (by decide) (by decide) rfl (by decide) ?_
                      refine k_aload_n (pc := 346) C dL_law_346 1 rfl ?_
                      refine k_aload_n (pc := 347) C dL_law_347 0 rfl ?_
                      refine k_iload_n (pc := 348) C dL_law_348 3 rfl ?_
                      refine k_iconst (pc := 349) (v := (1 : Int32)) C dL_law_349 ciconst_1 ?_
                      refine k_iadd (pc := 350) C dL_law_350 ?_
                      refine k_scrld (pc := 351) C S dL_law_351 h (fun h => ?_)
                      refine k_aload_n (pc := 352) C dL_law_352 0 rfl ?_
                      refine k_iload_n (pc := 353) C dL_law_353 3 rfl ?_
                      refine k_iconst (pc := 354) (v := (2 : Int32)) C dL_law_354 ciconst_2 ?_
                      refine k_iadd (pc := 355) C dL_law_355 ?_
                      refine k_scrld (pc := 356) C S dL_law_356 h (fun h => ?_)
                      obtain ⟨z34, e34, h⟩ := bnd h
                      refine k_callvI (pc := 357) C lk_L_48 (by decide) ix_X10 wo_X10 rfl rfl (kc_X10_of e34) dL_law_357 rfl rfl (Nat.le_of_ble_eq_true rfl) ?_
                      refine k_aload_n (pc := 360) C dL_law_360 2 rfl ?_
                      refine k_aload_n (pc := 361) C dL_law_361 0 rfl ?_
                      refine k_iload_n (pc := 362) C dL_law_362 3 rfl ?_
                      refine k_iconst (pc := 363) (v := (1 : Int32)) C dL_law_363 ciconst_1 ?_
                      refine k_iadd (pc := 364) C dL_law_364 ?_
                      refine k_scrld (pc := 365) C S dL_law_365 h (fun h => ?_)
                      refine k_aload_n (pc := 366) C dL_law_366 0 rfl ?_
                      refine k_iload_n (pc := 367) C dL_law_367 3 rfl ?_
                      refine k_iconst (pc := 368) (v := (2 : Int32)) C dL_law_368 ciconst_2 ?_
                      refine k_iadd (pc := 369) C dL_law_369 ?_
                      refine k_scrld (pc := 370) C S dL_law_370 h (fun h => ?_)
                      obtain ⟨z35, e35, h⟩ := bnd h
                      refine k_callvI (pc := 371) C lk_L_51 (by decide) ix_X11 wo_X11 rfl rfl (kc_X11_of e35) dL_law_371 rfl rfl (Nat.le_of_ble_eq_true rfl) ?_
                      refine k_icmp_eq (pc := 374) C 1089 dL_law_374 (by decide) h (fun c36 h => ?_) (fun c36 h => ?_)
                      · refine k_sub [0, 1, 2, 3] rfl ?_
                        exact k_L_law_b1089 C E S hrec18 z35.2 x3 h
                      · refine k_iconst (pc := 377) (v := (0 : Int32)) C dL_law_377 ciconst_0 ?_
                        exact no_some h
                    · rw [if_neg c33] at h
                      by_cases c37 : ((xs (Int32.toNatClampNeg x3)) &&& (31 : Int32)) = (9 : Int32)
                      · rw [if_pos c37] at h
                        refine k_tabIn (pc := 33) C 379 (9 : Int32) dL_law_33 c37 (by decide) (by decide) rfl (by decide) ?_
                        refine k_aload_n (pc := 379) C dL_law_379 1 rfl ?_
                        refine k_aload_n (pc := 380) C dL_law_380 0 rfl ?_
                        refine k_iload_n (pc := 381) C dL_law_381 3 rfl ?_
                        refine k_iconst (pc := 382) (v := (1 : Int32)) C dL_law_382 ciconst_1 ?_
                        refine k_iadd (pc := 383) C dL_law_383 ?_
                        refine k_scrld (pc := 384) C S dL_law_384 h (fun h => ?_)
                        refine k_aload_n (pc := 385) C dL_law_385 0 rfl ?_
                        refine k_iload_n (pc := 386) C dL_law_386 3 rfl ?_
                        refine k_iconst (pc := 387) (v := (2 : Int32)) C dL_law_387 ciconst_2 ?_
                        refine k_iadd (pc := 388) C dL_law_388 ?_
                        refine k_scrld (pc := 389) C S dL_law_389 h (fun h => ?_)
                        obtain ⟨z38, e38, h⟩ := bnd h
                        refine k_callvI (pc := 390) C lk_L_52 (by decide) ix_X10 wo_X10 rfl rfl (kc_X10_today e38) dL_law_390 rfl rfl (Nat.le_of_ble_eq_true rfl) ?_
                        refine k_aload_n (pc := 393) C dL_law_393 2 rfl ?_
                        refine k_aload_n (pc := 394) C dL_law_394 0 rfl ?_
                        refine k_iload_n (pc := 395) C dL_law_395 3 rfl ?_
                        refine k_iconst (pc := 396) (v := (1 : Int32)) C dL_law_396 ciconst_1 ?_
                        refine k_iadd (pc := 397) C dL_law_397 ?_
                        refine k_scrld (pc := 398) C S dL_law_398 h (fun h => ?_)
                        refine k_aload_n (pc := 399) C dL_law_399 0 rfl ?_
                        refine k_iload_n (pc := 400) C dL_law_400 3 rfl ?_
                        refine k_iconst (pc := 401) (v := (2 : Int32)) C dL_law_401 ciconst_2 ?_
                        refine k_iadd (pc := 402) C dL_law_402 ?_
                        refine k_scrld (pc := 403) C S dL_law_403 h (fun h => ?_)
                        obtain ⟨z39, e39, h⟩ := bnd h
                        refine k_callvI (pc := 404) C lk_L_55 (by decide) ix_X11 wo_X11 rfl rfl (kc_X11_today e39) dL_law_404 rfl rfl (Nat.le_of_ble_eq_true rfl) ?_
                        refine k_icmp_eq (pc := 407) C 1089 dL_law_407 (by decide) h (fun c40 h => ?_) (fun c40 h => ?_)
                        · refine k_sub [0, 1, 2, 3] rfl ?_
                          exact k_L_law_b1089 C E S hrec18 z39.2 x3 h
                        · refine k_iconst (pc := 410) (v := (0 : Int32)) C dL_law_410 ciconst_0 ?_
                          exact no_some h
                      · rw [if_neg c37] at h
                        by_cases c41 : ((xs (Int32.toNatClampNeg x3)) &&& (31 : Int32)) = (10 : Int32)
                        · rw [if_pos c41] at h
                          refine k_tabIn (pc := 33) C 412 (10 : Int32) dL_law_33 c41 (by decide) (by decide) rfl (by decide) ?_
                          refine k_aload_n (pc := 412) C dL_law_412 1 rfl ?_
                          refine k_aload_n (pc := 413) C dL_law_413 0 rfl ?_
                          refine k_iload_n (pc := 414) C dL_law_414 3 rfl ?_
                          refine k_iconst (pc := 415) (v := (1 : Int32)) C dL_law_415 ciconst_1 ?_
                          refine k_iadd (pc := 416) C dL_law_416 ?_
                          refine k_scrld (pc := 417) C S dL_law_417 h (fun h => ?_)
                          refine k_aload_n (pc := 418) C dL_law_418 0 rfl ?_
                          refine k_iload_n (pc := 419) C dL_law_419 3 rfl ?_
                          refine k_iconst (pc := 420) (v := (2 : Int32)) C dL_law_420 ciconst_2 ?_
                          refine k_iadd (pc := 421) C dL_law_421 ?_
                          refine k_scrld (pc := 422) C S dL_law_422 h (fun h => ?_)
                          refine k_aload_n (pc := 423) C dL_law_423 0 rfl ?_
                          refine k_iload_n (pc := 424) C dL_law_424 3 rfl ?_
                          refine k_iconst (pc := 425) (v := (3 : Int32)) C dL_law_425 ciconst_3 ?_
                          refine k_iadd (pc := 426) C dL_law_426 ?_
                          refine k_scrld (pc := 427) C S dL_law_427 h (fun h => ?_)
                          refine k_aload_n (pc := 428) C dL_law_428 0 rfl ?_
                          refine k_iload_n (pc := 429) C dL_law_429 3 rfl ?_
                          refine k_iconst (pc := 430) (v := (4 : Int32)) C dL_law_430 ciconst_4 ?_
                          refine k_iadd (pc := 431) C dL_law_431 ?_
                          refine k_scrld (pc := 432) C S dL_law_432 h (fun h => ?_)
                          obtain ⟨z42, e42, h⟩ := bnd h
                          refine k_callvI (pc := 433) C lk_L_56 (by decide) ix_X10 wo_X10 rfl rfl (kc_X10_then e42) dL_law_433 rfl rfl (Nat.le_of_ble_eq_true rfl) ?_
                          refine k_aload_n (pc := 436) C dL_law_436 2 rfl ?_
                          refine k_aload_n (pc := 437) C dL_law_437 0 rfl ?_
                          refine k_iload_n (pc := 438) C dL_law_438 3 rfl ?_
                          refine k_iconst (pc := 439) (v := (1 : Int32)) C dL_law_439 ciconst_1 ?_
                          refine k_iadd (pc := 440) C dL_law_440 ?_
                          refine k_scrld (pc := 441) C S dL_law_441 h (fun h => ?_)
                          refine k_aload_n (pc := 442) C dL_law_442 0 rfl ?_
                          refine k_iload_n (pc := 443) C dL_law_443 3 rfl ?_
                          refine k_iconst (pc := 444) (v := (2 : Int32)) C dL_law_444 ciconst_2 ?_
                          refine k_iadd (pc := 445) C dL_law_445 ?_
                          refine k_scrld (pc := 446) C S dL_law_446 h (fun h => ?_)
                          refine k_aload_n (pc := 447) C dL_law_447 0 rfl ?_
                          refine k_iload_n (pc := 448) C dL_law_448 3 rfl ?_
                          refine k_iconst (pc := 449) (v := (3 : Int32)) C dL_law_449 ciconst_3 ?_
                          refine k_iadd (pc := 450) C dL_law_450 ?_
                          refine k_scrld (pc := 451) C S dL_law_451 h (fun h => ?_)
                          refine k_aload_n (pc := 452) C dL_law_452 0 rfl ?_
                          refine k_iload_n (pc := 453) C dL_law_453 3 rfl ?_
                          refine k_iconst (pc := 454) (v := (4 : Int32)) C dL_law_454 ciconst_4 ?_
                          refine k_iadd (pc := 455) C dL_law_455 ?_
                          refine k_scrld (pc := 456) C S dL_law_456 h (fun h => ?_)
                          obtain ⟨z43, e43, h⟩ := bnd h
                          refine k_callvI (pc := 457) C lk_L_60 (by decide) ix_X11 wo_X11 rfl rfl (kc_X11_then e43) dL_law_457 rfl rfl (Nat.le_of_ble_eq_true rfl) ?_
                          refine k_icmp_eq (pc := 460) C 1089 dL_law_460 (by decide) h (fun c44 h => ?_) (fun c44 h => ?_)
                          · refine k_sub [0, 1, 2, 3] rfl ?_
                            exact k_L_law_b1089 C E S hrec18 z43.2 x3 h
                          · refine k_iconst (pc := 463) (v := (0 : Int32)) C dL_law_463 ciconst_0 ?_
                            exact no_some h
                        · rw [if_neg c41] at h
                          by_cases c45 : ((xs (Int32.toNatClampNeg x3)) &&& (31 : Int32)) = (11 : Int32)
                          · rw [if_pos c45] at h
                            refine k_tabIn (pc := 33) C 465 (11 : Int32) dL_law_33 c45 (by decide) (by decide) rfl (by decide) ?_
                            refine k_aload_n (pc := 465) C dL_law_465 1 rfl ?_
                            refine k_aload_n (pc := 466) C dL_law_466 0 rfl ?_
                            refine k_iload_n (pc := 467) C dL_law_467 3 rfl ?_
                            refine k_iconst (pc := 468) (v := (1 : Int32)) C dL_law_468 ciconst_1 ?_
                            refine k_iadd (pc := 469) C dL_law_469 ?_
                            refine k_scrld (pc := 470) C S dL_law_470 h (fun h => ?_)
                            obtain ⟨z46, e46, h⟩ := bnd h
                            refine k_callvI (pc := 471) C lk_L_61 (by decide) ix_X10 wo_X10 rfl rfl (kc_X10_over e46) dL_law_471 rfl rfl (Nat.le_of_ble_eq_true rfl) ?_
                            refine k_aload_n (pc := 474) C dL_law_474 2 rfl ?_
                            refine k_aload_n (pc := 475) C dL_law_475 0 rfl ?_
                            refine k_iload_n (pc := 476) C dL_law_476 3 rfl ?_
                            refine k_iconst (pc := 477) (v := (1 : Int32)) C dL_law_477 ciconst_1 ?_
                            refine k_iadd (pc := 478) C dL_law_478 ?_
                            refine k_scrld (pc := 479) C S dL_law_479 h (fun h => ?_)
                            obtain ⟨z47, e47, h⟩ := bnd h
                            refine k_callvI (pc := 480) C lk_L_64 (by decide) ix_X11 wo_X11 rfl rfl (kc_X11_over e47) dL_law_480 rfl rfl (Nat.le_of_ble_eq_true rfl) ?_
                            refine k_icmp_eq (pc := 483) C 1089 dL_law_483 (by decide) h (fun c48 h => ?_) (fun c48 h => ?_)
                            · refine k_sub [0, 1, 2, 3] rfl ?_
                              exact k_L_law_b1089 C E S hrec18 z47.2 x3 h
                            · refine k_iconst (pc := 486) (v := (0 : Int32)) C dL_law_486 ciconst_0 ?_
                              exact no_some h
                          · rw [if_neg c45] at h
                            by_cases c49 : ((xs (Int32.toNatClampNeg x3)) &&& (31 : Int32)) = (12 : Int32)
                            · rw [if_pos c49] at h
                              refine k_tabIn (pc := 33) C 488 (12 : Int32) dL_law_33 c49 (by decide) (by decide) rfl (by decide) ?_
                              refine k_aload_n (pc := 488) C dL_law_488 1 rfl ?_
                              refine k_aload_n (pc := 489) C dL_law_489 0 rfl ?_
                              refine k_iload_n (pc := 490) C dL_law_490 3 rfl ?_
                              refine k_iconst (pc := 491) (v := (1 : Int32)) C dL_law_491 ciconst_1 ?_
                              refine k_iadd (pc := 492) C dL_law_492 ?_
                              refine k_scrld (pc := 493) C S dL_law_493 h (fun h => ?_)
                              refine k_aload_n (pc := 494) C dL_law_494 0 rfl ?_
                              refine k_iload_n (pc := 495) C dL_law_495 3 rfl ?_
                              refine k_iconst (pc := 496) (v := (2 : Int32)) C dL_law_496 ciconst_2 ?_
                              refine k_iadd (pc := 497) C dL_law_497 ?_
                              refine k_scrld (pc := 498) C S dL_law_498 h (fun h => ?_)
                              refine k_aload_n (pc := 499) C dL_law_499 0 rfl ?_
                              refine k_iload_n (pc := 500) C dL_law_500 3 rfl ?_
                              refine k_iconst (pc := 501) (v := (3 : Int32)) C dL_law_501 ciconst_3 ?_
                              refine k_iadd (pc := 502) C dL_law_502 ?_
                              refine k_scrld (pc := 503) C S dL_law_503 h (fun h => ?_)
                              obtain ⟨z50, e50, h⟩ := bnd h
                              refine k_callvI (pc := 504) C lk_L_65 (by decide) ix_X10 wo_X10 rfl rfl (kc_X10_most e50) dL_law_504 rfl rfl (Nat.le_of_ble_eq_true rfl) ?_
                              refine k_aload_n (pc := 507) C dL_law_507 2 rfl ?_
                              refine k_aload_n (pc := 508) C dL_law_508 0 rfl ?_
                              refine k_iload_n (pc := 509) C dL_law_509 3 rfl ?_
                              refine k_iconst (pc := 510) (v := (1 : Int32)) C dL_law_510 ciconst_1 ?_
                              refine k_iadd (pc := 511) C dL_law_511 ?_
                              refine k_scrld (pc := 512) C S dL_law_512 h (fun h => ?_)
                              refine k_aload_n (pc := 513) C dL_law_513 0 rfl ?_
                              refine k_iload_n (pc := 514) C dL_law_514 3 rfl ?_
                              refine k_iconst (pc := 515) (v := (2 : Int32)) C dL_law_515 ciconst_2 ?_
                              refine k_iadd (pc := 516) C dL_law_516 ?_
                              refine k_scrld (pc := 517) C S dL_law_517 h (fun h => ?_)
                              refine k_aload_n (pc := 518) C dL_law_518 0 rfl ?_
                              refine k_iload_n (pc := 519) C dL_law_519 3 rfl ?_
                              refine k_iconst (pc := 520) (v := (3 : Int32)) C dL_law_520 ciconst_3 ?_
                              refine k_iadd (pc := 521) C dL_law_521 ?_
                              refine k_scrld (pc := 522) C S dL_law_522 h (fun h => ?_)
                              obtain ⟨z51, e51, h⟩ := bnd h
                              refine k_callvI (pc := 523) C lk_L_69 (by decide) ix_X11 wo_X11 rfl rfl (kc_X11_most e51) dL_law_523 rfl rfl (Nat.le_of_ble_eq_true rfl) ?_
                              refine k_icmp_eq (pc := 526) C 1089 dL_law_526 (by decide) h (fun c52 h => ?_) (fun c52 h => ?_)
                              · refine k_sub [0, 1, 2, 3] rfl ?_
                                exact k_L_law_b1089 C E S hrec18 z51.2 x3 h
                              · refine k_iconst (pc := 529) (v := (0 : Int32)) C dL_law_529 ciconst_0 ?_
                                exact no_some h
                            · rw [if_neg c49] at h
                              by_cases c53 : ((xs (Int32.toNatClampNeg x3)) &&& (31 : Int32)) = (13 : Int32)
                              · rw [if_pos c53] at h
                                refine k_tabIn (pc := 33) C 531 (13 : Int32) dL_law_33 c53 (by decide) (by decide) rfl (by decide) ?_
                                refine k_aload_n (pc := 531) C dL_law_531 1 rfl ?_
                                refine k_aload_n (pc := 532) C dL_law_532 0 rfl ?_
                                refine k_iload_n (pc := 533) C dL_law_533 3 rfl ?_
                                refine k_iconst (pc := 534) (v := (1 : Int32)) C dL_law_534 ciconst_1 ?_
                                refine k_iadd (pc := 535) C dL_law_535 ?_
                                refine k_scrld (pc := 536) C S dL_law_536 h (fun h => ?_)
                                refine k_aload_n (pc := 537) C dL_law_537 0 rfl ?_
                                refine k_iload_n (pc := 538) C dL_law_538 3 rfl ?_
                                refine k_iconst (pc := 539) (v := (2 : Int32)) C dL_law_539 ciconst_2 ?_
                                refine k_iadd (pc := 540) C dL_law_540 ?_
                                refine k_scrld (pc := 541) C S dL_law_541 h (fun h => ?_)
                                obtain ⟨z54, e54, h⟩ := bnd h
                                refine k_callvI (pc := 542) C lk_L_70 (by decide) ix_X10 wo_X10 rfl rfl (kc_X10_soonest e54) dL_law_542 rfl rfl (Nat.le_of_ble_eq_true rfl) ?_
                                refine k_aload_n (pc := 545) C dL_law_545 2 rfl ?_
                                refine k_aload_n (pc := 546) C dL_law_546 0 rfl ?_
                                refine k_iload_n (pc := 547) C dL_law_547 3 rfl ?_
                                refine k_iconst (pc := 548) (v := (1 : Int32)) C dL_law_548 ciconst_1 ?_
                                refine k_iadd (pc := 549) C dL_law_549 ?_
                                refine k_scrld (pc := 550) C S dL_law_550 h (fun h => ?_)
                                refine k_aload_n (pc := 551) C dL_law_551 0 rfl ?_
                                refine k_iload_n (pc := 552) C dL_law_552 3 rfl ?_
                                refine k_iconst (pc := 553) (v := (2 : Int32)) C dL_law_553 ciconst_2 ?_
                                refine k_iadd (pc := 554) C dL_law_554 ?_
                                refine k_scrld (pc := 555) C S dL_law_555 h (fun h => ?_)
                                obtain ⟨z55, e55, h⟩ := bnd h
                                refine k_callvI (pc := 556) C lk_L_73 (by decide) ix_X11 wo_X11 rfl rfl (kc_X11_soonest e55) dL_law_556 rfl rfl (Nat.le_of_ble_eq_true rfl) ?_
                                refine k_icmp_eq (pc := 559) C 1089 dL_law_559 (by decide) h (fun c56 h => ?_) (fun c56 h => ?_)
                                · refine k_sub [0, 1, 2, 3] rfl ?_
                                  exact k_L_law_b1089 C E S hrec18 z55.2 x3 h
                                · refine k_iconst (pc := 562) (v := (0 : Int32)) C dL_law_562 ciconst_0 ?_
                                  exact no_some h
                              · rw [if_neg c53] at h
                                by_cases c57 : ((xs (Int32.toNatClampNeg x3)) &&& (31 : Int32)) = (14 : Int32)
                                · rw [if_pos c57] at h
                                  refine k_tabIn (pc := 33) C 564 (14 : Int32) dL_law_33 c57 (by decide) (by decide) rfl (by decide) ?_
                                  refine k_aload_n (pc := 564) C dL_law_564 1 rfl ?_
                                  refine k_aload_n (pc := 565) C dL_law_565 0 rfl ?_
                                  refine k_iload_n (pc := 566) C dL_law_566 3 rfl ?_
                                  refine k_iconst (pc := 567) (v := (1 : Int32)) C dL_law_567 ciconst_1 ?_
                                  refine k_iadd (pc := 568) C dL_law_568 ?_
                                  refine k_scrld (pc := 569) C S dL_law_569 h (fun h => ?_)
                                  refine k_aload_n (pc := 570) C dL_law_570 0 rfl ?_
                                  refine k_iload_n (pc := 571) C dL_law_571 3 rfl ?_
                                  refine k_iconst (pc := 572) (v := (2 : Int32)) C dL_law_572 ciconst_2 ?_
                                  refine k_iadd (pc := 573) C dL_law_573 ?_
                                  refine k_scrld (pc := 574) C S dL_law_574 h (fun h => ?_)
                                  refine k_aload_n (pc := 575) C dL_law_575 0 rfl ?_
                                  refine k_iload_n (pc := 576) C dL_law_576 3 rfl ?_
                                  refine k_iconst (pc := 577) (v := (3 : Int32)) C dL_law_577 ciconst_3 ?_
                                  refine k_iadd (pc := 578) C dL_law_578 ?_
                                  refine k_scrld (pc := 579) C S dL_law_579 h (fun h => ?_)
                                  obtain ⟨z58, e58, h⟩ := bnd h
                                  refine k_callvI (pc := 580) C lk_L_74 (by decide) ix_X10 wo_X10 rfl rfl (kc_X10_home e58) dL_law_580 rfl rfl (Nat.le_of_ble_eq_true rfl) ?_
                                  refine k_aload_n (pc := 583) C dL_law_583 2 rfl ?_
                                  refine k_aload_n (pc := 584) C dL_law_584 0 rfl ?_
                                  refine k_iload_n (pc := 585) C dL_law_585 3 rfl ?_
                                  refine k_iconst (pc := 586) (v := (1 : Int32)) C dL_law_586 ciconst_1 ?_
                                  refine k_iadd (pc := 587) C dL_law_587 ?_
                                  refine k_scrld (pc := 588) C S dL_law_588 h (fun h => ?_)
                                  refine k_aload_n (pc := 589) C dL_law_589 0 rfl ?_
                                  refine k_iload_n (pc := 590) C dL_law_590 3 rfl ?_
                                  refine k_iconst (pc := 591) (v := (2 : Int32)) C dL_law_591 ciconst_2 ?_
                                  refine k_iadd (pc := 592) C dL_law_592 ?_
                                  refine k_scrld (pc := 593) C S dL_law_593 h (fun h => ?_)
                                  refine k_aload_n (pc := 594) C dL_law_594 0 rfl ?_
                                  refine k_iload_n (pc := 595) C dL_law_595 3 rfl ?_
                                  refine k_iconst (pc := 596) (v := (3 : Int32)) C dL_law_596 ciconst_3 ?_
                                  refine k_iadd (pc := 597) C dL_law_597 ?_
                                  refine k_scrld (pc := 598) C S dL_law_598 h (fun h => ?_)
                                  obtain ⟨z59, e59, h⟩ := bnd h
                                  refine k_callvI (pc := 599) C lk_L_77 (by decide) ix_X11 wo_X11 rfl rfl (kc_X11_home e59) dL_law_599 rfl rfl (Nat.le_of_ble_eq_true rfl) ?_
                                  refine k_icmp_eq (pc := 602) C 1089 dL_law_602 (by decide) h (fun c60 h => ?_) (fun c60 h => ?_)
                                  · refine k_sub [0, 1, 2, 3] rfl ?_
                                    exact k_L_law_b1089 C E S hrec18 z59.2 x3 h
                                  · refine k_iconst (pc := 605) (v := (0 : Int32)) C dL_law_605 ciconst_0 ?_
                                    exact no_some h
                                · rw [if_neg c57] at h
                                  by_cases c61 : ((xs (Int32.toNatClampNeg x3)) &&& (31 : Int32)) = (15 : Int32)
                                  · rw [if_pos c61] at h
                                    refine k_tabIn (pc := 33) C 607 (15 : Int32) dL_law_33 c61 (by decide) (by decide) rfl (by decide) ?_
                                    refine k_aload_n (pc := 607) C dL_law_607 1 rfl ?_
                                    refine k_aload_n (pc := 608) C dL_law_608 0 rfl ?_
                                    refine k_iload_n (pc := 609) C dL_law_609 3 rfl ?_
                                    refine k_iconst (pc := 610) (v := (1 : Int32)) C dL_law_610 ciconst_1 ?_
                                    refine k_iadd (pc := 611) C dL_law_611 ?_
                                    refine k_scrld (pc := 612) C S dL_law_612 h (fun h => ?_)
                                    obtain ⟨z62, e62, h⟩ := bnd h
                                    refine k_callvI (pc := 613) C lk_L_78 (by decide) ix_X10 wo_X10 rfl rfl (kc_X10_tell e62) dL_law_613 rfl rfl (Nat.le_of_ble_eq_true rfl) ?_
                                    refine k_aload_n (pc := 616) C dL_law_616 2 rfl ?_
                                    refine k_aload_n (pc := 617) C dL_law_617 0 rfl ?_
                                    refine k_iload_n (pc := 618) C dL_law_618 3 rfl ?_
                                    refine k_iconst (pc := 619) (v := (1 : Int32)) C dL_law_619 ciconst_1 ?_
                                    refine k_iadd (pc := 620) C dL_law_620 ?_
                                    refine k_scrld (pc := 621) C S dL_law_621 h (fun h => ?_)
                                    obtain ⟨z63, e63, h⟩ := bnd h
                                    refine k_callvI (pc := 622) C lk_L_81 (by decide) ix_X11 wo_X11 rfl rfl (kc_X11_tell e63) dL_law_622 rfl rfl (Nat.le_of_ble_eq_true rfl) ?_
                                    refine k_icmp_eq (pc := 625) C 1089 dL_law_625 (by decide) h (fun c64 h => ?_) (fun c64 h => ?_)
                                    · refine k_sub [0, 1, 2, 3] rfl ?_
                                      exact k_L_law_b1089 C E S hrec18 z63.2 x3 h
                                    · refine k_iconst (pc := 628) (v := (0 : Int32)) C dL_law_628 ciconst_0 ?_
                                      exact no_some h
                                  · rw [if_neg c61] at h
                                    by_cases c65 : ((xs (Int32.toNatClampNeg x3)) &&& (31 : Int32)) = (16 : Int32)
                                    · rw [if_pos c65] at h
                                      refine k_tabIn (pc := 33) C 630 (16 : Int32) dL_law_33 c65 (by decide) (by decide) rfl (by decide) ?_
                                      refine k_aload_n (pc := 630) C dL_law_630 1 rfl ?_
                                      refine k_aload_n (pc := 631) C dL_law_631 0 rfl ?_
                                      refine k_iload_n (pc := 632) C dL_law_632 3 rfl ?_
                                      refine k_iconst (pc := 633) (v := (1 : Int32)) C dL_law_633 ciconst_1 ?_
                                      refine k_iadd (pc := 634) C dL_law_634 ?_
                                      refine k_scrld (pc := 635) C S dL_law_635 h (fun h => ?_)
                                      refine k_aload_n (pc := 636) C dL_law_636 0 rfl ?_
                                      refine k_iload_n (pc := 637) C dL_law_637 3 rfl ?_
                                      refine k_iconst (pc := 638) (v := (2 : Int32)) C dL_law_638 ciconst_2 ?_
                                      refine k_iadd (pc := 639) C dL_law_639 ?_
                                      refine k_scrld (pc := 640) C S dL_law_640 h (fun h => ?_)
                                      refine k_aload_n (pc := 641) C dL_law_641 0 rfl ?_
                                      refine k_iload_n (pc := 642) C dL_law_642 3 rfl ?_
                                      refine k_iconst (pc := 643) (v := (3 : Int32)) C dL_law_643 ciconst_3 ?_
                                      refine k_iadd (pc := 644) C dL_law_644 ?_
                                      refine k_scrld (pc := 645) C S dL_law_645 h (fun h => ?_)
                                      refine k_aload_n (pc := 646) C dL_law_646 0 rfl ?_
                                      refine k_iload_n (pc := 647) C dL_law_647 3 rfl ?_
                                      refine k_iconst (pc := 648) (v := (4 : Int32)) C dL_law_648 ciconst_4 ?_
                                      refine k_iadd (pc := 649) C dL_law_649 ?_
                                      refine k_scrld (pc := 650) C S dL_law_650 h (fun h => ?_)
                                      refine k_aload_n (pc := 651) C dL_law_651 0 rfl ?_
                                      refine k_iload_n (pc := 652) C dL_law_652 3 rfl ?_
                                      refine k_iconst (pc := 653) (v := (5 : Int32)) C dL_law_653 ciconst_5 ?_
                                      refine k_iadd (pc := 654) C dL_law_654 ?_
                                      refine k_scrld (pc := 655) C S dL_law_655 h (fun h => ?_)
                                      refine k_aload_n (pc := 656) C dL_law_656 0 rfl ?_
                                      refine k_iload_n (pc := 657) C dL_law_657 3 rfl ?_
                                      refine k_bipush (pc := 658) (v := (6 : Int32)) C dL_law_658 cbipush_6 ?_
                                      refine k_iadd (pc := 660) C dL_law_660 ?_
                                      refine k_scrld (pc := 661) C S dL_law_661 h (fun h => ?_)
                                      obtain ⟨z66, e66, h⟩ := bnd h
                                      refine k_callvI (pc := 662) C lk_L_82 (by decide) ix_X10 wo_X10 rfl rfl (kc_X10_note e66) dL_law_662 rfl rfl (Nat.le_of_ble_eq_true rfl) ?_
                                      refine k_aload_n (pc := 665) C dL_law_665 2 rfl ?_
                                      refine k_aload_n (pc := 666) C dL_law_666 0 rfl ?_
                                      refine k_iload_n (pc := 667) C dL_law_667 3 rfl ?_
                                      refine k_iconst (pc := 668) (v := (1 : Int32)) C dL_law_668 ciconst_1 ?_
                                      refine k_iadd (pc := 669) C dL_law_669 ?_
                                      refine k_scrld (pc := 670) C S dL_law_670 h (fun h => ?_)
                                      refine k_aload_n (pc := 671) C dL_law_671 0 rfl ?_
                                      refine k_iload_n (pc := 672) C dL_law_672 3 rfl ?_
                                      refine k_iconst (pc := 673) (v := (2 : Int32)) C dL_law_673 ciconst_2 ?_
                                      refine k_iadd (pc := 674) C dL_law_674 ?_
                                      refine k_scrld (pc := 675) C S dL_law_675 h (fun h => ?_)
                                      refine k_aload_n (pc := 676) C dL_law_676 0 rfl ?_
                                      refine k_iload_n (pc := 677) C dL_law_677 3 rfl ?_
                                      refine k_iconst (pc := 678) (v := (3 : Int32)) C dL_law_678 ciconst_3 ?_
                                      refine k_iadd (pc := 679) C dL_law_679 ?_
                                      refine k_scrld (pc := 680) C S dL_law_680 h (fun h => ?_)
                                      refine k_aload_n (pc := 681) C dL_law_681 0 rfl ?_
                                      refine k_iload_n (pc := 682) C dL_law_682 3 rfl ?_
                                      refine k_iconst (pc := 683) (v := (4 : Int32)) C dL_law_683 ciconst_4 ?_
                                      refine k_iadd (pc := 684) C dL_law_684 ?_
                                      refine k_scrld (pc := 685) C S dL_law_685 h (fun h => ?_)
                                      refine k_aload_n (pc := 686) C dL_law_686 0 rfl ?_
                                      refine k_iload_n (pc := 687) C dL_law_687 3 rfl ?_
                                      refine k_iconst (pc := 688) (v := (5 : Int32)) C dL_law_688 ciconst_5 ?_
                                      refine k_iadd (pc := 689) C dL_law_689 ?_
                                      refine k_scrld (pc := 690) C S dL_law_690 h (fun h => ?_)
                                      refine k_aload_n (pc := 691) C dL_law_691 0 rfl ?_
                                      refine k_iload_n (pc := 692) C dL_law_692 3 rfl ?_
                                      refine k_bipush (pc := 693) (v := (6 : Int32)) C dL_law_693 cbipush_6 ?_
                                      refine k_iadd (pc := 695) C dL_law_695 ?_
                                      refine k_scrld (pc := 696) C S dL_law_696 h (fun h => ?_)
                                      obtain ⟨z67, e67, h⟩ := bnd h
                                      refine k_callvI (pc := 697) C lk_L_86 (by decide) ix_X11 wo_X11 rfl rfl (kc_X11_note e67) dL_law_697 rfl rfl (Nat.le_of_ble_eq_true rfl) ?_
                                      refine k_icmp_eq (pc := 700) C 1089 dL_law_700 (by decide) h (fun c68 h => ?_) (fun c68 h => ?_)
                                      · refine k_sub [0, 1, 2, 3] rfl ?_
                                        exact k_L_law_b1089 C E S hrec18 z67.2 x3 h
                                      · refine k_iconst (pc := 703) (v := (0 : Int32)) C dL_law_703 ciconst_0 ?_
                                        exact no_some h
                                    · rw [if_neg c65] at h
                                      by_cases c69 : ((xs (Int32.toNatClampNeg x3)) &&& (31 : Int32)) = (17 : Int32)
                                      · rw [if_pos c69] at h
                                        refine k_tabIn (pc := 33) C 705 (17 : Int32) dL_law_33 c69 (by decide) (by decide) rfl (by decide) ?_
                                        refine k_aload_n (pc := 705) C dL_law_705 1 rfl ?_
                                        refine k_aload_n (pc := 706) C dL_law_706 0 rfl ?_
                                        refine k_iload_n (pc := 707) C dL_law_707 3 rfl ?_
                                        refine k_iconst (pc := 708) (v := (1 : Int32)) C dL_law_708 ciconst_1 ?_
                                        refine k_iadd (pc := 709) C dL_law_709 ?_
                                        refine k_scrld (pc := 710) C S dL_law_710 h (fun h => ?_)
                                        refine k_aload_n (pc := 711) C dL_law_711 0 rfl ?_
                                        refine k_iload_n (pc := 712) C dL_law_712 3 rfl ?_
                                        refine k_iconst (pc := 713) (v := (2 : Int32)) C dL_law_713 ciconst_2 ?_
                                        refine k_iadd (pc := 714) C dL_law_714 ?_
                                        refine k_scrld (pc := 715) C S dL_law_715 h (fun h => ?_)
                                        refine k_aload_n (pc := 716) C dL_law_716 0 rfl ?_
                                        refine k_iload_n (pc := 717) C dL_law_717 3 rfl ?_
                                        refine k_iconst (pc := 718) (v := (3 : Int32)) C dL_law_718 ciconst_3 ?_
                                        refine k_iadd (pc := 719) C dL_law_719 ?_
                                        refine k_scrld (pc := 720) C S dL_law_720 h (fun h => ?_)
                                        obtain ⟨z70, e70, h⟩ := bnd h
                                        refine k_callvI (pc := 721) C lk_L_87 (by decide) ix_X10 wo_X10 rfl rfl (kc_X10_gone e70) dL_law_721 rfl rfl (Nat.le_of_ble_eq_true rfl) ?_
                                        refine k_aload_n (pc := 724) C dL_law_724 2 rfl ?_
                                        refine k_aload_n (pc := 725) C dL_law_725 0 rfl ?_
                                        refine k_iload_n (pc := 726) C dL_law_726 3 rfl ?_
                                        refine k_iconst (pc := 727) (v := (1 : Int32)) C dL_law_727 ciconst_1 ?_
                                        refine k_iadd (pc := 728) C dL_law_728 ?_
                                        refine k_scrld (pc := 729) C S dL_law_729 h (fun h => ?_)
                                        refine k_aload_n (pc := 730) C dL_law_730 0 rfl ?_
                                        refine k_iload_n (pc := 731) C dL_law_731 3 rfl ?_
                                        refine k_iconst (pc := 732) (v := (2 : Int32)) C dL_law_732 ciconst_2 ?_
                                        refine k_iadd (pc := 733) C dL_law_733 ?_
                                        refine k_scrld (pc := 734) C S dL_law_734 h (fun h => ?_)
                                        refine k_aload_n (pc := 735) C dL_law_735 0 rfl ?_
                                        refine k_iload_n (pc := 736) C dL_law_736 3 rfl ?_
                                        refine k_iconst (pc := 737) (v := (3 : Int32)) C dL_law_737 ciconst_3 ?_
                                        refine k_iadd (pc := 738) C dL_law_738 ?_
                                        refine k_scrld (pc := 739) C S dL_law_739 h (fun h => ?_)
                                        obtain ⟨z71, e71, h⟩ := bnd h
                                        refine k_callvI (pc := 740) C lk_L_90 (by decide) ix_X11 wo_X11 rfl rfl (kc_X11_gone e71) dL_law_740 rfl rfl (Nat.le_of_ble_eq_true rfl) ?_
                                        refine k_icmp_eq (pc := 743) C 1089 dL_law_743 (by decide) h (fun c72 h => ?_) (fun c72 h => ?_)
                                        · refine k_sub [0, 1, 2, 3] rfl ?_
                                          exact k_L_law_b1089 C E S hrec18 z71.2 x3 h
                                        · refine k_iconst (pc := 746) (v := (0 : Int32)) C dL_law_746 ciconst_0 ?_
                                          exact no_some h
                                      · rw [if_neg c69] at h
                                        by_cases c73 : ((xs (Int32.toNatClampNeg x3)) &&& (31 : Int32)) = (18 : Int32)
                                        · rw [if_pos c73] at h
                                          refine k_tabIn (pc := 33) C 748 (18 : Int32) dL_law_33 c73 (by decide) (by decide) rfl (by decide) ?_
                                          refine k_aload_n (pc := 748) C dL_law_748 1 rfl ?_
                                          refine k_aload_n (pc := 749) C dL_law_749 0 rfl ?_
                                          refine k_iload_n (pc := 750) C dL_law_750 3 rfl ?_
                                          refine k_iconst (pc := 751) (v := (1 : Int32)) C dL_law_751 ciconst_1 ?_
                                          refine k_iadd (pc := 752) C dL_law_752 ?_
                                          refine k_scrld (pc := 753) C S dL_law_753 h (fun h => ?_)
                                          obtain ⟨z74, e74, h⟩ := bnd h
                                          refine k_callvI (pc := 754) C lk_L_91 (by decide) ix_X10 wo_X10 rfl rfl (kc_X10_forget e74) dL_law_754 rfl rfl (Nat.le_of_ble_eq_true rfl) ?_
                                          refine k_aload_n (pc := 757) C dL_law_757 2 rfl ?_
                                          refine k_aload_n (pc := 758) C dL_law_758 0 rfl ?_
                                          refine k_iload_n (pc := 759) C dL_law_759 3 rfl ?_
                                          refine k_iconst (pc := 760) (v := (1 : Int32)) C dL_law_760 ciconst_1 ?_
                                          refine k_iadd (pc := 761) C dL_law_761 ?_
                                          refine k_scrld (pc := 762) C S dL_law_762 h (fun h => ?_)
                                          obtain ⟨z75, e75, h⟩ := bnd h
                                          refine k_callvI (pc := 763) C lk_L_94 (by decide) ix_X11 wo_X11 rfl rfl (kc_X11_forget e75) dL_law_763 rfl rfl (Nat.le_of_ble_eq_true rfl) ?_
                                          refine k_icmp_eq (pc := 766) C 1089 dL_law_766 (by decide) h (fun c76 h => ?_) (fun c76 h => ?_)
                                          · refine k_sub [0, 1, 2, 3] rfl ?_
                                            exact k_L_law_b1089 C E S hrec18 z75.2 x3 h
                                          · refine k_iconst (pc := 769) (v := (0 : Int32)) C dL_law_769 ciconst_0 ?_
                                            exact no_some h
                                        · rw [if_neg c73] at h
                                          by_cases c77 : ((xs (Int32.toNatClampNeg x3)) &&& (31 : Int32)) = (19 : Int32)
                                          · rw [if_pos c77] at h
                                            refine k_tabIn (pc := 33) C 771 (19 : Int32) dL_law_33 c77 (by decide) (by decide) rfl (by decide) ?_
                                            refine k_aload_n (pc := 771) C dL_law_771 1 rfl ?_
                                            refine k_aload_n (pc := 772) C dL_law_772 0 rfl ?_
                                            refine k_iload_n (pc := 773) C dL_law_773 3 rfl ?_
                                            refine k_iconst (pc := 774) (v := (1 : Int32)) C dL_law_774 ciconst_1 ?_
                                            refine k_iadd (pc := 775) C dL_law_775 ?_
                                            refine k_scrld (pc := 776) C S dL_law_776 h (fun h => ?_)
                                            obtain ⟨z78, e78, h⟩ := bnd h
                                            refine k_callvI (pc := 777) C lk_L_95 (by decide) ix_X10 wo_X10 rfl rfl (kc_X10_is e78) dL_law_777 rfl rfl (Nat.le_of_ble_eq_true rfl) ?_
                                            refine k_aload_n (pc := 780) C dL_law_780 2 rfl ?_
                                            refine k_aload_n (pc := 781) C dL_law_781 0 rfl ?_
                                            refine k_iload_n (pc := 782) C dL_law_782 3 rfl ?_
                                            refine k_iconst (pc := 783) (v := (1 : Int32)) C dL_law_783 ciconst_1 ?_
                                            refine k_iadd (pc := 784) C dL_law_784 ?_
                                            refine k_scrld (pc := 785) C S dL_law_785 h (fun h => ?_)
                                            obtain ⟨z79, e79, h⟩ := bnd h
                                            refine k_callvI (pc := 786) C lk_L_98 (by decide) ix_X11 wo_X11 rfl rfl (kc_X11_is e79) dL_law_786 rfl rfl (Nat.le_of_ble_eq_true rfl) ?_
                                            refine k_icmp_eq (pc := 789) C 1089 dL_law_789 (by decide) h (fun c80 h => ?_) (fun c80 h => ?_)
                                            · refine k_sub [0, 1, 2, 3] rfl ?_
                                              exact k_L_law_b1089 C E S hrec18 z79.2 x3 h
                                            · refine k_iconst (pc := 792) (v := (0 : Int32)) C dL_law_792 ciconst_0 ?_
                                              exact no_some h
                                          · rw [if_neg c77] at h
                                            by_cases c81 : ((xs (Int32.toNatClampNeg x3)) &&& (31 : Int32)) = (20 : Int32)
                                            · rw [if_pos c81] at h
                                              refine k_tabIn (pc := 33) C 794 (20 : Int32) dL_law_33 c81 (by decide) (by decide) rfl (by decide) ?_
                                              refine k_aload_n (pc := 794) C dL_law_794 1 rfl ?_
                                              refine k_aload_n (pc := 795) C dL_law_795 0 rfl ?_
                                              refine k_iload_n (pc := 796) C dL_law_796 3 rfl ?_
                                              refine k_iconst (pc := 797) (v := (1 : Int32)) C dL_law_797 ciconst_1 ?_
                                              refine k_iadd (pc := 798) C dL_law_798 ?_
                                              refine k_scrld (pc := 799) C S dL_law_799 h (fun h => ?_)
                                              obtain ⟨z82, e82, h⟩ := bnd h
                                              refine k_callvI (pc := 800) C lk_L_99 (by decide) ix_X10 wo_X10 rfl rfl (kc_X10_look e82) dL_law_800 rfl rfl (Nat.le_of_ble_eq_true rfl) ?_
                                              refine k_aload_n (pc := 803) C dL_law_803 2 rfl ?_
                                              refine k_aload_n (pc := 804) C dL_law_804 0 rfl ?_
                                              refine k_iload_n (pc := 805) C dL_law_805 3 rfl ?_
                                              refine k_iconst (pc := 806) (v := (1 : Int32)) C dL_law_806 ciconst_1 ?_
                                              refine k_iadd (pc := 807) C dL_law_807 ?_
                                              refine k_scrld (pc := 808) C S dL_law_808 h (fun h => ?_)
                                              obtain ⟨z83, e83, h⟩ := bnd h
                                              refine k_callvI (pc := 809) C lk_L_102 (by decide) ix_X11 wo_X11 rfl rfl (kc_X11_look e83) dL_law_809 rfl rfl (Nat.le_of_ble_eq_true rfl) ?_
                                              refine k_icmp_eq (pc := 812) C 1089 dL_law_812 (by decide) h (fun c84 h => ?_) (fun c84 h => ?_)
                                              · refine k_sub [0, 1, 2, 3] rfl ?_
                                                exact k_L_law_b1089 C E S hrec18 z83.2 x3 h
                                              · refine k_iconst (pc := 815) (v := (0 : Int32)) C dL_law_815 ciconst_0 ?_
                                                exact no_some h
                                            · rw [if_neg c81] at h
                                              by_cases c85 : ((xs (Int32.toNatClampNeg x3)) &&& (31 : Int32)) = (21 : Int32)
                                              · rw [if_pos c85] at h
                                                refine k_tabIn (pc := 33) C 817 (21 : Int32) dL_law_33 c85 (by decide) (by decide) rfl (by decide) ?_
                                                refine k_aload_n (pc := 817) C dL_law_817 1 rfl ?_
                                                refine k_aload_n (pc := 818) C dL_law_818 0 rfl ?_
                                                refine k_iload_n (pc := 819) C dL_law_819 3 rfl ?_
                                                refine k_iconst (pc := 820) (v := (1 : Int32)) C dL_law_820 ciconst_1 ?_
                                                refine k_iadd (pc := 821) C dL_law_821 ?_
                                                refine k_scrld (pc := 822) C S dL_law_822 h (fun h => ?_)
                                                refine k_aload_n (pc := 823) C dL_law_823 0 rfl ?_
                                                refine k_iload_n (pc := 824) C dL_law_824 3 rfl ?_
                                                refine k_iconst (pc := 825) (v := (2 : Int32)) C dL_law_825 ciconst_2 ?_
                                                refine k_iadd (pc := 826) C dL_law_826 ?_
                                                refine k_scrld (pc := 827) C S dL_law_827 h (fun h => ?_)
                                                obtain ⟨z86, e86, h⟩ := bnd h
                                                refine k_callvI (pc := 828) C lk_L_103 (by decide) ix_X10 wo_X10 rfl rfl (kc_X10_had e86) dL_law_828 rfl rfl (Nat.le_of_ble_eq_true rfl) ?_
                                                refine k_aload_n (pc := 831) C dL_law_831 2 rfl ?_
                                                refine k_aload_n (pc := 832) C dL_law_832 0 rfl ?_
                                                refine k_iload_n (pc := 833) C dL_law_833 3 rfl ?_
                                                refine k_iconst (pc := 834) (v := (1 : Int32)) C dL_law_834 ciconst_1 ?_
                                                refine k_iadd (pc := 835) C dL_law_835 ?_
                                                refine k_scrld (pc := 836) C S dL_law_836 h (fun h => ?_)
                                                refine k_aload_n (pc := 837) C dL_law_837 0 rfl ?_
                                                refine k_iload_n (pc := 838) C dL_law_838 3 rfl ?_
                                                refine k_iconst (pc := 839) (v := (2 : Int32)) C dL_law_839 ciconst_2 ?_
                                                refine k_iadd (pc := 840) C dL_law_840 ?_
                                                refine k_scrld (pc := 841) C S dL_law_841 h (fun h => ?_)
                                                obtain ⟨z87, e87, h⟩ := bnd h
                                                refine k_callvI (pc := 842) C lk_L_106 (by decide) ix_X11 wo_X11 rfl rfl (kc_X11_had e87) dL_law_842 rfl rfl (Nat.le_of_ble_eq_true rfl) ?_
                                                refine k_icmp_eq (pc := 845) C 1089 dL_law_845 (by decide) h (fun c88 h => ?_) (fun c88 h => ?_)
                                                · refine k_sub [0, 1, 2, 3] rfl ?_
                                                  exact k_L_law_b1089 C E S hrec18 z87.2 x3 h
                                                · refine k_iconst (pc := 848) (v := (0 : Int32)) C dL_law_848 ciconst_0 ?_
                                                  exact no_some h
                                              · rw [if_neg c85] at h
                                                by_cases c89 : ((xs (Int32.toNatClampNeg x3)) &&& (31 : Int32)) = (22 : Int32)
                                                · rw [if_pos c89] at h
                                                  refine k_tabIn (pc := 33) C 850 (22 : Int32) dL_law_33 c89 (by decide) (by decide) rfl (by decide) ?_
                                                  refine k_aload_n (pc := 850) C dL_law_850 1 rfl ?_
                                                  refine k_aload_n (pc := 851) C dL_law_851 0 rfl ?_
                                                  refine k_iload_n (pc := 852) C dL_law_852 3 rfl ?_
                                                  refine k_iconst (pc := 853) (v := (1 : Int32)) C dL_law_853 ciconst_1 ?_
                                                  refine k_iadd (pc := 854) C dL_law_854 ?_
                                                  refine k_scrld (pc := 855) C S dL_law_855 h (fun h => ?_)
                                                  refine k_aload_n (pc := 856) C dL_law_856 0 rfl ?_
                                                  refine k_iload_n (pc := 857) C dL_law_857 3 rfl ?_
                                                  refine k_iconst (pc := 858) (v := (2 : Int32)) C dL_law_858 ciconst_2 ?_
                                                  refine k_iadd (pc := 859) C dL_law_859 ?_
                                                  refine k_scrld (pc := 860) C S dL_law_860 h (fun h => ?_)
                                                  obtain ⟨z90, e90, h⟩ := bnd h
                                                  refine k_callvI (pc := 861) C lk_L_107 (by decide) ix_X10 wo_X10 rfl rfl (kc_X10_fares e90) dL_law_861 rfl rfl (Nat.le_of_ble_eq_true rfl) ?_
                                                  refine k_aload_n (pc := 864) C dL_law_864 2 rfl ?_
                                                  refine k_aload_n (pc := 865) C dL_law_865 0 rfl ?_
                                                  refine k_iload_n (pc := 866) C dL_law_866 3 rfl ?_
                                                  refine k_iconst (pc := 867) (v := (1 : Int32)) C dL_law_867 ciconst_1 ?_
                                                  refine k_iadd (pc := 868) C dL_law_868 ?_
                                                  refine k_scrld (pc := 869) C S dL_law_869 h (fun h => ?_)
                                                  refine k_aload_n (pc := 870) C dL_law_870 0 rfl ?_
                                                  refine k_iload_n (pc := 871) C dL_law_871 3 rfl ?_
                                                  refine k_iconst (pc := 872) (v := (2 : Int32)) C dL_law_872 ciconst_2 ?_
                                                  refine k_iadd (pc := 873) C dL_law_873 ?_
                                                  refine k_scrld (pc := 874) C S dL_law_874 h (fun h => ?_)
                                                  obtain ⟨z91, e91, h⟩ := bnd h
                                                  refine k_callvI (pc := 875) C lk_L_110 (by decide) ix_X11 wo_X11 rfl rfl (kc_X11_fares e91) dL_law_875 rfl rfl (Nat.le_of_ble_eq_true rfl) ?_
                                                  refine k_icmp_eq (pc := 878) C 1089 dL_law_878 (by decide) h (fun c92 h => ?_) (fun c92 h => ?_)
                                                  · refine k_sub [0, 1, 2, 3] rfl ?_
                                                    exact k_L_law_b1089 C E S hrec18 z91.2 x3 h
                                                  · refine k_iconst (pc := 881) (v := (0 : Int32)) C dL_law_881 ciconst_0 ?_
                                                    exact no_some h
                                                · rw [if_neg c89] at h
                                                  by_cases c93 : ((xs (Int32.toNatClampNeg x3)) &&& (31 : Int32)) = (23 : Int32)
                                                  · rw [if_pos c93] at h
                                                    refine k_tabIn (pc := 33) C 883 (23 : Int32) dL_law_33 c93 (by decide) (by decide) rfl (by decide) ?_
                                                    refine k_aload_n (pc := 883) C dL_law_883 1 rfl ?_
                                                    refine k_aload_n (pc := 884) C dL_law_884 0 rfl ?_
                                                    refine k_iload_n (pc := 885) C dL_law_885 3 rfl ?_
                                                    refine k_iconst (pc := 886) (v := (1 : Int32)) C dL_law_886 ciconst_1 ?_
                                                    refine k_iadd (pc := 887) C dL_law_887 ?_
                                                    refine k_scrld (pc := 888) C S dL_law_888 h (fun h => ?_)
                                                    refine k_aload_n (pc := 889) C dL_law_889 0 rfl ?_
                                                    refine k_iload_n (pc := 890) C dL_law_890 3 rfl ?_
                                                    refine k_iconst (pc := 891) (v := (2 : Int32)) C dL_law_891 ciconst_2 ?_
                                                    refine k_iadd (pc := 892) C dL_law_892 ?_
                                                    refine k_scrld (pc := 893) C S dL_law_893 h (fun h => ?_)
                                                    refine k_aload_n (pc := 894) C dL_law_894 0 rfl ?_
                                                    refine k_iload_n (pc := 895) C dL_law_895 3 rfl ?_
                                                    refine k_iconst (pc := 896) (v := (3 : Int32)) C dL_law_896 ciconst_3 ?_
                                                    refine k_iadd (pc := 897) C dL_law_897 ?_
                                                    refine k_scrld (pc := 898) C S dL_law_898 h (fun h => ?_)
                                                    obtain ⟨z94, e94, h⟩ := bnd h
                                                    refine k_callvI (pc := 899) C lk_L_111 (by decide) ix_X10 wo_X10 rfl rfl (kc_X10_starts e94) dL_law_899 rfl rfl (Nat.le_of_ble_eq_true rfl) ?_
                                                    refine k_aload_n (pc := 902) C dL_law_902 2 rfl ?_
                                                    refine k_aload_n (pc := 903) C dL_law_903 0 rfl ?_
                                                    refine k_iload_n (pc := 904) C dL_law_904 3 rfl ?_
                                                    refine k_iconst (pc := 905) (v := (1 : Int32)) C dL_law_905 ciconst_1 ?_
                                                    refine k_iadd (pc := 906) C dL_law_906 ?_
                                                    refine k_scrld (pc := 907) C S dL_law_907 h (fun h => ?_)
                                                    refine k_aload_n (pc := 908) C dL_law_908 0 rfl ?_
                                                    refine k_iload_n (pc := 909) C dL_law_909 3 rfl ?_
                                                    refine k_iconst (pc := 910) (v := (2 : Int32)) C dL_law_910 ciconst_2 ?_
                                                    refine k_iadd (pc := 911) C dL_law_911 ?_
                                                    refine k_scrld (pc := 912) C S dL_law_912 h (fun h => ?_)
                                                    refine k_aload_n (pc := 913) C dL_law_913 0 rfl ?_
                                                    refine k_iload_n (pc := 914) C dL_law_914 3 rfl ?_
                                                    refine k_iconst (pc := 915) (v := (3 : Int32)) C dL_law_915 ciconst_3 ?_
                                                    refine k_iadd (pc := 916) C dL_law_916 ?_
                                                    refine k_scrld (pc := 917) C S dL_law_917 h (fun h => ?_)
                                                    obtain ⟨z95, e95, h⟩ := bnd h
                                                    refine k_callvI (pc := 918) C lk_L_114 (by decide) ix_X11 wo_X11 rfl rfl (kc_X11_starts e95) dL_law_918 rfl rfl (Nat.le_of_ble_eq_true rfl) ?_
                                                    refine k_icmp_eq (pc := 921) C 1089 dL_law_921 (by decide) h (fun c96 h => ?_) (fun c96 h => ?_)
                                                    · refine k_sub [0, 1, 2, 3] rfl ?_
                                                      exact k_L_law_b1089 C E S hrec18 z95.2 x3 h
                                                    · refine k_iconst (pc := 924) (v := (0 : Int32)) C dL_law_924 ciconst_0 ?_
                                                      exact no_some h
                                                  · rw [if_neg c93] at h
                                                    by_cases c97 : ((xs (Int32.toNatClampNeg x3)) &&& (31 : Int32)) = (24 : Int32)
                                                    · rw [if_pos c97] at h
                                                      refine k_tabIn (pc := 33) C 926 (24 : Int32) dL_law_33 c97 (by decide) (by decide) rfl (by decide) ?_
                                                      refine k_aload_n (pc := 926) C dL_law_926 1 rfl ?_
                                                      refine k_aload_n (pc := 927) C dL_law_927 0 rfl ?_
                                                      refine k_iload_n (pc := 928) C dL_law_928 3 rfl ?_
                                                      refine k_iconst (pc := 929) (v := (1 : Int32)) C dL_law_929 ciconst_1 ?_
                                                      refine k_iadd (pc := 930) C dL_law_930 ?_
                                                      refine k_scrld (pc := 931) C S dL_law_931 h (fun h => ?_)
                                                      refine k_aload_n (pc := 932) C dL_law_932 0 rfl ?_
                                                      refine k_iload_n (pc := 933) C dL_law_933 3 rfl ?_
                                                      refine k_iconst (pc := 934) (v := (2 : Int32)) C dL_law_934 ciconst_2 ?_
                                                      refine k_iadd (pc := 935) C dL_law_935 ?_
                                                      refine k_scrld (pc := 936) C S dL_law_936 h (fun h => ?_)
                                                      obtain ⟨z98, e98, h⟩ := bnd h
                                                      refine k_callvI (pc := 937) C lk_L_115 (by decide) ix_X10 wo_X10 rfl rfl (kc_X10_years e98) dL_law_937 rfl rfl (Nat.le_of_ble_eq_true rfl) ?_
                                                      refine k_aload_n (pc := 940) C dL_law_940 2 rfl ?_
                                                      refine k_aload_n (pc := 941) C dL_law_941 0 rfl ?_
                                                      refine k_iload_n (pc := 942) C dL_law_942 3 rfl ?_
                                                      refine k_iconst (pc := 943) (v := (1 : Int32)) C dL_law_943 ciconst_1 ?_
                                                      refine k_iadd (pc := 944) C dL_law_944 ?_
                                                      refine k_scrld (pc := 945) C S dL_law_945 h (fun h => ?_)
                                                      refine k_aload_n (pc := 946) C dL_law_946 0 rfl ?_
                                                      refine k_iload_n (pc := 947) C dL_law_947 3 rfl ?_
                                                      refine k_iconst (pc := 948) (v := (2 : Int32)) C dL_law_948 ciconst_2 ?_
                                                      refine k_iadd (pc := 949) C dL_law_949 ?_
                                                      refine k_scrld (pc := 950) C S dL_law_950 h (fun h => ?_)
                                                      obtain ⟨z99, e99, h⟩ := bnd h
                                                      refine k_callvI (pc := 951) C lk_L_118 (by decide) ix_X11 wo_X11 rfl rfl (kc_X11_years e99) dL_law_951 rfl rfl (Nat.le_of_ble_eq_true rfl) ?_
                                                      refine k_icmp_eq (pc := 954) C 1089 dL_law_954 (by decide) h (fun c100 h => ?_) (fun c100 h => ?_)
                                                      · refine k_sub [0, 1, 2, 3] rfl ?_
                                                        exact k_L_law_b1089 C E S hrec18 z99.2 x3 h
                                                      · refine k_iconst (pc := 957) (v := (0 : Int32)) C dL_law_957 ciconst_0 ?_
                                                        exact no_some h
                                                    · rw [if_neg c97] at h
                                                      by_cases c101 : ((xs (Int32.toNatClampNeg x3)) &&& (31 : Int32)) = (25 : Int32)
                                                      · rw [if_pos c101] at h
                                                        refine k_tabIn (pc := 33) C 959 (25 : Int32) dL_law_33 c101 (by decide) (by decide) rfl (by decide) ?_
                                                        refine k_aload_n (pc := 959) C dL_law_959 1 rfl ?_
                                                        refine k_aload_n (pc := 960) C dL_law_960 0 rfl ?_
                                                        refine k_iload_n (pc := 961) C dL_law_961 3 rfl ?_
                                                        refine k_iconst (pc := 962) (v := (1 : Int32)) C dL_law_962 ciconst_1 ?_
                                                        refine k_iadd (pc := 963) C dL_law_963 ?_
                                                        refine k_scrld (pc := 964) C S dL_law_964 h (fun h => ?_)
                                                        obtain ⟨z102, e102, h⟩ := bnd h
                                                        refine k_callvJ (pc := 965) C lk_L_119 (by decide) ix_X10 wo_X10 rfl rfl (kc_X10_part e102) dL_law_965 rfl rfl (Nat.le_of_ble_eq_true rfl) ?_
                                                        refine k_aload_n (pc := 968) C dL_law_968 2 rfl ?_
                                                        refine k_aload_n (pc := 969) C dL_law_969 0 rfl ?_
                                                        refine k_iload_n (pc := 970) C dL_law_970 3 rfl ?_
                                                        refine k_iconst (pc := 971) (v := (1 : Int32)) C dL_law_971 ciconst_1 ?_
                                                        refine k_iadd (pc := 972) C dL_law_972 ?_
                                                        refine k_scrld (pc := 973) C S dL_law_973 h (fun h => ?_)
                                                        obtain ⟨z103, e103, h⟩ := bnd h
                                                        refine k_callvJ (pc := 974) C lk_L_123 (by decide) ix_X11 wo_X11 rfl rfl (kc_X11_part e103) dL_law_974 rfl rfl (Nat.le_of_ble_eq_true rfl) ?_
                                                        refine k_lcmp (pc := 977) C dL_law_977 ?_
                                                        refine k_if_eq (pc := 978) C 1089 dL_law_978 (by decide) h (fun c104 h => ?_) (fun c104 h => ?_)
                                                        · refine k_sub [0, 1, 2, 3] rfl ?_
                                                          exact k_L_law_b1089 C E S hrec18 z103.2 x3 h
                                                        · refine k_iconst (pc := 981) (v := (0 : Int32)) C dL_law_981 ciconst_0 ?_
                                                          exact no_some h
                                                      · rw [if_neg c101] at h
                                                        by_cases c105 : ((xs (Int32.toNatClampNeg x3)) &&& (31 : Int32)) = (26 : Int32)
                                                        · rw [if_pos c105] at h
                                                          refine k_tabIn (pc := 33) C 983 (26 : Int32) dL_law_33 c105 (by decide) (by decide) rfl (by decide) ?_
                                                          refine k_aload_n (pc := 983) C dL_law_983 1 rfl ?_
                                                          refine k_aload_n (pc := 984) C dL_law_984 0 rfl ?_
                                                          refine k_iload_n (pc := 985) C dL_law_985 3 rfl ?_
                                                          refine k_iconst (pc := 986) (v := (1 : Int32)) C dL_law_986 ciconst_1 ?_
                                                          refine k_iadd (pc := 987) C dL_law_987 ?_
                                                          refine k_scrld (pc := 988) C S dL_law_988 h (fun h => ?_)
                                                          obtain ⟨z106, e106, h⟩ := bnd h
                                                          refine k_callvI (pc := 989) C lk_L_124 (by decide) ix_X10 wo_X10 rfl rfl (kc_X10_image e106) dL_law_989 rfl rfl (Nat.le_of_ble_eq_true rfl) ?_
                                                          refine k_aload_n (pc := 992) C dL_law_992 2 rfl ?_
                                                          refine k_aload_n (pc := 993) C dL_law_993 0 rfl ?_
                                                          refine k_iload_n (pc := 994) C dL_law_994 3 rfl ?_
                                                          refine k_iconst (pc := 995) (v := (1 : Int32)) C dL_law_995 ciconst_1 ?_
                                                          refine k_iadd (pc := 996) C dL_law_996 ?_
                                                          refine k_scrld (pc := 997) C S dL_law_997 h (fun h => ?_)
                                                          obtain ⟨z107, e107, h⟩ := bnd h
                                                          refine k_callvI (pc := 998) C lk_L_127 (by decide) ix_X11 wo_X11 rfl rfl (kc_X11_image e107) dL_law_998 rfl rfl (Nat.le_of_ble_eq_true rfl) ?_
                                                          refine k_icmp_eq (pc := 1001) C 1089 dL_law_1001 (by decide) h (fun c108 h => ?_) (fun c108 h => ?_)
                                                          · refine k_sub [0, 1, 2, 3] rfl ?_
                                                            exact k_L_law_b1089 C E S hrec18 z107.2 x3 h
                                                          · refine k_iconst (pc := 1004) (v := (0 : Int32)) C dL_law_1004 ciconst_0 ?_
                                                            exact no_some h
                                                        · rw [if_neg c105] at h
                                                          by_cases c109 : ((xs (Int32.toNatClampNeg x3)) &&& (31 : Int32)) = (27 : Int32)
                                                          · rw [if_pos c109] at h
                                                            refine k_tabIn (pc := 33) C 1006 (27 : Int32) dL_law_33 c109 (by decide) (by decide) rfl (by decide) ?_
                                                            refine k_aload_n (pc := 1006) C dL_law_1006 1 rfl ?_
                                                            refine k_aload_n (pc := 1007) C dL_law_1007 0 rfl ?_
                                                            refine k_iload_n (pc := 1008) C dL_law_1008 3 rfl ?_
                                                            refine k_iconst (pc := 1009) (v := (1 : Int32)) C dL_law_1009 ciconst_1 ?_
                                                            refine k_iadd (pc := 1010) C dL_law_1010 ?_
                                                            refine k_scrld (pc := 1011) C S dL_law_1011 h (fun h => ?_)
                                                            obtain ⟨z110, e110, h⟩ := bnd h
                                                            refine k_callvI (pc := 1012) C lk_L_128 (by decide) ix_X10 wo_X10 rfl rfl (kc_X10_from e110) dL_law_1012 rfl rfl (Nat.le_of_ble_eq_true rfl) ?_
                                                            refine k_aload_n (pc := 1015) C dL_law_1015 2 rfl ?_
                                                            refine k_aload_n (pc := 1016) C dL_law_1016 0 rfl ?_
                                                            refine k_iload_n (pc := 1017) C dL_law_1017 3 rfl ?_
                                                            refine k_iconst (pc := 1018) (v := (1 : Int32)) C dL_law_1018 ciconst_1 ?_
                                                            refine k_iadd (pc := 1019) C dL_law_1019 ?_
                                                            refine k_scrld (pc := 1020) C S dL_law_1020 h (fun h => ?_)
                                                            obtain ⟨z111, e111, h⟩ := bnd h
                                                            refine k_callvI (pc := 1021) C lk_L_131 (by decide) ix_X11 wo_X11 rfl rfl (kc_X11_from e111) dL_law_1021 rfl rfl (Nat.le_of_ble_eq_true rfl) ?_
                                                            refine k_icmp_eq (pc := 1024) C 1089 dL_law_1024 (by decide) h (fun c112 h => ?_) (fun c112 h => ?_)
                                                            · refine k_sub [0, 1, 2, 3] rfl ?_
                                                              exact k_L_law_b1089 C E S hrec18 z111.2 x3 h
                                                            · refine k_iconst (pc := 1027) (v := (0 : Int32)) C dL_law_1027 ciconst_0 ?_
                                                              exact no_some h
                                                          · rw [if_neg c109] at h
                                                            by_cases c113 : ((xs (Int32.toNatClampNeg x3)) &&& (31 : Int32)) = (28 : Int32)
                                                            · rw [if_pos c113] at h
                                                              refine k_tabIn (pc := 33) C 1029 (28 : Int32) dL_law_33 c113 (by decide) (by decide) rfl (by decide) ?_
                                                              refine k_aload_n (pc := 1029) C dL_law_1029 1 rfl ?_
                                                              refine k_aload_n (pc := 1030) C dL_law_1030 0 rfl ?_
                                                              refine k_iload_n (pc := 1031) C dL_law_1031 3 rfl ?_
                                                              refine k_iconst (pc := 1032) (v := (1 : Int32)) C dL_law_1032 ciconst_1 ?_
                                                              refine k_iadd (pc := 1033) C dL_law_1033 ?_
                                                              refine k_scrld (pc := 1034) C S dL_law_1034 h (fun h => ?_)
                                                              obtain ⟨z114, e114, h⟩ := bnd h
                                                              refine k_callvI (pc := 1035) C lk_L_132 (by decide) ix_X10 wo_X10 rfl rfl (kc_X10_status e114) dL_law_1035 rfl rfl (Nat.le_of_ble_eq_true rfl) ?_
                                                              refine k_aload_n (pc := 1038) C dL_law_1038 2 rfl ?_
                                                              refine k_aload_n (pc := 1039) C dL_law_1039 0 rfl ?_
                                                              refine k_iload_n (pc := 1040) C dL_law_1040 3 rfl ?_
                                                              refine k_iconst (pc := 1041) (v := (1 : Int32)) C dL_law_1041 ciconst_1 ?_
                                                              refine k_iadd (pc := 1042) C dL_law_1042 ?_
                                                              refine k_scrld (pc := 1043) C S dL_law_1043 h (fun h => ?_)
                                                              obtain ⟨z115, e115, h⟩ := bnd h
                                                              refine k_callvI (pc := 1044) C lk_L_135 (by decide) ix_X11 wo_X11 rfl rfl (kc_X11_status e115) dL_law_1044 rfl rfl (Nat.le_of_ble_eq_true rfl) ?_
                                                              refine k_icmp_eq (pc := 1047) C 1089 dL_law_1047 (by decide) h (fun c116 h => ?_) (fun c116 h => ?_)
                                                              · refine k_sub [0, 1, 2, 3] rfl ?_
                                                                exact k_L_law_b1089 C E S hrec18 z115.2 x3 h
                                                              · refine k_iconst (pc := 1050) (v := (0 : Int32)) C dL_law_1050 ciconst_0 ?_
                                                                exact no_some h
                                                            · rw [if_neg c113] at h
                                                              by_cases c117 : ((xs (Int32.toNatClampNeg x3)) &&& (31 : Int32)) = (29 : Int32)
                                                              · rw [if_pos c117] at h
                                                                refine k_tabIn (pc := 33) C 1052 (29 : Int32) dL_law_33 c117 (by decide) (by decide) rfl (by decide) ?_
                                                                refine k_aload_n (pc := 1052) C dL_law_1052 1 rfl ?_
                                                                refine k_aload_n (pc := 1053) C dL_law_1053 0 rfl ?_
                                                                refine k_iload_n (pc := 1054) C dL_law_1054 3 rfl ?_
                                                                refine k_iconst (pc := 1055) (v := (1 : Int32)) C dL_law_1055 ciconst_1 ?_
                                                                refine k_iadd (pc := 1056) C dL_law_1056 ?_
                                                                refine k_scrld (pc := 1057) C S dL_law_1057 h (fun h => ?_)
                                                                obtain ⟨z118, e118, h⟩ := bnd h
                                                                refine k_callvI (pc := 1058) C lk_L_136 (by decide) ix_X10 wo_X10 rfl rfl (kc_X10_count e118) dL_law_1058 rfl rfl (Nat.le_of_ble_eq_true rfl) ?_
                                                                refine k_aload_n (pc := 1061) C dL_law_1061 2 rfl ?_
                                                                refine k_aload_n (pc := 1062) C dL_law_1062 0 rfl ?_
                                                                refine k_iload_n (pc := 1063) C dL_law_1063 3 rfl ?_
                                                                refine k_iconst (pc := 1064) (v := (1 : Int32)) C dL_law_1064 ciconst_1 ?_
                                                                refine k_iadd (pc := 1065) C dL_law_1065 ?_
                                                                refine k_scrld (pc := 1066) C S dL_law_1066 h (fun h => ?_)
                                                                obtain ⟨z119, e119, h⟩ := bnd h
                                                                refine k_callvI (pc := 1067) C lk_L_139 (by decide) ix_X11 wo_X11 rfl rfl (kc_X11_count e119) dL_law_1067 rfl rfl (Nat.le_of_ble_eq_true rfl) ?_
                                                                refine k_icmp_eq (pc := 1070) C 1089 dL_law_1070 (by decide) h (fun c120 h => ?_) (fun c120 h => ?_)
                                                                · refine k_sub [0, 1, 2, 3] rfl ?_
                                                                  exact k_L_law_b1089 C E S hrec18 z119.2 x3 h
                                                                · refine k_iconst (pc := 1073) (v := (0 : Int32)) C dL_law_1073 ciconst_0 ?_
                                                                  exact no_some h
                                                              · rw [if_neg c117] at h
                                                                by_cases c121 : ((xs (Int32.toNatClampNeg x3)) &&& (31 : Int32)) = (30 : Int32)
                                                                · rw [if_pos c121] at h
                                                                  refine k_tabIn (pc := 33) C 1075 (30 : Int32) dL_law_33 c121 (by decide) (by decide) rfl (by decide) ?_
                                                                  refine k_aload_n (pc := 1075) C dL_law_1075 1 rfl ?_
                                                                  obtain ⟨z122, e122, h⟩ := bnd h
                                                                  refine k_callvJ (pc := 1076) C lk_L_140 (by decide) ix_X10 wo_X10 rfl rfl (kc_X10_digest e122) dL_law_1076 rfl rfl (Nat.le_of_ble_eq_true rfl) ?_
                                                                  refine k_aload_n (pc := 1079) C dL_law_1079 2 rfl ?_
                                                                  obtain ⟨z123, e123, h⟩ := bnd h
                                                                  refine k_callvJ (pc := 1080) C lk_L_144 (by decide) ix_X11 wo_X11 rfl rfl (kc_X11_digest e123) dL_law_1080 rfl rfl (Nat.le_of_ble_eq_true rfl) ?_
                                                                  refine k_lcmp (pc := 1083) C dL_law_1083 ?_
                                                                  refine k_if_eq (pc := 1084) C 1089 dL_law_1084 (by decide) h (fun c124 h => ?_) (fun c124 h => ?_)
                                                                  · refine k_sub [0, 1, 2, 3] rfl ?_
                                                                    exact k_L_law_b1089 C E S hrec18 z122.2 x3 h
                                                                  · refine k_iconst (pc := 1087) (v := (0 : Int32)) C dL_law_1087 ciconst_0 ?_
                                                                    exact no_some h
                                                                · rw [if_neg c121] at h
                                                                  have n1 : ((xs (Int32.toNatClampNeg x3)) &&& (31 : Int32)).toInt ≠ 0 := ne_toInt c1
                                                                  have n5 : ((xs (Int32.toNatClampNeg x3)) &&& (31 : Int32)).toInt ≠ 1 := ne_toInt c5
                                                                  have n9 : ((xs (Int32.toNatClampNeg x3)) &&& (31 : Int32)).toInt ≠ 2 := ne_toInt c9
                                                                  have n13 : ((xs (Int32.toNatClampNeg x3)) &&& (31 : Int32)).toInt ≠ 3 := ne_toInt c13
                                                                  have n17 : ((xs (Int32.toNatClampNeg x3)) &&& (31 : Int32)).toInt ≠ 4 := ne_toInt c17
                                                                  have n21 : ((xs (Int32.toNatClampNeg x3)) &&& (31 : Int32)).toInt ≠ 5 := ne_toInt c21
                                                                  have n25 : ((xs (Int32.toNatClampNeg x3)) &&& (31 : Int32)).toInt ≠ 6 := ne_toInt c25
                                                                  have n29 : ((xs (Int32.toNatClampNeg x3)) &&& (31 : Int32)).toInt ≠ 7 := ne_toInt c29
                                                                  have n33 : ((xs (Int32.toNatClampNeg x3)) &&& (31 : Int32)).toInt ≠ 8 := ne_toInt c33
                                                                  have n37 : ((xs (Int32.toNatClampNeg x3)) &&& (31 : Int32)).toInt ≠ 9 := ne_toInt c37
                                                                  have n41 : ((xs (Int32.toNatClampNeg x3)) &&& (31 : Int32)).toInt ≠ 10 := ne_toInt c41
                                                                  have n45 : ((xs (Int32.toNatClampNeg x3)) &&& (31 : Int32)).toInt ≠ 11 := ne_toInt c45
                                                                  have n49 : ((xs (Int32.toNatClampNeg x3)) &&& (31 : Int32)).toInt ≠ 12 := ne_toInt c49
                                                                  have n53 : ((xs (Int32.toNatClampNeg x3)) &&& (31 : Int32)).toInt ≠ 13 := ne_toInt c53
                                                                  have n57 : ((xs (Int32.toNatClampNeg x3)) &&& (31 : Int32)).toInt ≠ 14 := ne_toInt c57
                                                                  have n61 : ((xs (Int32.toNatClampNeg x3)) &&& (31 : Int32)).toInt ≠ 15 := ne_toInt c61
                                                                  have n65 : ((xs (Int32.toNatClampNeg x3)) &&& (31 : Int32)).toInt ≠ 16 := ne_toInt c65
                                                                  have n69 : ((xs (Int32.toNatClampNeg x3)) &&& (31 : Int32)).toInt ≠ 17 := ne_toInt c69
                                                                  have n73 : ((xs (Int32.toNatClampNeg x3)) &&& (31 : Int32)).toInt ≠ 18 := ne_toInt c73
                                                                  have n77 : ((xs (Int32.toNatClampNeg x3)) &&& (31 : Int32)).toInt ≠ 19 := ne_toInt c77
                                                                  have n81 : ((xs (Int32.toNatClampNeg x3)) &&& (31 : Int32)).toInt ≠ 20 := ne_toInt c81
                                                                  have n85 : ((xs (Int32.toNatClampNeg x3)) &&& (31 : Int32)).toInt ≠ 21 := ne_toInt c85
                                                                  have n89 : ((xs (Int32.toNatClampNeg x3)) &&& (31 : Int32)).toInt ≠ 22 := ne_toInt c89
                                                                  have n93 : ((xs (Int32.toNatClampNeg x3)) &&& (31 : Int32)).toInt ≠ 23 := ne_toInt c93
                                                                  have n97 : ((xs (Int32.toNatClampNeg x3)) &&& (31 : Int32)).toInt ≠ 24 := ne_toInt c97
                                                                  have n101 : ((xs (Int32.toNatClampNeg x3)) &&& (31 : Int32)).toInt ≠ 25 := ne_toInt c101
                                                                  have n105 : ((xs (Int32.toNatClampNeg x3)) &&& (31 : Int32)).toInt ≠ 26 := ne_toInt c105
                                                                  have n109 : ((xs (Int32.toNatClampNeg x3)) &&& (31 : Int32)).toInt ≠ 27 := ne_toInt c109
                                                                  have n113 : ((xs (Int32.toNatClampNeg x3)) &&& (31 : Int32)).toInt ≠ 28 := ne_toInt c113
                                                                  have n117 : ((xs (Int32.toNatClampNeg x3)) &&& (31 : Int32)).toInt ≠ 29 := ne_toInt c117
                                                                  have n121 : ((xs (Int32.toNatClampNeg x3)) &&& (31 : Int32)).toInt ≠ 30 := ne_toInt c121
                                                                  refine k_tabOut (pc := 33) C 1089 dL_law_33 (by omega) (by decide) ?_
                                                                  refine k_sub [0, 1, 2, 3] rfl ?_
                                                                  exact k_L_law_b1089 C E S hrec18 T x3 h
theorem k_L_law_l18 {B : KB} {X : KE} {b L : Nat} {xs : Nat → Int32} (C : Cx B X "GriefEngineLaw" cL_law 4 20) (E : Lw B X b) (S : Sx B X b L xs) : ∀ (n : Nat) (T : TT) (x3 : Int32) (h : m_L_law_l18 L xs n T x3 = some ()), Wk B X 4 T 18 [(0, .ref b), (1, .ref (B.1 4 0)), (2, .ref (B.1 10 0)), (3, .int x3)] [] := by
  intro n
  induction n with
  | zero =>
    intro T x3 h
    exact no_some h
  | succ n ih =>
    intro T x3 h
    exact k_L_law_h18 C E S (fun T x3 h => ih T x3 h) T x3 h
