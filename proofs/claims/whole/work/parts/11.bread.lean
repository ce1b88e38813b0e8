set_option maxRecDepth 100000 in
set_option maxHeartbeats 2000000 in
theorem B_X3_take_0 {d : Nat} {Q : z_RT} {v : z_V} {a1 : Int32}
    (h : z_Wp (z_C d) 0 k_X3_take Q 3 [some (vR 3 0), some (vI a1), some (vI 24)] [] v) :
    z_Wp (z_C d) 0 k_X3_take Q 0 [some (vR 3 0), some (vI a1), none] [] v := z_run [3] 400 h
set_option maxRecDepth 100000 in
set_option maxHeartbeats 2000000 in
theorem B_X3_take_3 {d : Nat} {Q : z_RT} {v : z_V} {x1 : Int32} {x2 : Int32}
    (h : ((x2 < 0 → Q v none) ∧ (¬ x2 < 0 → ((300 ≤ (gI v 3 0 1) → z_Wp (z_C d) 0 k_X3_take Q 3 [some (vR 3 0), some (vI x1), some (vI (x2 + (-8)))] [] v) ∧ (¬ 300 ≤ (gI v 3 0 1) → z_if (z_in (gI v 3 0 1) 300) (z_Wp (z_C d) 0 k_X3_take Q 3 [some (vR 3 0), some (vI x1), some (vI (x2 + (-8)))] [] (pI (pI v 400 0 (n_ (gI v 3 0 1)) (((i_shr x1 x2).toInt8.toInt32).toInt8.toInt32)) 3 0 1 ((gI v 3 0 1) + 1)))))))) :
    z_Wp (z_C d) 0 k_X3_take Q 3 [some (vR 3 0), some (vI x1), some (vI x2)] [] v := z_run [3] 400 h
set_option maxRecDepth 100000 in
set_option maxHeartbeats 2000000 in
theorem B_X3_read_0 {d : Nat} {Q : z_RT} {v : z_V} {n1 : Nat}
    (h : (∃ j1 : Nat, gJ (pJ v (n1 + 1)) = j1 + 1 ∧ z_C d m_X6_clear [vR 6 j1] (pJ v (n1 + 1)) (fun w2 o3 => o3 = none ∧ z_C d m_X3_advance [vR 3 0] (pI (pI (pI (pI w2 3 0 2 1) 3 0 3 0) 3 0 4 (-1)) 3 0 10 0) (fun w4 o5 => o5 = none ∧ z_Wp (z_C d) 4 k_X3_read Q 40 [some (vR 3 0), some (vR 6 n1), some (vI 1), some (vI 0)] [] w4)))) :
    z_Wp (z_C d) 4 k_X3_read Q 0 [some (vR 3 0), some (vR 6 n1), none, none] [] v := z_run [40] 400 h
set_option maxRecDepth 100000 in
set_option maxHeartbeats 2000000 in
theorem B_X3_read_40 {d : Nat} {Q : z_RT} {v : z_V} {u1 : Option z_AV} {x2 : Int32} {x3 : Int32}
    (h : ((300 < x3 → z_if (z_01 x2) (Q (pI v 3 0 1 0) (some (vI x2)))) ∧ (¬ 300 < x3 → ((x2 = 0 → z_if (z_01 x2) (Q (pI v 3 0 1 0) (some (vI x2)))) ∧ (¬ x2 = 0 → (((gI v 3 0 7) = 41 → z_if (z_01 x2) (Q (pI v 3 0 1 0) (some (vI x2)))) ∧ (¬ (gI v 3 0 7) = 41 → z_C d m_X3_clause [vR 3 0] v (fun w1 o2 => ∃ i3 : Int32, o2 = some (vI i3) ∧ z_Wp (z_C d) 4 k_X3_read Q 40 [some (vR 3 0), none, some (vI i3), some (vI (x3 + 1))] [] w1)))))))) :
    z_Wp (z_C d) 4 k_X3_read Q 40 [some (vR 3 0), u1, some (vI x2), some (vI x3)] [] v := z_run [40] 400 h
set_option maxRecDepth 100000 in
set_option maxHeartbeats 2000000 in
theorem B_X3_wrong_0 {d : Nat} {Q : z_RT} {v : z_V} {a1 : Int32}
    (h : Q (pI (pI v 3 0 3 a1) 3 0 4 (gI v 3 0 9)) (some (vI 0))) :
    z_Wp (z_C d) 4 k_X3_wrong Q 0 [some (vR 3 0), some (vI a1)] [] v := z_run [] 400 h
set_option maxRecDepth 100000 in
set_option maxHeartbeats 2000000 in
theorem B_X3_expect_0 {d : Nat} {Q : z_RT} {v : z_V} {a1 : Int32}
    (h : (((gI v 3 0 7) = a1 → z_C d m_X3_advance [vR 3 0] v (fun w1 o2 => o2 = none ∧ Q w1 (some (vI 1)))) ∧ (¬ (gI v 3 0 7) = a1 → z_C d m_X3_wrong [vR 3 0, vI 1] v (fun w3 o4 => ∃ i5 : Int32, o4 = some (vI i5) ∧ z_if (z_01 i5) (Q w3 (some (vI i5))))))) :
    z_Wp (z_C d) 4 k_X3_expect Q 0 [some (vR 3 0), some (vI a1)] [] v := z_run [] 400 h
set_option maxRecDepth 100000 in
set_option maxHeartbeats 2000000 in
theorem B_X3_clause_0 {d : Nat} {Q : z_RT} {v : z_V}
    (h : z_C d m_X3_startsClause [vI (gI v 3 0 7)] v (fun w1 o2 => ∃ i3 : Int32, o2 = some (vI i3) ∧ ((¬ i3 = 0 → (((gI v 3 0 7) = 0 → (((1 : Int32) = 0 → z_Wp (z_C d) 4 k_X3_clause Q 54 [some (vR 3 0), some (vI (gI v 3 0 7)), some (vI 1), none] [] w1) ∧ (¬ (1 : Int32) = 0 → (∃ j4 : Nat, gJ w1 = j4 + 1 ∧ z_C d m_X6_has [vR 6 j4, vI (gI v 3 0 7)] w1 (fun w5 o6 => ∃ i7 : Int32, o6 = some (vI i7) ∧ ((i7 = 0 → z_Wp (z_C d) 4 k_X3_clause Q 54 [some (vR 3 0), some (vI (gI v 3 0 7)), some (vI 1), none] [] w5) ∧ (¬ i7 = 0 → z_C d m_X3_wrong [vR 3 0, vI 4] w5 (fun w8 o9 => ∃ i10 : Int32, o9 = some (vI i10) ∧ z_if (z_01 i10) (Q w8 (some (vI i10))))))))))) ∧ (¬ (gI v 3 0 7) = 0 → ((¬ (gI v 3 0 7) = 1 → (((0 : Int32) = 0 → z_Wp (z_C d) 4 k_X3_clause Q 54 [some (vR 3 0), some (vI (gI v 3 0 7)), some (vI 0), none] [] w1) ∧ (¬ (0 : Int32) = 0 → (∃ j11 : Nat, gJ w1 = j11 + 1 ∧ z_C d m_X6_has [vR 6 j11, vI (gI v 3 0 7)] w1 (fun w12 o13 => ∃ i14 : Int32, o13 = some (vI i14) ∧ ((i14 = 0 → z_Wp (z_C d) 4 k_X3_clause Q 54 [some (vR 3 0), some (vI (gI v 3 0 7)), some (vI 0), none] [] w12) ∧ (¬ i14 = 0 → z_C d m_X3_wrong [vR 3 0, vI 4] w12 (fun w15 o16 => ∃ i17 : Int32, o16 = some (vI i17) ∧ z_if (z_01 i17) (Q w15 (some (vI i17))))))))))) ∧ ((gI v 3 0 7) = 1 → (((1 : Int32) = 0 → z_Wp (z_C d) 4 k_X3_clause Q 54 [some (vR 3 0), some (vI (gI v 3 0 7)), some (vI 1), none] [] w1) ∧ (¬ (1 : Int32) = 0 → (∃ j18 : Nat, gJ w1 = j18 + 1 ∧ z_C d m_X6_has [vR 6 j18, vI (gI v 3 0 7)] w1 (fun w19 o20 => ∃ i21 : Int32, o20 = some (vI i21) ∧ ((i21 = 0 → z_Wp (z_C d) 4 k_X3_clause Q 54 [some (vR 3 0), some (vI (gI v 3 0 7)), some (vI 1), none] [] w19) ∧ (¬ i21 = 0 → z_C d m_X3_wrong [vR 3 0, vI 4] w19 (fun w22 o23 => ∃ i24 : Int32, o23 = some (vI i24) ∧ z_if (z_01 i24) (Q w22 (some (vI i24))))))))))))))) ∧ (i3 = 0 → z_C d m_X3_wrong [vR 3 0, vI 1] w1 (fun w25 o26 => ∃ i27 : Int32, o26 = some (vI i27) ∧ z_if (z_01 i27) (Q w25 (some (vI i27)))))))) :
    z_Wp (z_C d) 4 k_X3_clause Q 0 [some (vR 3 0), none, none, none] [] v := z_run [54] 400 h
set_option maxRecDepth 100000 in
set_option maxHeartbeats 2000000 in
theorem B_X3_clause_54 {d : Nat} {Q : z_RT} {v : z_V} {x1 : Int32} {x2 : Int32} {u3 : Option z_AV}
    (h : (∃ j1 : Nat, gJ v = j1 + 1 ∧ (((gI v 6 j1 5) < 24 → z_C d m_X3_advance [vR 3 0] v (fun w2 o3 => o3 = none ∧ ((¬ x2 = 0 → (∃ j4 : Nat, gJ (pI w2 3 0 6 x1) = j4 + 1 ∧ z_C d m_X3_sum [vR 3 0, vI 0] (pI w2 3 0 6 x1) (fun w5 o6 => ∃ i7 : Int32, o6 = some (vI i7) ∧ ((¬ i7 = 0 → (∃ j8 : Nat, gJ w5 = j8 + 1 ∧ z_C d m_X6_addLaw [vR 6 j8, vI x1, vI (gI w2 6 j4 4)] w5 (fun w9 o10 => o10 = none ∧ z_C d m_X3_expect [vR 3 0, vI 40] w9 (fun w11 o12 => ∃ i13 : Int32, o12 = some (vI i13) ∧ z_if (z_01 i13) (Q w11 (some (vI i13))))))) ∧ (i7 = 0 → Q w5 (some (vI 0))))))) ∧ (x2 = 0 → z_C d m_X3_doClause [vR 3 0, vI x1] w2 (fun w14 o15 => ∃ i16 : Int32, o15 = some (vI i16) ∧ ((i16 = 0 → Q w14 (some (vI 0))) ∧ (¬ i16 = 0 → z_C d m_X3_expect [vR 3 0, vI 40] w14 (fun w17 o18 => ∃ i19 : Int32, o18 = some (vI i19) ∧ ((i19 = 0 → Q w17 (some (vI 0))) ∧ (¬ i19 = 0 → Q w17 (some (vI 1)))))))))))) ∧ (¬ (gI v 6 j1 5) < 24 → z_C d m_X3_wrong [vR 3 0, vI 6] v (fun w20 o21 => ∃ i22 : Int32, o21 = some (vI i22) ∧ z_if (z_01 i22) (Q w20 (some (vI i22)))))))) :
    z_Wp (z_C d) 4 k_X3_clause Q 54 [some (vR 3 0), some (vI x1), some (vI x2), u3] [] v := z_run [54] 400 h
set_option maxRecDepth 100000 in
set_option maxHeartbeats 2000000 in
theorem B_X3_startsClause_0 {d : Nat} {Q : z_RT} {v : z_V} {a0 : Int32}
    (h : ((a0 < 0 → Q v (some (vI 0))) ∧ (¬ a0 < 0 → ((8 < a0 → Q v (some (vI 0))) ∧ (¬ 8 < a0 → ((a0 = 3 → Q v (some (vI 0))) ∧ (¬ a0 = 3 → ((a0 = 5 → Q v (some (vI 0))) ∧ (¬ a0 = 5 → Q v (some (vI 1))))))))))) :
    z_Wp (z_C d) 4 k_X3_startsClause Q 0 [some (vI a0)] [] v := z_run [] 400 h
set_option maxRecDepth 100000 in
set_option maxHeartbeats 2000000 in
theorem B_X3_doClause_0 {d : Nat} {Q : z_RT} {v : z_V} {a1 : Int32}
    (h : z_C d m_X3_number [vR 3 0, vI a1] v (fun w1 o2 => ∃ i3 : Int32, o2 = some (vI i3) ∧ ((¬ i3 = 0 → ((a1 = 2 → z_Wp (z_C d) 4 k_X3_doClause Q 27 [some (vR 3 0), some (vI a1), some (vI (gI v 3 0 8)), some (vI 0)] [] w1) ∧ (¬ a1 = 2 → ((¬ a1 = 4 → (∃ j4 : Nat, gJ w1 = j4 + 1 ∧ z_C d m_X6_add [vR 6 j4, vI a1, vI (gI v 3 0 8), vI 0] w1 (fun w5 o6 => o6 = none ∧ Q w5 (some (vI 1))))) ∧ (a1 = 4 → z_Wp (z_C d) 4 k_X3_doClause Q 27 [some (vR 3 0), some (vI a1), some (vI (gI v 3 0 8)), some (vI 0)] [] w1))))) ∧ (i3 = 0 → Q w1 (some (vI 0)))))) :
    z_Wp (z_C d) 4 k_X3_doClause Q 0 [some (vR 3 0), some (vI a1), none, none] [] v := z_run [27] 400 h
set_option maxRecDepth 100000 in
set_option maxHeartbeats 2000000 in
theorem B_X3_doClause_27 {d : Nat} {Q : z_RT} {v : z_V} {x1 : Int32} {x2 : Int32} {u3 : Option z_AV}
    (h : ((¬ x1 = 2 → z_C d m_X3_expect [vR 3 0, vI 5] v (fun w1 o2 => ∃ i3 : Int32, o2 = some (vI i3) ∧ ((¬ i3 = 0 → z_C d m_X3_number [vR 3 0, vI 2] w1 (fun w4 o5 => ∃ i6 : Int32, o5 = some (vI i6) ∧ ((¬ i6 = 0 → (∃ j7 : Nat, gJ w4 = j7 + 1 ∧ z_C d m_X6_add [vR 6 j7, vI x1, vI x2, vI (gI w1 3 0 8)] w4 (fun w8 o9 => o9 = none ∧ Q w8 (some (vI 1))))) ∧ (i6 = 0 → Q w4 (some (vI 0)))))) ∧ (i3 = 0 → Q w1 (some (vI 0)))))) ∧ (x1 = 2 → z_C d m_X3_expect [vR 3 0, vI 3] v (fun w10 o11 => ∃ i12 : Int32, o11 = some (vI i12) ∧ ((¬ i12 = 0 → z_C d m_X3_number [vR 3 0, vI 2] w10 (fun w13 o14 => ∃ i15 : Int32, o14 = some (vI i15) ∧ ((¬ i15 = 0 → (∃ j16 : Nat, gJ w13 = j16 + 1 ∧ z_C d m_X6_add [vR 6 j16, vI x1, vI x2, vI (gI w10 3 0 8)] w13 (fun w17 o18 => o18 = none ∧ Q w17 (some (vI 1))))) ∧ (i15 = 0 → Q w13 (some (vI 0)))))) ∧ (i12 = 0 → Q w10 (some (vI 0)))))))) :
    z_Wp (z_C d) 4 k_X3_doClause Q 27 [some (vR 3 0), some (vI x1), some (vI x2), u3] [] v := z_run [27] 400 h
set_option maxRecDepth 100000 in
set_option maxHeartbeats 2000000 in
theorem B_X3_number_0 {d : Nat} {Q : z_RT} {v : z_V} {a1 : Int32}
    (h : (((gI v 3 0 7) = 27 → ((a1 = 7 → (((gI v 3 0 8) < 1 → z_C d m_X3_wrong [vR 3 0, vI 2] v (fun w1 o2 => ∃ i3 : Int32, o2 = some (vI i3) ∧ z_if (z_01 i3) (Q w1 (some (vI i3))))) ∧ (¬ (gI v 3 0 8) < 1 → z_C d m_X3_mostOf [vI a1] v (fun w4 o5 => ∃ i6 : Int32, o5 = some (vI i6) ∧ (((gI v 3 0 8) ≤ i6 → z_C d m_X3_advance [vR 3 0] w4 (fun w7 o8 => o8 = none ∧ Q w7 (some (vI 1)))) ∧ (¬ (gI v 3 0 8) ≤ i6 → z_C d m_X3_wrong [vR 3 0, vI 2] w4 (fun w9 o10 => ∃ i11 : Int32, o10 = some (vI i11) ∧ z_if (z_01 i11) (Q w9 (some (vI i11)))))))))) ∧ (¬ a1 = 7 → ((¬ a1 = 8 → (((gI v 3 0 8) < 0 → z_C d m_X3_wrong [vR 3 0, vI 2] v (fun w12 o13 => ∃ i14 : Int32, o13 = some (vI i14) ∧ z_if (z_01 i14) (Q w12 (some (vI i14))))) ∧ (¬ (gI v 3 0 8) < 0 → z_C d m_X3_mostOf [vI a1] v (fun w15 o16 => ∃ i17 : Int32, o16 = some (vI i17) ∧ (((gI v 3 0 8) ≤ i17 → z_C d m_X3_advance [vR 3 0] w15 (fun w18 o19 => o19 = none ∧ Q w18 (some (vI 1)))) ∧ (¬ (gI v 3 0 8) ≤ i17 → z_C d m_X3_wrong [vR 3 0, vI 2] w15 (fun w20 o21 => ∃ i22 : Int32, o21 = some (vI i22) ∧ z_if (z_01 i22) (Q w20 (some (vI i22)))))))))) ∧ (a1 = 8 → (((gI v 3 0 8) < 1 → z_C d m_X3_wrong [vR 3 0, vI 2] v (fun w23 o24 => ∃ i25 : Int32, o24 = some (vI i25) ∧ z_if (z_01 i25) (Q w23 (some (vI i25))))) ∧ (¬ (gI v 3 0 8) < 1 → z_C d m_X3_mostOf [vI a1] v (fun w26 o27 => ∃ i28 : Int32, o27 = some (vI i28) ∧ (((gI v 3 0 8) ≤ i28 → z_C d m_X3_advance [vR 3 0] w26 (fun w29 o30 => o30 = none ∧ Q w29 (some (vI 1)))) ∧ (¬ (gI v 3 0 8) ≤ i28 → z_C d m_X3_wrong [vR 3 0, vI 2] w26 (fun w31 o32 => ∃ i33 : Int32, o32 = some (vI i33) ∧ z_if (z_01 i33) (Q w31 (some (vI i33)))))))))))))) ∧ (¬ (gI v 3 0 7) = 27 → z_C d m_X3_wrong [vR 3 0, vI 1] v (fun w34 o35 => ∃ i36 : Int32, o35 = some (vI i36) ∧ z_if (z_01 i36) (Q w34 (some (vI i36))))))) :
    z_Wp (z_C d) 4 k_X3_number Q 0 [some (vR 3 0), some (vI a1), none] [] v := z_run [] 400 h
set_option maxRecDepth 100000 in
set_option maxHeartbeats 2000000 in
theorem B_X3_mostOf_0 {d : Nat} {Q : z_RT} {v : z_V} {a0 : Int32}
    (h : ((a0 = 2 → Q v (some (vI 6))) ∧ (¬ a0 = 2 → ((a0 = 3 → Q v (some (vI 60))) ∧ (¬ a0 = 3 → ((a0 = 4 → Q v (some (vI 99))) ∧ (¬ a0 = 4 → ((a0 = 5 → Q v (some (vI 60))) ∧ (¬ a0 = 5 → ((a0 = 6 → Q v (some (vI 9))) ∧ (¬ a0 = 6 → ((a0 = 7 → Q v (some (vI 99))) ∧ (¬ a0 = 7 → Q v (some (vI 60))))))))))))))) :
    z_Wp (z_C d) 1 k_X3_mostOf Q 0 [some (vI a0)] [] v := z_run [] 400 h
set_option maxRecDepth 100000 in
set_option maxHeartbeats 2000000 in
theorem B_X3_sum_0 {d : Nat} {Q : z_RT} {v : z_V} {a1 : Int32}
    (h : z_C d m_X3_product [vR 3 0, vI a1] v (fun w1 o2 => ∃ i3 : Int32, o2 = some (vI i3) ∧ ((¬ i3 = 0 → z_Wp (z_C d) 4 k_X3_sum Q 12 [some (vR 3 0), some (vI a1), some (vI 0), none] [] w1) ∧ (i3 = 0 → Q w1 (some (vI 0)))))) :
    z_Wp (z_C d) 4 k_X3_sum Q 0 [some (vR 3 0), some (vI a1), none, none] [] v := z_run [12] 400 h
set_option maxRecDepth 100000 in
set_option maxHeartbeats 2000000 in
theorem B_X3_sum_12 {d : Nat} {Q : z_RT} {v : z_V} {x1 : Int32} {x2 : Int32} {u3 : Option z_AV}
    (h : ((300 < x2 → Q v (some (vI 1))) ∧ (¬ 300 < x2 → (((gI v 3 0 7) = 34 → z_C d m_X3_advance [vR 3 0] v (fun w1 o2 => o2 = none ∧ z_C d m_X3_product [vR 3 0, vI x1] w1 (fun w3 o4 => ∃ i5 : Int32, o4 = some (vI i5) ∧ ((¬ i5 = 0 → (∃ j6 : Nat, gJ w3 = j6 + 1 ∧ z_C d m_X6_emit [vR 6 j6, vI (gI v 3 0 7), vI 0] w3 (fun w7 o8 => ∃ i9 : Int32, o8 = some (vI i9) ∧ z_Wp (z_C d) 4 k_X3_sum Q 12 [some (vR 3 0), some (vI x1), some (vI (x2 + 1)), some (vI (gI v 3 0 7))] [] w7))) ∧ (i5 = 0 → Q w3 (some (vI 0))))))) ∧ (¬ (gI v 3 0 7) = 34 → ((¬ (gI v 3 0 7) = 35 → Q v (some (vI 1))) ∧ ((gI v 3 0 7) = 35 → z_C d m_X3_advance [vR 3 0] v (fun w10 o11 => o11 = none ∧ z_C d m_X3_product [vR 3 0, vI x1] w10 (fun w12 o13 => ∃ i14 : Int32, o13 = some (vI i14) ∧ ((¬ i14 = 0 → (∃ j15 : Nat, gJ w12 = j15 + 1 ∧ z_C d m_X6_emit [vR 6 j15, vI (gI v 3 0 7), vI 0] w12 (fun w16 o17 => ∃ i18 : Int32, o17 = some (vI i18) ∧ z_Wp (z_C d) 4 k_X3_sum Q 12 [some (vR 3 0), some (vI x1), some (vI (x2 + 1)), some (vI (gI v 3 0 7))] [] w16))) ∧ (i14 = 0 → Q w12 (some (vI 0))))))))))))) :
    z_Wp (z_C d) 4 k_X3_sum Q 12 [some (vR 3 0), some (vI x1), some (vI x2), u3] [] v := z_run [12] 400 h
set_option maxRecDepth 100000 in
set_option maxHeartbeats 2000000 in
theorem B_X3_product_0 {d : Nat} {Q : z_RT} {v : z_V} {a1 : Int32}
    (h : z_C d m_X3_one [vR 3 0, vI a1] v (fun w1 o2 => ∃ i3 : Int32, o2 = some (vI i3) ∧ ((¬ i3 = 0 → z_Wp (z_C d) 4 k_X3_product Q 12 [some (vR 3 0), some (vI a1), some (vI 0), none] [] w1) ∧ (i3 = 0 → Q w1 (some (vI 0)))))) :
    z_Wp (z_C d) 4 k_X3_product Q 0 [some (vR 3 0), some (vI a1), none, none] [] v := z_run [12] 400 h
set_option maxRecDepth 100000 in
set_option maxHeartbeats 2000000 in
theorem B_X3_product_12 {d : Nat} {Q : z_RT} {v : z_V} {x1 : Int32} {x2 : Int32} {u3 : Option z_AV}
    (h : ((300 < x2 → Q v (some (vI 1))) ∧ (¬ 300 < x2 → (((gI v 3 0 7) = 36 → z_C d m_X3_advance [vR 3 0] v (fun w1 o2 => o2 = none ∧ z_C d m_X3_one [vR 3 0, vI x1] w1 (fun w3 o4 => ∃ i5 : Int32, o4 = some (vI i5) ∧ ((¬ i5 = 0 → (∃ j6 : Nat, gJ w3 = j6 + 1 ∧ z_C d m_X6_emit [vR 6 j6, vI (gI v 3 0 7), vI 0] w3 (fun w7 o8 => ∃ i9 : Int32, o8 = some (vI i9) ∧ z_Wp (z_C d) 4 k_X3_product Q 12 [some (vR 3 0), some (vI x1), some (vI (x2 + 1)), some (vI (gI v 3 0 7))] [] w7))) ∧ (i5 = 0 → Q w3 (some (vI 0))))))) ∧ (¬ (gI v 3 0 7) = 36 → ((¬ (gI v 3 0 7) = 37 → Q v (some (vI 1))) ∧ ((gI v 3 0 7) = 37 → z_C d m_X3_advance [vR 3 0] v (fun w10 o11 => o11 = none ∧ z_C d m_X3_one [vR 3 0, vI x1] w10 (fun w12 o13 => ∃ i14 : Int32, o13 = some (vI i14) ∧ ((¬ i14 = 0 → (∃ j15 : Nat, gJ w12 = j15 + 1 ∧ z_C d m_X6_emit [vR 6 j15, vI (gI v 3 0 7), vI 0] w12 (fun w16 o17 => ∃ i18 : Int32, o17 = some (vI i18) ∧ z_Wp (z_C d) 4 k_X3_product Q 12 [some (vR 3 0), some (vI x1), some (vI (x2 + 1)), some (vI (gI v 3 0 7))] [] w16))) ∧ (i14 = 0 → Q w12 (some (vI 0))))))))))))) :
    z_Wp (z_C d) 4 k_X3_product Q 12 [some (vR 3 0), some (vI x1), some (vI x2), u3] [] v := z_run [12] 400 h
set_option maxRecDepth 100000 in
set_option maxHeartbeats 2000000 in
theorem B_X3_one_0 {d : Nat} {Q : z_RT} {v : z_V} {a1 : Int32}
    (h : ((¬ (gI v 3 0 7) = 27 → (((gI v 3 0 7) < 8 → (((gI v 3 0 7) = 38 → z_Wp (z_C d) 4 k_X3_one Q 118 [some (vR 3 0), some (vI a1), some (vI (gI v 3 0 7))] [] v) ∧ (¬ (gI v 3 0 7) = 38 → (((gI v 3 0 7) = 18 → z_Wp (z_C d) 4 k_X3_one Q 118 [some (vR 3 0), some (vI a1), some (vI (gI v 3 0 7))] [] v) ∧ (¬ (gI v 3 0 7) = 18 → (((gI v 3 0 7) = 19 → z_Wp (z_C d) 4 k_X3_one Q 118 [some (vR 3 0), some (vI a1), some (vI (gI v 3 0 7))] [] v) ∧ (¬ (gI v 3 0 7) = 19 → (((gI v 3 0 7) = 20 → z_Wp (z_C d) 4 k_X3_one Q 118 [some (vR 3 0), some (vI a1), some (vI (gI v 3 0 7))] [] v) ∧ (¬ (gI v 3 0 7) = 20 → ((¬ (gI v 3 0 7) = 35 → z_C d m_X3_wrong [vR 3 0, vI 1] v (fun w1 o2 => ∃ i3 : Int32, o2 = some (vI i3) ∧ z_if (z_01 i3) (Q w1 (some (vI i3))))) ∧ ((gI v 3 0 7) = 35 → z_Wp (z_C d) 4 k_X3_one Q 118 [some (vR 3 0), some (vI a1), some (vI (gI v 3 0 7))] [] v))))))))))) ∧ (¬ (gI v 3 0 7) < 8 → ((17 < (gI v 3 0 7) → (((gI v 3 0 7) = 38 → z_Wp (z_C d) 4 k_X3_one Q 118 [some (vR 3 0), some (vI a1), some (vI (gI v 3 0 7))] [] v) ∧ (¬ (gI v 3 0 7) = 38 → (((gI v 3 0 7) = 18 → z_Wp (z_C d) 4 k_X3_one Q 118 [some (vR 3 0), some (vI a1), some (vI (gI v 3 0 7))] [] v) ∧ (¬ (gI v 3 0 7) = 18 → (((gI v 3 0 7) = 19 → z_Wp (z_C d) 4 k_X3_one Q 118 [some (vR 3 0), some (vI a1), some (vI (gI v 3 0 7))] [] v) ∧ (¬ (gI v 3 0 7) = 19 → (((gI v 3 0 7) = 20 → z_Wp (z_C d) 4 k_X3_one Q 118 [some (vR 3 0), some (vI a1), some (vI (gI v 3 0 7))] [] v) ∧ (¬ (gI v 3 0 7) = 20 → ((¬ (gI v 3 0 7) = 35 → z_C d m_X3_wrong [vR 3 0, vI 1] v (fun w4 o5 => ∃ i6 : Int32, o5 = some (vI i6) ∧ z_if (z_01 i6) (Q w4 (some (vI i6))))) ∧ ((gI v 3 0 7) = 35 → z_Wp (z_C d) 4 k_X3_one Q 118 [some (vR 3 0), some (vI a1), some (vI (gI v 3 0 7))] [] v))))))))))) ∧ (¬ 17 < (gI v 3 0 7) → z_C d m_X3_isOfLaw [vR 3 0, vI (gI v 3 0 7)] v (fun w7 o8 => ∃ i9 : Int32, o8 = some (vI i9) ∧ ((¬ i9 = 0 → (∃ j10 : Nat, gJ w7 = j10 + 1 ∧ z_C d m_X6_emit [vR 6 j10, vI (gI v 3 0 7), vI 0] w7 (fun w11 o12 => ∃ i13 : Int32, o12 = some (vI i13) ∧ z_C d m_X3_advance [vR 3 0] w11 (fun w14 o15 => o15 = none ∧ Q w14 (some (vI 1)))))) ∧ (i9 = 0 → z_C d m_X3_wrong [vR 3 0, vI 5] w7 (fun w16 o17 => ∃ i18 : Int32, o17 = some (vI i18) ∧ z_if (z_01 i18) (Q w16 (some (vI i18)))))))))))) ∧ ((gI v 3 0 7) = 27 → (((gI v 3 0 8) ≤ 9999 → (∃ j19 : Nat, gJ v = j19 + 1 ∧ z_C d m_X6_emit [vR 6 j19, vI (gI v 3 0 7), vI (gI v 3 0 8)] v (fun w20 o21 => ∃ i22 : Int32, o21 = some (vI i22) ∧ z_C d m_X3_advance [vR 3 0] w20 (fun w23 o24 => o24 = none ∧ Q w23 (some (vI 1)))))) ∧ (¬ (gI v 3 0 8) ≤ 9999 → z_C d m_X3_wrong [vR 3 0, vI 2] v (fun w25 o26 => ∃ i27 : Int32, o26 = some (vI i27) ∧ z_if (z_01 i27) (Q w25 (some (vI i27))))))))) :
    z_Wp (z_C d) 4 k_X3_one Q 0 [some (vR 3 0), some (vI a1), none] [] v := z_run [118] 400 h
set_option maxRecDepth 100000 in
set_option maxHeartbeats 2000000 in
theorem B_X3_one_118 {d : Nat} {Q : z_RT} {v : z_V} {x1 : Int32} {x2 : Int32}
    (h : z_C d m_X3_nested [vR 3 0, vI x2, vI (x1 + 1)] v (fun w1 o2 => ∃ i3 : Int32, o2 = some (vI i3) ∧ z_if (z_01 i3) (Q w1 (some (vI i3))))) :
    z_Wp (z_C d) 4 k_X3_one Q 118 [some (vR 3 0), some (vI x1), some (vI x2)] [] v := z_run [118] 400 h
set_option maxRecDepth 100000 in
set_option maxHeartbeats 2000000 in
theorem B_X3_isOfLaw_0 {d : Nat} {Q : z_RT} {v : z_V} {a1 : Int32}
    (h : ((a1 ≤ 11 → Q v (some (vI 1))) ∧ (¬ a1 ≤ 11 → ((14 < a1 → ((¬ (gI v 3 0 6) = 0 → ((¬ (0 : Int32) = 0 → Q v (some (vI 0))) ∧ ((0 : Int32) = 0 → Q v (some (vI 1))))) ∧ ((gI v 3 0 6) = 0 → ((¬ (0 : Int32) = 1 → Q v (some (vI 0))) ∧ ((0 : Int32) = 1 → Q v (some (vI 1))))))) ∧ (¬ 14 < a1 → ((¬ (gI v 3 0 6) = 0 → ((¬ (1 : Int32) = 0 → Q v (some (vI 0))) ∧ ((1 : Int32) = 0 → Q v (some (vI 1))))) ∧ ((gI v 3 0 6) = 0 → ((¬ (1 : Int32) = 1 → Q v (some (vI 0))) ∧ ((1 : Int32) = 1 → Q v (some (vI 1))))))))))) :
    z_Wp (z_C d) 4 k_X3_isOfLaw Q 0 [some (vR 3 0), some (vI a1)] [] v := z_run [] 400 h
set_option maxRecDepth 100000 in
set_option maxHeartbeats 2000000 in
theorem B_X3_nested_0 {d : Nat} {Q : z_RT} {v : z_V} {a1 : Int32} {a2 : Int32}
    (h : ((a2 ≤ 8 → z_C d m_X3_advance [vR 3 0] v (fun w1 o2 => o2 = none ∧ ((¬ a1 = 38 → ((¬ a1 = 20 → z_C d m_X3_one [vR 3 0, vI a2] w1 (fun w3 o4 => ∃ i5 : Int32, o4 = some (vI i5) ∧ ((¬ i5 = 0 → (∃ j6 : Nat, gJ w3 = j6 + 1 ∧ ((¬ a1 = 35 → z_C d m_X6_emit [vR 6 j6, vI a1, vI 0] w3 (fun w7 o8 => ∃ i9 : Int32, o8 = some (vI i9) ∧ Q w7 (some (vI 1)))) ∧ (a1 = 35 → z_C d m_X6_emit [vR 6 j6, vI 43, vI 0] w3 (fun w10 o11 => ∃ i12 : Int32, o11 = some (vI i12) ∧ Q w10 (some (vI 1))))))) ∧ (i5 = 0 → Q w3 (some (vI 0)))))) ∧ (a1 = 20 → z_C d m_X3_choice [vR 3 0, vI a2] w1 (fun w13 o14 => ∃ i15 : Int32, o14 = some (vI i15) ∧ z_if (z_01 i15) (Q w13 (some (vI i15))))))) ∧ (a1 = 38 → z_C d m_X3_sum [vR 3 0, vI a2] w1 (fun w16 o17 => ∃ i18 : Int32, o17 = some (vI i18) ∧ ((i18 = 0 → Q w16 (some (vI 0))) ∧ (¬ i18 = 0 → z_C d m_X3_expect [vR 3 0, vI 39] w16 (fun w19 o20 => ∃ i21 : Int32, o20 = some (vI i21) ∧ ((i21 = 0 → Q w19 (some (vI 0))) ∧ (¬ i21 = 0 → Q w19 (some (vI 1)))))))))))) ∧ (¬ a2 ≤ 8 → z_C d m_X3_wrong [vR 3 0, vI 3] v (fun w22 o23 => ∃ i24 : Int32, o23 = some (vI i24) ∧ z_if (z_01 i24) (Q w22 (some (vI i24))))))) :
    z_Wp (z_C d) 4 k_X3_nested Q 0 [some (vR 3 0), some (vI a1), some (vI a2)] [] v := z_run [] 400 h
set_option maxRecDepth 100000 in
set_option maxHeartbeats 2000000 in
theorem B_X3_choice_0 {d : Nat} {Q : z_RT} {v : z_V} {a1 : Int32}
    (h : z_C d m_X3_either [vR 3 0, vI a1] v (fun w1 o2 => ∃ i3 : Int32, o2 = some (vI i3) ∧ ((i3 = 0 → Q w1 (some (vI 0))) ∧ (¬ i3 = 0 → z_C d m_X3_expect [vR 3 0, vI 21] w1 (fun w4 o5 => ∃ i6 : Int32, o5 = some (vI i6) ∧ ((¬ i6 = 0 → (∃ j7 : Nat, gJ w4 = j7 + 1 ∧ z_C d m_X6_emit [vR 6 j7, vI 21, vI 0] w4 (fun w8 o9 => ∃ i10 : Int32, o9 = some (vI i10) ∧ z_C d m_X3_sum [vR 3 0, vI a1] w8 (fun w11 o12 => ∃ i13 : Int32, o12 = some (vI i13) ∧ ((i13 = 0 → Q w11 (some (vI 0))) ∧ (¬ i13 = 0 → z_C d m_X3_expect [vR 3 0, vI 22] w11 (fun w14 o15 => ∃ i16 : Int32, o15 = some (vI i16) ∧ ((¬ i16 = 0 → (∃ j17 : Nat, gJ w14 = j17 + 1 ∧ z_C d m_X6_emit [vR 6 j17, vI 22, vI 0] w14 (fun w18 o19 => ∃ i20 : Int32, o19 = some (vI i20) ∧ (∃ j21 : Nat, gJ w18 = j21 + 1 ∧ z_C d m_X6_land [vR 6 j21, vI i10] w18 (fun w22 o23 => o23 = none ∧ z_C d m_X3_sum [vR 3 0, vI a1] w22 (fun w24 o25 => ∃ i26 : Int32, o25 = some (vI i26) ∧ ((i26 = 0 → Q w24 (some (vI 0))) ∧ (¬ i26 = 0 → z_C d m_X3_expect [vR 3 0, vI 23] w24 (fun w27 o28 => ∃ i29 : Int32, o28 = some (vI i29) ∧ ((¬ i29 = 0 → (∃ j30 : Nat, gJ w27 = j30 + 1 ∧ z_C d m_X6_land [vR 6 j30, vI i20] w27 (fun w31 o32 => o32 = none ∧ Q w31 (some (vI 1))))) ∧ (i29 = 0 → Q w27 (some (vI 0))))))))))))) ∧ (i16 = 0 → Q w14 (some (vI 0))))))))))) ∧ (i6 = 0 → Q w4 (some (vI 0))))))))) :
    z_Wp (z_C d) 4 k_X3_choice Q 0 [some (vR 3 0), some (vI a1), none, none] [] v := z_run [] 400 h
set_option maxRecDepth 100000 in
set_option maxHeartbeats 2000000 in
theorem B_X3_either_0 {d : Nat} {Q : z_RT} {v : z_V} {a1 : Int32}
    (h : z_C d m_X3_both [vR 3 0, vI a1] v (fun w1 o2 => ∃ i3 : Int32, o2 = some (vI i3) ∧ ((¬ i3 = 0 → z_Wp (z_C d) 4 k_X3_either Q 12 [some (vR 3 0), some (vI a1), some (vI 0)] [] w1) ∧ (i3 = 0 → Q w1 (some (vI 0)))))) :
    z_Wp (z_C d) 4 k_X3_either Q 0 [some (vR 3 0), some (vI a1), none] [] v := z_run [12] 400 h
set_option maxRecDepth 100000 in
set_option maxHeartbeats 2000000 in
theorem B_X3_either_12 {d : Nat} {Q : z_RT} {v : z_V} {x1 : Int32} {x2 : Int32}
    (h : ((300 < x2 → Q v (some (vI 1))) ∧ (¬ 300 < x2 → ((¬ (gI v 3 0 7) = 24 → Q v (some (vI 1))) ∧ ((gI v 3 0 7) = 24 → z_C d m_X3_advance [vR 3 0] v (fun w1 o2 => o2 = none ∧ z_C d m_X3_both [vR 3 0, vI x1] w1 (fun w3 o4 => ∃ i5 : Int32, o4 = some (vI i5) ∧ ((¬ i5 = 0 → (∃ j6 : Nat, gJ w3 = j6 + 1 ∧ z_C d m_X6_emit [vR 6 j6, vI 24, vI 0] w3 (fun w7 o8 => ∃ i9 : Int32, o8 = some (vI i9) ∧ z_Wp (z_C d) 4 k_X3_either Q 12 [some (vR 3 0), some (vI x1), some (vI (x2 + 1))] [] w7))) ∧ (i5 = 0 → Q w3 (some (vI 0))))))))))) :
    z_Wp (z_C d) 4 k_X3_either Q 12 [some (vR 3 0), some (vI x1), some (vI x2)] [] v := z_run [12] 400 h
set_option maxRecDepth 100000 in
set_option maxHeartbeats 2000000 in
theorem B_X3_both_0 {d : Nat} {Q : z_RT} {v : z_V} {a1 : Int32}
    (h : z_C d m_X3_ask [vR 3 0, vI a1] v (fun w1 o2 => ∃ i3 : Int32, o2 = some (vI i3) ∧ ((¬ i3 = 0 → z_Wp (z_C d) 4 k_X3_both Q 12 [some (vR 3 0), some (vI a1), some (vI 0)] [] w1) ∧ (i3 = 0 → Q w1 (some (vI 0)))))) :
    z_Wp (z_C d) 4 k_X3_both Q 0 [some (vR 3 0), some (vI a1), none] [] v := z_run [12] 400 h
set_option maxRecDepth 100000 in
set_option maxHeartbeats 2000000 in
theorem B_X3_both_12 {d : Nat} {Q : z_RT} {v : z_V} {x1 : Int32} {x2 : Int32}
    (h : ((300 < x2 → Q v (some (vI 1))) ∧ (¬ 300 < x2 → ((¬ (gI v 3 0 7) = 25 → Q v (some (vI 1))) ∧ ((gI v 3 0 7) = 25 → z_C d m_X3_advance [vR 3 0] v (fun w1 o2 => o2 = none ∧ z_C d m_X3_ask [vR 3 0, vI x1] w1 (fun w3 o4 => ∃ i5 : Int32, o4 = some (vI i5) ∧ ((¬ i5 = 0 → (∃ j6 : Nat, gJ w3 = j6 + 1 ∧ z_C d m_X6_emit [vR 6 j6, vI 25, vI 0] w3 (fun w7 o8 => ∃ i9 : Int32, o8 = some (vI i9) ∧ z_Wp (z_C d) 4 k_X3_both Q 12 [some (vR 3 0), some (vI x1), some (vI (x2 + 1))] [] w7))) ∧ (i5 = 0 → Q w3 (some (vI 0))))))))))) :
    z_Wp (z_C d) 4 k_X3_both Q 12 [some (vR 3 0), some (vI x1), some (vI x2)] [] v := z_run [12] 400 h
set_option maxRecDepth 100000 in
set_option maxHeartbeats 2000000 in
theorem B_X3_ask_0 {d : Nat} {Q : z_RT} {v : z_V} {a1 : Int32}
    (h : ((¬ (gI v 3 0 7) = 26 → z_C d m_X3_sum [vR 3 0, vI a1] v (fun w1 o2 => ∃ i3 : Int32, o2 = some (vI i3) ∧ ((¬ i3 = 0 → (((gI w1 3 0 7) < 28 → z_C d m_X3_wrong [vR 3 0, vI 1] w1 (fun w4 o5 => ∃ i6 : Int32, o5 = some (vI i6) ∧ z_if (z_01 i6) (Q w4 (some (vI i6))))) ∧ (¬ (gI w1 3 0 7) < 28 → (((gI w1 3 0 7) ≤ 33 → z_C d m_X3_advance [vR 3 0] w1 (fun w7 o8 => o8 = none ∧ z_C d m_X3_sum [vR 3 0, vI a1] w7 (fun w9 o10 => ∃ i11 : Int32, o10 = some (vI i11) ∧ ((¬ i11 = 0 → (∃ j12 : Nat, gJ w9 = j12 + 1 ∧ z_C d m_X6_emit [vR 6 j12, vI (gI w1 3 0 7), vI 0] w9 (fun w13 o14 => ∃ i15 : Int32, o14 = some (vI i15) ∧ Q w13 (some (vI 1))))) ∧ (i11 = 0 → Q w9 (some (vI 0))))))) ∧ (¬ (gI w1 3 0 7) ≤ 33 → z_C d m_X3_wrong [vR 3 0, vI 1] w1 (fun w16 o17 => ∃ i18 : Int32, o17 = some (vI i18) ∧ z_if (z_01 i18) (Q w16 (some (vI i18))))))))) ∧ (i3 = 0 → Q w1 (some (vI 0)))))) ∧ ((gI v 3 0 7) = 26 → z_C d m_X3_denied [vR 3 0, vI (a1 + 1)] v (fun w19 o20 => ∃ i21 : Int32, o20 = some (vI i21) ∧ z_if (z_01 i21) (Q w19 (some (vI i21))))))) :
    z_Wp (z_C d) 4 k_X3_ask Q 0 [some (vR 3 0), some (vI a1), none] [] v := z_run [] 400 h
set_option maxRecDepth 100000 in
set_option maxHeartbeats 2000000 in
theorem B_X3_denied_0 {d : Nat} {Q : z_RT} {v : z_V} {a1 : Int32}
    (h : ((a1 ≤ 8 → z_C d m_X3_advance [vR 3 0] v (fun w1 o2 => o2 = none ∧ z_C d m_X3_ask [vR 3 0, vI a1] w1 (fun w3 o4 => ∃ i5 : Int32, o4 = some (vI i5) ∧ ((¬ i5 = 0 → (∃ j6 : Nat, gJ w3 = j6 + 1 ∧ z_C d m_X6_emit [vR 6 j6, vI 26, vI 0] w3 (fun w7 o8 => ∃ i9 : Int32, o8 = some (vI i9) ∧ Q w7 (some (vI 1))))) ∧ (i5 = 0 → Q w3 (some (vI 0))))))) ∧ (¬ a1 ≤ 8 → z_C d m_X3_wrong [vR 3 0, vI 3] v (fun w10 o11 => ∃ i12 : Int32, o11 = some (vI i12) ∧ z_if (z_01 i12) (Q w10 (some (vI i12))))))) :
    z_Wp (z_C d) 4 k_X3_denied Q 0 [some (vR 3 0), some (vI a1)] [] v := z_run [] 400 h
set_option maxRecDepth 100000 in
set_option maxHeartbeats 2000000 in
theorem B_X3_advance_0 {d : Nat} {Q : z_RT} {v : z_V}
    (h : z_Wp (z_C d) 0 k_X3_advance Q 5 [some (vR 3 0), some (vI (gI v 3 0 10))] [] v) :
    z_Wp (z_C d) 0 k_X3_advance Q 0 [some (vR 3 0), none] [] v := z_run [5, 51] 400 h
set_option maxRecDepth 100000 in
set_option maxHeartbeats 2000000 in
theorem B_X3_advance_5 {d : Nat} {Q : z_RT} {v : z_V} {x1 : Int32}
    (h : (((gI v 3 0 1) ≤ x1 → z_Wp (z_C d) 0 k_X3_advance Q 51 [some (vR 3 0), some (vI x1)] [] v) ∧ (¬ (gI v 3 0 1) ≤ x1 → z_if (z_in x1 300) ((((gI v 400 0 (n_ x1)) = 32 → z_Wp (z_C d) 0 k_X3_advance Q 5 [some (vR 3 0), some (vI (x1 + 1))] [] (pI v 3 0 10 ((gI v 3 0 10) + 1))) ∧ (¬ (gI v 400 0 (n_ x1)) = 32 → z_if (z_in x1 300) (((¬ (gI v 400 0 (n_ x1)) = 10 → z_Wp (z_C d) 0 k_X3_advance Q 51 [some (vR 3 0), some (vI x1)] [] v) ∧ ((gI v 400 0 (n_ x1)) = 10 → z_Wp (z_C d) 0 k_X3_advance Q 5 [some (vR 3 0), some (vI (x1 + 1))] [] (pI v 3 0 10 ((gI v 3 0 10) + 1))))))))))) :
    z_Wp (z_C d) 0 k_X3_advance Q 5 [some (vR 3 0), some (vI x1)] [] v := z_run [5, 51] 400 h
set_option maxRecDepth 100000 in
set_option maxHeartbeats 2000000 in
theorem B_X3_advance_51 {d : Nat} {Q : z_RT} {v : z_V} {u1 : Option z_AV}
    (h : (((gI v 3 0 10) < (gI v 3 0 1) → z_if (z_in (gI v 3 0 10) 300) (z_C d m_X3_isLetter [vI (gI v 400 0 (n_ (gI v 3 0 10)))] (pI v 3 0 9 (gI v 3 0 10)) (fun w1 o2 => ∃ i3 : Int32, o2 = some (vI i3) ∧ ((i3 = 0 → z_if (z_in (gI w1 3 0 10) 300) (z_C d m_X3_isDigit [vI (gI w1 400 0 (n_ (gI w1 3 0 10)))] w1 (fun w4 o5 => ∃ i6 : Int32, o5 = some (vI i6) ∧ ((i6 = 0 → z_if (z_in (gI w4 3 0 10) 300) (z_C d m_X3_signToken [vR 3 0, vI (gI w4 400 0 (n_ (gI w4 3 0 10)))] w4 (fun w7 o8 => ∃ i9 : Int32, o8 = some (vI i9) ∧ Q (pI w7 3 0 7 i9) none))) ∧ (¬ i6 = 0 → z_C d m_X3_digits [vR 3 0] (pI w4 3 0 7 27) (fun w10 o11 => ∃ i12 : Int32, o11 = some (vI i12) ∧ Q (pI w10 3 0 8 i12) none)))))) ∧ (¬ i3 = 0 → z_C d m_X3_word [vR 3 0] w1 (fun w13 o14 => ∃ i15 : Int32, o14 = some (vI i15) ∧ Q (pI w13 3 0 7 i15) none)))))) ∧ (¬ (gI v 3 0 10) < (gI v 3 0 1) → Q (pI (pI (pI v 3 0 9 (gI v 3 0 10)) 3 0 9 (gI v 3 0 1)) 3 0 7 41) none))) :
    z_Wp (z_C d) 0 k_X3_advance Q 51 [some (vR 3 0), u1] [] v := z_run [5, 51] 400 h
set_option maxRecDepth 100000 in
set_option maxHeartbeats 2000000 in
theorem B_X3_isLetter_0 {d : Nat} {Q : z_RT} {v : z_V} {a0 : Int32}
    (h : ((a0 < 97 → ((a0 < 65 → Q v (some (vI 0))) ∧ (¬ a0 < 65 → ((90 < a0 → Q v (some (vI 0))) ∧ (¬ 90 < a0 → Q v (some (vI 1))))))) ∧ (¬ a0 < 97 → ((a0 ≤ 122 → Q v (some (vI 1))) ∧ (¬ a0 ≤ 122 → ((a0 < 65 → Q v (some (vI 0))) ∧ (¬ a0 < 65 → ((90 < a0 → Q v (some (vI 0))) ∧ (¬ 90 < a0 → Q v (some (vI 1))))))))))) :
    z_Wp (z_C d) 4 k_X3_isLetter Q 0 [some (vI a0)] [] v := z_run [] 400 h
set_option maxRecDepth 100000 in
set_option maxHeartbeats 2000000 in
theorem B_X3_isDigit_0 {d : Nat} {Q : z_RT} {v : z_V} {a0 : Int32}
    (h : ((a0 < 48 → Q v (some (vI 0))) ∧ (¬ a0 < 48 → ((57 < a0 → Q v (some (vI 0))) ∧ (¬ 57 < a0 → Q v (some (vI 1))))))) :
    z_Wp (z_C d) 4 k_X3_isDigit Q 0 [some (vI a0)] [] v := z_run [] 400 h
set_option maxRecDepth 100000 in
set_option maxHeartbeats 2000000 in
theorem B_X3_word_0 {d : Nat} {Q : z_RT} {v : z_V}
    (h : z_Wp (z_C d) 1 k_X3_word Q 5 [some (vR 3 0), some (vI (gI v 3 0 10)), none, none, none, none] [] v) :
    z_Wp (z_C d) 1 k_X3_word Q 0 [some (vR 3 0), none, none, none, none, none] [] v := z_run [5, 53, 70] 400 h
set_option maxRecDepth 100000 in
set_option maxHeartbeats 2000000 in
theorem B_X3_word_5 {d : Nat} {Q : z_RT} {v : z_V} {x1 : Int32} {u2 : Option z_AV} {u3 : Option z_AV} {u4 : Option z_AV} {u5 : Option z_AV}
    (h : (((gI v 3 0 1) ≤ x1 → z_Wp (z_C d) 1 k_X3_word Q 53 [some (vR 3 0), some (vI ((gI v 3 0 10) - (gI v 3 0 9))), some (vI 0), none, none, none] [] v) ∧ (¬ (gI v 3 0 1) ≤ x1 → z_if (z_in x1 300) (z_C d m_X3_isLetter [vI (gI v 400 0 (n_ x1))] v (fun w1 o2 => ∃ i3 : Int32, o2 = some (vI i3) ∧ ((i3 = 0 → z_Wp (z_C d) 1 k_X3_word Q 53 [some (vR 3 0), some (vI ((gI w1 3 0 10) - (gI w1 3 0 9))), some (vI 0), none, none, none] [] w1) ∧ (¬ i3 = 0 → z_Wp (z_C d) 1 k_X3_word Q 5 [some (vR 3 0), some (vI (x1 + 1)), none, none, none, none] [] (pI w1 3 0 10 ((gI w1 3 0 10) + 1))))))))) :
    z_Wp (z_C d) 1 k_X3_word Q 5 [some (vR 3 0), some (vI x1), u2, u3, u4, u5] [] v := z_run [5, 53, 70] 400 h
set_option maxRecDepth 100000 in
set_option maxHeartbeats 2000000 in
theorem B_X3_word_53 {d : Nat} {Q : z_RT} {v : z_V} {x1 : Int32} {x2 : Int32} {u3 : Option z_AV} {u4 : Option z_AV} {u5 : Option z_AV}
    (h : ((27 ≤ x2 → Q v (some (vI 42))) ∧ (¬ 27 ≤ x2 → ((7 ≤ x1 → Q v (some (vI 42))) ∧ (¬ 7 ≤ x1 → z_Wp (z_C d) 1 k_X3_word Q 70 [some (vR 3 0), some (vI x1), some (vI x2), some (vI 0), some (vI 0), none] [] v))))) :
    z_Wp (z_C d) 1 k_X3_word Q 53 [some (vR 3 0), some (vI x1), some (vI x2), u3, u4, u5] [] v := z_run [5, 53, 70] 400 h
set_option maxRecDepth 100000 in
set_option maxHeartbeats 2000000 in
theorem B_X3_word_70 {d : Nat} {Q : z_RT} {v : z_V} {x1 : Int32} {x2 : Int32} {x3 : Int32} {x4 : Int32} {u5 : Option z_AV}
    (h : ((7 ≤ x4 → ((¬ x3 = 7 → z_Wp (z_C d) 1 k_X3_word Q 53 [some (vR 3 0), some (vI x1), some (vI (x2 + 1)), some (vI x3), some (vI x4), none] [] v) ∧ (x3 = 7 → Q v (some (vI x2))))) ∧ (¬ 7 ≤ x4 → ((¬ x3 = x4 → ((¬ x3 = 7 → z_Wp (z_C d) 1 k_X3_word Q 53 [some (vR 3 0), some (vI x1), some (vI (x2 + 1)), some (vI x3), some (vI x4), none] [] v) ∧ (x3 = 7 → Q v (some (vI x2))))) ∧ (x3 = x4 → ((x1 ≤ x4 → z_if (z_in ((x2 * 7) + x4) z_wln) (((¬ (z_wch (n_ ((x2 * 7) + x4))) = 32 → z_Wp (z_C d) 1 k_X3_word Q 70 [some (vR 3 0), some (vI x1), some (vI x2), some (vI (x3 + 0)), some (vI (x4 + 1)), some (vI 32)] [] v) ∧ ((z_wch (n_ ((x2 * 7) + x4))) = 32 → z_Wp (z_C d) 1 k_X3_word Q 70 [some (vR 3 0), some (vI x1), some (vI x2), some (vI (x3 + 1)), some (vI (x4 + 1)), some (vI 32)] [] v)))) ∧ (¬ x1 ≤ x4 → z_if (z_in ((gI v 3 0 9) + x4) 300) (z_if (z_in ((x2 * 7) + x4) z_wln) (((¬ (z_wch (n_ ((x2 * 7) + x4))) = (gI v 400 0 (n_ ((gI v 3 0 9) + x4))) → z_Wp (z_C d) 1 k_X3_word Q 70 [some (vR 3 0), some (vI x1), some (vI x2), some (vI (x3 + 0)), some (vI (x4 + 1)), some (vI (gI v 400 0 (n_ ((gI v 3 0 9) + x4))))] [] v) ∧ ((z_wch (n_ ((x2 * 7) + x4))) = (gI v 400 0 (n_ ((gI v 3 0 9) + x4))) → z_Wp (z_C d) 1 k_X3_word Q 70 [some (vR 3 0), some (vI x1), some (vI x2), some (vI (x3 + 1)), some (vI (x4 + 1)), some (vI (gI v 400 0 (n_ ((gI v 3 0 9) + x4))))] [] v))))))))))) :
    z_Wp (z_C d) 1 k_X3_word Q 70 [some (vR 3 0), some (vI x1), some (vI x2), some (vI x3), some (vI x4), u5] [] v := z_run [5, 53, 70] 400 h
set_option maxRecDepth 100000 in
set_option maxHeartbeats 2000000 in
theorem B_X3_digits_0 {d : Nat} {Q : z_RT} {v : z_V}
    (h : z_Wp (z_C d) 1 k_X3_digits Q 7 [some (vR 3 0), some (vI 0), some (vI (gI v 3 0 10))] [] v) :
    z_Wp (z_C d) 1 k_X3_digits Q 0 [some (vR 3 0), none, none] [] v := z_run [7] 400 h
set_option maxRecDepth 100000 in
set_option maxHeartbeats 2000000 in
theorem B_X3_digits_7 {d : Nat} {Q : z_RT} {v : z_V} {x1 : Int32} {x2 : Int32}
    (h : (((gI v 3 0 1) ≤ x2 → Q v (some (vI x1))) ∧ (¬ (gI v 3 0 1) ≤ x2 → z_if (z_in x2 300) (z_C d m_X3_isDigit [vI (gI v 400 0 (n_ x2))] v (fun w1 o2 => ∃ i3 : Int32, o2 = some (vI i3) ∧ ((i3 = 0 → Q w1 (some (vI x1))) ∧ (¬ i3 = 0 → z_if (z_in x2 300) (z_Wp (z_C d) 1 k_X3_digits Q 7 [some (vR 3 0), some (vI (i_min 10000 (((x1 * 10) + (gI w1 400 0 (n_ x2))) - 48))), some (vI (x2 + 1))] [] (pI w1 3 0 10 ((gI w1 3 0 10) + 1)))))))))) :
    z_Wp (z_C d) 1 k_X3_digits Q 7 [some (vR 3 0), some (vI x1), some (vI x2)] [] v := z_run [7] 400 h
set_option maxRecDepth 100000 in
set_option maxHeartbeats 2000000 in
theorem B_X3_signToken_0 {d : Nat} {Q : z_RT} {v : z_V} {a1 : Int32}
    (h : (((gI v 3 0 1) ≤ ((gI v 3 0 10) + 1) → z_Wp (z_C d) 1 k_X3_signToken Q 40 [some (vR 3 0), some (vI a1), none] [vI 0] (pI v 3 0 10 ((gI v 3 0 10) + 1))) ∧ (¬ (gI v 3 0 1) ≤ ((gI v 3 0 10) + 1) → z_if (z_in ((gI v 3 0 10) + 1) 300) (((¬ (gI v 400 0 (n_ ((gI v 3 0 10) + 1))) = 61 → z_Wp (z_C d) 1 k_X3_signToken Q 40 [some (vR 3 0), some (vI a1), none] [vI 0] (pI v 3 0 10 ((gI v 3 0 10) + 1))) ∧ ((gI v 400 0 (n_ ((gI v 3 0 10) + 1))) = 61 → z_Wp (z_C d) 1 k_X3_signToken Q 40 [some (vR 3 0), some (vI a1), none] [vI 1] (pI v 3 0 10 ((gI v 3 0 10) + 1)))))))) :
    z_Wp (z_C d) 1 k_X3_signToken Q 0 [some (vR 3 0), some (vI a1), none] [] v := z_run [40, 81] 400 h
set_option maxRecDepth 100000 in
set_option maxHeartbeats 2000000 in
theorem B_X3_signToken_40 {d : Nat} {Q : z_RT} {v : z_V} {x1 : Int32} {u2 : Option z_AV} {s0 : Int32}
    (h : ((s0 = 0 → z_Wp (z_C d) 1 k_X3_signToken Q 81 [some (vR 3 0), some (vI x1), some (vI s0)] [] v) ∧ (¬ s0 = 0 → ((x1 = 60 → ((¬ x1 = 60 → Q (pI v 3 0 10 ((gI v 3 0 10) + 1)) (some (vI 31))) ∧ (x1 = 60 → Q (pI v 3 0 10 ((gI v 3 0 10) + 1)) (some (vI 29))))) ∧ (¬ x1 = 60 → ((¬ x1 = 62 → z_Wp (z_C d) 1 k_X3_signToken Q 81 [some (vR 3 0), some (vI x1), some (vI s0)] [] v) ∧ (x1 = 62 → ((¬ x1 = 60 → Q (pI v 3 0 10 ((gI v 3 0 10) + 1)) (some (vI 31))) ∧ (x1 = 60 → Q (pI v 3 0 10 ((gI v 3 0 10) + 1)) (some (vI 29))))))))))) :
    z_Wp (z_C d) 1 k_X3_signToken Q 40 [some (vR 3 0), some (vI x1), u2] [vI s0] v := z_run [40, 81] 400 h
set_option maxRecDepth 100000 in
set_option maxHeartbeats 2000000 in
theorem B_X3_signToken_81 {d : Nat} {Q : z_RT} {v : z_V} {u0 : Option z_AV} {x1 : Int32} {u2 : Option z_AV}
    (h : ((x1 = 35 → Q v (some (vI 33))) ∧ (¬ x1 = 35 → ((x1 = 36 → Q v (some (vI 42))) ∧ (¬ x1 = 36 → ((x1 = 37 → Q v (some (vI 42))) ∧ (¬ x1 = 37 → ((x1 = 38 → Q v (some (vI 42))) ∧ (¬ x1 = 38 → ((x1 = 39 → Q v (some (vI 42))) ∧ (¬ x1 = 39 → ((x1 = 40 → Q v (some (vI 38))) ∧ (¬ x1 = 40 → ((x1 = 41 → Q v (some (vI 39))) ∧ (¬ x1 = 41 → ((x1 = 42 → Q v (some (vI 36))) ∧ (¬ x1 = 42 → ((x1 = 43 → Q v (some (vI 34))) ∧ (¬ x1 = 43 → ((x1 = 44 → Q v (some (vI 42))) ∧ (¬ x1 = 44 → ((x1 = 45 → Q v (some (vI 35))) ∧ (¬ x1 = 45 → ((x1 = 46 → Q v (some (vI 42))) ∧ (¬ x1 = 46 → ((x1 = 47 → Q v (some (vI 37))) ∧ (¬ x1 = 47 → ((x1 = 48 → Q v (some (vI 42))) ∧ (¬ x1 = 48 → ((x1 = 49 → Q v (some (vI 42))) ∧ (¬ x1 = 49 → ((x1 = 50 → Q v (some (vI 42))) ∧ (¬ x1 = 50 → ((x1 = 51 → Q v (some (vI 42))) ∧ (¬ x1 = 51 → ((x1 = 52 → Q v (some (vI 42))) ∧ (¬ x1 = 52 → ((x1 = 53 → Q v (some (vI 42))) ∧ (¬ x1 = 53 → ((x1 = 54 → Q v (some (vI 42))) ∧ (¬ x1 = 54 → ((x1 = 55 → Q v (some (vI 42))) ∧ (¬ x1 = 55 → ((x1 = 56 → Q v (some (vI 42))) ∧ (¬ x1 = 56 → ((x1 = 57 → Q v (some (vI 42))) ∧ (¬ x1 = 57 → ((x1 = 58 → Q v (some (vI 42))) ∧ (¬ x1 = 58 → ((x1 = 59 → Q v (some (vI 40))) ∧ (¬ x1 = 59 → ((x1 = 60 → Q v (some (vI 28))) ∧ (¬ x1 = 60 → ((x1 = 61 → Q v (some (vI 32))) ∧ (¬ x1 = 61 → ((x1 = 62 → Q v (some (vI 30))) ∧ (¬ x1 = 62 → Q v (some (vI 42))))))))))))))))))))))))))))))))))))))))))))))))))))))))))) :
    z_Wp (z_C d) 1 k_X3_signToken Q 81 [u0, some (vI x1), u2] [] v := z_run [40, 81] 400 h
