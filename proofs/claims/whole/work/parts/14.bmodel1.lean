set_option maxRecDepth 100000 in
set_option maxHeartbeats 2000000 in
theorem B_X11_copy_a_0 {d : Nat} {Q : z_RT} {v : z_V}
    (h : z_Wp (z_C d) 0 k_X11_copy Q 2 [some (vR 1200 0), some (vR 1201 0), some (vI 0)] [] v) :
    z_Wp (z_C d) 0 k_X11_copy Q 0 [some (vR 1200 0), some (vR 1201 0), none] [] v := z_run [2] 400 h
set_option maxRecDepth 100000 in
set_option maxHeartbeats 2000000 in
theorem B_X11_copy_a_2 {d : Nat} {Q : z_RT} {v : z_V} {x2 : Int32}
    (h : ((1218 ≤ x2 → Q v none) ∧ (¬ 1218 ≤ x2 → z_if (z_in x2 1218) (z_if (z_in x2 1218) (z_Wp (z_C d) 0 k_X11_copy Q 2 [some (vR 1200 0), some (vR 1201 0), some (vI (x2 + 1))] [] (pI v 1201 0 (n_ x2) (gI v 1200 0 (n_ x2)))))))) :
    z_Wp (z_C d) 0 k_X11_copy Q 2 [some (vR 1200 0), some (vR 1201 0), some (vI x2)] [] v := z_run [2] 400 h
set_option maxRecDepth 100000 in
set_option maxHeartbeats 2000000 in
theorem B_X11_copy_b_0 {d : Nat} {Q : z_RT} {v : z_V}
    (h : z_Wp (z_C d) 0 k_X11_copy Q 2 [some (vR 1201 0), some (vR 1200 0), some (vI 0)] [] v) :
    z_Wp (z_C d) 0 k_X11_copy Q 0 [some (vR 1201 0), some (vR 1200 0), none] [] v := z_run [2] 400 h
set_option maxRecDepth 100000 in
set_option maxHeartbeats 2000000 in
theorem B_X11_copy_b_2 {d : Nat} {Q : z_RT} {v : z_V} {x2 : Int32}
    (h : ((1218 ≤ x2 → Q v none) ∧ (¬ 1218 ≤ x2 → z_if (z_in x2 1218) (z_if (z_in x2 1218) (z_Wp (z_C d) 0 k_X11_copy Q 2 [some (vR 1201 0), some (vR 1200 0), some (vI (x2 + 1))] [] (pI v 1200 0 (n_ x2) (gI v 1201 0 (n_ x2)))))))) :
    z_Wp (z_C d) 0 k_X11_copy Q 2 [some (vR 1201 0), some (vR 1200 0), some (vI x2)] [] v := z_run [2] 400 h
set_option maxRecDepth 100000 in
set_option maxHeartbeats 2000000 in
theorem B_X11_isIn_0 {d : Nat} {Q : z_RT} {v : z_V} {a0 : Int32} {a1 : Int32} {a2 : Int32}
    (h : ((a0 < a1 → Q v (some (vI 0))) ∧ (¬ a0 < a1 → ((a2 < a0 → Q v (some (vI 0))) ∧ (¬ a2 < a0 → Q v (some (vI 1))))))) :
    z_Wp (z_C d) 4 k_X11_isIn Q 0 [some (vI a0), some (vI a1), some (vI a2)] [] v := z_run [] 400 h
set_option maxRecDepth 100000 in
set_option maxHeartbeats 2000000 in
theorem B_X11_held_0 {d : Nat} {Q : z_RT} {v : z_V} {a0 : Int64} {a1 : Int32} {a2 : Int32}
    (h : ((0 ≤ (lg_cmp a0 a1.toInt64) → (((lg_cmp a0 a2.toInt64) ≤ 0 → Q v (some (vI a0.toInt32))) ∧ (¬ (lg_cmp a0 a2.toInt64) ≤ 0 → Q v (some (vI a2))))) ∧ (¬ 0 ≤ (lg_cmp a0 a1.toInt64) → Q v (some (vI a1))))) :
    z_Wp (z_C d) 1 k_X11_held Q 0 [some (vL a0), none, some (vI a1), some (vI a2)] [] v := z_run [] 400 h
set_option maxRecDepth 100000 in
set_option maxHeartbeats 2000000 in
theorem B_X11_has_0 {d : Nat} {Q : z_RT} {v : z_V} {a0 : Int32} {a1 : Int32}
    (h : ((¬ ((i_shr a0 a1) &&& 1) = 1 → Q v (some (vI 0))) ∧ (((i_shr a0 a1) &&& 1) = 1 → Q v (some (vI 1))))) :
    z_Wp (z_C d) 4 k_X11_has Q 0 [some (vI a0), some (vI a1)] [] v := z_run [] 400 h
set_option maxRecDepth 100000 in
set_option maxHeartbeats 2000000 in
theorem B_X11_bits_0 {d : Nat} {Q : z_RT} {v : z_V} {a0 : Int32}
    (h : z_Wp (z_C d) 1 k_X11_bits Q 4 [some (vI a0), some (vI 0), some (vI a0)] [] v) :
    z_Wp (z_C d) 1 k_X11_bits Q 0 [some (vI a0), none, none] [] v := z_run [4] 400 h
set_option maxRecDepth 100000 in
set_option maxHeartbeats 2000000 in
theorem B_X11_bits_4 {d : Nat} {Q : z_RT} {v : z_V} {u0 : Option z_AV} {x1 : Int32} {x2 : Int32}
    (h : ((x2 = 0 → Q v (some (vI x1))) ∧ (¬ x2 = 0 → z_Wp (z_C d) 1 k_X11_bits Q 4 [none, some (vI (x1 + 1)), some (vI (x2 &&& (x2 - 1)))] [] v))) :
    z_Wp (z_C d) 1 k_X11_bits Q 4 [u0, some (vI x1), some (vI x2)] [] v := z_run [4] 400 h
set_option maxRecDepth 100000 in
set_option maxHeartbeats 2000000 in
theorem B_X11_apartBy_0 {d : Nat} {Q : z_RT} {v : z_V} {a0 : Int32} {a1 : Int32}
    (h : ((a1 ≤ a0 → Q v (some (vI (a0 - a1)))) ∧ (¬ a1 ≤ a0 → Q v (some (vI (a1 - a0)))))) :
    z_Wp (z_C d) 1 k_X11_apartBy Q 0 [some (vI a0), some (vI a1)] [] v := z_run [] 400 h
set_option maxRecDepth 100000 in
set_option maxHeartbeats 2000000 in
theorem B_X11_isLine_0 {d : Nat} {Q : z_RT} {v : z_V} {a1 : Int32}
    (h : z_C d m_X11_isIn [vI a1, vI 0, vI ((gI v 1200 0 0) - 1)] v (fun w1 o2 => ∃ i3 : Int32, o2 = some (vI i3) ∧ z_if (z_01 i3) (Q w1 (some (vI i3))))) :
    z_Wp (z_C d) 4 k_X11_isLine Q 0 [some (vR 11 0), some (vI a1)] [] v := z_run [] 400 h
set_option maxRecDepth 100000 in
set_option maxHeartbeats 2000000 in
theorem B_X11_isHalt_0 {d : Nat} {Q : z_RT} {v : z_V} {a0 : Int32}
    (h : z_C d m_X11_isIn [vI a0, vI 0, vI 6] v (fun w1 o2 => ∃ i3 : Int32, o2 = some (vI i3) ∧ z_if (z_01 i3) (Q w1 (some (vI i3))))) :
    z_Wp (z_C d) 4 k_X11_isHalt Q 0 [some (vI a0)] [] v := z_run [] 400 h
set_option maxRecDepth 100000 in
set_option maxHeartbeats 2000000 in
theorem B_X11_isOpen_0 {d : Nat} {Q : z_RT} {v : z_V} {a1 : Int32}
    (h : z_C d m_X11_has [vI (gI v 1200 0 9), vI a1] v (fun w1 o2 => ∃ i3 : Int32, o2 = some (vI i3) ∧ z_if (z_01 i3) (Q w1 (some (vI i3))))) :
    z_Wp (z_C d) 4 k_X11_isOpen Q 0 [some (vR 11 0), some (vI a1)] [] v := z_run [] 400 h
set_option maxRecDepth 100000 in
set_option maxHeartbeats 2000000 in
theorem B_X11_one_0 {d : Nat} {Q : z_RT} {v : z_V} {a1 : Int32}
    (h : z_if (z_in (17 + (2 * a1)) 1218) (Q v (some (vI (gI v 1200 0 (n_ (17 + (2 * a1)))))))) :
    z_Wp (z_C d) 1 k_X11_one Q 0 [some (vR 11 0), some (vI a1)] [] v := z_run [] 400 h
set_option maxRecDepth 100000 in
set_option maxHeartbeats 2000000 in
theorem B_X11_other_0 {d : Nat} {Q : z_RT} {v : z_V} {a1 : Int32}
    (h : z_if (z_in ((17 + (2 * a1)) + 1) 1218) (Q v (some (vI (gI v 1200 0 (n_ ((17 + (2 * a1)) + 1))))))) :
    z_Wp (z_C d) 1 k_X11_other Q 0 [some (vR 11 0), some (vI a1)] [] v := z_run [] 400 h
set_option maxRecDepth 100000 in
set_option maxHeartbeats 2000000 in
theorem B_X11_isOn_0 {d : Nat} {Q : z_RT} {v : z_V} {a1 : Int32} {a2 : Int32}
    (h : z_C d m_X11_one [vR 11 0, vI a1] v (fun w1 o2 => ∃ i3 : Int32, o2 = some (vI i3) ∧ ((i3 = a2 → Q w1 (some (vI 1))) ∧ (¬ i3 = a2 → z_C d m_X11_other [vR 11 0, vI a1] w1 (fun w4 o5 => ∃ i6 : Int32, o5 = some (vI i6) ∧ ((¬ i6 = a2 → Q w4 (some (vI 0))) ∧ (i6 = a2 → Q w4 (some (vI 1))))))))) :
    z_Wp (z_C d) 4 k_X11_isOn Q 0 [some (vR 11 0), some (vI a1), some (vI a2)] [] v := z_run [] 400 h
set_option maxRecDepth 100000 in
set_option maxHeartbeats 2000000 in
theorem B_X11_fareOf_0 {d : Nat} {Q : z_RT} {v : z_V} {a1 : Int32}
    (h : z_C d m_X11_one [vR 11 0, vI a1] v (fun w1 o2 => ∃ i3 : Int32, o2 = some (vI i3) ∧ z_if (z_in (10 + i3) 1218) (z_C d m_X11_other [vR 11 0, vI a1] w1 (fun w4 o5 => ∃ i6 : Int32, o5 = some (vI i6) ∧ z_if (z_in (10 + i6) 1218) (z_C d m_X11_apartBy [vI (gI w1 1200 0 (n_ (10 + i3))), vI (gI w4 1200 0 (n_ (10 + i6)))] w4 (fun w7 o8 => ∃ i9 : Int32, o8 = some (vI i9) ∧ Q w7 (some (vI i9)))))))) :
    z_Wp (z_C d) 1 k_X11_fareOf Q 0 [some (vR 11 0), some (vI a1)] [] v := z_run [] 400 h
set_option maxRecDepth 100000 in
set_option maxHeartbeats 2000000 in
theorem B_X11_openMany_0 {d : Nat} {Q : z_RT} {v : z_V}
    (h : z_C d m_X11_bits [vI (gI v 1200 0 9)] v (fun w1 o2 => ∃ i3 : Int32, o2 = some (vI i3) ∧ Q w1 (some (vI i3)))) :
    z_Wp (z_C d) 1 k_X11_openMany Q 0 [some (vR 11 0)] [] v := z_run [] 400 h
set_option maxRecDepth 100000 in
set_option maxHeartbeats 2000000 in
theorem B_X11_besideOf_0 {d : Nat} {Q : z_RT} {v : z_V} {a1 : Int32}
    (h : z_Wp (z_C d) 1 k_X11_besideOf Q 4 [some (vR 11 0), some (vI a1), some (vI 0), some (vI 0)] [] v) :
    z_Wp (z_C d) 1 k_X11_besideOf Q 0 [some (vR 11 0), some (vI a1), none, none] [] v := z_run [4] 400 h
set_option maxRecDepth 100000 in
set_option maxHeartbeats 2000000 in
theorem B_X11_besideOf_4 {d : Nat} {Q : z_RT} {v : z_V} {x1 : Int32} {x2 : Int32} {x3 : Int32}
    (h : (((gI v 1200 0 0) ≤ x3 → Q v (some (vI x2))) ∧ (¬ (gI v 1200 0 0) ≤ x3 → z_C d m_X11_isOpen [vR 11 0, vI x3] v (fun w1 o2 => ∃ i3 : Int32, o2 = some (vI i3) ∧ ((i3 = 0 → z_Wp (z_C d) 1 k_X11_besideOf Q 4 [some (vR 11 0), some (vI x1), some (vI x2), some (vI (x3 + 1))] [] w1) ∧ (¬ i3 = 0 → z_C d m_X11_isOn [vR 11 0, vI x3, vI x1] w1 (fun w4 o5 => ∃ i6 : Int32, o5 = some (vI i6) ∧ ((i6 = 0 → z_Wp (z_C d) 1 k_X11_besideOf Q 4 [some (vR 11 0), some (vI x1), some (vI x2), some (vI (x3 + 1))] [] w4) ∧ (¬ i6 = 0 → z_C d m_X11_one [vR 11 0, vI x3] w4 (fun w7 o8 => ∃ i9 : Int32, o8 = some (vI i9) ∧ z_C d m_X11_other [vR 11 0, vI x3] w7 (fun w10 o11 => ∃ i12 : Int32, o11 = some (vI i12) ∧ z_Wp (z_C d) 1 k_X11_besideOf Q 4 [some (vR 11 0), some (vI x1), some (vI (x2 ||| (i_shl 1 ((i9 + i12) - x1)))), some (vI (x3 + 1))] [] w10))))))))))) :
    z_Wp (z_C d) 1 k_X11_besideOf Q 4 [some (vR 11 0), some (vI x1), some (vI x2), some (vI x3)] [] v := z_run [4] 400 h
set_option maxRecDepth 100000 in
set_option maxHeartbeats 2000000 in
theorem B_X11_areBeside_0 {d : Nat} {Q : z_RT} {v : z_V} {a1 : Int32} {a2 : Int32}
    (h : z_C d m_X11_besideOf [vR 11 0, vI a1] v (fun w1 o2 => ∃ i3 : Int32, o2 = some (vI i3) ∧ z_C d m_X11_has [vI i3, vI a2] w1 (fun w4 o5 => ∃ i6 : Int32, o5 = some (vI i6) ∧ z_if (z_01 i6) (Q w4 (some (vI i6)))))) :
    z_Wp (z_C d) 4 k_X11_areBeside Q 0 [some (vR 11 0), some (vI a1), some (vI a2)] [] v := z_run [] 400 h
set_option maxRecDepth 100000 in
set_option maxHeartbeats 2000000 in
theorem B_X11_lay_0 {d : Nat} {Q : z_RT} {v : z_V} {a1 : Int32} {a2 : Int32}
    (h : z_C d m_X11_isHalt [vI a1] v (fun w1 o2 => ∃ i3 : Int32, o2 = some (vI i3) ∧ ((i3 = 0 → Q w1 (some (vI (-1)))) ∧ (¬ i3 = 0 → z_C d m_X11_isHalt [vI a2] w1 (fun w4 o5 => ∃ i6 : Int32, o5 = some (vI i6) ∧ ((i6 = 0 → Q w4 (some (vI (-1)))) ∧ (¬ i6 = 0 → ((a1 = a2 → Q w4 (some (vI (-1)))) ∧ (¬ a1 = a2 → ((¬ (gI w4 1200 0 0) = 10 → z_Wp (z_C d) 1 k_X11_lay Q 34 [some (vR 11 0), some (vI a1), some (vI a2), some (vI 0)] [] w4) ∧ ((gI w4 1200 0 0) = 10 → Q w4 (some (vI (-1)))))))))))))) :
    z_Wp (z_C d) 1 k_X11_lay Q 0 [some (vR 11 0), some (vI a1), some (vI a2), none] [] v := z_run [34, 116] 400 h
set_option maxRecDepth 100000 in
set_option maxHeartbeats 2000000 in
theorem B_X11_lay_34 {d : Nat} {Q : z_RT} {v : z_V} {x1 : Int32} {x2 : Int32} {x3 : Int32}
    (h : (((gI v 1200 0 0) ≤ x3 → z_if (z_in (17 + (2 * (gI v 1200 0 0))) 1218) (z_if (z_in ((17 + (2 * (gI v 1200 0 0))) + 1) 1218) (z_Wp (z_C d) 1 k_X11_lay Q 116 [some (vR 11 0), some (vI x1), some (vI x2), some (vI (gI v 1200 0 0))] [] (pI (pI (pI v 1200 0 (n_ (17 + (2 * (gI v 1200 0 0)))) x1) 1200 0 (n_ ((17 + (2 * (gI v 1200 0 0))) + 1)) x2) 1200 0 9 ((gI (pI (pI v 1200 0 (n_ (17 + (2 * (gI v 1200 0 0)))) x1) 1200 0 (n_ ((17 + (2 * (gI v 1200 0 0))) + 1)) x2) 1200 0 9) ||| (i_shl 1 (gI v 1200 0 0))))))) ∧ (¬ (gI v 1200 0 0) ≤ x3 → z_C d m_X11_isOn [vR 11 0, vI x3, vI x1] v (fun w1 o2 => ∃ i3 : Int32, o2 = some (vI i3) ∧ ((i3 = 0 → z_Wp (z_C d) 1 k_X11_lay Q 34 [some (vR 11 0), some (vI x1), some (vI x2), some (vI (x3 + 1))] [] w1) ∧ (¬ i3 = 0 → z_C d m_X11_isOn [vR 11 0, vI x3, vI x2] w1 (fun w4 o5 => ∃ i6 : Int32, o5 = some (vI i6) ∧ ((i6 = 0 → z_Wp (z_C d) 1 k_X11_lay Q 34 [some (vR 11 0), some (vI x1), some (vI x2), some (vI (x3 + 1))] [] w4) ∧ (¬ i6 = 0 → Q w4 (some (vI (-1)))))))))))) :
    z_Wp (z_C d) 1 k_X11_lay Q 34 [some (vR 11 0), some (vI x1), some (vI x2), some (vI x3)] [] v := z_run [34, 116] 400 h
set_option maxRecDepth 100000 in
set_option maxHeartbeats 2000000 in
theorem B_X11_lay_116 {d : Nat} {Q : z_RT} {v : z_V} {u1 : Option z_AV} {u2 : Option z_AV} {x3 : Int32}
    (h : Q (pI v 1200 0 0 ((gI v 1200 0 0) + 1)) (some (vI x3))) :
    z_Wp (z_C d) 1 k_X11_lay Q 116 [some (vR 11 0), u1, u2, some (vI x3)] [] v := z_run [34, 116] 400 h
set_option maxRecDepth 100000 in
set_option maxHeartbeats 2000000 in
theorem B_X11_four_0 {d : Nat} {Q : z_RT} {v : z_V} {a1 : Int32}
    (h : z_Wp (z_C d) 0 k_X11_four Q 3 [some (vR 11 0), some (vI a1), some (vI 24)] [] v) :
    z_Wp (z_C d) 0 k_X11_four Q 0 [some (vR 11 0), some (vI a1), none] [] v := z_run [3] 400 h
set_option maxRecDepth 100000 in
set_option maxHeartbeats 2000000 in
theorem B_X11_four_3 {d : Nat} {Q : z_RT} {v : z_V} {x1 : Int32} {x2 : Int32}
    (h : ((x2 < 0 → Q v none) ∧ (¬ x2 < 0 → z_if (z_in (gI v 11 0 4) 300) (z_Wp (z_C d) 0 k_X11_four Q 3 [some (vR 11 0), some (vI x1), some (vI (x2 + (-8)))] [] (pI (pI v 1203 0 (n_ (gI v 11 0 4)) ((i_shr x1 x2) &&& 255)) 11 0 4 ((gI v 11 0 4) + 1)))))) :
    z_Wp (z_C d) 0 k_X11_four Q 3 [some (vR 11 0), some (vI x1), some (vI x2)] [] v := z_run [3] 400 h
set_option maxRecDepth 100000 in
set_option maxHeartbeats 2000000 in
theorem B_X11_feed_0 {d : Nat} {Q : z_RT} {v : z_V} {a1 : Int32} {a2 : Int32} {a3 : Int32} {a4 : Int32} {a5 : Int32}
    (h : ((((gI v 11 0 4) + 20) ≤ 300 → z_C d m_X11_four [vR 11 0, vI a1] v (fun w1 o2 => o2 = none ∧ z_C d m_X11_four [vR 11 0, vI a2] w1 (fun w3 o4 => o4 = none ∧ z_C d m_X11_four [vR 11 0, vI a3] w3 (fun w5 o6 => o6 = none ∧ z_C d m_X11_four [vR 11 0, vI a4] w5 (fun w7 o8 => o8 = none ∧ z_C d m_X11_four [vR 11 0, vI a5] w7 (fun w9 o10 => o10 = none ∧ Q w9 (some (vI (gI w9 11 0 4))))))))) ∧ (¬ ((gI v 11 0 4) + 20) ≤ 300 → Q v (some (vI (-1)))))) :
    z_Wp (z_C d) 1 k_X11_feed Q 0 [some (vR 11 0), some (vI a1), some (vI a2), some (vI a3), some (vI a4), some (vI a5)] [] v := z_run [] 400 h
set_option maxRecDepth 100000 in
set_option maxHeartbeats 2000000 in
theorem B_X11_end_0 {d : Nat} {Q : z_RT} {v : z_V} {a1 : Int32}
    (h : z_C d m_X11_isIn [vI a1, vI 0, vI (gI v 11 0 4)] v (fun w1 o2 => ∃ i3 : Int32, o2 = some (vI i3) ∧ ((¬ i3 = 0 → Q (pI w1 11 0 4 a1) (some (vI a1))) ∧ (i3 = 0 → Q w1 (some (vI (-1))))))) :
    z_Wp (z_C d) 1 k_X11_end Q 0 [some (vR 11 0), some (vI a1)] [] v := z_run [] 400 h
set_option maxRecDepth 100000 in
set_option maxHeartbeats 2000000 in
theorem B_X11_byteAt_0 {d : Nat} {Q : z_RT} {v : z_V} {a1 : Int32}
    (h : (((gI v 11 0 4) ≤ a1 → Q v (some (vI (-1)))) ∧ (¬ (gI v 11 0 4) ≤ a1 → z_if (z_in a1 300) (Q v (some (vI (gI v 1203 0 (n_ a1)))))))) :
    z_Wp (z_C d) 1 k_X11_byteAt Q 0 [some (vR 11 0), some (vI a1)] [] v := z_run [] 400 h
set_option maxRecDepth 100000 in
set_option maxHeartbeats 2000000 in
theorem B_X11_isLetterByte_0 {d : Nat} {Q : z_RT} {v : z_V} {a0 : Int32}
    (h : ((a0 < 97 → ((a0 < 65 → Q v (some (vI 0))) ∧ (¬ a0 < 65 → ((90 < a0 → Q v (some (vI 0))) ∧ (¬ 90 < a0 → Q v (some (vI 1))))))) ∧ (¬ a0 < 97 → ((a0 ≤ 122 → Q v (some (vI 1))) ∧ (¬ a0 ≤ 122 → ((a0 < 65 → Q v (some (vI 0))) ∧ (¬ a0 < 65 → ((90 < a0 → Q v (some (vI 0))) ∧ (¬ 90 < a0 → Q v (some (vI 1))))))))))) :
    z_Wp (z_C d) 4 k_X11_isLetterByte Q 0 [some (vI a0)] [] v := z_run [] 400 h
set_option maxRecDepth 100000 in
set_option maxHeartbeats 2000000 in
theorem B_X11_isFigure_0 {d : Nat} {Q : z_RT} {v : z_V} {a0 : Int32}
    (h : ((a0 < 48 → Q v (some (vI 0))) ∧ (¬ a0 < 48 → ((57 < a0 → Q v (some (vI 0))) ∧ (¬ 57 < a0 → Q v (some (vI 1))))))) :
    z_Wp (z_C d) 4 k_X11_isFigure Q 0 [some (vI a0)] [] v := z_run [] 400 h
set_option maxRecDepth 100000 in
set_option maxHeartbeats 2000000 in
theorem B_X11_isSign_0 {d : Nat} {Q : z_RT} {v : z_V} {a0 : Int32}
    (h : ((a0 = 35 → Q v (some (vI 1))) ∧ (¬ a0 = 35 → ((a0 = 36 → Q v (some (vI 0))) ∧ (¬ a0 = 36 → ((a0 = 37 → Q v (some (vI 0))) ∧ (¬ a0 = 37 → ((a0 = 38 → Q v (some (vI 0))) ∧ (¬ a0 = 38 → ((a0 = 39 → Q v (some (vI 0))) ∧ (¬ a0 = 39 → ((a0 = 40 → Q v (some (vI 1))) ∧ (¬ a0 = 40 → ((a0 = 41 → Q v (some (vI 1))) ∧ (¬ a0 = 41 → ((a0 = 42 → Q v (some (vI 1))) ∧ (¬ a0 = 42 → ((a0 = 43 → Q v (some (vI 1))) ∧ (¬ a0 = 43 → ((a0 = 44 → Q v (some (vI 0))) ∧ (¬ a0 = 44 → ((a0 = 45 → Q v (some (vI 1))) ∧ (¬ a0 = 45 → ((a0 = 46 → Q v (some (vI 0))) ∧ (¬ a0 = 46 → ((a0 = 47 → Q v (some (vI 1))) ∧ (¬ a0 = 47 → ((a0 = 48 → Q v (some (vI 0))) ∧ (¬ a0 = 48 → ((a0 = 49 → Q v (some (vI 0))) ∧ (¬ a0 = 49 → ((a0 = 50 → Q v (some (vI 0))) ∧ (¬ a0 = 50 → ((a0 = 51 → Q v (some (vI 0))) ∧ (¬ a0 = 51 → ((a0 = 52 → Q v (some (vI 0))) ∧ (¬ a0 = 52 → ((a0 = 53 → Q v (some (vI 0))) ∧ (¬ a0 = 53 → ((a0 = 54 → Q v (some (vI 0))) ∧ (¬ a0 = 54 → ((a0 = 55 → Q v (some (vI 0))) ∧ (¬ a0 = 55 → ((a0 = 56 → Q v (some (vI 0))) ∧ (¬ a0 = 56 → ((a0 = 57 → Q v (some (vI 0))) ∧ (¬ a0 = 57 → ((a0 = 58 → Q v (some (vI 1))) ∧ (¬ a0 = 58 → ((a0 = 59 → Q v (some (vI 1))) ∧ (¬ a0 = 59 → ((a0 = 60 → Q v (some (vI 1))) ∧ (¬ a0 = 60 → ((a0 = 61 → Q v (some (vI 1))) ∧ (¬ a0 = 61 → ((a0 = 62 → Q v (some (vI 1))) ∧ (¬ a0 = 62 → Q v (some (vI 0))))))))))))))))))))))))))))))))))))))))))))))))))))))))))) :
    z_Wp (z_C d) 4 k_X11_isSign Q 0 [some (vI a0)] [] v := z_run [] 400 h
set_option maxRecDepth 100000 in
set_option maxHeartbeats 2000000 in
theorem B_X11_nextToken_0 {d : Nat} {Q : z_RT} {v : z_V}
    (h : z_C d m_X11_byteAt [vR 11 0, vI (gI v 11 0 7)] v (fun w1 o2 => ∃ i3 : Int32, o2 = some (vI i3) ∧ ((i3 = 32 → z_Wp (z_C d) 0 k_X11_nextToken Q 0 [some (vR 11 0), none] [] (pI w1 11 0 7 ((gI w1 11 0 7) + 1))) ∧ (¬ i3 = 32 → z_C d m_X11_byteAt [vR 11 0, vI (gI w1 11 0 7)] w1 (fun w4 o5 => ∃ i6 : Int32, o5 = some (vI i6) ∧ ((¬ i6 = 10 → z_C d m_X11_byteAt [vR 11 0, vI (gI w4 11 0 7)] (pI w4 11 0 8 (gI w4 11 0 7)) (fun w7 o8 => ∃ i9 : Int32, o8 = some (vI i9) ∧ ((0 ≤ i9 → z_C d m_X11_isFigure [vI i9] w7 (fun w10 o11 => ∃ i12 : Int32, o11 = some (vI i12) ∧ ((i12 = 0 → z_C d m_X11_isLetterByte [vI i9] w10 (fun w13 o14 => ∃ i15 : Int32, o14 = some (vI i15) ∧ ((i15 = 0 → z_C d m_X11_isSign [vI i9] w13 (fun w16 o17 => ∃ i18 : Int32, o17 = some (vI i18) ∧ ((i18 = 0 → ((i9 = 60 → z_Wp (z_C d) 0 k_X11_nextToken Q 272 [some (vR 11 0), some (vI i9)] [] (pI (pI w16 11 0 9 3) 11 0 7 ((gI w16 11 0 7) + 1))) ∧ (¬ i9 = 60 → ((¬ i9 = 62 → Q (pI (pI w16 11 0 9 3) 11 0 7 ((gI w16 11 0 7) + 1)) none) ∧ (i9 = 62 → z_Wp (z_C d) 0 k_X11_nextToken Q 272 [some (vR 11 0), some (vI i9)] [] (pI (pI w16 11 0 9 3) 11 0 7 ((gI w16 11 0 7) + 1))))))) ∧ (¬ i18 = 0 → ((i9 = 60 → z_Wp (z_C d) 0 k_X11_nextToken Q 272 [some (vR 11 0), some (vI i9)] [] (pI (pI w16 11 0 9 i9) 11 0 7 ((gI w16 11 0 7) + 1))) ∧ (¬ i9 = 60 → ((¬ i9 = 62 → Q (pI (pI w16 11 0 9 i9) 11 0 7 ((gI w16 11 0 7) + 1)) none) ∧ (i9 = 62 → z_Wp (z_C d) 0 k_X11_nextToken Q 272 [some (vR 11 0), some (vI i9)] [] (pI (pI w16 11 0 9 i9) 11 0 7 ((gI w16 11 0 7) + 1)))))))))) ∧ (¬ i15 = 0 → z_Wp (z_C d) 0 k_X11_nextToken Q 168 [some (vR 11 0), some (vI i9)] [] (pL (pI w13 11 0 9 2) 11 0 11 0))))) ∧ (¬ i12 = 0 → z_Wp (z_C d) 0 k_X11_nextToken Q 85 [some (vR 11 0), some (vI i9)] [] (pI (pI w10 11 0 9 1) 11 0 10 0))))) ∧ (¬ 0 ≤ i9 → Q (pI w7 11 0 9 0) none)))) ∧ (i6 = 10 → z_Wp (z_C d) 0 k_X11_nextToken Q 0 [some (vR 11 0), none] [] (pI w4 11 0 7 ((gI w4 11 0 7) + 1))))))))) :
    z_Wp (z_C d) 0 k_X11_nextToken Q 0 [some (vR 11 0), none] [] v := z_run [0, 85, 168, 272] 400 h
set_option maxRecDepth 100000 in
set_option maxHeartbeats 2000000 in
theorem B_X11_nextToken_272 {d : Nat} {Q : z_RT} {v : z_V} {x1 : Int32}
    (h : z_C d m_X11_byteAt [vR 11 0, vI (gI v 11 0 7)] v (fun w1 o2 => ∃ i3 : Int32, o2 = some (vI i3) ∧ ((¬ i3 = 61 → Q w1 none) ∧ (i3 = 61 → ((¬ x1 = 60 → Q (pI (pI w1 11 0 9 5) 11 0 7 ((gI w1 11 0 7) + 1)) none) ∧ (x1 = 60 → Q (pI (pI w1 11 0 9 4) 11 0 7 ((gI w1 11 0 7) + 1)) none)))))) :
    z_Wp (z_C d) 0 k_X11_nextToken Q 272 [some (vR 11 0), some (vI x1)] [] v := z_run [0, 85, 168, 272] 400 h
set_option maxRecDepth 100000 in
set_option maxHeartbeats 2000000 in
theorem B_X11_nextToken_168 {d : Nat} {Q : z_RT} {v : z_V} {u1 : Option z_AV}
    (h : z_C d m_X11_byteAt [vR 11 0, vI (gI v 11 0 7)] v (fun w1 o2 => ∃ i3 : Int32, o2 = some (vI i3) ∧ z_C d m_X11_isLetterByte [vI i3] w1 (fun w4 o5 => ∃ i6 : Int32, o5 = some (vI i6) ∧ ((i6 = 0 → Q w4 none) ∧ (¬ i6 = 0 → (((lg_cmp (l_shr (gL w4 11 0 11) 48) 0) = 0 → z_C d m_X11_byteAt [vR 11 0, vI (gI w4 11 0 7)] w4 (fun w7 o8 => ∃ i9 : Int32, o8 = some (vI i9) ∧ z_Wp (z_C d) 0 k_X11_nextToken Q 168 [some (vR 11 0), none] [] (pI (pL w7 11 0 11 ((l_shl (gL w4 11 0 11) 8) ||| i9.toInt64)) 11 0 7 ((gI w7 11 0 7) + 1)))) ∧ (¬ (lg_cmp (l_shr (gL w4 11 0 11) 48) 0) = 0 → z_Wp (z_C d) 0 k_X11_nextToken Q 168 [some (vR 11 0), none] [] (pI (pL w4 11 0 11 1152921504606846976) 11 0 7 ((gI w4 11 0 7) + 1))))))))) :
    z_Wp (z_C d) 0 k_X11_nextToken Q 168 [some (vR 11 0), u1] [] v := z_run [0, 85, 168, 272] 400 h
set_option maxRecDepth 100000 in
set_option maxHeartbeats 2000000 in
theorem B_X11_nextToken_85 {d : Nat} {Q : z_RT} {v : z_V} {u1 : Option z_AV}
    (h : z_C d m_X11_byteAt [vR 11 0, vI (gI v 11 0 7)] v (fun w1 o2 => ∃ i3 : Int32, o2 = some (vI i3) ∧ z_C d m_X11_isFigure [vI i3] w1 (fun w4 o5 => ∃ i6 : Int32, o5 = some (vI i6) ∧ ((i6 = 0 → Q w4 none) ∧ (¬ i6 = 0 → (((gI w4 11 0 10) ≤ 99999 → z_C d m_X11_byteAt [vR 11 0, vI (gI w4 11 0 7)] w4 (fun w7 o8 => ∃ i9 : Int32, o8 = some (vI i9) ∧ z_Wp (z_C d) 0 k_X11_nextToken Q 85 [some (vR 11 0), none] [] (pI (pI w7 11 0 10 (((10 * (gI w4 11 0 10)) + i9) - 48)) 11 0 7 ((gI w7 11 0 7) + 1)))) ∧ (¬ (gI w4 11 0 10) ≤ 99999 → z_Wp (z_C d) 0 k_X11_nextToken Q 85 [some (vR 11 0), none] [] (pI (pI w4 11 0 10 (gI w4 11 0 10)) 11 0 7 ((gI w4 11 0 7) + 1))))))))) :
    z_Wp (z_C d) 0 k_X11_nextToken Q 85 [some (vR 11 0), u1] [] v := z_run [0, 85, 168, 272] 400 h
set_option maxRecDepth 100000 in
set_option maxHeartbeats 2000000 in
theorem B_X11_w2_0 {d : Nat} {Q : z_RT} {v : z_V} {a0 : Int32} {a1 : Int32}
    (h : Q v (some (vL ((l_shl a0.toInt64 8) ||| a1.toInt64)))) :
    z_Wp (z_C d) 2 k_X11_w2 Q 0 [some (vI a0), some (vI a1)] [] v := z_run [] 400 h
set_option maxRecDepth 100000 in
set_option maxHeartbeats 2000000 in
theorem B_X11_w3_0 {d : Nat} {Q : z_RT} {v : z_V} {a0 : Int32} {a1 : Int32} {a2 : Int32}
    (h : z_C d m_X11_w2 [vI a0, vI a1] v (fun w1 o2 => ∃ l3 : Int64, o2 = some (vL l3) ∧ Q w1 (some (vL ((l_shl l3 8) ||| a2.toInt64))))) :
    z_Wp (z_C d) 2 k_X11_w3 Q 0 [some (vI a0), some (vI a1), some (vI a2)] [] v := z_run [] 400 h
set_option maxRecDepth 100000 in
set_option maxHeartbeats 2000000 in
theorem B_X11_w4_0 {d : Nat} {Q : z_RT} {v : z_V} {a0 : Int32} {a1 : Int32} {a2 : Int32} {a3 : Int32}
    (h : z_C d m_X11_w3 [vI a0, vI a1, vI a2] v (fun w1 o2 => ∃ l3 : Int64, o2 = some (vL l3) ∧ Q w1 (some (vL ((l_shl l3 8) ||| a3.toInt64))))) :
    z_Wp (z_C d) 2 k_X11_w4 Q 0 [some (vI a0), some (vI a1), some (vI a2), some (vI a3)] [] v := z_run [] 400 h
set_option maxRecDepth 100000 in
set_option maxHeartbeats 2000000 in
theorem B_X11_w5_0 {d : Nat} {Q : z_RT} {v : z_V} {a0 : Int32} {a1 : Int32} {a2 : Int32} {a3 : Int32} {a4 : Int32}
    (h : z_C d m_X11_w4 [vI a0, vI a1, vI a2, vI a3] v (fun w1 o2 => ∃ l3 : Int64, o2 = some (vL l3) ∧ Q w1 (some (vL ((l_shl l3 8) ||| a4.toInt64))))) :
    z_Wp (z_C d) 2 k_X11_w5 Q 0 [some (vI a0), some (vI a1), some (vI a2), some (vI a3), some (vI a4)] [] v := z_run [] 400 h
set_option maxRecDepth 100000 in
set_option maxHeartbeats 2000000 in
theorem B_X11_w6_0 {d : Nat} {Q : z_RT} {v : z_V} {a0 : Int32} {a1 : Int32} {a2 : Int32} {a3 : Int32} {a4 : Int32} {a5 : Int32}
    (h : z_C d m_X11_w5 [vI a0, vI a1, vI a2, vI a3, vI a4] v (fun w1 o2 => ∃ l3 : Int64, o2 = some (vL l3) ∧ Q w1 (some (vL ((l_shl l3 8) ||| a5.toInt64))))) :
    z_Wp (z_C d) 2 k_X11_w6 Q 0 [some (vI a0), some (vI a1), some (vI a2), some (vI a3), some (vI a4), some (vI a5)] [] v := z_run [] 400 h
set_option maxRecDepth 100000 in
set_option maxHeartbeats 2000000 in
theorem B_X11_isWord_0 {d : Nat} {Q : z_RT} {v : z_V} {a1 : Int64}
    (h : ((¬ (gI v 11 0 9) = 2 → Q v (some (vI 0))) ∧ ((gI v 11 0 9) = 2 → ((¬ (lg_cmp (gL v 11 0 11) a1) = 0 → Q v (some (vI 0))) ∧ ((lg_cmp (gL v 11 0 11) a1) = 0 → Q v (some (vI 1))))))) :
    z_Wp (z_C d) 4 k_X11_isWord Q 0 [some (vR 11 0), some (vL a1), none] [] v := z_run [] 400 h
set_option maxRecDepth 100000 in
set_option maxHeartbeats 2000000 in
theorem B_X11_emit_0 {d : Nat} {Q : z_RT} {v : z_V} {a1 : Int32} {a2 : Int32}
    (h : z_if (z_in (((gI v 11 0 12) + 73) + (2 * (gI v 11 0 13))) 2724) (z_if (z_in ((((gI v 11 0 12) + 73) + (2 * (gI v 11 0 13))) + 1) 2724) (Q (pI (pI (pI v 1202 0 (n_ (((gI v 11 0 12) + 73) + (2 * (gI v 11 0 13)))) a1) 1202 0 (n_ ((((gI v 11 0 12) + 73) + (2 * (gI v 11 0 13))) + 1)) a2) 11 0 13 ((gI v 11 0 13) + 1)) none))) :
    z_Wp (z_C d) 0 k_X11_emit Q 0 [some (vR 11 0), some (vI a1), some (vI a2)] [] v := z_run [] 400 h
set_option maxRecDepth 100000 in
set_option maxHeartbeats 2000000 in
theorem B_X11_nameOf_0 {d : Nat} {Q : z_RT} {v : z_V}
    (h : (((gI v 11 0 9) = 2 → z_C d m_X11_w3 [vI 100, vI 97, vI 121] v (fun w1 o2 => ∃ l3 : Int64, o2 = some (vL l3) ∧ ((¬ (lg_cmp (gL v 11 0 11) l3) = 0 → z_C d m_X11_w5 [vI 119, vI 104, vI 105, vI 99, vI 104] w1 (fun w4 o5 => ∃ l6 : Int64, o5 = some (vL l6) ∧ ((¬ (lg_cmp (gL w1 11 0 11) l6) = 0 → z_C d m_X11_w4 [vI 102, vI 117, vI 110, vI 100] w4 (fun w7 o8 => ∃ l9 : Int64, o8 = some (vL l9) ∧ ((¬ (lg_cmp (gL w4 11 0 11) l9) = 0 → z_C d m_X11_w4 [vI 111, vI 112, vI 101, vI 110] w7 (fun w10 o11 => ∃ l12 : Int64, o11 = some (vL l12) ∧ ((¬ (lg_cmp (gL w7 11 0 11) l12) = 0 → z_C d m_X11_w4 [vI 100, vI 105, vI 102, vI 102] w10 (fun w13 o14 => ∃ l15 : Int64, o14 = some (vL l15) ∧ ((¬ (lg_cmp (gL w10 11 0 11) l15) = 0 → z_C d m_X11_w3 [vI 108, vI 111, vI 119] w13 (fun w16 o17 => ∃ l18 : Int64, o17 = some (vL l18) ∧ ((¬ (lg_cmp (gL w13 11 0 11) l18) = 0 → z_C d m_X11_w4 [vI 104, vI 105, vI 103, vI 104] w16 (fun w19 o20 => ∃ l21 : Int64, o20 = some (vL l21) ∧ ((¬ (lg_cmp (gL w16 11 0 11) l21) = 0 → z_C d m_X11_w3 [vI 111, vI 108, vI 100] w19 (fun w22 o23 => ∃ l24 : Int64, o23 = some (vL l24) ∧ ((¬ (lg_cmp (gL w19 11 0 11) l24) = 0 → z_C d m_X11_w3 [vI 110, vI 101, vI 119] w22 (fun w25 o26 => ∃ l27 : Int64, o26 = some (vL l27) ∧ ((¬ (lg_cmp (gL w22 11 0 11) l27) = 0 → z_C d m_X11_w6 [vI 98, vI 101, vI 115, vI 105, vI 100, vI 101] w25 (fun w28 o29 => ∃ l30 : Int64, o29 = some (vL l30) ∧ ((¬ (lg_cmp (gL w25 11 0 11) l30) = 0 → Q w28 (some (vI (-1)))) ∧ ((lg_cmp (gL w25 11 0 11) l30) = 0 → Q w28 (some (vI 9)))))) ∧ ((lg_cmp (gL w22 11 0 11) l27) = 0 → Q w25 (some (vI 8)))))) ∧ ((lg_cmp (gL w19 11 0 11) l24) = 0 → Q w22 (some (vI 7)))))) ∧ ((lg_cmp (gL w16 11 0 11) l21) = 0 → Q w19 (some (vI 6)))))) ∧ ((lg_cmp (gL w13 11 0 11) l18) = 0 → Q w16 (some (vI 5)))))) ∧ ((lg_cmp (gL w10 11 0 11) l15) = 0 → Q w13 (some (vI 4)))))) ∧ ((lg_cmp (gL w7 11 0 11) l12) = 0 → Q w10 (some (vI 3)))))) ∧ ((lg_cmp (gL w4 11 0 11) l9) = 0 → Q w7 (some (vI 2)))))) ∧ ((lg_cmp (gL w1 11 0 11) l6) = 0 → Q w4 (some (vI 1)))))) ∧ ((lg_cmp (gL v 11 0 11) l3) = 0 → Q w1 (some (vI 0)))))) ∧ (¬ (gI v 11 0 9) = 2 → Q v (some (vI (-1)))))) :
    z_Wp (z_C d) 1 k_X11_nameOf Q 0 [some (vR 11 0)] [] v := z_run [] 400 h
set_option maxRecDepth 100000 in
set_option maxHeartbeats 2000000 in
theorem B_X11_isOf_0 {d : Nat} {Q : z_RT} {v : z_V} {a1 : Int32}
    (h : ((a1 < 4 → Q v (some (vI 1))) ∧ (¬ a1 < 4 → ((7 ≤ a1 → ((¬ (gI v 11 0 14) = 1 → Q v (some (vI 0))) ∧ ((gI v 11 0 14) = 1 → Q v (some (vI 1))))) ∧ (¬ 7 ≤ a1 → ((¬ (gI v 11 0 14) = 0 → Q v (some (vI 0))) ∧ ((gI v 11 0 14) = 0 → Q v (some (vI 1))))))))) :
    z_Wp (z_C d) 4 k_X11_isOf Q 0 [some (vR 11 0), some (vI a1)] [] v := z_run [] 400 h
set_option maxRecDepth 100000 in
set_option maxHeartbeats 2000000 in
theorem B_X11_rank_0 {d : Nat} {Q : z_RT} {v : z_V} {a0 : Int32}
    (h : ((a0 < 40 → ((¬ a0 = 22 → ((¬ a0 = 21 → ((¬ a0 = 20 → ((a0 < 10 → ((a0 < 8 → ((a0 < 6 → Q v (some (vI 7))) ∧ (¬ a0 < 6 → Q v (some (vI 5))))) ∧ (¬ a0 < 8 → Q v (some (vI 6))))) ∧ (¬ a0 < 10 → Q v (some (vI 4))))) ∧ (a0 = 20 → Q v (some (vI 3))))) ∧ (a0 = 21 → Q v (some (vI 2))))) ∧ (a0 = 22 → Q v (some (vI 1))))) ∧ (¬ a0 < 40 → Q v (some (vI 0))))) :
    z_Wp (z_C d) 1 k_X11_rank Q 0 [some (vI a0)] [] v := z_run [] 400 h
set_option maxRecDepth 100000 in
set_option maxHeartbeats 2000000 in
theorem B_X11_settle_0 {d : Nat} {Q : z_RT} {v : z_V} {a1 : Int32}
    (h : (((gI v 11 0 16) ≤ 0 → Q v none) ∧ (¬ (gI v 11 0 16) ≤ 0 → z_if (z_in ((gI v 11 0 16) - 1) 160) (z_C d m_X11_rank [vI (gI v 1215 0 (n_ ((gI v 11 0 16) - 1)))] v (fun w1 o2 => ∃ i3 : Int32, o2 = some (vI i3) ∧ ((i3 < a1 → Q w1 none) ∧ (¬ i3 < a1 → z_if (z_in ((gI w1 11 0 16) - 1) 160) (z_C d m_X11_emit [vR 11 0, vI (gI w1 1215 0 (n_ ((gI w1 11 0 16) - 1))), vI 0] (pI w1 11 0 16 ((gI w1 11 0 16) - 1)) (fun w4 o5 => o5 = none ∧ z_if (z_in (gI w4 11 0 16) 160) (z_C d m_X11_rank [vI (gI w4 1215 0 (n_ (gI w4 11 0 16)))] w4 (fun w6 o7 => ∃ i8 : Int32, o7 = some (vI i8) ∧ ((i8 = 7 → z_Wp (z_C d) 0 k_X11_settle Q 0 [some (vR 11 0), some (vI a1)] [] (pI w6 11 0 17 ((gI w6 11 0 17) - 1))) ∧ (¬ i8 = 7 → z_if (z_in (gI w6 11 0 16) 160) (((¬ (gI w6 1215 0 (n_ (gI w6 11 0 16))) = 20 → z_Wp (z_C d) 0 k_X11_settle Q 0 [some (vR 11 0), some (vI a1)] [] w6) ∧ ((gI w6 1215 0 (n_ (gI w6 11 0 16))) = 20 → z_Wp (z_C d) 0 k_X11_settle Q 0 [some (vR 11 0), some (vI a1)] [] (pI w6 11 0 17 ((gI w6 11 0 17) - 1)))))))))))))))))) :
    z_Wp (z_C d) 0 k_X11_settle Q 0 [some (vR 11 0), some (vI a1)] [] v := z_run [0] 400 h
set_option maxRecDepth 100000 in
set_option maxHeartbeats 2000000 in
theorem B_X11_openAt_0 {d : Nat} {Q : z_RT} {v : z_V}
    (h : z_Wp (z_C d) 1 k_X11_openAt Q 7 [some (vR 11 0), some (vI ((gI v 11 0 16) - 1))] [] v) :
    z_Wp (z_C d) 1 k_X11_openAt Q 0 [some (vR 11 0), none] [] v := z_run [7] 400 h
set_option maxRecDepth 100000 in
set_option maxHeartbeats 2000000 in
theorem B_X11_openAt_7 {d : Nat} {Q : z_RT} {v : z_V} {x1 : Int32}
    (h : ((x1 < 0 → Q v (some (vI x1))) ∧ (¬ x1 < 0 → z_if (z_in x1 160) (((40 ≤ (gI v 1215 0 (n_ x1)) → Q v (some (vI x1))) ∧ (¬ 40 ≤ (gI v 1215 0 (n_ x1)) → z_Wp (z_C d) 1 k_X11_openAt Q 7 [some (vR 11 0), some (vI (x1 + (-1)))] [] v)))))) :
    z_Wp (z_C d) 1 k_X11_openAt Q 7 [some (vR 11 0), some (vI x1)] [] v := z_run [7] 400 h
set_option maxRecDepth 100000 in
set_option maxHeartbeats 2000000 in
theorem B_X11_openNow_0 {d : Nat} {Q : z_RT} {v : z_V}
    (h : z_C d m_X11_openAt [vR 11 0] v (fun w1 o2 => ∃ i3 : Int32, o2 = some (vI i3) ∧ ((0 ≤ i3 → z_C d m_X11_openAt [vR 11 0] w1 (fun w4 o5 => ∃ i6 : Int32, o5 = some (vI i6) ∧ z_if (z_in i6 160) (Q w4 (some (vI (gI w4 1215 0 (n_ i6))))))) ∧ (¬ 0 ≤ i3 → Q w1 (some (vI (-1))))))) :
    z_Wp (z_C d) 1 k_X11_openNow Q 0 [some (vR 11 0)] [] v := z_run [] 400 h
set_option maxRecDepth 100000 in
set_option maxHeartbeats 2000000 in
theorem B_X11_isCompared_0 {d : Nat} {Q : z_RT} {v : z_V}
    (h : z_Wp (z_C d) 4 k_X11_isCompared Q 7 [some (vR 11 0), some (vI ((gI v 11 0 16) - 1))] [] v) :
    z_Wp (z_C d) 4 k_X11_isCompared Q 0 [some (vR 11 0), none] [] v := z_run [7] 400 h
set_option maxRecDepth 100000 in
set_option maxHeartbeats 2000000 in
theorem B_X11_isCompared_7 {d : Nat} {Q : z_RT} {v : z_V} {x1 : Int32}
    (h : ((x1 < 0 → ((x1 < 0 → Q v (some (vI 0))) ∧ (¬ x1 < 0 → z_if (z_in x1 160) (z_C d m_X11_rank [vI (gI v 1215 0 (n_ x1))] v (fun w1 o2 => ∃ i3 : Int32, o2 = some (vI i3) ∧ ((¬ i3 = 4 → Q w1 (some (vI 0))) ∧ (i3 = 4 → Q w1 (some (vI 1))))))))) ∧ (¬ x1 < 0 → z_if (z_in x1 160) (z_C d m_X11_rank [vI (gI v 1215 0 (n_ x1))] v (fun w4 o5 => ∃ i6 : Int32, o5 = some (vI i6) ∧ ((i6 ≤ 4 → ((x1 < 0 → Q w4 (some (vI 0))) ∧ (¬ x1 < 0 → z_if (z_in x1 160) (z_C d m_X11_rank [vI (gI w4 1215 0 (n_ x1))] w4 (fun w7 o8 => ∃ i9 : Int32, o8 = some (vI i9) ∧ ((¬ i9 = 4 → Q w7 (some (vI 0))) ∧ (i9 = 4 → Q w7 (some (vI 1))))))))) ∧ (¬ i6 ≤ 4 → z_Wp (z_C d) 4 k_X11_isCompared Q 7 [some (vR 11 0), some (vI (x1 + (-1)))] [] w4))))))) :
    z_Wp (z_C d) 4 k_X11_isCompared Q 7 [some (vR 11 0), some (vI x1)] [] v := z_run [7] 400 h
set_option maxRecDepth 100000 in
set_option maxHeartbeats 2000000 in
theorem B_X11_isAskAhead_0 {d : Nat} {Q : z_RT} {v : z_V}
    (h : z_C d m_X11_openNow [vR 11 0] v (fun w1 o2 => ∃ i3 : Int32, o2 = some (vI i3) ∧ ((¬ i3 = 41 → Q w1 (some (vI 0))) ∧ (i3 = 41 → z_if (z_in ((gI w1 11 0 16) - 1) 160) (((40 ≤ (gI w1 1215 0 (n_ ((gI w1 11 0 16) - 1))) → Q w1 (some (vI 1))) ∧ (¬ 40 ≤ (gI w1 1215 0 (n_ ((gI w1 11 0 16) - 1))) → z_if (z_in ((gI w1 11 0 16) - 1) 160) (z_C d m_X11_rank [vI (gI w1 1215 0 (n_ ((gI w1 11 0 16) - 1)))] w1 (fun w4 o5 => ∃ i6 : Int32, o5 = some (vI i6) ∧ z_C d m_X11_isIn [vI i6, vI 1, vI 3] w4 (fun w7 o8 => ∃ i9 : Int32, o8 = some (vI i9) ∧ ((i9 = 0 → Q w7 (some (vI 0))) ∧ (¬ i9 = 0 → Q w7 (some (vI 1)))))))))))))) :
    z_Wp (z_C d) 4 k_X11_isAskAhead Q 0 [some (vR 11 0)] [] v := z_run [] 400 h
set_option maxRecDepth 100000 in
set_option maxHeartbeats 2000000 in
theorem B_X11_opened_0 {d : Nat} {Q : z_RT} {v : z_V} {a1 : Int32}
    (h : ((¬ (gI v 11 0 17) = 8 → z_if (z_in (gI v 11 0 16) 160) (z_C d m_X11_nextToken [vR 11 0] (pI (pI (pI v 11 0 17 ((gI v 11 0 17) + 1)) 1215 0 (n_ (gI v 11 0 16)) a1) 11 0 16 ((gI v 11 0 16) + 1)) (fun w1 o2 => o2 = none ∧ Q w1 (some (vI 0))))) ∧ ((gI v 11 0 17) = 8 → Q v (some (vI 3))))) :
    z_Wp (z_C d) 1 k_X11_opened Q 0 [some (vR 11 0), some (vI a1)] [] v := z_run [] 400 h
set_option maxRecDepth 100000 in
set_option maxHeartbeats 2000000 in
theorem B_X11_beginOne_0 {d : Nat} {Q : z_RT} {v : z_V}
    (h : ((¬ (gI v 11 0 9) = 1 → z_C d m_X11_nameOf [vR 11 0] v (fun w1 o2 => ∃ i3 : Int32, o2 = some (vI i3) ∧ ((i3 < 0 → z_Wp (z_C d) 1 k_X11_beginOne Q 39 [some (vR 11 0), some (vI i3)] [] w1) ∧ (¬ i3 < 0 → z_C d m_X11_isOf [vR 11 0, vI i3] w1 (fun w4 o5 => ∃ i6 : Int32, o5 = some (vI i6) ∧ ((¬ i6 = 0 → z_Wp (z_C d) 1 k_X11_beginOne Q 39 [some (vR 11 0), some (vI i3)] [] w4) ∧ (i6 = 0 → Q w4 (some (vI 5))))))))) ∧ ((gI v 11 0 9) = 1 → (((gI v 11 0 10) ≤ 9999 → z_C d m_X11_nameOf [vR 11 0] v (fun w7 o8 => ∃ i9 : Int32, o8 = some (vI i9) ∧ ((i9 < 0 → z_Wp (z_C d) 1 k_X11_beginOne Q 39 [some (vR 11 0), some (vI i9)] [] w7) ∧ (¬ i9 < 0 → z_C d m_X11_isOf [vR 11 0, vI i9] w7 (fun w10 o11 => ∃ i12 : Int32, o11 = some (vI i12) ∧ ((¬ i12 = 0 → z_Wp (z_C d) 1 k_X11_beginOne Q 39 [some (vR 11 0), some (vI i9)] [] w10) ∧ (i12 = 0 → Q w10 (some (vI 5))))))))) ∧ (¬ (gI v 11 0 10) ≤ 9999 → Q v (some (vI 2))))))) :
    z_Wp (z_C d) 1 k_X11_beginOne Q 0 [some (vR 11 0), none] [] v := z_run [39, 65] 400 h
set_option maxRecDepth 100000 in
set_option maxHeartbeats 2000000 in
theorem B_X11_beginOne_39 {d : Nat} {Q : z_RT} {v : z_V} {x1 : Int32}
    (h : (((gI v 11 0 9) = 1 → ((¬ (gI v 11 0 9) = 1 → z_Wp (z_C d) 1 k_X11_beginOne Q 65 [some (vR 11 0), some (vI x1)] [vI 1, vR 11 0] v) ∧ ((gI v 11 0 9) = 1 → z_Wp (z_C d) 1 k_X11_beginOne Q 65 [some (vR 11 0), some (vI x1)] [vI 0, vR 11 0] v))) ∧ (¬ (gI v 11 0 9) = 1 → ((x1 < 0 → ((¬ (gI v 11 0 9) = 40 → ((¬ (gI v 11 0 9) = 45 → z_C d m_X11_w4 [vI 102, vI 97, vI 114, vI 101] v (fun w1 o2 => ∃ l3 : Int64, o2 = some (vL l3) ∧ z_C d m_X11_isWord [vR 11 0, vL l3] w1 (fun w4 o5 => ∃ i6 : Int32, o5 = some (vI i6) ∧ ((i6 = 0 → z_C d m_X11_w4 [vI 115, vI 105, vI 103, vI 110] w4 (fun w7 o8 => ∃ l9 : Int64, o8 = some (vL l9) ∧ z_C d m_X11_isWord [vR 11 0, vL l9] w7 (fun w10 o11 => ∃ i12 : Int32, o11 = some (vI i12) ∧ ((i12 = 0 → z_C d m_X11_w2 [vI 105, vI 102] w10 (fun w13 o14 => ∃ l15 : Int64, o14 = some (vL l15) ∧ z_C d m_X11_isWord [vR 11 0, vL l15] w13 (fun w16 o17 => ∃ i18 : Int32, o17 = some (vI i18) ∧ ((i18 = 0 → z_C d m_X11_w3 [vI 110, vI 111, vI 116] w16 (fun w19 o20 => ∃ l21 : Int64, o20 = some (vL l21) ∧ z_C d m_X11_isWord [vR 11 0, vL l21] w19 (fun w22 o23 => ∃ i24 : Int32, o23 = some (vI i24) ∧ ((i24 = 0 → Q w22 (some (vI 1))) ∧ (¬ i24 = 0 → z_C d m_X11_isAskAhead [vR 11 0] w22 (fun w25 o26 => ∃ i27 : Int32, o26 = some (vI i27) ∧ ((i27 = 0 → Q w25 (some (vI 1))) ∧ (¬ i27 = 0 → z_C d m_X11_opened [vR 11 0, vI 20] w25 (fun w28 o29 => ∃ i30 : Int32, o29 = some (vI i30) ∧ Q w28 (some (vI i30))))))))))) ∧ (¬ i18 = 0 → z_C d m_X11_opened [vR 11 0, vI 41] w16 (fun w31 o32 => ∃ i33 : Int32, o32 = some (vI i33) ∧ Q w31 (some (vI i33)))))))) ∧ (¬ i12 = 0 → z_C d m_X11_opened [vR 11 0, vI 4] w10 (fun w34 o35 => ∃ i36 : Int32, o35 = some (vI i36) ∧ Q w34 (some (vI i36)))))))) ∧ (¬ i6 = 0 → z_C d m_X11_opened [vR 11 0, vI 2] w4 (fun w37 o38 => ∃ i39 : Int32, o38 = some (vI i39) ∧ Q w37 (some (vI i39)))))))) ∧ ((gI v 11 0 9) = 45 → z_C d m_X11_opened [vR 11 0, vI 5] v (fun w40 o41 => ∃ i42 : Int32, o41 = some (vI i42) ∧ Q w40 (some (vI i42)))))) ∧ ((gI v 11 0 9) = 40 → z_C d m_X11_opened [vR 11 0, vI 40] v (fun w43 o44 => ∃ i45 : Int32, o44 = some (vI i45) ∧ Q w43 (some (vI i45)))))) ∧ (¬ x1 < 0 → ((¬ (gI v 11 0 9) = 1 → z_Wp (z_C d) 1 k_X11_beginOne Q 65 [some (vR 11 0), some (vI x1)] [vI 1, vR 11 0] v) ∧ ((gI v 11 0 9) = 1 → z_Wp (z_C d) 1 k_X11_beginOne Q 65 [some (vR 11 0), some (vI x1)] [vI 0, vR 11 0] v))))))) :
    z_Wp (z_C d) 1 k_X11_beginOne Q 39 [some (vR 11 0), some (vI x1)] [] v := z_run [39, 65] 400 h
set_option maxRecDepth 100000 in
set_option maxHeartbeats 2000000 in
theorem B_X11_beginOne_65 {d : Nat} {Q : z_RT} {v : z_V} {x1 : Int32} {s1 : Int32}
    (h : ((¬ (gI v 11 0 9) = 1 → z_C d m_X11_emit [vR 11 0, vI s1, vI x1] v (fun w1 o2 => o2 = none ∧ z_C d m_X11_nextToken [vR 11 0] w1 (fun w3 o4 => o4 = none ∧ z_C d m_X11_settle [vR 11 0, vI 7] (pI w3 11 0 18 1) (fun w5 o6 => o6 = none ∧ Q w5 (some (vI 0)))))) ∧ ((gI v 11 0 9) = 1 → z_C d m_X11_emit [vR 11 0, vI s1, vI (gI v 11 0 10)] v (fun w7 o8 => o8 = none ∧ z_C d m_X11_nextToken [vR 11 0] w7 (fun w9 o10 => o10 = none ∧ z_C d m_X11_settle [vR 11 0, vI 7] (pI w9 11 0 18 1) (fun w11 o12 => o12 = none ∧ Q w11 (some (vI 0)))))))) :
    z_Wp (z_C d) 1 k_X11_beginOne Q 65 [some (vR 11 0), some (vI x1)] [vI s1, vR 11 0] v := z_run [39, 65] 400 h
set_option maxRecDepth 100000 in
set_option maxHeartbeats 2000000 in
theorem B_X11_compareOf_0 {d : Nat} {Q : z_RT} {v : z_V}
    (h : ((¬ (gI v 11 0 9) = 60 → ((¬ (gI v 11 0 9) = 4 → ((¬ (gI v 11 0 9) = 62 → ((¬ (gI v 11 0 9) = 5 → ((¬ (gI v 11 0 9) = 61 → ((¬ (gI v 11 0 9) = 35 → Q v (some (vI (-1)))) ∧ ((gI v 11 0 9) = 35 → Q v (some (vI 15))))) ∧ ((gI v 11 0 9) = 61 → Q v (some (vI 14))))) ∧ ((gI v 11 0 9) = 5 → Q v (some (vI 13))))) ∧ ((gI v 11 0 9) = 62 → Q v (some (vI 12))))) ∧ ((gI v 11 0 9) = 4 → Q v (some (vI 11))))) ∧ ((gI v 11 0 9) = 60 → Q v (some (vI 10))))) :
    z_Wp (z_C d) 1 k_X11_compareOf Q 0 [some (vR 11 0)] [] v := z_run [] 400 h
set_option maxRecDepth 100000 in
set_option maxHeartbeats 2000000 in
theorem B_X11_betweenOf_0 {d : Nat} {Q : z_RT} {v : z_V}
    (h : ((¬ (gI v 11 0 9) = 43 → ((¬ (gI v 11 0 9) = 45 → ((¬ (gI v 11 0 9) = 42 → ((¬ (gI v 11 0 9) = 47 → z_C d m_X11_openNow [vR 11 0] v (fun w1 o2 => ∃ i3 : Int32, o2 = some (vI i3) ∧ ((i3 = 41 → z_C d m_X11_isCompared [vR 11 0] w1 (fun w4 o5 => ∃ i6 : Int32, o5 = some (vI i6) ∧ ((¬ i6 = 0 → z_C d m_X11_w3 [vI 97, vI 110, vI 100] w4 (fun w7 o8 => ∃ l9 : Int64, o8 = some (vL l9) ∧ z_C d m_X11_isWord [vR 11 0, vL l9] w7 (fun w10 o11 => ∃ i12 : Int32, o11 = some (vI i12) ∧ ((i12 = 0 → z_C d m_X11_w2 [vI 111, vI 114] w10 (fun w13 o14 => ∃ l15 : Int64, o14 = some (vL l15) ∧ z_C d m_X11_isWord [vR 11 0, vL l15] w13 (fun w16 o17 => ∃ i18 : Int32, o17 = some (vI i18) ∧ ((i18 = 0 → Q w16 (some (vI (-1)))) ∧ (¬ i18 = 0 → Q w16 (some (vI 22))))))) ∧ (¬ i12 = 0 → Q w10 (some (vI 21))))))) ∧ (i6 = 0 → z_C d m_X11_compareOf [vR 11 0] w4 (fun w19 o20 => ∃ i21 : Int32, o20 = some (vI i21) ∧ Q w19 (some (vI i21))))))) ∧ (¬ i3 = 41 → Q w1 (some (vI (-1))))))) ∧ ((gI v 11 0 9) = 47 → Q v (some (vI 9))))) ∧ ((gI v 11 0 9) = 42 → Q v (some (vI 8))))) ∧ ((gI v 11 0 9) = 45 → Q v (some (vI 7))))) ∧ ((gI v 11 0 9) = 43 → Q v (some (vI 6))))) :
    z_Wp (z_C d) 1 k_X11_betweenOf Q 0 [some (vR 11 0)] [] v := z_run [] 400 h
set_option maxRecDepth 100000 in
set_option maxHeartbeats 2000000 in
theorem B_X11_partOf_0 {d : Nat} {Q : z_RT} {v : z_V} {a1 : Int32}
    (h : ((a1 = 40 → ((¬ (gI v 11 0 9) = 41 → Q v (some (vI (-1)))) ∧ ((gI v 11 0 9) = 41 → Q v (some (vI 0))))) ∧ (¬ a1 = 40 → ((a1 = 41 → z_C d m_X11_w4 [vI 116, vI 104, vI 101, vI 110] v (fun w1 o2 => ∃ l3 : Int64, o2 = some (vL l3) ∧ z_C d m_X11_isWord [vR 11 0, vL l3] w1 (fun w4 o5 => ∃ i6 : Int32, o5 = some (vI i6) ∧ ((i6 = 0 → Q w4 (some (vI (-1)))) ∧ (¬ i6 = 0 → z_C d m_X11_isCompared [vR 11 0] w4 (fun w7 o8 => ∃ i9 : Int32, o8 = some (vI i9) ∧ ((i9 = 0 → Q w7 (some (vI (-1)))) ∧ (¬ i9 = 0 → Q w7 (some (vI 42)))))))))) ∧ (¬ a1 = 41 → ((a1 = 42 → z_C d m_X11_w4 [vI 101, vI 108, vI 115, vI 101] v (fun w10 o11 => ∃ l12 : Int64, o11 = some (vL l12) ∧ z_C d m_X11_isWord [vR 11 0, vL l12] w10 (fun w13 o14 => ∃ i15 : Int32, o14 = some (vI i15) ∧ ((i15 = 0 → Q w13 (some (vI (-1)))) ∧ (¬ i15 = 0 → Q w13 (some (vI 43))))))) ∧ (¬ a1 = 42 → ((a1 = 43 → z_C d m_X11_w3 [vI 101, vI 110, vI 100] v (fun w16 o17 => ∃ l18 : Int64, o17 = some (vL l18) ∧ z_C d m_X11_isWord [vR 11 0, vL l18] w16 (fun w19 o20 => ∃ i21 : Int32, o20 = some (vI i21) ∧ ((i21 = 0 → Q w19 (some (vI (-1)))) ∧ (¬ i21 = 0 → Q w19 (some (vI 0))))))) ∧ (¬ a1 = 43 → Q v (some (vI (-1)))))))))))) :
    z_Wp (z_C d) 1 k_X11_partOf Q 0 [some (vR 11 0), some (vI a1)] [] v := z_run [] 400 h
set_option maxRecDepth 100000 in
set_option maxHeartbeats 2000000 in
theorem B_X11_behindOne_0 {d : Nat} {Q : z_RT} {v : z_V}
    (h : z_C d m_X11_betweenOf [vR 11 0] v (fun w1 o2 => ∃ i3 : Int32, o2 = some (vI i3) ∧ ((i3 < 0 → z_C d m_X11_openNow [vR 11 0] w1 (fun w4 o5 => ∃ i6 : Int32, o5 = some (vI i6) ∧ z_C d m_X11_partOf [vR 11 0, vI i6] w4 (fun w7 o8 => ∃ i9 : Int32, o8 = some (vI i9) ∧ ((0 ≤ i9 → z_C d m_X11_settle [vR 11 0, vI 1] w7 (fun w10 o11 => o11 = none ∧ z_C d m_X11_nextToken [vR 11 0] w10 (fun w12 o13 => o13 = none ∧ ((i9 ≤ 0 → ((¬ i6 = 43 → z_C d m_X11_settle [vR 11 0, vI 7] (pI (pI w12 11 0 17 ((gI w12 11 0 17) - 1)) 11 0 16 ((gI w12 11 0 16) - 1)) (fun w14 o15 => o15 = none ∧ Q w14 (some (vI 1)))) ∧ (i6 = 43 → z_C d m_X11_emit [vR 11 0, vI 3, vI 0] (pI (pI w12 11 0 17 ((gI w12 11 0 17) - 1)) 11 0 16 ((gI w12 11 0 16) - 1)) (fun w16 o17 => o17 = none ∧ z_C d m_X11_settle [vR 11 0, vI 7] w16 (fun w18 o19 => o19 = none ∧ Q w18 (some (vI 1))))))) ∧ (¬ i9 ≤ 0 → z_C d m_X11_openAt [vR 11 0] w12 (fun w20 o21 => ∃ i22 : Int32, o21 = some (vI i22) ∧ z_if (z_in i22 160) (Q (pI (pI w20 1215 0 (n_ i22) i9) 11 0 18 0) (some (vI 1))))))))) ∧ (¬ 0 ≤ i9 → Q w7 (some (vI 0))))))) ∧ (¬ i3 < 0 → z_C d m_X11_rank [vI i3] w1 (fun w23 o24 => ∃ i25 : Int32, o24 = some (vI i25) ∧ ((¬ i25 = 4 → z_C d m_X11_rank [vI i3] w23 (fun w26 o27 => ∃ i28 : Int32, o27 = some (vI i28) ∧ z_C d m_X11_settle [vR 11 0, vI i28] w26 (fun w29 o30 => o30 = none ∧ z_if (z_in (gI w29 11 0 16) 160) (z_C d m_X11_nextToken [vR 11 0] (pI (pI (pI w29 1215 0 (n_ (gI w29 11 0 16)) i3) 11 0 16 ((gI w29 11 0 16) + 1)) 11 0 18 0) (fun w31 o32 => o32 = none ∧ Q w31 (some (vI 1))))))) ∧ (i25 = 4 → z_C d m_X11_settle [vR 11 0, vI 5] w23 (fun w33 o34 => o34 = none ∧ z_if (z_in (gI w33 11 0 16) 160) (z_C d m_X11_nextToken [vR 11 0] (pI (pI (pI w33 1215 0 (n_ (gI w33 11 0 16)) i3) 11 0 16 ((gI w33 11 0 16) + 1)) 11 0 18 0) (fun w35 o36 => o36 = none ∧ Q w35 (some (vI 1)))))))))))) :
    z_Wp (z_C d) 4 k_X11_behindOne Q 0 [some (vR 11 0), none, none, none] [] v := z_run [] 400 h
set_option maxRecDepth 100000 in
set_option maxHeartbeats 2000000 in
theorem B_X11_summed_0 {d : Nat} {Q : z_RT} {v : z_V}
    (h : z_Wp (z_C d) 1 k_X11_summed Q 15 [some (vR 11 0), none] [] (pI (pI (pI v 11 0 16 0) 11 0 17 0) 11 0 18 0)) :
    z_Wp (z_C d) 1 k_X11_summed Q 0 [some (vR 11 0), none] [] v := z_run [15] 400 h
set_option maxRecDepth 100000 in
set_option maxHeartbeats 2000000 in
theorem B_X11_summed_15 {d : Nat} {Q : z_RT} {v : z_V} {u1 : Option z_AV}
    (h : (((gI v 11 0 18) = 0 → z_C d m_X11_beginOne [vR 11 0] v (fun w1 o2 => ∃ i3 : Int32, o2 = some (vI i3) ∧ ((i3 = 0 → z_Wp (z_C d) 1 k_X11_summed Q 15 [some (vR 11 0), some (vI i3)] [] w1) ∧ (¬ i3 = 0 → Q w1 (some (vI i3)))))) ∧ (¬ (gI v 11 0 18) = 0 → z_C d m_X11_behindOne [vR 11 0] v (fun w4 o5 => ∃ i6 : Int32, o5 = some (vI i6) ∧ ((i6 = 0 → z_C d m_X11_openNow [vR 11 0] w4 (fun w7 o8 => ∃ i9 : Int32, o8 = some (vI i9) ∧ ((i9 < 0 → z_C d m_X11_settle [vR 11 0, vI 1] w7 (fun w10 o11 => o11 = none ∧ Q w10 (some (vI 0)))) ∧ (¬ i9 < 0 → Q w7 (some (vI 1)))))) ∧ (¬ i6 = 0 → z_Wp (z_C d) 1 k_X11_summed Q 15 [some (vR 11 0), none] [] w4)))))) :
    z_Wp (z_C d) 1 k_X11_summed Q 15 [some (vR 11 0), u1] [] v := z_run [15] 400 h
set_option maxRecDepth 100000 in
set_option maxHeartbeats 2000000 in
theorem B_X11_figure_0 {d : Nat} {Q : z_RT} {v : z_V} {a1 : Int32} {a2 : Int32} {a3 : Int32}
    (h : (((gI v 11 0 9) = 1 → z_C d m_X11_isIn [vI (gI v 11 0 10), vI a2, vI a3] v (fun w1 o2 => ∃ i3 : Int32, o2 = some (vI i3) ∧ ((¬ i3 = 0 → z_if (z_in a1 2724) (z_C d m_X11_nextToken [vR 11 0] (pI w1 1202 0 (n_ a1) (gI w1 11 0 10)) (fun w4 o5 => o5 = none ∧ Q w4 (some (vI 0))))) ∧ (i3 = 0 → Q w1 (some (vI 2)))))) ∧ (¬ (gI v 11 0 9) = 1 → Q v (some (vI 1))))) :
    z_Wp (z_C d) 1 k_X11_figure Q 0 [some (vR 11 0), some (vI a1), some (vI a2), some (vI a3)] [] v := z_run [] 400 h
set_option maxRecDepth 100000 in
set_option maxHeartbeats 2000000 in
theorem B_X11_lawClause_0 {d : Nat} {Q : z_RT} {v : z_V} {a1 : Int32}
    (h : z_if (z_in (a1 + 1) 2724) (z_C d m_X11_summed [vR 11 0] (pI v 1202 0 (n_ (a1 + 1)) (gI v 11 0 13)) (fun w1 o2 => ∃ i3 : Int32, o2 = some (vI i3) ∧ z_if (z_in (a1 + 2) 2724) (Q (pI w1 1202 0 (n_ (a1 + 2)) (gI w1 11 0 13)) (some (vI i3)))))) :
    z_Wp (z_C d) 1 k_X11_lawClause Q 0 [some (vR 11 0), some (vI a1), none] [] v := z_run [] 400 h
set_option maxRecDepth 100000 in
set_option maxHeartbeats 2000000 in
theorem B_X11_pair_0 {d : Nat} {Q : z_RT} {v : z_V} {a1 : Int32} {a2 : Int32} {a3 : Int64}
    (h : z_C d m_X11_figure [vR 11 0, vI (a1 + 1), vI 0, vI a2] v (fun w1 o2 => ∃ i3 : Int32, o2 = some (vI i3) ∧ ((i3 = 0 → z_C d m_X11_isWord [vR 11 0, vL a3] w1 (fun w4 o5 => ∃ i6 : Int32, o5 = some (vI i6) ∧ ((¬ i6 = 0 → z_C d m_X11_nextToken [vR 11 0] w4 (fun w7 o8 => o8 = none ∧ z_C d m_X11_figure [vR 11 0, vI (a1 + 2), vI 0, vI 6] w7 (fun w9 o10 => ∃ i11 : Int32, o10 = some (vI i11) ∧ Q w9 (some (vI i11))))) ∧ (i6 = 0 → Q w4 (some (vI 1)))))) ∧ (¬ i3 = 0 → Q w1 (some (vI i3)))))) :
    z_Wp (z_C d) 1 k_X11_pair Q 0 [some (vR 11 0), some (vI a1), some (vI a2), some (vL a3), none, none] [] v := z_run [] 400 h
set_option maxRecDepth 100000 in
set_option maxHeartbeats 2000000 in
theorem B_X11_body_0 {d : Nat} {Q : z_RT} {v : z_V} {a1 : Int32} {a2 : Int32}
    (h : ((a1 = 2 → z_C d m_X11_w2 [vI 116, vI 111] v (fun w1 o2 => ∃ l3 : Int64, o2 = some (vL l3) ∧ z_C d m_X11_pair [vR 11 0, vI a2, vI 6, vL l3] w1 (fun w4 o5 => ∃ i6 : Int32, o5 = some (vI i6) ∧ Q w4 (some (vI i6))))) ∧ (¬ a1 = 2 → ((a1 = 3 → z_C d m_X11_w2 [vI 97, vI 116] v (fun w7 o8 => ∃ l9 : Int64, o8 = some (vL l9) ∧ z_C d m_X11_pair [vR 11 0, vI a2, vI 99, vL l9] w7 (fun w10 o11 => ∃ i12 : Int32, o11 = some (vI i12) ∧ Q w10 (some (vI i12))))) ∧ (¬ a1 = 3 → ((a1 = 4 → z_C d m_X11_figure [vR 11 0, vI (a2 + 1), vI 0, vI 9] v (fun w13 o14 => ∃ i15 : Int32, o14 = some (vI i15) ∧ Q w13 (some (vI i15)))) ∧ (¬ a1 = 4 → ((a1 = 5 → z_C d m_X11_figure [vR 11 0, vI (a2 + 1), vI 1, vI 99] v (fun w16 o17 => ∃ i18 : Int32, o17 = some (vI i18) ∧ Q w16 (some (vI i18)))) ∧ (¬ a1 = 5 → ((a1 = 6 → z_C d m_X11_figure [vR 11 0, vI (a2 + 1), vI 1, vI 60] v (fun w19 o20 => ∃ i21 : Int32, o20 = some (vI i21) ∧ Q w19 (some (vI i21)))) ∧ (¬ a1 = 6 → z_C d m_X11_lawClause [vR 11 0, vI a2] v (fun w22 o23 => ∃ i24 : Int32, o23 = some (vI i24) ∧ Q w22 (some (vI i24)))))))))))))) :
    z_Wp (z_C d) 1 k_X11_body Q 0 [some (vR 11 0), some (vI a1), some (vI a2)] [] v := z_run [] 400 h
set_option maxRecDepth 100000 in
set_option maxHeartbeats 2000000 in
theorem B_X11_sortOf_0 {d : Nat} {Q : z_RT} {v : z_V}
    (h : z_C d m_X11_w5 [vI 114, vI 105, vI 100, vI 101, vI 115] v (fun w1 o2 => ∃ l3 : Int64, o2 = some (vL l3) ∧ z_C d m_X11_isWord [vR 11 0, vL l3] w1 (fun w4 o5 => ∃ i6 : Int32, o5 = some (vI i6) ∧ ((i6 = 0 → z_C d m_X11_w5 [vI 99, vI 111, vI 115, vI 116, vI 115] w4 (fun w7 o8 => ∃ l9 : Int64, o8 = some (vL l9) ∧ z_C d m_X11_isWord [vR 11 0, vL l9] w7 (fun w10 o11 => ∃ i12 : Int32, o11 = some (vI i12) ∧ ((i12 = 0 → z_C d m_X11_w3 [vI 108, vI 97, vI 121] w10 (fun w13 o14 => ∃ l15 : Int64, o14 = some (vL l15) ∧ z_C d m_X11_isWord [vR 11 0, vL l15] w13 (fun w16 o17 => ∃ i18 : Int32, o17 = some (vI i18) ∧ ((i18 = 0 → z_C d m_X11_w5 [vI 112, vI 108, vI 97, vI 116, vI 101] w16 (fun w19 o20 => ∃ l21 : Int64, o20 = some (vL l21) ∧ z_C d m_X11_isWord [vR 11 0, vL l21] w19 (fun w22 o23 => ∃ i24 : Int32, o23 = some (vI i24) ∧ ((i24 = 0 → z_C d m_X11_w4 [vI 116, vI 117, vI 114, vI 110] w22 (fun w25 o26 => ∃ l27 : Int64, o26 = some (vL l27) ∧ z_C d m_X11_isWord [vR 11 0, vL l27] w25 (fun w28 o29 => ∃ i30 : Int32, o29 = some (vI i30) ∧ ((i30 = 0 → z_C d m_X11_w5 [vI 103, vI 114, vI 97, vI 110, vI 116] w28 (fun w31 o32 => ∃ l33 : Int64, o32 = some (vL l33) ∧ z_C d m_X11_isWord [vR 11 0, vL l33] w31 (fun w34 o35 => ∃ i36 : Int32, o35 = some (vI i36) ∧ ((i36 = 0 → z_C d m_X11_w3 [vI 100, vI 97, vI 121] w34 (fun w37 o38 => ∃ l39 : Int64, o38 = some (vL l39) ∧ z_C d m_X11_isWord [vR 11 0, vL l39] w37 (fun w40 o41 => ∃ i42 : Int32, o41 = some (vI i42) ∧ ((i42 = 0 → Q w40 (some (vI (-1)))) ∧ (¬ i42 = 0 → Q w40 (some (vI 6))))))) ∧ (¬ i36 = 0 → Q w34 (some (vI 5))))))) ∧ (¬ i30 = 0 → Q w28 (some (vI 4))))))) ∧ (¬ i24 = 0 → Q w22 (some (vI 3))))))) ∧ (¬ i18 = 0 → Q w16 (some (vI 2))))))) ∧ (¬ i12 = 0 → Q w10 (some (vI 1))))))) ∧ (¬ i6 = 0 → Q w4 (some (vI 0))))))) :
    z_Wp (z_C d) 1 k_X11_sortOf Q 0 [some (vR 11 0)] [] v := z_run [] 400 h
set_option maxRecDepth 100000 in
set_option maxHeartbeats 2000000 in
theorem B_X11_clause_0 {d : Nat} {Q : z_RT} {v : z_V}
    (h : z_C d m_X11_sortOf [vR 11 0] v (fun w1 o2 => ∃ i3 : Int32, o2 = some (vI i3) ∧ ((0 ≤ i3 → ((1 < i3 → z_if (z_in (gI w1 11 0 12) 2724) (((¬ (gI w1 1202 0 (n_ (gI w1 11 0 12))) = 24 → ((1 < i3 → z_Wp (z_C d) 1 k_X11_clause Q 65 [some (vR 11 0), some (vI i3), some (vI (gI w1 1202 0 (n_ (gI w1 11 0 12)))), none, none] [] w1) ∧ (¬ 1 < i3 → z_Wp (z_C d) 1 k_X11_clause Q 65 [some (vR 11 0), some (vI i3), some (vI (gI w1 1202 0 (n_ (gI w1 11 0 12)))), none, none] [] (pI w1 11 0 19 ((gI w1 11 0 19) ||| (i_shl 1 i3)))))) ∧ ((gI w1 1202 0 (n_ (gI w1 11 0 12))) = 24 → Q w1 (some (vI 6)))))) ∧ (¬ 1 < i3 → z_C d m_X11_has [vI (gI w1 11 0 19), vI i3] w1 (fun w4 o5 => ∃ i6 : Int32, o5 = some (vI i6) ∧ ((i6 = 0 → z_if (z_in (gI w4 11 0 12) 2724) (((¬ (gI w4 1202 0 (n_ (gI w4 11 0 12))) = 24 → ((1 < i3 → z_Wp (z_C d) 1 k_X11_clause Q 65 [some (vR 11 0), some (vI i3), some (vI (gI w4 1202 0 (n_ (gI w4 11 0 12)))), none, none] [] w4) ∧ (¬ 1 < i3 → z_Wp (z_C d) 1 k_X11_clause Q 65 [some (vR 11 0), some (vI i3), some (vI (gI w4 1202 0 (n_ (gI w4 11 0 12)))), none, none] [] (pI w4 11 0 19 ((gI w4 11 0 19) ||| (i_shl 1 i3)))))) ∧ ((gI w4 1202 0 (n_ (gI w4 11 0 12))) = 24 → Q w4 (some (vI 6)))))) ∧ (¬ i6 = 0 → Q w4 (some (vI 4)))))))) ∧ (¬ 0 ≤ i3 → Q w1 (some (vI 1)))))) :
    z_Wp (z_C d) 1 k_X11_clause Q 0 [some (vR 11 0), none, none, none, none] [] v := z_run [65] 400 h
set_option maxRecDepth 100000 in
set_option maxHeartbeats 2000000 in
theorem B_X11_clause_65 {d : Nat} {Q : z_RT} {v : z_V} {x1 : Int32} {x2 : Int32} {u3 : Option z_AV} {u4 : Option z_AV}
    (h : z_C d m_X11_nextToken [vR 11 0] (pI v 11 0 14 x1) (fun w1 o2 => o2 = none ∧ z_if (z_in (((gI w1 11 0 12) + 1) + (3 * x2)) 2724) (z_C d m_X11_body [vR 11 0, vI x1, vI (((gI w1 11 0 12) + 1) + (3 * x2))] (pI w1 1202 0 (n_ (((gI w1 11 0 12) + 1) + (3 * x2))) x1) (fun w3 o4 => ∃ i5 : Int32, o4 = some (vI i5) ∧ ((i5 = 0 → z_if (z_in (gI w3 11 0 12) 2724) (z_if (z_in (gI w3 11 0 12) 2724) ((((gI w3 11 0 9) = 59 → z_C d m_X11_nextToken [vR 11 0] (pI w3 1202 0 (n_ (gI w3 11 0 12)) ((gI w3 1202 0 (n_ (gI w3 11 0 12))) + 1)) (fun w6 o7 => o7 = none ∧ Q w6 (some (vI 0)))) ∧ (¬ (gI w3 11 0 9) = 59 → Q (pI w3 1202 0 (n_ (gI w3 11 0 12)) ((gI w3 1202 0 (n_ (gI w3 11 0 12))) + 1)) (some (vI 1))))))) ∧ (¬ i5 = 0 → Q w3 (some (vI i5)))))))) :
    z_Wp (z_C d) 1 k_X11_clause Q 65 [some (vR 11 0), some (vI x1), some (vI x2), u3, u4] [] v := z_run [65] 400 h
set_option maxRecDepth 100000 in
set_option maxHeartbeats 2000000 in
theorem B_X11_readText_0 {d : Nat} {Q : z_RT} {v : z_V}
    (h : z_if (z_in (681 * (gI v 1200 0 1)) 2724) (z_C d m_X11_nextToken [vR 11 0] (pI (pI (pI (pI (pI v 11 0 12 (681 * (gI v 1200 0 1))) 1202 0 (n_ (681 * (gI v 1200 0 1))) 0) 11 0 13 0) 11 0 19 0) 11 0 7 0) (fun w1 o2 => o2 = none ∧ z_Wp (z_C d) 1 k_X11_readText Q 43 [some (vR 11 0), none] [] w1))) :
    z_Wp (z_C d) 1 k_X11_readText Q 0 [some (vR 11 0), none] [] v := z_run [43] 400 h
set_option maxRecDepth 100000 in
set_option maxHeartbeats 2000000 in
theorem B_X11_readText_43 {d : Nat} {Q : z_RT} {v : z_V} {u1 : Option z_AV}
    (h : (((gI v 11 0 9) = 0 → Q v (some (vI 0))) ∧ (¬ (gI v 11 0 9) = 0 → z_C d m_X11_clause [vR 11 0] v (fun w1 o2 => ∃ i3 : Int32, o2 = some (vI i3) ∧ ((i3 = 0 → z_Wp (z_C d) 1 k_X11_readText Q 43 [some (vR 11 0), some (vI i3)] [] w1) ∧ (¬ i3 = 0 → Q w1 (some (vI i3)))))))) :
    z_Wp (z_C d) 1 k_X11_readText Q 43 [some (vR 11 0), u1] [] v := z_run [43] 400 h
set_option maxRecDepth 100000 in
set_option maxHeartbeats 2000000 in
theorem B_X11_text_0 {d : Nat} {Q : z_RT} {v : z_V}
    (h : ((¬ (gI v 1200 0 1) = 4 → z_C d m_X11_readText [vR 11 0] v (fun w1 o2 => ∃ i3 : Int32, o2 = some (vI i3) ∧ ((¬ i3 = 0 → ((i3 = 0 → Q (pI (pI (pI (pI w1 11 0 5 i3) 11 0 6 (gI w1 11 0 8)) 11 0 4 0) 1200 0 1 ((gI w1 1200 0 1) + 1)) (some (vI (((gI w1 1200 0 1) + 1) - 1)))) ∧ (¬ i3 = 0 → Q (pI (pI (pI w1 11 0 5 i3) 11 0 6 (gI w1 11 0 8)) 11 0 4 0) (some (vI (-1)))))) ∧ (i3 = 0 → ((i3 = 0 → Q (pI (pI (pI (pI w1 11 0 5 i3) 11 0 6 (-1)) 11 0 4 0) 1200 0 1 ((gI w1 1200 0 1) + 1)) (some (vI (((gI w1 1200 0 1) + 1) - 1)))) ∧ (¬ i3 = 0 → Q (pI (pI (pI w1 11 0 5 i3) 11 0 6 (-1)) 11 0 4 0) (some (vI (-1))))))))) ∧ ((gI v 1200 0 1) = 4 → Q v (some (vI (-1)))))) :
    z_Wp (z_C d) 1 k_X11_text Q 0 [some (vR 11 0)] [] v := z_run [] 400 h
set_option maxRecDepth 100000 in
set_option maxHeartbeats 2000000 in
theorem B_X11_fault_0 {d : Nat} {Q : z_RT} {v : z_V} {a1 : Int32}
    (h : ((¬ a1 = 0 → ((¬ a1 = 1 → Q v (some (vI (-1)))) ∧ (a1 = 1 → Q v (some (vI (gI v 11 0 6)))))) ∧ (a1 = 0 → Q v (some (vI (gI v 11 0 5)))))) :
    z_Wp (z_C d) 1 k_X11_fault Q 0 [some (vR 11 0), some (vI a1)] [] v := z_run [] 400 h
set_option maxRecDepth 100000 in
set_option maxHeartbeats 2000000 in
theorem B_X11_by_0 {d : Nat} {Q : z_RT} {v : z_V} {a1 : Int32}
    (h : z_C d m_X11_isIn [vI a1, vI (-1), vI ((gI v 1200 0 1) - 1)] v (fun w1 o2 => ∃ i3 : Int32, o2 = some (vI i3) ∧ ((¬ i3 = 0 → Q (pI w1 1200 0 2 a1) (some (vI 1))) ∧ (i3 = 0 → Q w1 (some (vI 0)))))) :
    z_Wp (z_C d) 4 k_X11_by Q 0 [some (vR 11 0), some (vI a1)] [] v := z_run [] 400 h
set_option maxRecDepth 100000 in
set_option maxHeartbeats 2000000 in
theorem B_X11_clip_0 {d : Nat} {Q : z_RT} {v : z_V} {a0 : Int64}
    (h : (((lg_cmp a0 1000000) ≤ 0 → ((0 ≤ (lg_cmp a0 (-1000000)) → Q v (some (vL a0))) ∧ (¬ 0 ≤ (lg_cmp a0 (-1000000)) → Q v (some (vL (-1000000)))))) ∧ (¬ (lg_cmp a0 1000000) ≤ 0 → Q v (some (vL 1000000))))) :
    z_Wp (z_C d) 2 k_X11_clip Q 0 [some (vL a0), none] [] v := z_run [] 400 h
set_option maxRecDepth 100000 in
set_option maxHeartbeats 2000000 in
theorem B_X11_two_0 {d : Nat} {Q : z_RT} {v : z_V} {a0 : Int32} {a1 : Int64} {a2 : Int64}
    (h : ((a0 = 6 → z_C d m_X11_clip [vL (a1 + a2)] v (fun w1 o2 => ∃ l3 : Int64, o2 = some (vL l3) ∧ Q w1 (some (vL l3)))) ∧ (¬ a0 = 6 → ((a0 = 7 → z_C d m_X11_clip [vL (a1 - a2)] v (fun w4 o5 => ∃ l6 : Int64, o5 = some (vL l6) ∧ Q w4 (some (vL l6)))) ∧ (¬ a0 = 7 → ((a0 = 8 → z_C d m_X11_clip [vL (a1 * a2)] v (fun w7 o8 => ∃ l9 : Int64, o8 = some (vL l9) ∧ Q w7 (some (vL l9)))) ∧ (¬ a0 = 8 → ((¬ (lg_cmp a2 0) = 0 → z_if (z_nzL a2) (z_C d m_X11_clip [vL (a1 / a2)] v (fun w10 o11 => ∃ l12 : Int64, o11 = some (vL l12) ∧ Q w10 (some (vL l12))))) ∧ ((lg_cmp a2 0) = 0 → Q v (some (vL 0))))))))))) :
    z_Wp (z_C d) 2 k_X11_two Q 0 [some (vI a0), some (vL a1), none, some (vL a2), none] [] v := z_run [] 400 h
set_option maxRecDepth 100000 in
set_option maxHeartbeats 2000000 in
theorem B_X11_isAsked_0 {d : Nat} {Q : z_RT} {v : z_V} {a0 : Int32} {a1 : Int64} {a2 : Int64}
    (h : ((¬ a0 = 10 → ((¬ a0 = 11 → ((¬ a0 = 12 → ((¬ a0 = 13 → ((¬ a0 = 14 → (((lg_cmp a1 a2) = 0 → Q v (some (vI 0))) ∧ (¬ (lg_cmp a1 a2) = 0 → Q v (some (vI 1))))) ∧ (a0 = 14 → ((¬ (lg_cmp a1 a2) = 0 → Q v (some (vI 0))) ∧ ((lg_cmp a1 a2) = 0 → Q v (some (vI 1))))))) ∧ (a0 = 13 → (((lg_cmp a1 a2) < 0 → Q v (some (vI 0))) ∧ (¬ (lg_cmp a1 a2) < 0 → Q v (some (vI 1))))))) ∧ (a0 = 12 → (((lg_cmp a1 a2) ≤ 0 → Q v (some (vI 0))) ∧ (¬ (lg_cmp a1 a2) ≤ 0 → Q v (some (vI 1))))))) ∧ (a0 = 11 → ((0 < (lg_cmp a1 a2) → Q v (some (vI 0))) ∧ (¬ 0 < (lg_cmp a1 a2) → Q v (some (vI 1))))))) ∧ (a0 = 10 → ((0 ≤ (lg_cmp a1 a2) → Q v (some (vI 0))) ∧ (¬ 0 ≤ (lg_cmp a1 a2) → Q v (some (vI 1))))))) :
    z_Wp (z_C d) 4 k_X11_isAsked Q 0 [some (vI a0), some (vL a1), none, some (vL a2), none] [] v := z_run [] 400 h
set_option maxRecDepth 100000 in
set_option maxHeartbeats 2000000 in
theorem B_X11_ofOne_0 {d : Nat} {Q : z_RT} {v : z_V} {a1 : Int32} {a2 : Int64}
    (h : ((¬ a1 = 5 → ((¬ a1 = 4 → (((lg_cmp a2 0) < 0 → Q v (some (vL 0))) ∧ (¬ (lg_cmp a2 0) < 0 → ((0 ≤ (lg_cmp a2 ((gI v 1200 0 0).toInt64)) → Q v (some (vL 0))) ∧ (¬ 0 ≤ (lg_cmp a2 ((gI v 1200 0 0).toInt64)) → z_C d m_X11_fareOf [vR 11 0, vI a2.toInt32] v (fun w1 o2 => ∃ i3 : Int32, o2 = some (vI i3) ∧ Q w1 (some (vL i3.toInt64)))))))) ∧ (a1 = 4 → (((lg_cmp a2 0) < 0 → Q v (some (vL 0))) ∧ (¬ (lg_cmp a2 0) < 0 → ((0 ≤ (lg_cmp a2 7) → Q v (some (vL 0))) ∧ (¬ 0 ≤ (lg_cmp a2 7) → z_if (z_in (10 + a2.toInt32) 1218) (Q v (some (vL ((gI v 1200 0 (n_ (10 + a2.toInt32))).toInt64))))))))))) ∧ (a1 = 5 → Q v (some (vL (-a2)))))) :
    z_Wp (z_C d) 2 k_X11_ofOne Q 0 [some (vR 11 0), some (vI a1), some (vL a2), none] [] v := z_run [] 400 h
set_option maxRecDepth 100000 in
set_option maxHeartbeats 2000000 in
theorem B_X11_joined_0 {d : Nat} {Q : z_RT} {v : z_V} {a0 : Int32} {a1 : Int32} {a2 : Int32}
    (h : ((¬ a0 = 21 → ((¬ a1 = 0 → Q v (some (vI 1))) ∧ (a1 = 0 → ((a2 = 0 → Q v (some (vI 0))) ∧ (¬ a2 = 0 → Q v (some (vI 1))))))) ∧ (a0 = 21 → ((a1 = 0 → Q v (some (vI 0))) ∧ (¬ a1 = 0 → ((a2 = 0 → Q v (some (vI 0))) ∧ (¬ a2 = 0 → Q v (some (vI 1))))))))) :
    z_Wp (z_C d) 4 k_X11_joined Q 0 [some (vI a0), some (vI a1), some (vI a2)] [] v := z_run [] 400 h
set_option maxRecDepth 100000 in
set_option maxHeartbeats 16000000 in
theorem B_X11_summedUp_0 {d : Nat} {Q : z_RT} {v : z_V} {a1 : Int32} {a2 : Int32}
    (h : z_if (z_in ((((681 * a1) + 1) + (3 * a2)) + 1) 2724) (z_Wp (z_C d) 2 k_X11_summedUp Q 38 [some (vR 11 0), some (vI a1), some (vI a2), some (vI (((681 * a1) + 1) + (3 * a2))), some (vI ((681 * a1) + 73)), some (vI 0), some (vI 0), some (vI (gI v 1202 0 (n_ ((((681 * a1) + 1) + (3 * a2)) + 1)))), none, none] [] v)) :
    z_Wp (z_C d) 2 k_X11_summedUp Q 0 [some (vR 11 0), some (vI a1), some (vI a2), none, none, none, none, none, none, none] [] v := z_run [38, 119, 131, 160, 193, 203, 236, 246, 280, 316, 319] 400 h
set_option maxRecDepth 100000 in
set_option maxHeartbeats 16000000 in
theorem B_X11_summedUp_38 {d : Nat} {Q : z_RT} {v : z_V} {u1 : Option z_AV} {u2 : Option z_AV} {x3 : Int32} {x4 : Int32} {x5 : Int32} {x6 : Int32} {x7 : Int32} {u8 : Option z_AV} {u9 : Option z_AV}
    (h : z_if (z_in (x3 + 2) 2724) ((((gI v 1202 0 (n_ (x3 + 2))) ≤ x7 → Q v (some (vL (gL v 1221 0 0)))) ∧ (¬ (gI v 1202 0 (n_ (x3 + 2))) ≤ x7 → z_if (z_in (x4 + (2 * x7)) 2724) (z_if (z_in ((x4 + (2 * x7)) + 1) 2724) (((1 < (gI v 1202 0 (n_ (x4 + (2 * x7)))) → z_Wp (z_C d) 2 k_X11_summedUp Q 119 [some (vR 11 0), none, none, some (vI x3), some (vI x4), some (vI x5), some (vI x6), some (vI x7), some (vI (gI v 1202 0 (n_ (x4 + (2 * x7))))), some (vI (gI v 1202 0 (n_ ((x4 + (2 * x7)) + 1))))] [] v) ∧ (¬ 1 < (gI v 1202 0 (n_ (x4 + (2 * x7)))) → ((¬ (gI v 1202 0 (n_ (x4 + (2 * x7)))) = 0 → z_if (z_in (gI v 1202 0 (n_ ((x4 + (2 * x7)) + 1))) 10) (z_if (z_in x5 330) (z_Wp (z_C d) 2 k_X11_summedUp Q 38 [some (vR 11 0), none, none, some (vI x3), some (vI x4), some (vI (x5 + 1)), some (vI x6), some (vI (x7 + 1)), some (vI (gI v 1202 0 (n_ (x4 + (2 * x7))))), some (vI (gI v 1202 0 (n_ ((x4 + (2 * x7)) + 1))))] [] (pL v 1221 0 (n_ x5) ((gI v 1220 0 (n_ (gI v 1202 0 (n_ ((x4 + (2 * x7)) + 1))))).toInt64))))) ∧ ((gI v 1202 0 (n_ (x4 + (2 * x7)))) = 0 → z_if (z_in x5 330) (z_Wp (z_C d) 2 k_X11_summedUp Q 38 [some (vR 11 0), none, none, some (vI x3), some (vI x4), some (vI (x5 + 1)), some (vI x6), some (vI (x7 + 1)), some (vI (gI v 1202 0 (n_ (x4 + (2 * x7))))), some (vI (gI v 1202 0 (n_ ((x4 + (2 * x7)) + 1))))] [] (pL v 1221 0 (n_ x5) ((gI v 1202 0 (n_ ((x4 + (2 * x7)) + 1))).toInt64))))))))))))) :
    z_Wp (z_C d) 2 k_X11_summedUp Q 38 [some (vR 11 0), u1, u2, some (vI x3), some (vI x4), some (vI x5), some (vI x6), some (vI x7), u8, u9] [] v := z_run [38, 119, 131, 160, 193, 203, 236, 246, 280, 316, 319] 400 h
set_option maxRecDepth 100000 in
set_option maxHeartbeats 16000000 in
theorem B_X11_summedUp_119 {d : Nat} {Q : z_RT} {v : z_V} {u1 : Option z_AV} {u2 : Option z_AV} {x3 : Int32} {x4 : Int32} {x5 : Int32} {x6 : Int32} {x7 : Int32} {x8 : Int32} {u9 : Option z_AV}
    (h : ((¬ x8 = 3 → z_Wp (z_C d) 2 k_X11_summedUp Q 160 [some (vR 11 0), none, none, some (vI x3), some (vI x4), some (vI x5), some (vI x6), some (vI x7), some (vI x8), none] [] v) ∧ (x8 = 3 → z_Wp (z_C d) 2 k_X11_summedUp Q 131 [some (vR 11 0), none, none, some (vI x3), some (vI x4), some (vI (x5 + (-1))), some (vI (x6 + (-1))), some (vI x7), some (vI x8), none] [] v))) :
    z_Wp (z_C d) 2 k_X11_summedUp Q 119 [some (vR 11 0), u1, u2, some (vI x3), some (vI x4), some (vI x5), some (vI x6), some (vI x7), some (vI x8), u9] [] v := z_run [38, 119, 131, 160, 193, 203, 236, 246, 280, 316, 319] 400 h
set_option maxRecDepth 100000 in
set_option maxHeartbeats 16000000 in
theorem B_X11_summedUp_160 {d : Nat} {Q : z_RT} {v : z_V} {u1 : Option z_AV} {u2 : Option z_AV} {x3 : Int32} {x4 : Int32} {x5 : Int32} {x6 : Int32} {x7 : Int32} {x8 : Int32} {u9 : Option z_AV}
    (h : ((5 < x8 → z_Wp (z_C d) 2 k_X11_summedUp Q 193 [some (vR 11 0), none, none, some (vI x3), some (vI x4), some (vI x5), some (vI x6), some (vI x7), some (vI x8), none] [] v) ∧ (¬ 5 < x8 → z_if (z_in (x5 - 1) 330) (z_C d m_X11_ofOne [vR 11 0, vI x8, vL (gL v 1221 0 (n_ (x5 - 1)))] v (fun w1 o2 => ∃ l3 : Int64, o2 = some (vL l3) ∧ z_if (z_in (x5 - 1) 330) (z_Wp (z_C d) 2 k_X11_summedUp Q 38 [some (vR 11 0), none, none, some (vI x3), some (vI x4), some (vI x5), some (vI x6), some (vI (x7 + 1)), some (vI x8), none] [] (pL w1 1221 0 (n_ (x5 - 1)) l3))))))) :
    z_Wp (z_C d) 2 k_X11_summedUp Q 160 [some (vR 11 0), u1, u2, some (vI x3), some (vI x4), some (vI x5), some (vI x6), some (vI x7), some (vI x8), u9] [] v := z_run [38, 119, 131, 160, 193, 203, 236, 246, 280, 316, 319] 400 h
set_option maxRecDepth 100000 in
set_option maxHeartbeats 16000000 in
theorem B_X11_summedUp_131 {d : Nat} {Q : z_RT} {v : z_V} {u1 : Option z_AV} {u2 : Option z_AV} {x3 : Int32} {x4 : Int32} {x5 : Int32} {x6 : Int32} {x7 : Int32} {u8 : Option z_AV} {u9 : Option z_AV}
    (h : z_if (z_in x6 330) (((¬ (gI v 1222 0 (n_ x6)) = 0 → z_Wp (z_C d) 2 k_X11_summedUp Q 38 [some (vR 11 0), u1, u2, some (vI x3), some (vI x4), some (vI x5), some (vI x6), some (vI (x7 + 1)), u8, u9] [] v) ∧ ((gI v 1222 0 (n_ x6)) = 0 → z_if (z_in x5 330) (z_if (z_in (x5 - 1) 330) (z_Wp (z_C d) 2 k_X11_summedUp Q 38 [some (vR 11 0), u1, u2, some (vI x3), some (vI x4), some (vI x5), some (vI x6), some (vI (x7 + 1)), u8, u9] [] (pL v 1221 0 (n_ (x5 - 1)) (gL v 1221 0 (n_ x5))))))))) :
    z_Wp (z_C d) 2 k_X11_summedUp Q 131 [some (vR 11 0), u1, u2, some (vI x3), some (vI x4), some (vI x5), some (vI x6), some (vI x7), u8, u9] [] v := z_run [38, 119, 131, 160, 193, 203, 236, 246, 280, 316, 319] 400 h
set_option maxRecDepth 100000 in
set_option maxHeartbeats 16000000 in
theorem B_X11_summedUp_193 {d : Nat} {Q : z_RT} {v : z_V} {u1 : Option z_AV} {u2 : Option z_AV} {x3 : Int32} {x4 : Int32} {x5 : Int32} {x6 : Int32} {x7 : Int32} {x8 : Int32} {u9 : Option z_AV}
    (h : ((10 ≤ x8 → z_Wp (z_C d) 2 k_X11_summedUp Q 236 [some (vR 11 0), none, none, some (vI x3), some (vI x4), some (vI x5), some (vI x6), some (vI x7), some (vI x8), none] [] v) ∧ (¬ 10 ≤ x8 → z_Wp (z_C d) 2 k_X11_summedUp Q 203 [some (vR 11 0), none, none, some (vI x3), some (vI x4), some (vI (x5 + (-1))), some (vI x6), some (vI x7), some (vI x8), none] [] v))) :
    z_Wp (z_C d) 2 k_X11_summedUp Q 193 [some (vR 11 0), u1, u2, some (vI x3), some (vI x4), some (vI x5), some (vI x6), some (vI x7), some (vI x8), u9] [] v := z_run [38, 119, 131, 160, 193, 203, 236, 246, 280, 316, 319] 400 h
set_option maxRecDepth 100000 in
set_option maxHeartbeats 16000000 in
theorem B_X11_summedUp_236 {d : Nat} {Q : z_RT} {v : z_V} {u1 : Option z_AV} {u2 : Option z_AV} {x3 : Int32} {x4 : Int32} {x5 : Int32} {x6 : Int32} {x7 : Int32} {x8 : Int32} {u9 : Option z_AV}
    (h : ((20 ≤ x8 → z_Wp (z_C d) 2 k_X11_summedUp Q 280 [some (vR 11 0), none, none, some (vI x3), some (vI x4), some (vI x5), some (vI x6), some (vI x7), some (vI x8), none] [] v) ∧ (¬ 20 ≤ x8 → z_Wp (z_C d) 2 k_X11_summedUp Q 246 [some (vR 11 0), none, none, some (vI x3), some (vI x4), some (vI (x5 + (-2))), some (vI x6), some (vI x7), some (vI x8), none] [] v))) :
    z_Wp (z_C d) 2 k_X11_summedUp Q 236 [some (vR 11 0), u1, u2, some (vI x3), some (vI x4), some (vI x5), some (vI x6), some (vI x7), some (vI x8), u9] [] v := z_run [38, 119, 131, 160, 193, 203, 236, 246, 280, 316, 319] 400 h
set_option maxRecDepth 100000 in
set_option maxHeartbeats 16000000 in
theorem B_X11_summedUp_203 {d : Nat} {Q : z_RT} {v : z_V} {u1 : Option z_AV} {u2 : Option z_AV} {x3 : Int32} {x4 : Int32} {x5 : Int32} {x6 : Int32} {x7 : Int32} {x8 : Int32} {u9 : Option z_AV}
    (h : z_if (z_in (x5 - 1) 330) (z_if (z_in x5 330) (z_C d m_X11_two [vI x8, vL (gL v 1221 0 (n_ (x5 - 1))), vL (gL v 1221 0 (n_ x5))] v (fun w1 o2 => ∃ l3 : Int64, o2 = some (vL l3) ∧ z_if (z_in (x5 - 1) 330) (z_Wp (z_C d) 2 k_X11_summedUp Q 38 [some (vR 11 0), u1, u2, some (vI x3), some (vI x4), some (vI x5), some (vI x6), some (vI (x7 + 1)), some (vI x8), u9] [] (pL w1 1221 0 (n_ (x5 - 1)) l3)))))) :
    z_Wp (z_C d) 2 k_X11_summedUp Q 203 [some (vR 11 0), u1, u2, some (vI x3), some (vI x4), some (vI x5), some (vI x6), some (vI x7), some (vI x8), u9] [] v := z_run [38, 119, 131, 160, 193, 203, 236, 246, 280, 316, 319] 400 h
set_option maxRecDepth 100000 in
set_option maxHeartbeats 16000000 in
theorem B_X11_summedUp_280 {d : Nat} {Q : z_RT} {v : z_V} {u1 : Option z_AV} {u2 : Option z_AV} {x3 : Int32} {x4 : Int32} {x5 : Int32} {x6 : Int32} {x7 : Int32} {x8 : Int32} {u9 : Option z_AV}
    (h : ((¬ x8 = 20 → z_Wp (z_C d) 2 k_X11_summedUp Q 316 [some (vR 11 0), none, none, some (vI x3), some (vI x4), some (vI x5), some (vI x6), some (vI x7), some (vI x8), none] [] v) ∧ (x8 = 20 → z_if (z_in (x6 - 1) 330) (((¬ (gI v 1222 0 (n_ (x6 - 1))) = 0 → z_if (z_in (x6 - 1) 330 && true) (z_Wp (z_C d) 2 k_X11_summedUp Q 38 [some (vR 11 0), none, none, some (vI x3), some (vI x4), some (vI x5), some (vI x6), some (vI (x7 + 1)), some (vI x8), none] [] (pI v 1222 0 (n_ (x6 - 1)) 0))) ∧ ((gI v 1222 0 (n_ (x6 - 1))) = 0 → z_if (z_in (x6 - 1) 330 && true) (z_Wp (z_C d) 2 k_X11_summedUp Q 38 [some (vR 11 0), none, none, some (vI x3), some (vI x4), some (vI x5), some (vI x6), some (vI (x7 + 1)), some (vI x8), none] [] (pI v 1222 0 (n_ (x6 - 1)) 1)))))))) :
    z_Wp (z_C d) 2 k_X11_summedUp Q 280 [some (vR 11 0), u1, u2, some (vI x3), some (vI x4), some (vI x5), some (vI x6), some (vI x7), some (vI x8), u9] [] v := z_run [38, 119, 131, 160, 193, 203, 236, 246, 280, 316, 319] 400 h
set_option maxRecDepth 100000 in
set_option maxHeartbeats 16000000 in
theorem B_X11_summedUp_246 {d : Nat} {Q : z_RT} {v : z_V} {u1 : Option z_AV} {u2 : Option z_AV} {x3 : Int32} {x4 : Int32} {x5 : Int32} {x6 : Int32} {x7 : Int32} {x8 : Int32} {u9 : Option z_AV}
    (h : z_if (z_in x5 330) (z_if (z_in (x5 + 1) 330) (z_C d m_X11_isAsked [vI x8, vL (gL v 1221 0 (n_ x5)), vL (gL v 1221 0 (n_ (x5 + 1)))] v (fun w1 o2 => ∃ i3 : Int32, o2 = some (vI i3) ∧ z_if (z_in x6 330 && z_01 i3) (z_Wp (z_C d) 2 k_X11_summedUp Q 38 [some (vR 11 0), u1, u2, some (vI x3), some (vI x4), some (vI x5), some (vI (x6 + 1)), some (vI (x7 + 1)), some (vI x8), u9] [] (pI w1 1222 0 (n_ x6) i3)))))) :
    z_Wp (z_C d) 2 k_X11_summedUp Q 246 [some (vR 11 0), u1, u2, some (vI x3), some (vI x4), some (vI x5), some (vI x6), some (vI x7), some (vI x8), u9] [] v := z_run [38, 119, 131, 160, 193, 203, 236, 246, 280, 316, 319] 400 h
set_option maxRecDepth 100000 in
set_option maxHeartbeats 16000000 in
theorem B_X11_summedUp_316 {d : Nat} {Q : z_RT} {v : z_V} {u1 : Option z_AV} {u2 : Option z_AV} {x3 : Int32} {x4 : Int32} {x5 : Int32} {x6 : Int32} {x7 : Int32} {x8 : Int32} {u9 : Option z_AV}
    (h : z_Wp (z_C d) 2 k_X11_summedUp Q 319 [some (vR 11 0), none, none, some (vI x3), some (vI x4), some (vI x5), some (vI (x6 + (-1))), some (vI x7), some (vI x8), none] [] v) :
    z_Wp (z_C d) 2 k_X11_summedUp Q 316 [some (vR 11 0), u1, u2, some (vI x3), some (vI x4), some (vI x5), some (vI x6), some (vI x7), some (vI x8), u9] [] v := z_run [38, 119, 131, 160, 193, 203, 236, 246, 280, 316, 319] 400 h
set_option maxRecDepth 100000 in
set_option maxHeartbeats 16000000 in
theorem B_X11_summedUp_319 {d : Nat} {Q : z_RT} {v : z_V} {u1 : Option z_AV} {u2 : Option z_AV} {x3 : Int32} {x4 : Int32} {x5 : Int32} {x6 : Int32} {x7 : Int32} {x8 : Int32} {u9 : Option z_AV}
    (h : z_if (z_in (x6 - 1) 330) (z_if (z_in x6 330) (z_C d m_X11_joined [vI x8, vI (gI v 1222 0 (n_ (x6 - 1))), vI (gI v 1222 0 (n_ x6))] v (fun w1 o2 => ∃ i3 : Int32, o2 = some (vI i3) ∧ z_if (z_in (x6 - 1) 330 && z_01 i3) (z_Wp (z_C d) 2 k_X11_summedUp Q 38 [some (vR 11 0), u1, u2, some (vI x3), some (vI x4), some (vI x5), some (vI x6), some (vI (x7 + 1)), some (vI x8), u9] [] (pI w1 1222 0 (n_ (x6 - 1)) i3)))))) :
    z_Wp (z_C d) 2 k_X11_summedUp Q 319 [some (vR 11 0), u1, u2, some (vI x3), some (vI x4), some (vI x5), some (vI x6), some (vI x7), some (vI x8), u9] [] v := z_run [38, 119, 131, 160, 193, 203, 236, 246, 280, 316, 319] 400 h
set_option maxRecDepth 100000 in
set_option maxHeartbeats 2000000 in
theorem B_X11_says_0 {d : Nat} {Q : z_RT} {v : z_V} {a1 : Int32} {a2 : Int32} {a3 : Int32} {a4 : Int32}
    (h : z_Wp (z_C d) 1 k_X11_says Q 3 [some (vR 11 0), some (vI a1), some (vI a2), some (vI a3), some (vI a4), some (vI 0)] [] v) :
    z_Wp (z_C d) 1 k_X11_says Q 0 [some (vR 11 0), some (vI a1), some (vI a2), some (vI a3), some (vI a4), none] [] v := z_run [3] 400 h
set_option maxRecDepth 100000 in
set_option maxHeartbeats 2000000 in
theorem B_X11_says_3 {d : Nat} {Q : z_RT} {v : z_V} {x1 : Int32} {x2 : Int32} {x3 : Int32} {x4 : Int32} {x5 : Int32}
    (h : ((x1 < 0 → Q v (some (vI x3))) ∧ (¬ x1 < 0 → z_if (z_in (681 * x1) 2724) ((((gI v 1202 0 (n_ (681 * x1))) ≤ x5 → Q v (some (vI x3))) ∧ (¬ (gI v 1202 0 (n_ (681 * x1))) ≤ x5 → z_if (z_in (((681 * x1) + 1) + (3 * x5)) 2724) (((¬ (gI v 1202 0 (n_ (((681 * x1) + 1) + (3 * x5)))) = x2 → z_Wp (z_C d) 1 k_X11_says Q 3 [some (vR 11 0), some (vI x1), some (vI x2), some (vI x3), some (vI x4), some (vI (x5 + 1))] [] v) ∧ ((gI v 1202 0 (n_ (((681 * x1) + 1) + (3 * x5)))) = x2 → z_C d m_X11_summedUp [vR 11 0, vI x1, vI x5] v (fun w1 o2 => ∃ l3 : Int64, o2 = some (vL l3) ∧ z_C d m_X11_held [vL l3, vI 0, vI x4] w1 (fun w4 o5 => ∃ i6 : Int32, o5 = some (vI i6) ∧ Q w4 (some (vI i6))))))))))))) :
    z_Wp (z_C d) 1 k_X11_says Q 3 [some (vR 11 0), some (vI x1), some (vI x2), some (vI x3), some (vI x4), some (vI x5)] [] v := z_run [3] 400 h
set_option maxRecDepth 100000 in
set_option maxHeartbeats 2000000 in
theorem B_X11_name_0 {d : Nat} {Q : z_RT} {v : z_V} {a1 : Int32}
    (h : z_C d m_X11_openMany [vR 11 0] (pI (pI (pI v 1220 0 0 (gI v 1200 0 5)) 1220 0 1 a1) 1220 0 2 (gI v 1200 0 7)) (fun w1 o2 => ∃ i3 : Int32, o2 = some (vI i3) ∧ Q (pI w1 1220 0 3 i3) none)) :
    z_Wp (z_C d) 0 k_X11_name Q 0 [some (vR 11 0), some (vI a1)] [] v := z_run [] 400 h
set_option maxRecDepth 100000 in
set_option maxHeartbeats 2000000 in
theorem B_X11_ridesOf_0 {d : Nat} {Q : z_RT} {v : z_V} {a1 : Int32} {a2 : Int32}
    (h : z_C d m_X11_name [vR 11 0, vI a2] v (fun w1 o2 => o2 = none ∧ z_C d m_X11_one [vR 11 0, vI a2] w1 (fun w3 o4 => ∃ i5 : Int32, o4 = some (vI i5) ∧ z_if (z_in (10 + i5) 1218) (z_C d m_X11_other [vR 11 0, vI a2] w3 (fun w6 o7 => ∃ i8 : Int32, o7 = some (vI i8) ∧ z_if (z_in (10 + i8) 1218) (z_C d m_X11_fareOf [vR 11 0, vI a2] w6 (fun w9 o10 => ∃ i11 : Int32, o10 = some (vI i11) ∧ (((gI w6 1200 0 (n_ (10 + i8))) ≤ (gI w3 1200 0 (n_ (10 + i5))) → z_Wp (z_C d) 1 k_X11_ridesOf Q 62 [some (vR 11 0), some (vI a1), some (vI a2), some (vI (gI w3 1200 0 (n_ (10 + i5)))), some (vI (gI w6 1200 0 (n_ (10 + i8))))] [vI (gI w6 1200 0 (n_ (10 + i8))), vI 5, vR 1220 0] (pI w9 1220 0 4 i11)) ∧ (¬ (gI w6 1200 0 (n_ (10 + i8))) ≤ (gI w3 1200 0 (n_ (10 + i5))) → z_Wp (z_C d) 1 k_X11_ridesOf Q 62 [some (vR 11 0), some (vI a1), some (vI a2), some (vI (gI w3 1200 0 (n_ (10 + i5)))), some (vI (gI w6 1200 0 (n_ (10 + i8))))] [vI (gI w3 1200 0 (n_ (10 + i5))), vI 5, vR 1220 0] (pI w9 1220 0 4 i11)))))))))) :
    z_Wp (z_C d) 1 k_X11_ridesOf Q 0 [some (vR 11 0), some (vI a1), some (vI a2), none, none] [] v := z_run [62] 400 h
set_option maxRecDepth 100000 in
set_option maxHeartbeats 2000000 in
theorem B_X11_ridesOf_62 {d : Nat} {Q : z_RT} {v : z_V} {x1 : Int32} {u2 : Option z_AV} {x3 : Int32} {x4 : Int32} {s1 : Int32} {s2 : Int32}
    (h : z_if (z_in s1 10) (((x4 ≤ x3 → z_C d m_X11_says [vR 11 0, vI x1, vI 0, vI 5, vI 10] (pI (pI v 1220 0 (n_ s1) s2) 1220 0 6 x3) (fun w1 o2 => ∃ i3 : Int32, o2 = some (vI i3) ∧ Q w1 (some (vI i3)))) ∧ (¬ x4 ≤ x3 → z_C d m_X11_says [vR 11 0, vI x1, vI 0, vI 5, vI 10] (pI (pI v 1220 0 (n_ s1) s2) 1220 0 6 x4) (fun w4 o5 => ∃ i6 : Int32, o5 = some (vI i6) ∧ Q w4 (some (vI i6))))))) :
    z_Wp (z_C d) 1 k_X11_ridesOf Q 62 [some (vR 11 0), some (vI x1), u2, some (vI x3), some (vI x4)] [vI s2, vI s1, vR 1220 0] v := z_run [62] 400 h
set_option maxRecDepth 100000 in
set_option maxHeartbeats 2000000 in
theorem B_X11_costsOf_0 {d : Nat} {Q : z_RT} {v : z_V} {a1 : Int32} {a2 : Int32}
    (h : z_C d m_X11_name [vR 11 0, vI a1] v (fun w1 o2 => o2 = none ∧ z_if (z_in (10 + a1) 1218) (z_C d m_X11_besideOf [vR 11 0, vI a1] (pI (pI w1 1220 0 7 (gI w1 1200 0 (n_ (10 + a1)))) 1220 0 8 a2) (fun w3 o4 => ∃ i5 : Int32, o4 = some (vI i5) ∧ z_C d m_X11_bits [vI i5] w3 (fun w6 o7 => ∃ i8 : Int32, o7 = some (vI i8) ∧ z_C d m_X11_says [vR 11 0, vI (gI w6 1200 0 2), vI 1, vI 1, vI 99] (pI w6 1220 0 9 i8) (fun w9 o10 => ∃ i11 : Int32, o10 = some (vI i11) ∧ Q w9 (some (vI i11)))))))) :
    z_Wp (z_C d) 1 k_X11_costsOf Q 0 [some (vR 11 0), some (vI a1), some (vI a2)] [] v := z_run [] 400 h
set_option maxRecDepth 100000 in
set_option maxHeartbeats 2000000 in
theorem B_X11_write_0 {d : Nat} {Q : z_RT} {v : z_V} {a1 : Int32} {a2 : Int32} {a3 : Int32}
    (h : ((¬ (gI v 11 0 23) = 0 → ((¬ (gI v 1200 0 8) = 25 → z_Wp (z_C d) 0 k_X11_write Q 71 [some (vR 11 0), some (vI a1), some (vI a2), some (vI a3), none] [] v) ∧ ((gI v 1200 0 8) = 25 → z_Wp (z_C d) 0 k_X11_write Q 23 [some (vR 11 0), some (vI a1), some (vI a2), some (vI a3), some (vI 1)] [] v))) ∧ ((gI v 11 0 23) = 0 → Q v none))) :
    z_Wp (z_C d) 0 k_X11_write Q 0 [some (vR 11 0), some (vI a1), some (vI a2), some (vI a3), none] [] v := z_run [23, 71] 400 h
set_option maxRecDepth 100000 in
set_option maxHeartbeats 2000000 in
theorem B_X11_write_71 {d : Nat} {Q : z_RT} {v : z_V} {x1 : Int32} {x2 : Int32} {x3 : Int32} {u4 : Option z_AV}
    (h : z_if (z_in (1193 + (gI v 1200 0 8)) 1218) (Q (pI (pI v 1200 0 (n_ (1193 + (gI v 1200 0 8))) (((((((gI v 1200 0 5) * 3) + x1) * 10) + x2) * 100) + x3)) 1200 0 8 ((gI (pI v 1200 0 (n_ (1193 + (gI v 1200 0 8))) (((((((gI v 1200 0 5) * 3) + x1) * 10) + x2) * 100) + x3)) 1200 0 8) + 1)) none)) :
    z_Wp (z_C d) 0 k_X11_write Q 71 [some (vR 11 0), some (vI x1), some (vI x2), some (vI x3), u4] [] v := z_run [23, 71] 400 h
set_option maxRecDepth 100000 in
set_option maxHeartbeats 2000000 in
theorem B_X11_write_23 {d : Nat} {Q : z_RT} {v : z_V} {x1 : Int32} {x2 : Int32} {x3 : Int32} {x4 : Int32}
    (h : ((25 ≤ x4 → z_Wp (z_C d) 0 k_X11_write Q 71 [some (vR 11 0), some (vI x1), some (vI x2), some (vI x3), some (vI x4)] [] (pI v 1200 0 8 ((gI v 1200 0 8) - 1))) ∧ (¬ 25 ≤ x4 → z_if (z_in (1193 + x4) 1218) (z_if (z_in ((1193 + x4) - 1) 1218) (z_Wp (z_C d) 0 k_X11_write Q 23 [some (vR 11 0), some (vI x1), some (vI x2), some (vI x3), some (vI (x4 + 1))] [] (pI v 1200 0 (n_ ((1193 + x4) - 1)) (gI v 1200 0 (n_ (1193 + x4))))))))) :
    z_Wp (z_C d) 0 k_X11_write Q 23 [some (vR 11 0), some (vI x1), some (vI x2), some (vI x3), some (vI x4)] [] v := z_run [23, 71] 400 h
set_option maxRecDepth 100000 in
set_option maxHeartbeats 2000000 in
theorem B_X11_drawnBy_0 {d : Nat} {Q : z_RT} {v : z_V} {a1 : Int32}
    (h : z_if (z_nz a1) (z_C d m_X11_anew [vR 11 0] v (fun w1 o2 => o2 = none ∧ Q w1 (some (vI (i_rem (gI v 1200 0 6) a1)))))) :
    z_Wp (z_C d) 1 k_X11_drawnBy Q 0 [some (vR 11 0), some (vI a1), none] [] v := z_run [] 400 h
set_option maxRecDepth 100000 in
set_option maxHeartbeats 2000000 in
theorem B_X11_anew_0 {d : Nat} {Q : z_RT} {v : z_V}
    (h : Q (pI v 1200 0 6 ((l_rem ((((gI v 1200 0 6).toInt64) * 691) + 569) 31013).toInt32)) none) :
    z_Wp (z_C d) 0 k_X11_anew Q 0 [some (vR 11 0)] [] v := z_run [] 400 h
set_option maxRecDepth 100000 in
set_option maxHeartbeats 2000000 in
theorem B_X11_canPlate_0 {d : Nat} {Q : z_RT} {v : z_V} {a1 : Int32} {a2 : Int32}
    (h : z_C d m_X11_isHalt [vI a1] v (fun w1 o2 => ∃ i3 : Int32, o2 = some (vI i3) ∧ ((i3 = 0 → Q w1 (some (vI 0))) ∧ (¬ i3 = 0 → z_C d m_X11_isIn [vI a2, vI 0, vI 99] w1 (fun w4 o5 => ∃ i6 : Int32, o5 = some (vI i6) ∧ ((i6 = 0 → Q w4 (some (vI 0))) ∧ (¬ i6 = 0 → z_if (z_in (10 + a1) 1218) ((((gI w4 1200 0 (n_ (10 + a1))) = a2 → Q w4 (some (vI 0))) ∧ (¬ (gI w4 1200 0 (n_ (10 + a1))) = a2 → z_C d m_X11_costsOf [vR 11 0, vI a1, vI a2] w4 (fun w7 o8 => ∃ i9 : Int32, o8 = some (vI i9) ∧ (((gI w4 1200 0 7) < i9 → Q w7 (some (vI 0))) ∧ (¬ (gI w4 1200 0 7) < i9 → Q w7 (some (vI 1))))))))))))))) :
    z_Wp (z_C d) 4 k_X11_canPlate Q 0 [some (vR 11 0), some (vI a1), some (vI a2)] [] v := z_run [] 400 h
set_option maxRecDepth 100000 in
set_option maxHeartbeats 2000000 in
theorem B_X11_plateNow_0 {d : Nat} {Q : z_RT} {v : z_V} {a1 : Int32} {a2 : Int32}
    (h : z_C d m_X11_costsOf [vR 11 0, vI a1, vI a2] v (fun w1 o2 => ∃ i3 : Int32, o2 = some (vI i3) ∧ z_if (z_in (10 + a1) 1218) (z_C d m_X11_write [vR 11 0, vI 0, vI a1, vI a2] (pI (pI w1 1200 0 7 ((gI w1 1200 0 7) - i3)) 1200 0 (n_ (10 + a1)) a2) (fun w4 o5 => o5 = none ∧ Q w4 (some (vI i3)))))) :
    z_Wp (z_C d) 1 k_X11_plateNow Q 0 [some (vR 11 0), some (vI a1), some (vI a2), none] [] v := z_run [] 400 h
set_option maxRecDepth 100000 in
set_option maxHeartbeats 2000000 in
theorem B_X11_turnNow_0 {d : Nat} {Q : z_RT} {v : z_V} {a1 : Int32}
    (h : z_C d m_X11_isOpen [vR 11 0, vI a1] (pI v 1200 0 9 ((gI v 1200 0 9) ^^^ (i_shl 1 a1))) (fun w1 o2 => ∃ i3 : Int32, o2 = some (vI i3) ∧ ((i3 = 0 → z_C d m_X11_write [vR 11 0, vI 1, vI a1, vI 0] w1 (fun w4 o5 => o5 = none ∧ Q w4 none)) ∧ (¬ i3 = 0 → z_C d m_X11_write [vR 11 0, vI 1, vI a1, vI 1] w1 (fun w6 o7 => o7 = none ∧ Q w6 none))))) :
    z_Wp (z_C d) 0 k_X11_turnNow Q 0 [some (vR 11 0), some (vI a1)] [] v := z_run [] 400 h
set_option maxRecDepth 100000 in
set_option maxHeartbeats 2000000 in
theorem B_X11_canGrant_0 {d : Nat} {Q : z_RT} {v : z_V} {a1 : Int32}
    (h : z_C d m_X11_isIn [vI a1, vI 1, vI 99] v (fun w1 o2 => ∃ i3 : Int32, o2 = some (vI i3) ∧ ((i3 = 0 → Q w1 (some (vI 0))) ∧ (¬ i3 = 0 → ((99999 < ((gI w1 1200 0 7) + a1) → Q w1 (some (vI 0))) ∧ (¬ 99999 < ((gI w1 1200 0 7) + a1) → Q w1 (some (vI 1)))))))) :
    z_Wp (z_C d) 4 k_X11_canGrant Q 0 [some (vR 11 0), some (vI a1)] [] v := z_run [] 400 h
set_option maxRecDepth 100000 in
set_option maxHeartbeats 2000000 in
theorem B_X11_pass_0 {d : Nat} {Q : z_RT} {v : z_V}
    (h : z_Wp (z_C d) 0 k_X11_pass Q 2 [some (vR 11 0), some (vI 0)] [] v) :
    z_Wp (z_C d) 0 k_X11_pass Q 0 [some (vR 11 0), none] [] v := z_run [2] 400 h
set_option maxRecDepth 100000 in
set_option maxHeartbeats 2000000 in
theorem B_X11_pass_2 {d : Nat} {Q : z_RT} {v : z_V} {x1 : Int32}
    (h : (((gI v 1200 0 0) ≤ x1 → Q (pI v 1200 0 5 ((gI v 1200 0 5) + 1)) none) ∧ (¬ (gI v 1200 0 0) ≤ x1 → z_C d m_X11_isOpen [vR 11 0, vI x1] v (fun w1 o2 => ∃ i3 : Int32, o2 = some (vI i3) ∧ ((i3 = 0 → z_Wp (z_C d) 0 k_X11_pass Q 2 [some (vR 11 0), some (vI (x1 + 1))] [] w1) ∧ (¬ i3 = 0 → z_C d m_X11_drawnBy [vR 11 0, vI 10] w1 (fun w4 o5 => ∃ i6 : Int32, o5 = some (vI i6) ∧ z_C d m_X11_ridesOf [vR 11 0, vI (gI w4 1200 0 2), vI x1] w4 (fun w7 o8 => ∃ i9 : Int32, o8 = some (vI i9) ∧ ((i6 < i9 → z_C d m_X11_fareOf [vR 11 0, vI x1] w7 (fun w10 o11 => ∃ i12 : Int32, o11 = some (vI i12) ∧ z_C d m_X11_held [vL (((gI w7 1200 0 7) + i12).toInt64), vI 0, vI 99999] w10 (fun w13 o14 => ∃ i15 : Int32, o14 = some (vI i15) ∧ z_C d m_X11_fareOf [vR 11 0, vI x1] (pI w13 1200 0 7 i15) (fun w16 o17 => ∃ i18 : Int32, o17 = some (vI i18) ∧ z_C d m_X11_fareOf [vR 11 0, vI x1] (pI w16 11 0 24 ((gI w13 11 0 24) + i18)) (fun w19 o20 => ∃ i21 : Int32, o20 = some (vI i21) ∧ z_C d m_X11_write [vR 11 0, vI 2, vI x1, vI i21] w19 (fun w22 o23 => o23 = none ∧ z_Wp (z_C d) 0 k_X11_pass Q 2 [some (vR 11 0), some (vI (x1 + 1))] [] w22)))))) ∧ (¬ i6 < i9 → z_Wp (z_C d) 0 k_X11_pass Q 2 [some (vR 11 0), some (vI (x1 + 1))] [] w7)))))))))) :
    z_Wp (z_C d) 0 k_X11_pass Q 2 [some (vR 11 0), some (vI x1)] [] v := z_run [2] 400 h
