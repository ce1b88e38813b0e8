/-! the law: one round of its loop -/
theorem lk_lay : lw_ck 236 m_X10_lay m_X11_lay 13 17 [1, 2] 2 false 3009 6192 = true := by decide +kernel
theorem lk_feed : lw_ck 269 m_X10_feed m_X11_feed 18 22 [1, 2, 3, 4, 5] 5 false 3017 6214 = true := by decide +kernel
theorem lk_end : lw_ck 332 m_X10_end m_X11_end 23 27 [1] 1 false 3025 6222 = true := by decide +kernel
theorem lk_text : lw_ck 355 m_X10_text m_X11_text 28 32 [] 0 false 3029 6226 = true := by decide +kernel
theorem lk_fault : lw_ck 368 m_X10_fault m_X11_fault 33 36 [1] 1 false 3194 7122 = true := by decide +kernel
theorem lk_by : lw_ck 391 m_X10_by m_X11_by 37 41 [1] 1 false 3198 7126 = true := by decide +kernel
theorem lk_plate : lw_ck 414 m_X10_plate m_X11_plate 42 45 [1, 2] 2 false 3206 7134 = true := by decide +kernel
theorem lk_turn : lw_ck 447 m_X10_turn m_X11_turn 46 49 [1] 1 false 4070 7214 = true := by decide +kernel
theorem lk_grant : lw_ck 470 m_X10_grant m_X11_grant 50 53 [1] 1 false 4080 7226 = true := by decide +kernel
theorem lk_day : lw_ck 493 m_X10_day m_X11_day 54 57 [1] 1 false 4089 7234 = true := by decide +kernel
theorem lk_played : lw_ck 516 m_X10_played m_X11_played 58 61 [1] 1 false 4103 8021 = true := by decide +kernel
theorem lk_years : lw_ck 539 m_X10_years m_X11_years 62 65 [1, 2] 2 false 4116 8033 = true := by decide +kernel
theorem lk_undo : lw_ck 572 m_X10_undo m_X11_undo 66 69 [] 0 false 4126 7130 = true := by decide +kernel
theorem lk_of : lw_ck 585 m_X10_of m_X11_of 70 73 [1, 2] 2 false 4134 8041 = true := by decide +kernel
theorem lk_ofHalt : lw_ck 618 m_X10_ofHalt m_X11_ofHalt 74 77 [1, 2] 2 false 4145 8045 = true := by decide +kernel
theorem lk_costs : lw_ck 651 m_X10_costs m_X11_costs 78 81 [1, 2] 2 false 4150 8049 = true := by decide +kernel
theorem lk_is : lw_ck 684 m_X10_is m_X11_is 82 85 [1] 1 false 4154 8053 = true := by decide +kernel
theorem lk_book : lw_ck 707 m_X10_book m_X11_book 86 89 [1, 2] 2 false 4162 8057 = true := by decide +kernel
theorem lk_foretold : lw_ck 740 m_X10_foretold m_X11_foretold 90 93 [1] 1 false 4170 8077 = true := by decide +kernel
theorem lk_fair : lw_ck 763 m_X10_fair m_X11_fair 94 98 [] 0 false 4175 8081 = true := by decide +kernel
theorem lk_left : lw_ck 776 m_X10_left m_X11_left 99 102 [] 0 false 4183 8093 = true := by decide +kernel
theorem lk_whole : lw_ck 828 m_X10_whole m_X11_whole 108 111 [1] 1 false 4192 8101 = true := by decide +kernel
theorem lk_wholes : lw_ck 851 m_X10_wholes m_X11_wholes 112 116 [] 0 true 5024 8137 = true := by decide +kernel
theorem lk_span : lw_ck 865 m_X10_span m_X11_span 117 120 [1] 1 false 5032 8141 = true := by decide +kernel
theorem lk_apart : lw_ck 888 m_X10_apart m_X11_apart 121 125 [1, 2, 3] 3 false 5036 8145 = true := by decide +kernel
theorem lk_alike : lw_ck 931 m_X10_alike m_X11_alike 126 129 [1] 1 false 5067 8166 = true := by decide +kernel
theorem lk_alikes : lw_ck 954 m_X10_alikes m_X11_alikes 130 133 [] 0 true 5117 8194 = true := by decide +kernel
theorem lk_unlike : lw_ck 968 m_X10_unlike m_X11_unlike 134 137 [1] 1 false 5121 8198 = true := by decide +kernel
theorem lk_band : lw_ck 991 m_X10_band m_X11_band 138 141 [1] 1 false 5146 8149 = true := by decide +kernel
theorem lk_total : lw_ck 1014 m_X10_total m_X11_total 142 145 [] 0 false 5154 8153 = true := by decide +kernel
theorem lk_mend : lw_ck 1027 m_X10_mend m_X11_mend 146 149 [] 0 false 5165 8202 = true := by decide +kernel
theorem lk_names : lw_ck 1040 m_X10_names m_X11_names 150 153 [] 0 false 5178 8218 = true := by decide +kernel
theorem lk_parts : lw_ck 1053 m_X10_parts m_X11_parts 154 157 [] 0 false 5199 8226 = true := by decide +kernel
theorem lk_cuts : lw_ck 1066 m_X10_cuts m_X11_cuts 158 161 [] 0 false 5211 8238 = true := by decide +kernel
theorem lk_game : lw_ck 1079 m_X10_game m_X11_game 162 165 [1] 1 false 5219 9002 = true := by decide +kernel
theorem lk_mark : lw_ck 1102 m_X10_mark m_X11_mark 166 169 [1] 1 false 5227 9017 = true := by decide +kernel
theorem lk_ride : lw_ck 1125 m_X10_ride m_X11_ride 170 173 [1, 2] 2 false 5231 9021 = true := by decide +kernel
theorem lk_change : lw_ck 1158 m_X10_change m_X11_change 174 177 [1, 2, 3] 3 false 6008 9029 = true := by decide +kernel
theorem lk_said : lw_ck 1201 m_X10_said m_X11_said 178 181 [1, 2] 2 false 6020 9037 = true := by decide +kernel
theorem lk_whose : lw_ck 1234 m_X10_whose m_X11_whose 182 185 [] 0 false 6024 9041 = true := by decide +kernel
theorem lk_dearest : lw_ck 1247 m_X10_dearest m_X11_dearest 186 189 [] 0 false 6032 8069 = true := by decide +kernel
theorem lk_highest : lw_ck 1260 m_X10_highest m_X11_highest 190 193 [] 0 false 6036 8073 = true := by decide +kernel
theorem lk_ledger : lw_ck 1273 m_X10_ledger m_X11_ledger 194 197 [1] 1 false 6040 8065 = true := by decide +kernel
theorem lk_image : lw_ck 1296 m_X10_image m_X11_image 198 201 [] 0 false 6044 9045 = true := by decide +kernel
theorem lk_back : lw_ck 1309 m_X10_back m_X11_back 202 205 [] 0 false 6058 9049 = true := by decide +kernel
theorem lk_about : lw_ck 1322 m_X10_about m_X11_about 206 209 [1] 1 false 6062 9053 = true := by decide +kernel
theorem dlaw_789 : decode code 789 = .ok (.aload_n 1, 1) := by decide +kernel
theorem dlaw_795 : decode code 795 = .ok (.ifCond .eq 7, 3) := by decide +kernel
theorem dlaw_798 : decode code 798 = .ok (.iconst 1, 1) := by decide +kernel
theorem dlaw_799 : decode code 799 = .ok (.goto 4, 3) := by decide +kernel
theorem dlaw_802 : decode code 802 = .ok (.iconst 0, 1) := by decide +kernel
theorem dlaw_803 : decode code 803 = .ok (.invokevirtual 103, 3) := by decide +kernel
theorem dlaw_806 : decode code 806 = .ok (.aload_n 2, 1) := by decide +kernel
theorem dlaw_812 : decode code 812 = .ok (.ifCond .eq 7, 3) := by decide +kernel
theorem dlaw_815 : decode code 815 = .ok (.iconst 1, 1) := by decide +kernel
theorem dlaw_816 : decode code 816 = .ok (.goto 4, 3) := by decide +kernel
theorem dlaw_819 : decode code 819 = .ok (.iconst 0, 1) := by decide +kernel
theorem dlaw_820 : decode code 820 = .ok (.invokevirtual 107, 3) := by decide +kernel
theorem dlaw_823 : decode code 823 = .ok (.if_icmp .eq 522, 3) := by decide +kernel
theorem dlaw_18 : decode code 18 = .ok (.iload_n 3, 1) := by decide +kernel
theorem dlaw_19 : decode code 19 = .ok (.aload_n 0, 1) := by decide +kernel
theorem dlaw_20 : decode code 20 = .ok (.arraylength, 1) := by decide +kernel
theorem dlaw_21 : decode code 21 = .ok (.bipush 6, 2) := by decide +kernel
theorem dlaw_23 : decode code 23 = .ok (.isub, 1) := by decide +kernel
theorem dlaw_24 : decode code 24 = .ok (.if_icmp .gt 1327, 3) := by decide +kernel
theorem dlaw_27 : decode code 27 = .ok (.aload_n 0, 1) := by decide +kernel
theorem dlaw_28 : decode code 28 = .ok (.iload_n 3, 1) := by decide +kernel
theorem dlaw_29 : decode code 29 = .ok (.iaload, 1) := by decide +kernel
theorem dlaw_30 : decode code 30 = .ok (.bipush 63, 2) := by decide +kernel
theorem dlaw_32 : decode code 32 = .ok (.iand, 1) := by decide +kernel
theorem dlaw_33 : decode code 33 = .ok (.tableswitch 1312 0 46 #[203, 236, 299, 322, 335, 358, 381, 414, 437, 460, 483, 506, 539, 552, 585, 618, 651, 674, 707, 730, 743, 756, 795, 818, 832, 855, 898, 921, 935, 958, 981, 994, 1007, 1020, 1033, 1046, 1069, 1092, 1125, 1168, 1201, 1214, 1227, 1240, 1263, 1276, 1289], 203) := by decide +kernel
theorem dlaw_1345 : decode code 1345 = .ok (.iinc 3 6, 3) := by decide +kernel
theorem dlaw_1348 : decode code 1348 = .ok (.goto (-1330), 3) := by decide +kernel
theorem dlaw_1351 : decode code 1351 = .ok (.iconst 1, 1) := by decide +kernel
theorem dlaw_1352 : decode code 1352 = .ok (.ireturn, 1) := by decide +kernel
theorem dlaw_0 : decode code 0 = .ok (.new 7, 3) := by decide +kernel
theorem dlaw_3 : decode code 3 = .ok (.dup, 1) := by decide +kernel
theorem dlaw_4 : decode code 4 = .ok (.invokespecial 9, 3) := by decide +kernel
theorem dlaw_7 : decode code 7 = .ok (.astore_n 1, 1) := by decide +kernel
theorem dlaw_8 : decode code 8 = .ok (.new 10, 3) := by decide +kernel
theorem dlaw_11 : decode code 11 = .ok (.dup, 1) := by decide +kernel
theorem dlaw_12 : decode code 12 = .ok (.invokespecial 12, 3) := by decide +kernel
theorem dlaw_15 : decode code 15 = .ok (.astore_n 2, 1) := by decide +kernel
theorem dlaw_16 : decode code 16 = .ok (.iconst 0, 1) := by decide +kernel
theorem dlaw_17 : decode code 17 = .ok (.istore_n 3, 1) := by decide +kernel
theorem lk_t1 : lw_ar 790 [1] = true := by decide +kernel
theorem lk_t2 : lw_ar 807 [1] = true := by decide +kernel
theorem lk_m1 : lw_mk m_X10_twin 10 103 1 4188 = true := by decide +kernel
theorem lk_m2 : lw_mk m_X11_twin 11 107 1 8097 = true := by decide +kernel
section LW1
variable {p : Program} {l : Launch} {e : Env} {R : Room} {s : State} {m : MethodId} {args : Array Value} {below : List Frame} {meth : Method} {c : Code} {QQ : State → Prop}
variable {tc : Nat → ClassId} {ad : Nat × Nat → Nat} {D : va_G} {cells slots : Nat}
/-- an int laid as a truth -/
theorem lw_tw {q : Nat} (hx : p.tables.exec = Jvm.exec) (hb : c.code = code) (h1 : decode code q = .ok (.ifCond .eq 7, 3)) (h2 : decode code (q + 3) = .ok (.iconst 1, 1)) (h3 : decode code (q + 3 + 1) = .ok (.goto 4, 3)) (h4 : decode code (q + 7) = .ok (.iconst 0, 1)) {x : Int32} {ls : Array Slot} {st : List Value} {H : Heap} {locs : List Loc} (k : W p l e R s m args below meth c H locs cells slots QQ (F0 m (q + 8) ls (.int (if x = 0 then 0 else 1) :: st))) : W p l e R s m args below meth c H locs cells slots QQ (F0 m q ls (.int x :: st)) := by
  refine lv_if_eq (tgt := q + 7) hx hb h1 (by omega) (fun z => ?_) (fun z => ?_)
  · rw [if_pos z] at k
    exact lv_iconst (v := 0) hx hb h4 (by decide +kernel) k
  · rw [if_neg z] at k
    refine lv_iconst (v := 1) hx hb h2 (by decide +kernel) ?_
    exact lv_goto (tgt := q + 8) hx hb h3 (by omega) k
theorem lw_twin {b L i : Nat} {xs : Nat → Int32} (C : lw_C p s m c args R tc ad D b L xs) (hcs : cells ≤ R.cells ∧ slots ≤ R.slots) (hi : i + 6 ≤ L) (hL : L ≤ 3072) {v : z_V} (h : Inv v) (hJ : z_okJ v) {H : Heap} {locs : List Loc} (hP : va_P D vwCl (z_ws tc ad v) H) (hS : va_S (z_A ad) s.heap H locs) {ls : Array Slot} (hl : lv_has ls 4 [(0, .ref b), (1, .ref (ad (10, 0))), (2, .ref (ad (11, 0))), (3, .int (nI i))])
    (kk : ∀ (w : z_V) (H1 : Heap) (locs1 : List Loc), Inv w → z_okJ w → va_P D vwCl (z_ws tc ad w) H1 → va_S (z_A ad) s.heap H1 locs1 → W p l e R s m args below meth c H1 locs1 cells slots QQ (F0 m 1345 ls [])) : W p l e R s m args below meth c H locs cells slots QQ (F0 m 789 ls []) := by
  obtain ⟨hx, hb, -⟩ := id C
  refine lv_aload_n hx hb dlaw_789 rfl (lv_at hl 1 rfl) ?_
  refine lw_push C hS hl hi hL [1] _ _ lk_t1 ?_
  refine lw_tw (q := 795) hx hb dlaw_795 dlaw_798 dlaw_799 dlaw_802 ?_
  refine lw_call C hcs lk_m1 (by decide) (by decide +kernel) (As := [vI (if xs (i + 1) = 0 then 0 else 1)]) rfl ⟨trivial, trivial⟩ (P_twin h) hJ hP hS hl.1 (Nat.zero_le _) dlaw_803 (fun v1 r H1 locs1 hq hJ1 hP1 hS1 => ?_)
  obtain ⟨x, rfl, hC2⟩ := hq
  refine lv_aload_n hx hb dlaw_806 rfl (lv_at hl 2 rfl) ?_
  refine lw_push C hS1 hl hi hL [1] _ _ lk_t2 ?_
  refine lw_tw (q := 812) hx hb dlaw_812 dlaw_815 dlaw_816 dlaw_819 ?_
  refine lw_call C hcs lk_m2 (by decide) (by decide +kernel) (As := [vI (if xs (i + 1) = 0 then 0 else 1)]) rfl ⟨trivial, trivial⟩ hC2 hJ1 hP1 hS1 hl.1 (by show 1 + 0 ≤ 8; decide) dlaw_820 (fun v2 r2 H2 locs2 hq2 hJ2 hP2 hS2 => ?_)
  obtain ⟨rfl, hI⟩ := hq2
  exact lv_icmp_eq (tgt := 1345) hx hb dlaw_823 (by decide) (fun _ => kk v2 H2 locs2 hI hJ2 hP2 hS2) (fun z => absurd rfl z)
def lw_tg : List Nat := [236, 269, 332, 355, 368, 391, 414, 447, 470, 493, 516, 539, 572, 585, 618, 651, 684, 707, 740, 763, 776, 789, 828, 851, 865, 888, 931, 954, 968, 991, 1014, 1027, 1040, 1053, 1066, 1079, 1102, 1125, 1158, 1201, 1234, 1247, 1260, 1273, 1296, 1309, 1322]
theorem lw_one {b L i : Nat} {xs : Nat → Int32} (C : lw_C p s m c args R tc ad D b L xs) (hcs : cells ≤ R.cells ∧ slots ≤ R.slots) (hi : i + 6 ≤ L) (hL : L ≤ 3072) {v : z_V} (h : Inv v) (hJ : z_okJ v) {H : Heap} {locs : List Loc} (hP : va_P D vwCl (z_ws tc ad v) H) (hS : va_S (z_A ad) s.heap H locs) {ls : Array Slot} (hl : lv_has ls 4 [(0, .ref b), (1, .ref (ad (10, 0))), (2, .ref (ad (11, 0))), (3, .int (nI i))])
    (kk : ∀ (w : z_V) (H1 : Heap) (locs1 : List Loc), Inv w → z_okJ w → va_P D vwCl (z_ws tc ad w) H1 → va_S (z_A ad) s.heap H1 locs1 → W p l e R s m args below meth c H1 locs1 cells slots QQ (F0 m 1345 ls [])) : ∀ k, k < 47 → W p l e R s m args below meth c H locs cells slots QQ (F0 m (lw_tg.getD k 0) ls [])
  | 0, _ => lw_case C hcs hi hL lk_lay (P_lay h) hJ hP hS hl kk
  | 1, _ => lw_case C hcs hi hL lk_feed (P_feed h) hJ hP hS hl kk
  | 2, _ => lw_case C hcs hi hL lk_end (P_end h) hJ hP hS hl kk
  | 3, _ => lw_case C hcs hi hL lk_text (P_text h) hJ hP hS hl kk
  | 4, _ => lw_case C hcs hi hL lk_fault (P_fault h) hJ hP hS hl kk
  | 5, _ => lw_case C hcs hi hL lk_by (P_by h) hJ hP hS hl kk
  | 6, _ => lw_case C hcs hi hL lk_plate (P_plate h) hJ hP hS hl kk
  | 7, _ => lw_case C hcs hi hL lk_turn (P_turn h) hJ hP hS hl kk
  | 8, _ => lw_case C hcs hi hL lk_grant (P_grant h) hJ hP hS hl kk
  | 9, _ => lw_case C hcs hi hL lk_day (P_day h) hJ hP hS hl kk
  | 10, _ => lw_case C hcs hi hL lk_played (P_played h) hJ hP hS hl kk
  | 11, _ => lw_case C hcs hi hL lk_years (P_years h) hJ hP hS hl kk
  | 12, _ => lw_case C hcs hi hL lk_undo (P_undo h) hJ hP hS hl kk
  | 13, _ => lw_case C hcs hi hL lk_of (P_of h) hJ hP hS hl kk
  | 14, _ => lw_case C hcs hi hL lk_ofHalt (P_ofHalt h) hJ hP hS hl kk
  | 15, _ => lw_case C hcs hi hL lk_costs (P_costs h) hJ hP hS hl kk
  | 16, _ => lw_case C hcs hi hL lk_is (P_is h) hJ hP hS hl kk
  | 17, _ => lw_case C hcs hi hL lk_book (P_book h) hJ hP hS hl kk
  | 18, _ => lw_case C hcs hi hL lk_foretold (P_foretold h) hJ hP hS hl kk
  | 19, _ => lw_case C hcs hi hL lk_fair (P_fair h) hJ hP hS hl kk
  | 20, _ => lw_case C hcs hi hL lk_left (P_left h) hJ hP hS hl kk
  | 21, _ => lw_twin C hcs hi hL h hJ hP hS hl kk
  | 22, _ => lw_case C hcs hi hL lk_whole (P_whole h) hJ hP hS hl kk
  | 23, _ => lw_caseL C hcs hi hL lk_wholes (P_wholes h) hJ hP hS hl kk
  | 24, _ => lw_case C hcs hi hL lk_span (P_span h) hJ hP hS hl kk
  | 25, _ => lw_case C hcs hi hL lk_apart (P_apart h) hJ hP hS hl kk
  | 26, _ => lw_case C hcs hi hL lk_alike (P_alike h) hJ hP hS hl kk
  | 27, _ => lw_caseL C hcs hi hL lk_alikes (P_alikes h) hJ hP hS hl kk
  | 28, _ => lw_case C hcs hi hL lk_unlike (P_unlike h) hJ hP hS hl kk
  | 29, _ => lw_case C hcs hi hL lk_band (P_band h) hJ hP hS hl kk
  | 30, _ => lw_case C hcs hi hL lk_total (P_total h) hJ hP hS hl kk
  | 31, _ => lw_case C hcs hi hL lk_mend (P_mend h) hJ hP hS hl kk
  | 32, _ => lw_case C hcs hi hL lk_names (P_names h) hJ hP hS hl kk
  | 33, _ => lw_case C hcs hi hL lk_parts (P_parts h) hJ hP hS hl kk
  | 34, _ => lw_case C hcs hi hL lk_cuts (P_cuts h) hJ hP hS hl kk
  | 35, _ => lw_case C hcs hi hL lk_game (P_game h) hJ hP hS hl kk
  | 36, _ => lw_case C hcs hi hL lk_mark (P_mark h) hJ hP hS hl kk
  | 37, _ => lw_case C hcs hi hL lk_ride (P_ride h) hJ hP hS hl kk
  | 38, _ => lw_case C hcs hi hL lk_change (P_change h) hJ hP hS hl kk
  | 39, _ => lw_case C hcs hi hL lk_said (P_said h) hJ hP hS hl kk
  | 40, _ => lw_case C hcs hi hL lk_whose (P_whose h) hJ hP hS hl kk
  | 41, _ => lw_case C hcs hi hL lk_dearest (P_dearest h) hJ hP hS hl kk
  | 42, _ => lw_case C hcs hi hL lk_highest (P_highest h) hJ hP hS hl kk
  | 43, _ => lw_case C hcs hi hL lk_ledger (P_ledger h) hJ hP hS hl kk
  | 44, _ => lw_case C hcs hi hL lk_image (P_image h) hJ hP hS hl kk
  | 45, _ => lw_case C hcs hi hL lk_back (P_back h) hJ hP hS hl kk
  | 46, _ => lw_case C hcs hi hL lk_about (P_about h) hJ hP hS hl kk
  | _ + 47, h => absurd h (by omega)
end LW1
