/-! the constructor of a world, printed -/
theorem dfX0 : ∀ j, j < 8 → defaultValue (tyX0 j) = vp_V [.null, .null, .null, .int 0, .int 0, .int 0, .int 0, .long 0] j := by
  intro j hj
  rcases (show j = 0 ∨ j = 1 ∨ j = 2 ∨ j = 3 ∨ j = 4 ∨ j = 5 ∨ j = 6 ∨ j = 7 by omega) with rfl | rfl | rfl | rfl | rfl | rfl | rfl | rfl <;> rfl
theorem dfX1 : ∀ j, j < 15 → defaultValue (tyX1 j) = vp_V [.null, .int 0, .null, .long 0, .long 0, .long 0, .int 0, .int 0, .int 0, .int 0, .int 0, .long 0, .long 0, .long 0, .long 0] j := by
  intro j hj
  rcases (show j = 0 ∨ j = 1 ∨ j = 2 ∨ j = 3 ∨ j = 4 ∨ j = 5 ∨ j = 6 ∨ j = 7 ∨ j = 8 ∨ j = 9 ∨ j = 10 ∨ j = 11 ∨ j = 12 ∨ j = 13 ∨ j = 14 by omega) with rfl | rfl | rfl | rfl | rfl | rfl | rfl | rfl | rfl | rfl | rfl | rfl | rfl | rfl | rfl <;> rfl
theorem dfX2 : ∀ j, j < 8 → defaultValue (tyX2 j) = vp_V [.null, .int 0, .null, .null, .long 0, .int 0, .int 0, .long 0] j := by
  intro j hj
  rcases (show j = 0 ∨ j = 1 ∨ j = 2 ∨ j = 3 ∨ j = 4 ∨ j = 5 ∨ j = 6 ∨ j = 7 by omega) with rfl | rfl | rfl | rfl | rfl | rfl | rfl | rfl <;> rfl
theorem dfX3 : ∀ j, j < 11 → defaultValue (tyX3 j) = vp_V [.null, .int 0, .int 0, .int 0, .int 0, .null, .int 0, .int 0, .int 0, .int 0, .int 0] j := by
  intro j hj
  rcases (show j = 0 ∨ j = 1 ∨ j = 2 ∨ j = 3 ∨ j = 4 ∨ j = 5 ∨ j = 6 ∨ j = 7 ∨ j = 8 ∨ j = 9 ∨ j = 10 by omega) with rfl | rfl | rfl | rfl | rfl | rfl | rfl | rfl | rfl | rfl | rfl <;> rfl
theorem dfX4 : ∀ j, j < 7 → defaultValue (tyX4 j) = vp_V [.null, .null, .int 0, .int 0, .int 0, .int 0, .int 0] j := by
  intro j hj
  rcases (show j = 0 ∨ j = 1 ∨ j = 2 ∨ j = 3 ∨ j = 4 ∨ j = 5 ∨ j = 6 by omega) with rfl | rfl | rfl | rfl | rfl | rfl | rfl <;> rfl
theorem dfX5 : ∀ j, j < 4 → defaultValue (tyX5 j) = vp_V [.null, .int 0, .int 0, .int 0] j := by
  intro j hj
  rcases (show j = 0 ∨ j = 1 ∨ j = 2 ∨ j = 3 by omega) with rfl | rfl | rfl | rfl <;> rfl
theorem dfX6 : ∀ j, j < 10 → defaultValue (tyX6 j) = vp_V [.null, .null, .null, .null, .int 0, .int 0, .int 0, .int 0, .int 0, .int 0] j := by
  intro j hj
  rcases (show j = 0 ∨ j = 1 ∨ j = 2 ∨ j = 3 ∨ j = 4 ∨ j = 5 ∨ j = 6 ∨ j = 7 ∨ j = 8 ∨ j = 9 by omega) with rfl | rfl | rfl | rfl | rfl | rfl | rfl | rfl | rfl | rfl <;> rfl
theorem dfX7 : ∀ j, j < 3 → defaultValue (tyX7 j) = vp_V [.null, .null, .null] j := by
  intro j hj
  rcases (show j = 0 ∨ j = 1 ∨ j = 2 by omega) with rfl | rfl | rfl <;> rfl
theorem dfX8 : ∀ j, j < 11 → defaultValue (tyX8 j) = vp_V [.null, .null, .int 0, .long 0, .int 0, .null, .null, .null, .int 0, .long 0, .long 0] j := by
  intro j hj
  rcases (show j = 0 ∨ j = 1 ∨ j = 2 ∨ j = 3 ∨ j = 4 ∨ j = 5 ∨ j = 6 ∨ j = 7 ∨ j = 8 ∨ j = 9 ∨ j = 10 by omega) with rfl | rfl | rfl | rfl | rfl | rfl | rfl | rfl | rfl | rfl | rfl <;> rfl
theorem dfX9 : ∀ j, j < 14 → defaultValue (tyX9 j) = vp_V [.null, .null, .null, .null, .null, .null, .null, .null, .int 0, .int 0, .int 0, .int 0, .int 0, .int 0] j := by
  intro j hj
  rcases (show j = 0 ∨ j = 1 ∨ j = 2 ∨ j = 3 ∨ j = 4 ∨ j = 5 ∨ j = 6 ∨ j = 7 ∨ j = 8 ∨ j = 9 ∨ j = 10 ∨ j = 11 ∨ j = 12 ∨ j = 13 by omega) with rfl | rfl | rfl | rfl | rfl | rfl | rfl | rfl | rfl | rfl | rfl | rfl | rfl | rfl <;> rfl
theorem dfX10 : ∀ j, j < 10 → defaultValue (tyX10 j) = vp_V [.null, .null, .null, .null, .null, .null, .null, .null, .null, .null] j := by
  intro j hj
  rcases (show j = 0 ∨ j = 1 ∨ j = 2 ∨ j = 3 ∨ j = 4 ∨ j = 5 ∨ j = 6 ∨ j = 7 ∨ j = 8 ∨ j = 9 by omega) with rfl | rfl | rfl | rfl | rfl | rfl | rfl | rfl | rfl | rfl <;> rfl
theorem dfX11 : ∀ j, j < 38 → defaultValue (tyX11 j) = vp_V [.null, .null, .null, .null, .int 0, .int 0, .int 0, .int 0, .int 0, .int 0, .int 0, .long 0, .int 0, .int 0, .int 0, .null, .int 0, .int 0, .int 0, .int 0, .null, .null, .null, .int 0, .int 0, .null, .null, .null, .int 0, .int 0, .int 0, .int 0, .null, .null, .int 0, .int 0, .null, .null] j := by
  intro j hj
  rcases (show j = 0 ∨ j = 1 ∨ j = 2 ∨ j = 3 ∨ j = 4 ∨ j = 5 ∨ j = 6 ∨ j = 7 ∨ j = 8 ∨ j = 9 ∨ j = 10 ∨ j = 11 ∨ j = 12 ∨ j = 13 ∨ j = 14 ∨ j = 15 ∨ j = 16 ∨ j = 17 ∨ j = 18 ∨ j = 19 ∨ j = 20 ∨ j = 21 ∨ j = 22 ∨ j = 23 ∨ j = 24 ∨ j = 25 ∨ j = 26 ∨ j = 27 ∨ j = 28 ∨ j = 29 ∨ j = 30 ∨ j = 31 ∨ j = 32 ∨ j = 33 ∨ j = 34 ∨ j = 35 ∨ j = 36 ∨ j = 37 by omega) with rfl | rfl | rfl | rfl | rfl | rfl | rfl | rfl | rfl | rfl | rfl | rfl | rfl | rfl | rfl | rfl | rfl | rfl | rfl | rfl | rfl | rfl | rfl | rfl | rfl | rfl | rfl | rfl | rfl | rfl | rfl | rfl | rfl | rfl | rfl | rfl | rfl | rfl <;> rfl
theorem dX9_init_0 : decode cX9_init 0 = .ok (.aload_n 0, 1) := by decide +kernel
theorem dX9_init_1 : decode cX9_init 1 = .ok (.invokespecial 3, 3) := by decide +kernel
theorem dX9_init_4 : decode cX9_init 4 = .ok (.aload_n 0, 1) := by decide +kernel
theorem dX9_init_5 : decode cX9_init 5 = .ok (.new 9, 3) := by decide +kernel
theorem dX9_init_8 : decode cX9_init 8 = .ok (.dup, 1) := by decide +kernel
theorem dX9_init_9 : decode cX9_init 9 = .ok (.invokespecial 11, 3) := by decide +kernel
theorem dX9_init_12 : decode cX9_init 12 = .ok (.putfield 12, 3) := by decide +kernel
theorem dX9_init_15 : decode cX9_init 15 = .ok (.aload_n 0, 1) := by decide +kernel
theorem dX9_init_16 : decode cX9_init 16 = .ok (.bipush 10, 2) := by decide +kernel
theorem dX9_init_18 : decode cX9_init 18 = .ok (.newarray .int, 2) := by decide +kernel
theorem dX9_init_20 : decode cX9_init 20 = .ok (.putfield 18, 3) := by decide +kernel
theorem dX9_init_23 : decode cX9_init 23 = .ok (.aload_n 0, 1) := by decide +kernel
theorem dX9_init_24 : decode cX9_init 24 = .ok (.bipush 10, 2) := by decide +kernel
theorem dX9_init_26 : decode cX9_init 26 = .ok (.newarray .int, 2) := by decide +kernel
theorem dX9_init_28 : decode cX9_init 28 = .ok (.putfield 22, 3) := by decide +kernel
theorem dX9_init_31 : decode cX9_init 31 = .ok (.aload_n 0, 1) := by decide +kernel
theorem dX9_init_32 : decode cX9_init 32 = .ok (.iconst 4, 1) := by decide +kernel
theorem dX9_init_33 : decode cX9_init 33 = .ok (.anewarray 25, 3) := by decide +kernel
theorem dX9_init_36 : decode cX9_init 36 = .ok (.putfield 27, 3) := by decide +kernel
theorem dX9_init_39 : decode cX9_init 39 = .ok (.aload_n 0, 1) := by decide +kernel
theorem dX9_init_40 : decode cX9_init 40 = .ok (.bipush 8, 2) := by decide +kernel
theorem dX9_init_42 : decode cX9_init 42 = .ok (.newarray .int, 2) := by decide +kernel
theorem dX9_init_44 : decode cX9_init 44 = .ok (.putfield 31, 3) := by decide +kernel
theorem dX9_init_47 : decode cX9_init 47 = .ok (.aload_n 0, 1) := by decide +kernel
theorem dX9_init_48 : decode cX9_init 48 = .ok (.bipush 8, 2) := by decide +kernel
theorem dX9_init_50 : decode cX9_init 50 = .ok (.newarray .int, 2) := by decide +kernel
theorem dX9_init_52 : decode cX9_init 52 = .ok (.putfield 34, 3) := by decide +kernel
theorem dX9_init_55 : decode cX9_init 55 = .ok (.aload_n 0, 1) := by decide +kernel
theorem dX9_init_56 : decode cX9_init 56 = .ok (.bipush 30, 2) := by decide +kernel
theorem dX9_init_58 : decode cX9_init 58 = .ok (.anewarray 9, 3) := by decide +kernel
theorem dX9_init_61 : decode cX9_init 61 = .ok (.putfield 37, 3) := by decide +kernel
theorem dX9_init_64 : decode cX9_init 64 = .ok (.aload_n 0, 1) := by decide +kernel
theorem dX9_init_65 : decode cX9_init 65 = .ok (.new 41, 3) := by decide +kernel
theorem dX9_init_68 : decode cX9_init 68 = .ok (.dup, 1) := by decide +kernel
theorem dX9_init_69 : decode cX9_init 69 = .ok (.invokespecial 43, 3) := by decide +kernel
theorem dX9_init_72 : decode cX9_init 72 = .ok (.putfield 44, 3) := by decide +kernel
theorem dX9_init_75 : decode cX9_init 75 = .ok (.aload_n 0, 1) := by decide +kernel
theorem dX9_init_76 : decode cX9_init 76 = .ok (.iconst (-1), 1) := by decide +kernel
theorem dX9_init_77 : decode cX9_init 77 = .ok (.putfield 48, 3) := by decide +kernel
theorem dX9_init_80 : decode cX9_init 80 = .ok (.iconst 0, 1) := by decide +kernel
theorem dX9_init_81 : decode cX9_init 81 = .ok (.istore_n 1, 1) := by decide +kernel
theorem dX9_init_82 : decode cX9_init 82 = .ok (.iload_n 1, 1) := by decide +kernel
theorem dX9_init_83 : decode cX9_init 83 = .ok (.iconst 4, 1) := by decide +kernel
theorem dX9_init_84 : decode cX9_init 84 = .ok (.if_icmp .ge 22, 3) := by decide +kernel
theorem dX9_init_87 : decode cX9_init 87 = .ok (.aload_n 0, 1) := by decide +kernel
theorem dX9_init_88 : decode cX9_init 88 = .ok (.getfield 27, 3) := by decide +kernel
theorem dX9_init_91 : decode cX9_init 91 = .ok (.iload_n 1, 1) := by decide +kernel
theorem dX9_init_92 : decode cX9_init 92 = .ok (.new 25, 3) := by decide +kernel
theorem dX9_init_95 : decode cX9_init 95 = .ok (.dup, 1) := by decide +kernel
theorem dX9_init_96 : decode cX9_init 96 = .ok (.invokespecial 52, 3) := by decide +kernel
theorem dX9_init_99 : decode cX9_init 99 = .ok (.aastore, 1) := by decide +kernel
theorem dX9_init_100 : decode cX9_init 100 = .ok (.iinc 1 1, 3) := by decide +kernel
theorem dX9_init_103 : decode cX9_init 103 = .ok (.goto (-21), 3) := by decide +kernel
theorem dX9_init_106 : decode cX9_init 106 = .ok (.iconst 0, 1) := by decide +kernel
theorem dX9_init_107 : decode cX9_init 107 = .ok (.istore_n 1, 1) := by decide +kernel
theorem dX9_init_108 : decode cX9_init 108 = .ok (.iload_n 1, 1) := by decide +kernel
theorem dX9_init_109 : decode cX9_init 109 = .ok (.bipush 30, 2) := by decide +kernel
theorem dX9_init_111 : decode cX9_init 111 = .ok (.if_icmp .ge 22, 3) := by decide +kernel
theorem dX9_init_114 : decode cX9_init 114 = .ok (.aload_n 0, 1) := by decide +kernel
theorem dX9_init_115 : decode cX9_init 115 = .ok (.getfield 37, 3) := by decide +kernel
theorem dX9_init_118 : decode cX9_init 118 = .ok (.iload_n 1, 1) := by decide +kernel
theorem dX9_init_119 : decode cX9_init 119 = .ok (.new 9, 3) := by decide +kernel
theorem dX9_init_122 : decode cX9_init 122 = .ok (.dup, 1) := by decide +kernel
theorem dX9_init_123 : decode cX9_init 123 = .ok (.invokespecial 11, 3) := by decide +kernel
theorem dX9_init_126 : decode cX9_init 126 = .ok (.aastore, 1) := by decide +kernel
theorem dX9_init_127 : decode cX9_init 127 = .ok (.iinc 1 1, 3) := by decide +kernel
theorem dX9_init_130 : decode cX9_init 130 = .ok (.goto (-22), 3) := by decide +kernel
theorem dX9_init_133 : decode cX9_init 133 = .ok (.return_, 1) := by decide +kernel
/-- what else a world's constructor asks of the tables: links of nest mates, arrays over its own classes -/
def nWo (U : State) : Prop := va_Nw (.methodLinkNest RX9 11 yX4_init "FareNumbers") U ∧ va_Nw (.methodLinkNest RX9 43 yX5_init "FareNumbers") U ∧ va_Nw (.methodLinkNest RX9 52 yX6_init "FareNumbers") U ∧ va_AO "FareNumbers$Text" U ∧ va_AO "FareNumbers$Standing" U
theorem nWo.same {u U : State} (h : u.vm = U.vm) (z : nWo u) : nWo U := ⟨z.1.same rfl h, z.2.1.same rfl h, z.2.2.1.same rfl h, z.2.2.2.1.moved (by rw [h]; exact Vm.Alike.refl _), z.2.2.2.2.moved (by rw [h]; exact Vm.Alike.refl _)⟩
theorem nWo.warm {s U : State} (hW : s.WarmedH U.vm) (z : nWo s) : nWo U := ⟨va_Nw.warmM hW z.1, va_Nw.warmM hW z.2.1, va_Nw.warmM hW z.2.2.1, z.2.2.2.1.moved hW.alike, z.2.2.2.2.moved hW.alike⟩
def vs4 (g : Nat × Nat → Nat) (n : Nat) : List Value := [.ref (g (500, n)), .ref (g (501, n)), .int 0, .int 0, .int 50, .int 0, .int 439]
def vs6 (g : Nat × Nat → Nat) (n : Nat) : List Value := [.ref (g (700, n)), .ref (g (701, n)), .ref (g (702, n)), .ref (g (703, n)), .int 0, .int 0, .int 0, .int 0, .int 0, .int 0]
theorem zc4 {tc : Nat → ClassId} {g : Nat × Nat → Nat} {n : Nat} : zc tc g (4, n) = (g (4, n), .inr (4, vs4 g n)) := rfl
theorem zc6 {tc : Nat → ClassId} {g : Nat × Nat → Nat} {n : Nat} : zc tc g (6, n) = (g (6, n), .inr (6, vs6 g n)) := rfl
def qA (cT : ClassId) (n : Nat) (f : Nat → Option Nat) : va_E := .inl (cT, n, .inr (.inr (.inr (.inr f))))
/-- cells made in a loop, the array that names them -/
def TT (tc : Nat → ClassId) (L : Nat → List (Nat × Nat)) (F : Nat → Nat × Nat → Nat) (j : Nat) : va_W := (List.range j).flatMap (fun i => zW tc (F i) (L i))
def fT (x : Nat → Nat × Nat) (F : Nat → Nat × Nat → Nat) (j : Nat) : Nat → Option Nat := fun k => if k < j then some (F k (x k)) else none
theorem fm_cg {α β : Type} : ∀ {l : List α} {f g : α → List β}, (∀ a ∈ l, f a = g a) → l.flatMap f = l.flatMap g
  | [], _, _, _ => rfl
  | a :: l, f, g, h => by
    rw [List.flatMap_cons, List.flatMap_cons, h a List.mem_cons_self, fm_cg (fun b hb => h b (List.mem_cons_of_mem _ hb))]
theorem TT_s {tc : Nat → ClassId} {L : Nat → List (Nat × Nat)} {F : Nat → Nat × Nat → Nat} {j : Nat} {g : Nat × Nat → Nat} : TT tc L F j ++ zW tc g (L j) = TT tc L (va_up F j g) (j + 1) := by
  unfold TT
  rw [List.range_succ, List.flatMap_append]
  congr 1
  · refine fm_cg (fun i hi => ?_)
    rw [va_up_ne F g (Nat.ne_of_lt (List.mem_range.mp hi))]
  · rw [List.flatMap_cons, List.flatMap_nil, List.append_nil, va_up_self]
theorem fT_s {x : Nat → Nat × Nat} {F : Nat → Nat × Nat → Nat} {j : Nat} {g : Nat × Nat → Nat} : va_up (fT x F j) j (some (g (x j))) = fT x (va_up F j g) (j + 1) := by
  funext k
  show (if k = j then some (g (x j)) else if k < j then some (F k (x k)) else none) = (if k < j + 1 then some ((if k = j then g else F k) (x k)) else none)
  by_cases h : k = j
  · subst h
    rw [if_pos rfl, if_pos (Nat.lt_succ_self _), if_pos rfl]
  · rw [if_neg h, if_neg h]
    by_cases h2 : k < j
    · rw [if_pos h2, if_pos (Nat.lt_succ_of_lt h2)]
    · rw [if_neg h2, if_neg (by omega)]
theorem at_len {α : Type} {X : List α} {y : α} {r : List α} : (X ++ y :: r)[X.length]? = some y := by
  rw [List.getElem?_append_right (Nat.le_refl _), Nat.sub_self]
  rfl
set_option maxHeartbeats 4000000 in
set_option maxRecDepth 100000 in
theorem n_X9_t {p : Program} {l : Launch} {e : Env} {R : Room} {s : State} {m : MethodId} {args : Array Value} {below : List Frame} {meth : Method} {c : Code} {Q : State → Prop} {tc : Nat → ClassId} {D : va_G} {A : Nat → Prop} {H0 : Heap} {w h0 qt cells slots : Nat} {fs : List Value} {x1 : Nat × va_E} {Y : va_W}
    (hx : p.tables.exec = Jvm.exec) (hb : c.code = cX9_init) (hml : c.maxLocals = 2) (hown : s.vm.findClass RX9 = some m.cls) (hts : ∀ w ∈ z_TB, w.before args s = true) (hK : va_K D vwCl (z_tys tc) s) (hN : nWo s) (hA : ∀ q, H0.size ≤ q → A q) (hRf : 1 + 1 ≤ R.frames) (hRl : 8 + (1 + 11) + 12 ≤ R.locals) (hRc : cells + 20 ≤ R.cells) (hRs : slots + 1528 ≤ R.slots) (hfs : fs[3]? = some (.ref qt))
    (kk : ∀ (F : Nat → Nat × Nat → Nat) (H : Heap) (locs : List Loc) (ls : Array Slot), va_P D vwCl ((h0, .inr (9, fs)) :: (qt, qA (tc 4) 4 (fT (fun k => (6, 4 * w + k)) F 4)) :: (Y ++ TT tc (fun i => zL6 (4 * w + i)) F 4)) H → va_D A ((h0, .inr (9, fs)) :: (qt, qA (tc 4) 4 (fT (fun k => (6, 4 * w + k)) F 4)) :: (Y ++ TT tc (fun i => zL6 (4 * w + i)) F 4)) → va_S A H0 H locs → lv_has ls 2 [(1, .int (nI 4)), (0, .ref h0)] → W p l e R s m args below meth c H locs (cells + 20) (slots + 1528) Q (F0 m 106 ls [])) :
    ∀ (r j : Nat), j + r = 4 → ∀ (F : Nat → Nat × Nat → Nat) (H : Heap) (locs : List Loc) (ls : Array Slot), va_P D vwCl ((h0, .inr (9, fs)) :: (qt, qA (tc 4) 4 (fT (fun k => (6, 4 * w + k)) F j)) :: (Y ++ TT tc (fun i => zL6 (4 * w + i)) F j)) H → va_D A ((h0, .inr (9, fs)) :: (qt, qA (tc 4) 4 (fT (fun k => (6, 4 * w + k)) F j)) :: (Y ++ TT tc (fun i => zL6 (4 * w + i)) F j)) → va_S A H0 H locs → lv_has ls 2 [(1, .int (nI j)), (0, .ref h0)] → W p l e R s m args below meth c H locs (cells + j * 5) (slots + j * 382) Q (F0 m 82 ls []) := by
  intro r
  induction r with
  | zero =>
    intro j hj F H locs ls hP hD hS hl
    obtain rfl : j = 4 := by omega
    refine lv_iload_n hx hb dX9_init_82 rfl (lv_at hl 0 rfl) ?_
    refine lv_iconst (v := nI 4) hx hb dX9_init_83 (by decide +kernel) ?_
    refine lv_icmp_ge (tgt := 106) hx hb dX9_init_84 (by decide) (fun _ => ?_) (fun z => absurd (Int32.le_refl _) z)
    exact kk F H locs ls hP hD hS hl
  | succ r ih =>
    intro j hj F H locs ls hP hD hS hl
    refine lv_iload_n hx hb dX9_init_82 rfl (lv_at hl 0 rfl) ?_
    refine lv_iconst (v := nI 4) hx hb dX9_init_83 (by decide +kernel) ?_
    refine lv_icmp_ge (tgt := 106) hx hb dX9_init_84 (by decide) (fun z => absurd z (Int32.not_le.mpr (nI_lt (by omega) (by decide)))) (fun _ => ?_)
    refine lv_aload_n hx hb dX9_init_87 rfl (lv_at hl 1 rfl) ?_
    refine va_get (D := D) (ci := 9) (v := .ref qt) (fs := fs) (C := RX9) (T := TX9) (N := 14) (own := RX9) (ref := RX9) (index := 27) hx hb hts z_lw_9 hown hK hP 0 rfl rfl 3 (by decide) (hts _ (z_has_in (kj := 1156) (by decide +kernel))) (fun _ h9 => h9) hfs dX9_init_88 ?_
    refine lv_iload_n hx hb dX9_init_91 rfl (lv_at hl 0 rfl) ?_
    refine va_new (ci := 6) (fs := [.null, .null, .null, .null, .int 0, .int 0, .int 0, .int 0, .int 0, .int 0]) (C := RX6) (T := TX6) (N := 10) (own := RX9) (index := 25) hx hb hts z_lw_6 tyX6 tyX6_ok hown (hts _ (z_has_in (kj := 1076) (by decide +kernel))) (hts _ (z_has_in (kj := 1098) (by decide +kernel))) (hts _ (z_has_in (kj := 1005) (by decide +kernel))) hK hP hD hS hA rfl dfX6 (by omega) (by omega) dX9_init_92 (fun q H hP hD hS => ?_)
    refine lv_dup hx hb dX9_init_95 rfl ?_
    refine zn_back (va_runIN (As := []) (rest := [.ref q, .int (nI j), .ref qt]) ⟨hx, hb, hml, hown, hts⟩ (n_X6 l tc D (4 * w + j) q H.size) ⟨va_cnB 0 hts (z_TB_cons (z_has_in (kj := 1101) (by decide +kernel))) rfl rfl rfl hN.2.2.1 (hts _ (z_has_in (kj := 1005) (by decide +kernel))) ⟨by decide, by decide, by decide +kernel⟩ ⟨hRf, hRl⟩, rfl, (hts _ (z_has_in (kj := 1100) (by decide +kernel)))⟩ ⟨zn_blind (fun _ _ _ _ => trivial), zn_pre (fun _ _ => trivial) hK hP⟩ rfl rfl hl.1 rfl (lv_room (Nat.le_of_ble_eq_true rfl)) dX9_init_96 ⟨by omega, by omega⟩) hP hD hS hA (fun g H locs hg hP2 hD2 hS2 => ?_)
    subst hg
    have hP := hP2
    have hD := hD2
    have hS := hS2
    refine va_astq (D := D) hx hb hK hP hD hS 1 4 _ 6 rfl rfl at_len rfl (vp_in_nI (by omega) (by decide)) dX9_init_99 (fun H locs hP hD hS => ?_)
    rw [nI_clamp (by omega)] at hP hD
    have hP : va_P D vwCl ((h0, .inr (9, fs)) :: (qt, qA (tc 4) 4 (va_up (fT (fun k => (6, 4 * w + k)) F j) j (some (g ((fun k => (6, 4 * w + k)) j))))) :: ((Y ++ TT tc (fun i => zL6 (4 * w + i)) F j) ++ zW tc g ((fun i => zL6 (4 * w + i)) j))) H := hP
    rw [fT_s (x := (fun k => (6, 4 * w + k))), List.append_assoc, TT_s (L := (fun i => zL6 (4 * w + i)))] at hP
    have hD : va_D A ((h0, .inr (9, fs)) :: (qt, qA (tc 4) 4 (va_up (fT (fun k => (6, 4 * w + k)) F j) j (some (g ((fun k => (6, 4 * w + k)) j))))) :: ((Y ++ TT tc (fun i => zL6 (4 * w + i)) F j) ++ zW tc g ((fun i => zL6 (4 * w + i)) j))) := hD
    rw [fT_s (x := (fun k => (6, 4 * w + k))), List.append_assoc, TT_s (L := (fun i => zL6 (4 * w + i)))] at hD
    refine lv_iinc (v := nI (j + 1)) (lv' := [(1, .int (nI (j + 1))), (0, .ref h0)]) hx hb dX9_init_100 hl (k := 0) rfl (nI_1 j) (by decide) rfl (fun ls hl => ?_)
    refine lv_goto (tgt := 82) hx hb dX9_init_103 (by decide) ?_
    refine W.widen (k := cells + (j + 1) * 5) (n := slots + (j + 1) * 382) (by omega) (by omega) ?_
    exact ih (j + 1) (by omega) _ H locs ls hP hD hS hl
set_option maxHeartbeats 4000000 in
set_option maxRecDepth 100000 in
theorem n_X9_s {p : Program} {l : Launch} {e : Env} {R : Room} {s : State} {m : MethodId} {args : Array Value} {below : List Frame} {meth : Method} {c : Code} {Q : State → Prop} {tc : Nat → ClassId} {D : va_G} {A : Nat → Prop} {H0 : Heap} {w h0 qt cells slots : Nat} {fs : List Value} {x1 : Nat × va_E} {Y : va_W}
    (hx : p.tables.exec = Jvm.exec) (hb : c.code = cX9_init) (hml : c.maxLocals = 2) (hown : s.vm.findClass RX9 = some m.cls) (hts : ∀ w ∈ z_TB, w.before args s = true) (hK : va_K D vwCl (z_tys tc) s) (hN : nWo s) (hA : ∀ q, H0.size ≤ q → A q) (hRf : 1 + 1 ≤ R.frames) (hRl : 8 + (1 + 11) + 12 ≤ R.locals) (hRc : cells + 90 ≤ R.cells) (hRs : slots + 1170 ≤ R.slots) (hfs : fs[6]? = some (.ref qt))
    (kk : ∀ (F : Nat → Nat × Nat → Nat) (H : Heap) (locs : List Loc) (ls : Array Slot), va_P D vwCl ((h0, .inr (9, fs)) :: x1 :: (qt, qA (tc 5) 30 (fT (fun k => (4, (31 * w + 1) + k)) F 30)) :: (Y ++ TT tc (fun i => zL4 ((31 * w + 1) + i)) F 30)) H → va_D A ((h0, .inr (9, fs)) :: x1 :: (qt, qA (tc 5) 30 (fT (fun k => (4, (31 * w + 1) + k)) F 30)) :: (Y ++ TT tc (fun i => zL4 ((31 * w + 1) + i)) F 30)) → va_S A H0 H locs → lv_has ls 2 [(1, .int (nI 30)), (0, .ref h0)] → W p l e R s m args below meth c H locs (cells + 90) (slots + 1170) Q (F0 m 133 ls [])) :
    ∀ (r j : Nat), j + r = 30 → ∀ (F : Nat → Nat × Nat → Nat) (H : Heap) (locs : List Loc) (ls : Array Slot), va_P D vwCl ((h0, .inr (9, fs)) :: x1 :: (qt, qA (tc 5) 30 (fT (fun k => (4, (31 * w + 1) + k)) F j)) :: (Y ++ TT tc (fun i => zL4 ((31 * w + 1) + i)) F j)) H → va_D A ((h0, .inr (9, fs)) :: x1 :: (qt, qA (tc 5) 30 (fT (fun k => (4, (31 * w + 1) + k)) F j)) :: (Y ++ TT tc (fun i => zL4 ((31 * w + 1) + i)) F j)) → va_S A H0 H locs → lv_has ls 2 [(1, .int (nI j)), (0, .ref h0)] → W p l e R s m args below meth c H locs (cells + j * 3) (slots + j * 39) Q (F0 m 108 ls []) := by
  intro r
  induction r with
  | zero =>
    intro j hj F H locs ls hP hD hS hl
    obtain rfl : j = 30 := by omega
    refine lv_iload_n hx hb dX9_init_108 rfl (lv_at hl 0 rfl) ?_
    refine lv_bipush (v := nI 30) hx hb dX9_init_109 (by decide +kernel) ?_
    refine lv_icmp_ge (tgt := 133) hx hb dX9_init_111 (by decide) (fun _ => ?_) (fun z => absurd (Int32.le_refl _) z)
    exact kk F H locs ls hP hD hS hl
  | succ r ih =>
    intro j hj F H locs ls hP hD hS hl
    refine lv_iload_n hx hb dX9_init_108 rfl (lv_at hl 0 rfl) ?_
    refine lv_bipush (v := nI 30) hx hb dX9_init_109 (by decide +kernel) ?_
    refine lv_icmp_ge (tgt := 133) hx hb dX9_init_111 (by decide) (fun z => absurd z (Int32.not_le.mpr (nI_lt (by omega) (by decide)))) (fun _ => ?_)
    refine lv_aload_n hx hb dX9_init_114 rfl (lv_at hl 1 rfl) ?_
    refine va_get (D := D) (ci := 9) (v := .ref qt) (fs := fs) (C := RX9) (T := TX9) (N := 14) (own := RX9) (ref := RX9) (index := 37) hx hb hts z_lw_9 hown hK hP 0 rfl rfl 6 (by decide) (hts _ (z_has_in (kj := 1162) (by decide +kernel))) (fun _ h9 => h9) hfs dX9_init_115 ?_
    refine lv_iload_n hx hb dX9_init_118 rfl (lv_at hl 0 rfl) ?_
    refine va_new (ci := 4) (fs := [.null, .null, .int 0, .int 0, .int 0, .int 0, .int 0]) (C := RX4) (T := TX4) (N := 7) (own := RX9) (index := 9) hx hb hts z_lw_4 tyX4 tyX4_ok hown (hts _ (z_has_in (kj := 1035) (by decide +kernel))) (hts _ (z_has_in (kj := 1036) (by decide +kernel))) (hts _ (z_has_in (kj := 1003) (by decide +kernel))) hK hP hD hS hA rfl dfX4 (by omega) (by omega) dX9_init_119 (fun q H hP hD hS => ?_)
    refine lv_dup hx hb dX9_init_122 rfl ?_
    refine zn_back (va_runIN (As := []) (rest := [.ref q, .int (nI j), .ref qt]) ⟨hx, hb, hml, hown, hts⟩ (n_X4 l tc D ((31 * w + 1) + j) q H.size) ⟨va_cnB 0 hts (z_TB_cons (z_has_in (kj := 1039) (by decide +kernel))) rfl rfl rfl hN.1 (hts _ (z_has_in (kj := 1003) (by decide +kernel))) ⟨by decide, by decide, by decide +kernel⟩ ⟨hRf, hRl⟩, rfl, (hts _ (z_has_in (kj := 1038) (by decide +kernel)))⟩ ⟨zn_blind (fun _ _ _ _ => trivial), zn_pre (fun _ _ => trivial) hK hP⟩ rfl rfl hl.1 rfl (lv_room (Nat.le_of_ble_eq_true rfl)) dX9_init_123 ⟨by omega, by omega⟩) hP hD hS hA (fun g H locs hg hP2 hD2 hS2 => ?_)
    subst hg
    have hP := hP2
    have hD := hD2
    have hS := hS2
    refine va_astq (D := D) hx hb hK hP hD hS 2 5 _ 4 rfl rfl at_len rfl (vp_in_nI (by omega) (by decide)) dX9_init_126 (fun H locs hP hD hS => ?_)
    rw [nI_clamp (by omega)] at hP hD
    have hP : va_P D vwCl ((h0, .inr (9, fs)) :: x1 :: (qt, qA (tc 5) 30 (va_up (fT (fun k => (4, (31 * w + 1) + k)) F j) j (some (g ((fun k => (4, (31 * w + 1) + k)) j))))) :: ((Y ++ TT tc (fun i => zL4 ((31 * w + 1) + i)) F j) ++ zW tc g ((fun i => zL4 ((31 * w + 1) + i)) j))) H := hP
    rw [fT_s (x := (fun k => (4, (31 * w + 1) + k))), List.append_assoc, TT_s (L := (fun i => zL4 ((31 * w + 1) + i)))] at hP
    have hD : va_D A ((h0, .inr (9, fs)) :: x1 :: (qt, qA (tc 5) 30 (va_up (fT (fun k => (4, (31 * w + 1) + k)) F j) j (some (g ((fun k => (4, (31 * w + 1) + k)) j))))) :: ((Y ++ TT tc (fun i => zL4 ((31 * w + 1) + i)) F j) ++ zW tc g ((fun i => zL4 ((31 * w + 1) + i)) j))) := hD
    rw [fT_s (x := (fun k => (4, (31 * w + 1) + k))), List.append_assoc, TT_s (L := (fun i => zL4 ((31 * w + 1) + i)))] at hD
    refine lv_iinc (v := nI (j + 1)) (lv' := [(1, .int (nI (j + 1))), (0, .ref h0)]) hx hb dX9_init_127 hl (k := 0) rfl (nI_1 j) (by decide) rfl (fun ls hl => ?_)
    refine lv_goto (tgt := 108) hx hb dX9_init_130 (by decide) ?_
    refine W.widen (k := cells + (j + 1) * 3) (n := slots + (j + 1) * 39) (by omega) (by omega) ?_
    exact ih (j + 1) (by omega) _ H locs ls hP hD hS hl
def zLW (w : Nat) : List (Nat × Nat) := [(9, w), (1003, w), (1006, w), (1001, w), (1002, w), (1004, w), (1005, w)] ++ (zL4 (31 * w) ++ (zL5 w ++ ((List.range 4).flatMap (fun i => zL6 (4 * w + i)) ++ (List.range 30).flatMap (fun i => zL4 (31 * w + 1 + i)))))
