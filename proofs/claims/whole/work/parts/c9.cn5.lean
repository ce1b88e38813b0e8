/-! the constructor of the class, printed -/
theorem dX10_init_0 : decode cX10_init 0 = .ok (.aload_n 0, 1) := by decide +kernel
theorem dX10_init_1 : decode cX10_init 1 = .ok (.invokespecial 1, 3) := by decide +kernel
theorem dX10_init_4 : decode cX10_init 4 = .ok (.aload_n 0, 1) := by decide +kernel
theorem dX10_init_5 : decode cX10_init 5 = .ok (.new 7, 3) := by decide +kernel
theorem dX10_init_8 : decode cX10_init 8 = .ok (.dup, 1) := by decide +kernel
theorem dX10_init_9 : decode cX10_init 9 = .ok (.invokespecial 9, 3) := by decide +kernel
theorem dX10_init_12 : decode cX10_init 12 = .ok (.putfield 10, 3) := by decide +kernel
theorem dX10_init_15 : decode cX10_init 15 = .ok (.aload_n 0, 1) := by decide +kernel
theorem dX10_init_16 : decode cX10_init 16 = .ok (.new 7, 3) := by decide +kernel
theorem dX10_init_19 : decode cX10_init 19 = .ok (.dup, 1) := by decide +kernel
theorem dX10_init_20 : decode cX10_init 20 = .ok (.invokespecial 9, 3) := by decide +kernel
theorem dX10_init_23 : decode cX10_init 23 = .ok (.putfield 16, 3) := by decide +kernel
theorem dX10_init_26 : decode cX10_init 26 = .ok (.aload_n 0, 1) := by decide +kernel
theorem dX10_init_27 : decode cX10_init 27 = .ok (.new 19, 3) := by decide +kernel
theorem dX10_init_30 : decode cX10_init 30 = .ok (.dup, 1) := by decide +kernel
theorem dX10_init_31 : decode cX10_init 31 = .ok (.invokespecial 21, 3) := by decide +kernel
theorem dX10_init_34 : decode cX10_init 34 = .ok (.putfield 22, 3) := by decide +kernel
theorem dX10_init_37 : decode cX10_init 37 = .ok (.aload_n 0, 1) := by decide +kernel
theorem dX10_init_38 : decode cX10_init 38 = .ok (.new 26, 3) := by decide +kernel
theorem dX10_init_41 : decode cX10_init 41 = .ok (.dup, 1) := by decide +kernel
theorem dX10_init_42 : decode cX10_init 42 = .ok (.invokespecial 28, 3) := by decide +kernel
theorem dX10_init_45 : decode cX10_init 45 = .ok (.putfield 29, 3) := by decide +kernel
theorem dX10_init_48 : decode cX10_init 48 = .ok (.aload_n 0, 1) := by decide +kernel
theorem dX10_init_49 : decode cX10_init 49 = .ok (.new 33, 3) := by decide +kernel
theorem dX10_init_52 : decode cX10_init 52 = .ok (.dup, 1) := by decide +kernel
theorem dX10_init_53 : decode cX10_init 53 = .ok (.invokespecial 35, 3) := by decide +kernel
theorem dX10_init_56 : decode cX10_init 56 = .ok (.putfield 36, 3) := by decide +kernel
theorem dX10_init_59 : decode cX10_init 59 = .ok (.aload_n 0, 1) := by decide +kernel
theorem dX10_init_60 : decode cX10_init 60 = .ok (.new 40, 3) := by decide +kernel
theorem dX10_init_63 : decode cX10_init 63 = .ok (.dup, 1) := by decide +kernel
theorem dX10_init_64 : decode cX10_init 64 = .ok (.invokespecial 42, 3) := by decide +kernel
theorem dX10_init_67 : decode cX10_init 67 = .ok (.putfield 43, 3) := by decide +kernel
theorem dX10_init_70 : decode cX10_init 70 = .ok (.aload_n 0, 1) := by decide +kernel
theorem dX10_init_71 : decode cX10_init 71 = .ok (.new 47, 3) := by decide +kernel
theorem dX10_init_74 : decode cX10_init 74 = .ok (.dup, 1) := by decide +kernel
theorem dX10_init_75 : decode cX10_init 75 = .ok (.invokespecial 49, 3) := by decide +kernel
theorem dX10_init_78 : decode cX10_init 78 = .ok (.putfield 50, 3) := by decide +kernel
theorem dX10_init_81 : decode cX10_init 81 = .ok (.aload_n 0, 1) := by decide +kernel
theorem dX10_init_82 : decode cX10_init 82 = .ok (.new 47, 3) := by decide +kernel
theorem dX10_init_85 : decode cX10_init 85 = .ok (.dup, 1) := by decide +kernel
theorem dX10_init_86 : decode cX10_init 86 = .ok (.invokespecial 49, 3) := by decide +kernel
theorem dX10_init_89 : decode cX10_init 89 = .ok (.putfield 54, 3) := by decide +kernel
theorem dX10_init_92 : decode cX10_init 92 = .ok (.aload_n 0, 1) := by decide +kernel
theorem dX10_init_93 : decode cX10_init 93 = .ok (.new 57, 3) := by decide +kernel
theorem dX10_init_96 : decode cX10_init 96 = .ok (.dup, 1) := by decide +kernel
theorem dX10_init_97 : decode cX10_init 97 = .ok (.invokespecial 59, 3) := by decide +kernel
theorem dX10_init_100 : decode cX10_init 100 = .ok (.putfield 60, 3) := by decide +kernel
theorem dX10_init_103 : decode cX10_init 103 = .ok (.aload_n 0, 1) := by decide +kernel
theorem dX10_init_104 : decode cX10_init 104 = .ok (.new 64, 3) := by decide +kernel
theorem dX10_init_107 : decode cX10_init 107 = .ok (.dup, 1) := by decide +kernel
theorem dX10_init_108 : decode cX10_init 108 = .ok (.invokespecial 66, 3) := by decide +kernel
theorem dX10_init_111 : decode cX10_init 111 = .ok (.putfield 67, 3) := by decide +kernel
theorem dX10_init_114 : decode cX10_init 114 = .ok (.return_, 1) := by decide +kernel
def nFn (U : State) : Prop := nWo U ∧ va_Nw (.methodLinkNest RX10 21 yX4_init "FareNumbers") U ∧ va_Nw (.methodLinkNest RX10 28 yX3_init "FareNumbers") U ∧ va_Nw (.methodLinkNest RX10 35 yX0_init "FareNumbers") U ∧ va_Nw (.methodLinkNest RX10 42 yX1_init "FareNumbers") U ∧ va_Nw (.methodLinkNest RX10 49 yX2_init "FareNumbers") U ∧ va_Nw (.methodLinkNest RX10 59 yX8_init "FareNumbers") U ∧ va_Nw (.methodLinkNest RX10 66 yX7_init "FareNumbers") U ∧ nPl U
theorem nPl.same {u U : State} (h : u.vm = U.vm) (z : nPl u) : nPl U := over_moved (by rw [h]; exact Vm.Alike.refl _) z
theorem nPl.warm {s U : State} (hW : s.WarmedH U.vm) (z : nPl s) : nPl U := over_moved hW.alike z
theorem ckW : ∀ w, w < 2 → ckL (zLW w) = true := by decide +kernel
theorem ckF : ckL (zL4 62) = true ∧ ckL zL3 = true ∧ ckL zL0 = true ∧ ckL zL1 = true ∧ ckL (zL2 0) = true ∧ ckL (zL2 1) = true ∧ ckL zL8 = true ∧ ckL zL7 = true := by decide +kernel
/-- which part of the class's object a cell is of -/
def kqF (q : Nat × Nat) : Nat := if q.1 = 9 ∨ (1001 ≤ q.1 ∧ q.1 ≤ 1006) ∨ q.1 = 5 ∨ q.1 = 600 then q.2 else if q.1 = 4 ∨ q.1 = 500 ∨ q.1 = 501 then q.2 / 31 else if q.1 = 6 ∨ (700 ≤ q.1 ∧ q.1 ≤ 703) then q.2 / 4 else if q.1 = 3 ∨ q.1 = 400 then 3 else if q.1 = 0 ∨ (100 ≤ q.1 ∧ q.1 ≤ 102) then 4 else if q.1 = 1 ∨ q.1 = 200 ∨ q.1 = 202 then 5 else if q.1 = 2 ∨ (300 ≤ q.1 ∧ q.1 ≤ 303) then 6 + q.2 else if q.1 = 352 ∨ q.1 = 353 then 6 + q.2 / 7 else if q.1 = 8 ∨ (900 ≤ q.1 ∧ q.1 ≤ 907) then 8 else if q.1 = 7 ∨ (800 ≤ q.1 ∧ q.1 ≤ 802) then 9 else 10
def adF (G : Nat → Nat × Nat → Nat) : Nat × Nat → Nat := fun q => G (kqF q) q
def zLF : List (Nat × Nat) := (10, 0) :: (((((((((zLW 0 ++ zLW 1) ++ zL4 62) ++ zL3) ++ zL0) ++ zL1) ++ zL2 0) ++ zL2 1) ++ zL8) ++ zL7)
theorem kq_F : (∀ q ∈ zLW 0, kqF q = 0) ∧ (∀ q ∈ zLW 1, kqF q = 1) ∧ (∀ q ∈ zL4 62, kqF q = 2) ∧ (∀ q ∈ zL3, kqF q = 3) ∧ (∀ q ∈ zL0, kqF q = 4) ∧ (∀ q ∈ zL1, kqF q = 5) ∧ (∀ q ∈ zL2 0, kqF q = 6) ∧ (∀ q ∈ zL2 1, kqF q = 7) ∧ (∀ q ∈ zL8, kqF q = 8) ∧ (∀ q ∈ zL7, kqF q = 9) := by decide +kernel
theorem adF_k {G : Nat → Nat × Nat → Nat} {L : List (Nat × Nat)} {k : Nat} (h : ∀ q ∈ L, kqF q = k) : ∀ q ∈ L, adF G q = G k q := fun q hq => by
  unfold adF
  rw [h q hq]
theorem zW_sg {tc : Nat → ClassId} {a g : Nat × Nat → Nat} {L : List (Nat × Nat)} (h : ∀ q ∈ L, a q = g q) : L.map a = (zW tc g L).map (fun x => x.1) := by
  rw [zW_ad]
  exact List.map_congr_left h
def GF (h0 : Nat) (g0 g1 g2 g3 g4 g5 g6 g7 g8 g9 : Nat × Nat → Nat) (k : Nat) : Nat × Nat → Nat := match k with
  | 0 => g0
  | 1 => g1
  | 2 => g2
  | 3 => g3
  | 4 => g4
  | 5 => g5
  | 6 => g6
  | 7 => g7
  | 8 => g8
  | 9 => g9
  | _ => fun _ => h0
set_option maxHeartbeats 4000000 in
theorem zW_F {D : va_G} {tc : Nat → ClassId} {A : Nat → Prop} {H : Heap} {h0 : Nat} {g0 g1 g2 g3 g4 g5 g6 g7 g8 g9 : Nat × Nat → Nat} (hP : va_P D vwCl ((h0, .inr (10, [.ref (g0 (9, 0)), .ref (g1 (9, 1)), .ref (g2 (4, 62)), .ref (g3 (3, 0)), .ref (g4 (0, 0)), .ref (g5 (1, 0)), .ref (g6 (2, 0)), .ref (g7 (2, 1)), .ref (g8 (8, 0)), .ref (g9 (7, 0))])) :: (((((((((zW tc g0 (zLW 0) ++ zW tc g1 (zLW 1)) ++ zW tc g2 (zL4 62)) ++ zW tc g3 zL3) ++ zW tc g4 zL0) ++ zW tc g5 zL1) ++ zW tc g6 (zL2 0)) ++ zW tc g7 (zL2 1)) ++ zW tc g8 zL8) ++ zW tc g9 zL7)) H) (hD : va_D A ((h0, .inr (10, [.ref (g0 (9, 0)), .ref (g1 (9, 1)), .ref (g2 (4, 62)), .ref (g3 (3, 0)), .ref (g4 (0, 0)), .ref (g5 (1, 0)), .ref (g6 (2, 0)), .ref (g7 (2, 1)), .ref (g8 (8, 0)), .ref (g9 (7, 0))])) :: (((((((((zW tc g0 (zLW 0) ++ zW tc g1 (zLW 1)) ++ zW tc g2 (zL4 62)) ++ zW tc g3 zL3) ++ zW tc g4 zL0) ++ zW tc g5 zL1) ++ zW tc g6 (zL2 0)) ++ zW tc g7 (zL2 1)) ++ zW tc g8 zL8) ++ zW tc g9 zL7))) : ∃ ad : Nat × Nat → Nat, ad (10, 0) = h0 ∧ va_P D vwCl (zW tc ad zLF) H ∧ va_D A (zW tc ad zLF) := by
  obtain ⟨k0, k1, k2, k3, k4, k5, k6, k7, k8, k9⟩ := kq_F
  have f0 : adF (GF h0 g0 g1 g2 g3 g4 g5 g6 g7 g8 g9) (10, 0) = h0 := rfl
  have e0 : ∀ q ∈ zLW 0, adF (GF h0 g0 g1 g2 g3 g4 g5 g6 g7 g8 g9) q = g0 q := adF_k k0
  have e1 : ∀ q ∈ zLW 1, adF (GF h0 g0 g1 g2 g3 g4 g5 g6 g7 g8 g9) q = g1 q := adF_k k1
  have e2 : ∀ q ∈ zL4 62, adF (GF h0 g0 g1 g2 g3 g4 g5 g6 g7 g8 g9) q = g2 q := adF_k k2
  have e3 : ∀ q ∈ zL3, adF (GF h0 g0 g1 g2 g3 g4 g5 g6 g7 g8 g9) q = g3 q := adF_k k3
  have e4 : ∀ q ∈ zL0, adF (GF h0 g0 g1 g2 g3 g4 g5 g6 g7 g8 g9) q = g4 q := adF_k k4
  have e5 : ∀ q ∈ zL1, adF (GF h0 g0 g1 g2 g3 g4 g5 g6 g7 g8 g9) q = g5 q := adF_k k5
  have e6 : ∀ q ∈ zL2 0, adF (GF h0 g0 g1 g2 g3 g4 g5 g6 g7 g8 g9) q = g6 q := adF_k k6
  have e7 : ∀ q ∈ zL2 1, adF (GF h0 g0 g1 g2 g3 g4 g5 g6 g7 g8 g9) q = g7 q := adF_k k7
  have e8 : ∀ q ∈ zL8, adF (GF h0 g0 g1 g2 g3 g4 g5 g6 g7 g8 g9) q = g8 q := adF_k k8
  have e9 : ∀ q ∈ zL7, adF (GF h0 g0 g1 g2 g3 g4 g5 g6 g7 g8 g9) q = g9 q := adF_k k9
  generalize adF (GF h0 g0 g1 g2 g3 g4 g5 g6 g7 g8 g9) = ad at f0 e0 e1 e2 e3 e4 e5 e6 e7 e8 e9
  refine ⟨ad, f0, ?_, ?_⟩
  · have hm := va_P_mem.mp hP
    have m0 := hm _ List.mem_cons_self
    have p9 : va_P D vwCl (((((((((zW tc g0 (zLW 0) ++ zW tc g1 (zLW 1)) ++ zW tc g2 (zL4 62)) ++ zW tc g3 zL3) ++ zW tc g4 zL0) ++ zW tc g5 zL1) ++ zW tc g6 (zL2 0)) ++ zW tc g7 (zL2 1)) ++ zW tc g8 zL8) ++ zW tc g9 zL7) H := va_P_mem.mpr (fun x hx => hm x (List.mem_cons_of_mem _ hx))
    have s9 := zW_cv ckF.2.2.2.2.2.2.2 e9 (va_P_r p9)
    have p8 := va_P_l p9
    have s8 := zW_cv ckF.2.2.2.2.2.2.1 e8 (va_P_r p8)
    have p7 := va_P_l p8
    have s7 := zW_cv ckF.2.2.2.2.2.1 e7 (va_P_r p7)
    have p6 := va_P_l p7
    have s6 := zW_cv ckF.2.2.2.2.1 e6 (va_P_r p6)
    have p5 := va_P_l p6
    have s5 := zW_cv ckF.2.2.2.1 e5 (va_P_r p5)
    have p4 := va_P_l p5
    have s4 := zW_cv ckF.2.2.1 e4 (va_P_r p4)
    have p3 := va_P_l p4
    have s3 := zW_cv ckF.2.1 e3 (va_P_r p3)
    have p2 := va_P_l p3
    have s2 := zW_cv ckF.1 e2 (va_P_r p2)
    have p1 := va_P_l p2
    have s1 := zW_cv (ckW 1 (by decide)) e1 (va_P_r p1)
    have p0 := va_P_l p1
    have s0 := zW_cv (ckW 0 (by decide)) e0 p0
    rw [zW_P] at s0 s1 s2 s3 s4 s5 s6 s7 s8 s9 ⊢
    intro q hq
    rcases List.mem_cons.mp hq with rfl | hq
    · have e : zc tc ad (10, 0) = (ad (10, 0), .inr (10, [.ref (ad (9, 0)), .ref (ad (9, 1)), .ref (ad (4, 62)), .ref (ad (3, 0)), .ref (ad (0, 0)), .ref (ad (1, 0)), .ref (ad (2, 0)), .ref (ad (2, 1)), .ref (ad (8, 0)), .ref (ad (7, 0))])) := rfl
      rw [e, f0, e0 (9, 0) (List.mem_append_left _ List.mem_cons_self), e1 (9, 1) (List.mem_append_left _ List.mem_cons_self), e2 (4, 62) List.mem_cons_self, e3 (3, 0) List.mem_cons_self, e4 (0, 0) List.mem_cons_self, e5 (1, 0) List.mem_cons_self, e6 (2, 0) (List.mem_append_left _ List.mem_cons_self), e7 (2, 1) (List.mem_append_left _ List.mem_cons_self), e8 (8, 0) List.mem_cons_self, e9 (7, 0) List.mem_cons_self]
      exact m0
    · rcases List.mem_append.mp hq with hq | hq
      · rcases List.mem_append.mp hq with hq | hq
        · rcases List.mem_append.mp hq with hq | hq
          · rcases List.mem_append.mp hq with hq | hq
            · rcases List.mem_append.mp hq with hq | hq
              · rcases List.mem_append.mp hq with hq | hq
                · rcases List.mem_append.mp hq with hq | hq
                  · rcases List.mem_append.mp hq with hq | hq
                    · rcases List.mem_append.mp hq with hq | hq
                      · exact s0 q hq
                      · exact s1 q hq
                    · exact s2 q hq
                  · exact s3 q hq
                · exact s4 q hq
              · exact s5 q hq
            · exact s6 q hq
          · exact s7 q hq
        · exact s8 q hq
      · exact s9 q hq
  · refine va_D_ad hD ?_
    rw [zW_ad]
    unfold zLF
    simp only [List.map_append, List.map_cons]
    rw [f0, zW_sg (tc := tc) e0, zW_sg (tc := tc) e1, zW_sg (tc := tc) e2, zW_sg (tc := tc) e3, zW_sg (tc := tc) e4, zW_sg (tc := tc) e5, zW_sg (tc := tc) e6, zW_sg (tc := tc) e7, zW_sg (tc := tc) e8, zW_sg (tc := tc) e9]
set_option maxHeartbeats 8000000 in
set_option maxRecDepth 100000 in
theorem n_X10 (l : Launch) (tc : Nat → ClassId) (D : va_G) (h0 sz : Nat) : Met l yX10_init (.code yX10_init cX10_init 1 none :: z_TB) { frames := 3, cells := 302, slots := 6646, locals := 60 } (zn_Pc tc D 10 [.null, .null, .null, .null, .null, .null, .null, .null, .null, .null] nFn h0 sz) (zn_Qc tc D 10 [.null, .null, .null, .null, .null, .null, .null, .null, .null, .null] zLF (10, 0) h0 sz) 302 6646 (va_A [(h0, .inr (10, [.null, .null, .null, .null, .null, .null, .null, .null, .null, .null]))] sz) := by
  refine Met.ofW (cc := cX10_init) (maxL := 1) (ret := none) (by decide) rfl ?_
  intro p e s m args below meth c s₁ B hml hv
  obtain ⟨rfl, hsz, hP, hK, hN⟩ := hv
  have hx := B.exec
  have hb := B.bytes
  have hr := B.returns
  have hts0 := atoms_spec (ws := (.code yX10_init cX10_init 1 none :: z_TB)) B.pre
  have hts : ∀ w ∈ z_TB, w.before ([.ref h0] : List Value).toArray s = true := fun w hw => hts0 w (List.mem_cons_of_mem _ hw)
  have hown : s.vm.findClass RX10 = some m.cls := findClass_of_methodNamed B.named
  have hlocks := B.notSynchronized
  have hin : meth.name = "<init>" := (name_of_methodNamed B.named B.method).1
  subst hsz
  have hD := zn_D1 (h0 := h0) (sz := s.heap.size) (e0 := .inr (10, [.null, .null, .null, .null, .null, .null, .null, .null, .null, .null]))
  unfold zn_Qc
  generalize hAe : va_A [(h0, .inr (10, [.null, .null, .null, .null, .null, .null, .null, .null, .null, .null]))] s.heap.size = A at hD ⊢
  have hA : ∀ q : Nat, s.heap.size ≤ q → A q := fun q h => by rw [← hAe]; exact Or.inr h
  have hS : va_S A s.heap s.heap [] := va_S.rf
  have hR4 : 2 + 1 ≤ (headSpec (.code yX10_init cX10_init 1 none :: z_TB) { frames := 3, cells := 302, slots := 6646, locals := 60 }).room.frames ∧ 60 ≤ (headSpec (.code yX10_init cX10_init 1 none :: z_TB) { frames := 3, cells := 302, slots := 6646, locals := 60 }).room.locals ∧ 302 ≤ (headSpec (.code yX10_init cX10_init 1 none :: z_TB) { frames := 3, cells := 302, slots := 6646, locals := 60 }).room.cells ∧ 6646 ≤ (headSpec (.code yX10_init cX10_init 1 none :: z_TB) { frames := 3, cells := 302, slots := 6646, locals := 60 }).room.slots := ⟨Nat.le_of_ble_eq_true rfl, Nat.le_of_ble_eq_true rfl, Nat.le_of_ble_eq_true rfl, Nat.le_of_ble_eq_true rfl⟩
  generalize (headSpec (.code yX10_init cX10_init 1 none :: z_TB) { frames := 3, cells := 302, slots := 6646, locals := 60 }).room = R at hR4 ⊢
  obtain ⟨hRf, hRl, hRc, hRs⟩ := hR4
  have hl := lv_entry ([.ref h0]) (n := 1) (Nat.le_of_ble_eq_true rfl)
  rw [lg_entry_eq]
  generalize (lg_sl ([.ref h0]) ++ List.replicate (1 - (lg_sl ([.ref h0])).length) Slot.unset).toArray = ls at hl ⊢
  have hl : lv_has ls 1 [(0, .ref h0)] := hl
  refine lv_aload_n hx hb dX10_init_0 rfl (lv_at hl 0 rfl) ?_
  refine W.objInit hx hb hown (hts _ (z_has_in (kj := 1026) (by decide +kernel))) (hts _ (z_has_in (kj := 1027) (by decide +kernel))) (hts _ (z_has_in (kj := 1028) (by decide +kernel))) rfl (by rw [hml]; exact hl.1) rfl dX10_init_1 (by omega) (by show _ + 0 + 12 ≤ _; simp only [JFrame.monitorRoom]; omega) ?_
  refine W.eq (g2 := F0 m 4 ls []) rfl ?_
  refine lv_aload_n hx hb dX10_init_4 rfl (lv_at hl 0 rfl) ?_
  refine va_new (ci := 9) (fs := [.null, .null, .null, .null, .null, .null, .null, .null, .int 0, .int 0, .int 0, .int 0, .int 0, .int 0]) (C := RX9) (T := TX9) (N := 14) (own := RX10) (index := 7) hx hb hts z_lw_9 tyX9 tyX9_ok hown (hts _ (z_has_in (kj := 1029) (by decide +kernel))) (hts _ (z_has_in (kj := 1030) (by decide +kernel))) (hts _ (z_has_in (kj := 1002) (by decide +kernel))) hK hP hD hS hA rfl dfX9 (by omega) (by omega) dX10_init_5 (fun q H hP hD hS => ?_)
  refine lv_dup hx hb dX10_init_8 rfl ?_
  refine zn_back (va_runI (As := []) (rest := [.ref q, .ref h0]) ⟨hx, hb, hml, hown, hts⟩ (n_X9 l tc D 0 (by decide) q H.size) (cwI 0 hts (z_TB_cons (z_has_in (kj := 1033) (by decide +kernel))) rfl rfl rfl (hts _ (z_has_in (kj := 1002) (by decide +kernel))) (hts _ (z_has_in (kj := 1031) (by decide +kernel))) (hts _ (z_has_in (kj := 1032) (by decide +kernel))) rfl ⟨by decide, by decide, by decide +kernel⟩ ⟨by show 2 + 1 ≤ _; omega, by show 8 + (2 + 11) + 32 ≤ _; omega⟩) ⟨zn_blind (fun _ _ h z => z.same h), zn_pre (fun _ hW => hN.1.warm hW) hK hP⟩ rfl rfl hl.1 rfl (lv_room (Nat.le_of_ble_eq_true rfl)) dX10_init_9 ⟨by omega, by omega⟩) hP hD hS hA (fun g0 H locs hg hP2 hD2 hS2 => ?_)
  subst hg
  have hS := hS2
  have hP : va_P D vwCl ((h0, .inr (10, [.null, .null, .null, .null, .null, .null, .null, .null, .null, .null])) :: (zW tc g0 (zLW 0))) H := hP2
  have hD : va_D A ((h0, .inr (10, [.null, .null, .null, .null, .null, .null, .null, .null, .null, .null])) :: (zW tc g0 (zLW 0))) := hD2
  refine va_putF (D := D) (ci := 10) (v := .ref (g0 (9, 0))) (ty := .object "FareNumbers$World") (C := RX10) (T := TX10) (N := 10) (own := RX10) (ref := RX10) (index := 10) hx hb hts z_lw_10 tyX10 tyX10_ok nmX10 hown hK hP hD hS 0 rfl rfl 0 (by decide) (hts _ (z_has_in (kj := 2218) (by decide +kernel))) (fun _ h9 => h9) rfl hin rfl (tyX10_ok 0 (by decide)) rfl rfl (Nat.le_of_ble_eq_true rfl) dX10_init_12 (fun H locs hP hD hS => ?_)
  have hP : va_P D vwCl ((h0, .inr (10, [.ref (g0 (9, 0)), .null, .null, .null, .null, .null, .null, .null, .null, .null])) :: (zW tc g0 (zLW 0))) H := hP
  have hD : va_D A ((h0, .inr (10, [.ref (g0 (9, 0)), .null, .null, .null, .null, .null, .null, .null, .null, .null])) :: (zW tc g0 (zLW 0))) := hD
  refine lv_aload_n hx hb dX10_init_15 rfl (lv_at hl 0 rfl) ?_
  refine va_new (ci := 9) (fs := [.null, .null, .null, .null, .null, .null, .null, .null, .int 0, .int 0, .int 0, .int 0, .int 0, .int 0]) (C := RX9) (T := TX9) (N := 14) (own := RX10) (index := 7) hx hb hts z_lw_9 tyX9 tyX9_ok hown (hts _ (z_has_in (kj := 1029) (by decide +kernel))) (hts _ (z_has_in (kj := 1030) (by decide +kernel))) (hts _ (z_has_in (kj := 1002) (by decide +kernel))) hK hP hD hS hA rfl dfX9 (by omega) (by omega) dX10_init_16 (fun q H hP hD hS => ?_)
  refine lv_dup hx hb dX10_init_19 rfl ?_
  refine zn_back (va_runI (As := []) (rest := [.ref q, .ref h0]) ⟨hx, hb, hml, hown, hts⟩ (n_X9 l tc D 1 (by decide) q H.size) (cwI 0 hts (z_TB_cons (z_has_in (kj := 1033) (by decide +kernel))) rfl rfl rfl (hts _ (z_has_in (kj := 1002) (by decide +kernel))) (hts _ (z_has_in (kj := 1031) (by decide +kernel))) (hts _ (z_has_in (kj := 1032) (by decide +kernel))) rfl ⟨by decide, by decide, by decide +kernel⟩ ⟨by show 2 + 1 ≤ _; omega, by show 8 + (2 + 11) + 32 ≤ _; omega⟩) ⟨zn_blind (fun _ _ h z => z.same h), zn_pre (fun _ hW => hN.1.warm hW) hK hP⟩ rfl rfl hl.1 rfl (lv_room (Nat.le_of_ble_eq_true rfl)) dX10_init_20 ⟨by omega, by omega⟩) hP hD hS hA (fun g1 H locs hg hP2 hD2 hS2 => ?_)
  subst hg
  have hS := hS2
  have hP : va_P D vwCl ((h0, .inr (10, [.ref (g0 (9, 0)), .null, .null, .null, .null, .null, .null, .null, .null, .null])) :: (zW tc g0 (zLW 0) ++ zW tc g1 (zLW 1))) H := hP2
  have hD : va_D A ((h0, .inr (10, [.ref (g0 (9, 0)), .null, .null, .null, .null, .null, .null, .null, .null, .null])) :: (zW tc g0 (zLW 0) ++ zW tc g1 (zLW 1))) := hD2
  refine va_putF (D := D) (ci := 10) (v := .ref (g1 (9, 1))) (ty := .object "FareNumbers$World") (C := RX10) (T := TX10) (N := 10) (own := RX10) (ref := RX10) (index := 16) hx hb hts z_lw_10 tyX10 tyX10_ok nmX10 hown hK hP hD hS 0 rfl rfl 1 (by decide) (hts _ (z_has_in (kj := 2219) (by decide +kernel))) (fun _ h9 => h9) rfl hin rfl (tyX10_ok 1 (by decide)) rfl rfl (Nat.le_of_ble_eq_true rfl) dX10_init_23 (fun H locs hP hD hS => ?_)
  have hP : va_P D vwCl ((h0, .inr (10, [.ref (g0 (9, 0)), .ref (g1 (9, 1)), .null, .null, .null, .null, .null, .null, .null, .null])) :: (zW tc g0 (zLW 0) ++ zW tc g1 (zLW 1))) H := hP
  have hD : va_D A ((h0, .inr (10, [.ref (g0 (9, 0)), .ref (g1 (9, 1)), .null, .null, .null, .null, .null, .null, .null, .null])) :: (zW tc g0 (zLW 0) ++ zW tc g1 (zLW 1))) := hD
  refine lv_aload_n hx hb dX10_init_26 rfl (lv_at hl 0 rfl) ?_
  refine va_new (ci := 4) (fs := [.null, .null, .int 0, .int 0, .int 0, .int 0, .int 0]) (C := RX4) (T := TX4) (N := 7) (own := RX10) (index := 19) hx hb hts z_lw_4 tyX4 tyX4_ok hown (hts _ (z_has_in (kj := 1204) (by decide +kernel))) (hts _ (z_has_in (kj := 1036) (by decide +kernel))) (hts _ (z_has_in (kj := 1003) (by decide +kernel))) hK hP hD hS hA rfl dfX4 (by omega) (by omega) dX10_init_27 (fun q H hP hD hS => ?_)
  refine lv_dup hx hb dX10_init_30 rfl ?_
  refine zn_back (va_runIN (As := []) (rest := [.ref q, .ref h0]) ⟨hx, hb, hml, hown, hts⟩ (n_X4 l tc D 62 q H.size) ⟨va_cnB 0 hts (z_TB_cons (z_has_in (kj := 1039) (by decide +kernel))) rfl rfl rfl hN.2.1 (hts _ (z_has_in (kj := 1003) (by decide +kernel))) ⟨by decide, by decide, by decide +kernel⟩ ⟨by show 1 + 1 ≤ _; omega, by show 8 + (1 + 11) + 12 ≤ _; omega⟩, rfl, (hts _ (z_has_in (kj := 1038) (by decide +kernel)))⟩ ⟨zn_blind (fun _ _ _ _ => trivial), zn_pre (fun _ _ => trivial) hK hP⟩ rfl rfl hl.1 rfl (lv_room (Nat.le_of_ble_eq_true rfl)) dX10_init_31 ⟨by omega, by omega⟩) hP hD hS hA (fun g2 H locs hg hP2 hD2 hS2 => ?_)
  subst hg
  have hS := hS2
  have hP : va_P D vwCl ((h0, .inr (10, [.ref (g0 (9, 0)), .ref (g1 (9, 1)), .null, .null, .null, .null, .null, .null, .null, .null])) :: ((zW tc g0 (zLW 0) ++ zW tc g1 (zLW 1)) ++ zW tc g2 (zL4 62))) H := hP2
  have hD : va_D A ((h0, .inr (10, [.ref (g0 (9, 0)), .ref (g1 (9, 1)), .null, .null, .null, .null, .null, .null, .null, .null])) :: ((zW tc g0 (zLW 0) ++ zW tc g1 (zLW 1)) ++ zW tc g2 (zL4 62))) := hD2
  refine va_putF (D := D) (ci := 10) (v := .ref (g2 (4, 62))) (ty := .object "FareNumbers$Standing") (C := RX10) (T := TX10) (N := 10) (own := RX10) (ref := RX10) (index := 22) hx hb hts z_lw_10 tyX10 tyX10_ok nmX10 hown hK hP hD hS 0 rfl rfl 2 (by decide) (hts _ (z_has_in (kj := 2220) (by decide +kernel))) (fun _ h9 => h9) rfl hin rfl (tyX10_ok 2 (by decide)) rfl rfl (Nat.le_of_ble_eq_true rfl) dX10_init_34 (fun H locs hP hD hS => ?_)
  have hP : va_P D vwCl ((h0, .inr (10, [.ref (g0 (9, 0)), .ref (g1 (9, 1)), .ref (g2 (4, 62)), .null, .null, .null, .null, .null, .null, .null])) :: ((zW tc g0 (zLW 0) ++ zW tc g1 (zLW 1)) ++ zW tc g2 (zL4 62))) H := hP
  have hD : va_D A ((h0, .inr (10, [.ref (g0 (9, 0)), .ref (g1 (9, 1)), .ref (g2 (4, 62)), .null, .null, .null, .null, .null, .null, .null])) :: ((zW tc g0 (zLW 0) ++ zW tc g1 (zLW 1)) ++ zW tc g2 (zL4 62))) := hD
  refine lv_aload_n hx hb dX10_init_37 rfl (lv_at hl 0 rfl) ?_
  refine va_new (ci := 3) (fs := [.null, .int 0, .int 0, .int 0, .int 0, .null, .int 0, .int 0, .int 0, .int 0, .int 0]) (C := RX3) (T := TX3) (N := 11) (own := RX10) (index := 26) hx hb hts z_lw_3 tyX3 tyX3_ok hown (hts _ (z_has_in (kj := 1206) (by decide +kernel))) (hts _ (z_has_in (kj := 1207) (by decide +kernel))) (hts _ (z_has_in (kj := 1006) (by decide +kernel))) hK hP hD hS hA rfl dfX3 (by omega) (by omega) dX10_init_38 (fun q H hP hD hS => ?_)
  refine lv_dup hx hb dX10_init_41 rfl ?_
  refine zn_back (va_runIN (As := []) (rest := [.ref q, .ref h0]) ⟨hx, hb, hml, hown, hts⟩ (n_X3 l tc D q H.size) ⟨va_cnB 0 hts (z_TB_cons (z_has_in (kj := 1210) (by decide +kernel))) rfl rfl rfl hN.2.2.1 (hts _ (z_has_in (kj := 1006) (by decide +kernel))) ⟨by decide, by decide, by decide +kernel⟩ ⟨by show 1 + 1 ≤ _; omega, by show 8 + (1 + 11) + 12 ≤ _; omega⟩, rfl, (hts _ (z_has_in (kj := 1209) (by decide +kernel)))⟩ ⟨zn_blind (fun _ _ _ _ => trivial), zn_pre (fun _ _ => trivial) hK hP⟩ rfl rfl hl.1 rfl (lv_room (Nat.le_of_ble_eq_true rfl)) dX10_init_42 ⟨by omega, by omega⟩) hP hD hS hA (fun g3 H locs hg hP2 hD2 hS2 => ?_)
  subst hg
  have hS := hS2
  have hP : va_P D vwCl ((h0, .inr (10, [.ref (g0 (9, 0)), .ref (g1 (9, 1)), .ref (g2 (4, 62)), .null, .null, .null, .null, .null, .null, .null])) :: (((zW tc g0 (zLW 0) ++ zW tc g1 (zLW 1)) ++ zW tc g2 (zL4 62)) ++ zW tc g3 zL3)) H := hP2
  have hD : va_D A ((h0, .inr (10, [.ref (g0 (9, 0)), .ref (g1 (9, 1)), .ref (g2 (4, 62)), .null, .null, .null, .null, .null, .null, .null])) :: (((zW tc g0 (zLW 0) ++ zW tc g1 (zLW 1)) ++ zW tc g2 (zL4 62)) ++ zW tc g3 zL3)) := hD2
  refine va_putF (D := D) (ci := 10) (v := .ref (g3 (3, 0))) (ty := .object "FareNumbers$Reader") (C := RX10) (T := TX10) (N := 10) (own := RX10) (ref := RX10) (index := 29) hx hb hts z_lw_10 tyX10 tyX10_ok nmX10 hown hK hP hD hS 0 rfl rfl 3 (by decide) (hts _ (z_has_in (kj := 2221) (by decide +kernel))) (fun _ h9 => h9) rfl hin rfl (tyX10_ok 3 (by decide)) rfl rfl (Nat.le_of_ble_eq_true rfl) dX10_init_45 (fun H locs hP hD hS => ?_)
  have hP : va_P D vwCl ((h0, .inr (10, [.ref (g0 (9, 0)), .ref (g1 (9, 1)), .ref (g2 (4, 62)), .ref (g3 (3, 0)), .null, .null, .null, .null, .null, .null])) :: (((zW tc g0 (zLW 0) ++ zW tc g1 (zLW 1)) ++ zW tc g2 (zL4 62)) ++ zW tc g3 zL3)) H := hP
  have hD : va_D A ((h0, .inr (10, [.ref (g0 (9, 0)), .ref (g1 (9, 1)), .ref (g2 (4, 62)), .ref (g3 (3, 0)), .null, .null, .null, .null, .null, .null])) :: (((zW tc g0 (zLW 0) ++ zW tc g1 (zLW 1)) ++ zW tc g2 (zL4 62)) ++ zW tc g3 zL3)) := hD
  refine lv_aload_n hx hb dX10_init_48 rfl (lv_at hl 0 rfl) ?_
  refine va_new (ci := 0) (fs := [.null, .null, .null, .int 0, .int 0, .int 0, .int 0, .long 0]) (C := RX0) (T := TX0) (N := 8) (own := RX10) (index := 33) hx hb hts z_lw_0 tyX0 tyX0_ok hown (hts _ (z_has_in (kj := 2011) (by decide +kernel))) (hts _ (z_has_in (kj := 2012) (by decide +kernel))) (hts _ (z_has_in (kj := 1007) (by decide +kernel))) hK hP hD hS hA rfl dfX0 (by omega) (by omega) dX10_init_49 (fun q H hP hD hS => ?_)
  refine lv_dup hx hb dX10_init_52 rfl ?_
  refine zn_back (va_runIN (As := []) (rest := [.ref q, .ref h0]) ⟨hx, hb, hml, hown, hts⟩ (n_X0 l tc D q H.size) ⟨va_cnB 0 hts (z_TB_cons (z_has_in (kj := 2015) (by decide +kernel))) rfl rfl rfl hN.2.2.2.1 (hts _ (z_has_in (kj := 1007) (by decide +kernel))) ⟨by decide, by decide, by decide +kernel⟩ ⟨by show 1 + 1 ≤ _; omega, by show 8 + (1 + 11) + 12 ≤ _; omega⟩, rfl, (hts _ (z_has_in (kj := 2014) (by decide +kernel)))⟩ ⟨zn_blind (fun _ _ _ _ => trivial), zn_pre (fun _ _ => trivial) hK hP⟩ rfl rfl hl.1 rfl (lv_room (Nat.le_of_ble_eq_true rfl)) dX10_init_53 ⟨by omega, by omega⟩) hP hD hS hA (fun g4 H locs hg hP2 hD2 hS2 => ?_)
  subst hg
  have hS := hS2
  have hP : va_P D vwCl ((h0, .inr (10, [.ref (g0 (9, 0)), .ref (g1 (9, 1)), .ref (g2 (4, 62)), .ref (g3 (3, 0)), .null, .null, .null, .null, .null, .null])) :: ((((zW tc g0 (zLW 0) ++ zW tc g1 (zLW 1)) ++ zW tc g2 (zL4 62)) ++ zW tc g3 zL3) ++ zW tc g4 zL0)) H := hP2
  have hD : va_D A ((h0, .inr (10, [.ref (g0 (9, 0)), .ref (g1 (9, 1)), .ref (g2 (4, 62)), .ref (g3 (3, 0)), .null, .null, .null, .null, .null, .null])) :: ((((zW tc g0 (zLW 0) ++ zW tc g1 (zLW 1)) ++ zW tc g2 (zL4 62)) ++ zW tc g3 zL3) ++ zW tc g4 zL0)) := hD2
  refine va_putF (D := D) (ci := 10) (v := .ref (g4 (0, 0))) (ty := .object "FareNumbers$Net") (C := RX10) (T := TX10) (N := 10) (own := RX10) (ref := RX10) (index := 36) hx hb hts z_lw_10 tyX10 tyX10_ok nmX10 hown hK hP hD hS 0 rfl rfl 4 (by decide) (hts _ (z_has_in (kj := 2222) (by decide +kernel))) (fun _ h9 => h9) rfl hin rfl (tyX10_ok 4 (by decide)) rfl rfl (Nat.le_of_ble_eq_true rfl) dX10_init_56 (fun H locs hP hD hS => ?_)
  have hP : va_P D vwCl ((h0, .inr (10, [.ref (g0 (9, 0)), .ref (g1 (9, 1)), .ref (g2 (4, 62)), .ref (g3 (3, 0)), .ref (g4 (0, 0)), .null, .null, .null, .null, .null])) :: ((((zW tc g0 (zLW 0) ++ zW tc g1 (zLW 1)) ++ zW tc g2 (zL4 62)) ++ zW tc g3 zL3) ++ zW tc g4 zL0)) H := hP
  have hD : va_D A ((h0, .inr (10, [.ref (g0 (9, 0)), .ref (g1 (9, 1)), .ref (g2 (4, 62)), .ref (g3 (3, 0)), .ref (g4 (0, 0)), .null, .null, .null, .null, .null])) :: ((((zW tc g0 (zLW 0) ++ zW tc g1 (zLW 1)) ++ zW tc g2 (zL4 62)) ++ zW tc g3 zL3) ++ zW tc g4 zL0)) := hD
  refine lv_aload_n hx hb dX10_init_59 rfl (lv_at hl 0 rfl) ?_
  refine va_new (ci := 1) (fs := [.null, .int 0, .null, .long 0, .long 0, .long 0, .int 0, .int 0, .int 0, .int 0, .int 0, .long 0, .long 0, .long 0, .long 0]) (C := RX1) (T := TX1) (N := 15) (own := RX10) (index := 40) hx hb hts z_lw_1 tyX1 tyX1_ok hown (hts _ (z_has_in (kj := 2065) (by decide +kernel))) (hts _ (z_has_in (kj := 2066) (by decide +kernel))) (hts _ (z_has_in (kj := 1008) (by decide +kernel))) hK hP hD hS hA rfl dfX1 (by omega) (by omega) dX10_init_60 (fun q H hP hD hS => ?_)
  refine lv_dup hx hb dX10_init_63 rfl ?_
  refine zn_back (va_runIN (As := []) (rest := [.ref q, .ref h0]) ⟨hx, hb, hml, hown, hts⟩ (n_X1 l tc D q H.size) ⟨va_cnB 0 hts (z_TB_cons (z_has_in (kj := 2069) (by decide +kernel))) rfl rfl rfl hN.2.2.2.2.1 (hts _ (z_has_in (kj := 1008) (by decide +kernel))) ⟨by decide, by decide, by decide +kernel⟩ ⟨by show 1 + 1 ≤ _; omega, by show 8 + (1 + 11) + 12 ≤ _; omega⟩, rfl, (hts _ (z_has_in (kj := 2068) (by decide +kernel)))⟩ ⟨zn_blind (fun _ _ _ _ => trivial), zn_pre (fun _ _ => trivial) hK hP⟩ rfl rfl hl.1 rfl (lv_room (Nat.le_of_ble_eq_true rfl)) dX10_init_64 ⟨by omega, by omega⟩) hP hD hS hA (fun g5 H locs hg hP2 hD2 hS2 => ?_)
  subst hg
  have hS := hS2
  have hP : va_P D vwCl ((h0, .inr (10, [.ref (g0 (9, 0)), .ref (g1 (9, 1)), .ref (g2 (4, 62)), .ref (g3 (3, 0)), .ref (g4 (0, 0)), .null, .null, .null, .null, .null])) :: (((((zW tc g0 (zLW 0) ++ zW tc g1 (zLW 1)) ++ zW tc g2 (zL4 62)) ++ zW tc g3 zL3) ++ zW tc g4 zL0) ++ zW tc g5 zL1)) H := hP2
  have hD : va_D A ((h0, .inr (10, [.ref (g0 (9, 0)), .ref (g1 (9, 1)), .ref (g2 (4, 62)), .ref (g3 (3, 0)), .ref (g4 (0, 0)), .null, .null, .null, .null, .null])) :: (((((zW tc g0 (zLW 0) ++ zW tc g1 (zLW 1)) ++ zW tc g2 (zL4 62)) ++ zW tc g3 zL3) ++ zW tc g4 zL0) ++ zW tc g5 zL1)) := hD2
  refine va_putF (D := D) (ci := 10) (v := .ref (g5 (1, 0))) (ty := .object "FareNumbers$Numbering") (C := RX10) (T := TX10) (N := 10) (own := RX10) (ref := RX10) (index := 43) hx hb hts z_lw_10 tyX10 tyX10_ok nmX10 hown hK hP hD hS 0 rfl rfl 5 (by decide) (hts _ (z_has_in (kj := 2223) (by decide +kernel))) (fun _ h9 => h9) rfl hin rfl (tyX10_ok 5 (by decide)) rfl rfl (Nat.le_of_ble_eq_true rfl) dX10_init_67 (fun H locs hP hD hS => ?_)
  have hP : va_P D vwCl ((h0, .inr (10, [.ref (g0 (9, 0)), .ref (g1 (9, 1)), .ref (g2 (4, 62)), .ref (g3 (3, 0)), .ref (g4 (0, 0)), .ref (g5 (1, 0)), .null, .null, .null, .null])) :: (((((zW tc g0 (zLW 0) ++ zW tc g1 (zLW 1)) ++ zW tc g2 (zL4 62)) ++ zW tc g3 zL3) ++ zW tc g4 zL0) ++ zW tc g5 zL1)) H := hP
  have hD : va_D A ((h0, .inr (10, [.ref (g0 (9, 0)), .ref (g1 (9, 1)), .ref (g2 (4, 62)), .ref (g3 (3, 0)), .ref (g4 (0, 0)), .ref (g5 (1, 0)), .null, .null, .null, .null])) :: (((((zW tc g0 (zLW 0) ++ zW tc g1 (zLW 1)) ++ zW tc g2 (zL4 62)) ++ zW tc g3 zL3) ++ zW tc g4 zL0) ++ zW tc g5 zL1)) := hD
  refine lv_aload_n hx hb dX10_init_70 rfl (lv_at hl 0 rfl) ?_
  refine va_new (ci := 2) (fs := [.null, .int 0, .null, .null, .long 0, .int 0, .int 0, .long 0]) (C := RX2) (T := TX2) (N := 8) (own := RX10) (index := 47) hx hb hts z_lw_2 tyX2 tyX2_ok hown (hts _ (z_has_in (kj := 2120) (by decide +kernel))) (hts _ (z_has_in (kj := 2121) (by decide +kernel))) (hts _ (z_has_in (kj := 1009) (by decide +kernel))) hK hP hD hS hA rfl dfX2 (by omega) (by omega) dX10_init_71 (fun q H hP hD hS => ?_)
  refine lv_dup hx hb dX10_init_74 rfl ?_
  refine zn_back (va_runIN (As := []) (rest := [.ref q, .ref h0]) ⟨hx, hb, hml, hown, hts⟩ (n_X2 l tc D 0 (by decide) q H.size) ⟨va_cnB 0 hts (z_TB_cons (z_has_in (kj := 2124) (by decide +kernel))) rfl rfl rfl hN.2.2.2.2.2.1 (hts _ (z_has_in (kj := 1009) (by decide +kernel))) ⟨by decide, by decide, by decide +kernel⟩ ⟨by show 1 + 1 ≤ _; omega, by show 8 + (1 + 11) + 12 ≤ _; omega⟩, rfl, (hts _ (z_has_in (kj := 2123) (by decide +kernel)))⟩ ⟨zn_blind (fun _ _ h z => z.same h), zn_pre (fun _ hW => hN.2.2.2.2.2.2.2.2.warm hW) hK hP⟩ rfl rfl hl.1 rfl (lv_room (Nat.le_of_ble_eq_true rfl)) dX10_init_75 ⟨by omega, by omega⟩) hP hD hS hA (fun g6 H locs hg hP2 hD2 hS2 => ?_)
  subst hg
  have hS := hS2
  have hP : va_P D vwCl ((h0, .inr (10, [.ref (g0 (9, 0)), .ref (g1 (9, 1)), .ref (g2 (4, 62)), .ref (g3 (3, 0)), .ref (g4 (0, 0)), .ref (g5 (1, 0)), .null, .null, .null, .null])) :: ((((((zW tc g0 (zLW 0) ++ zW tc g1 (zLW 1)) ++ zW tc g2 (zL4 62)) ++ zW tc g3 zL3) ++ zW tc g4 zL0) ++ zW tc g5 zL1) ++ zW tc g6 (zL2 0))) H := hP2
  have hD : va_D A ((h0, .inr (10, [.ref (g0 (9, 0)), .ref (g1 (9, 1)), .ref (g2 (4, 62)), .ref (g3 (3, 0)), .ref (g4 (0, 0)), .ref (g5 (1, 0)), .null, .null, .null, .null])) :: ((((((zW tc g0 (zLW 0) ++ zW tc g1 (zLW 1)) ++ zW tc g2 (zL4 62)) ++ zW tc g3 zL3) ++ zW tc g4 zL0) ++ zW tc g5 zL1) ++ zW tc g6 (zL2 0))) := hD2
  refine va_putF (D := D) (ci := 10) (v := .ref (g6 (2, 0))) (ty := .object "FareNumbers$Places") (C := RX10) (T := TX10) (N := 10) (own := RX10) (ref := RX10) (index := 50) hx hb hts z_lw_10 tyX10 tyX10_ok nmX10 hown hK hP hD hS 0 rfl rfl 6 (by decide) (hts _ (z_has_in (kj := 2224) (by decide +kernel))) (fun _ h9 => h9) rfl hin rfl (tyX10_ok 6 (by decide)) rfl rfl (Nat.le_of_ble_eq_true rfl) dX10_init_78 (fun H locs hP hD hS => ?_)
  have hP : va_P D vwCl ((h0, .inr (10, [.ref (g0 (9, 0)), .ref (g1 (9, 1)), .ref (g2 (4, 62)), .ref (g3 (3, 0)), .ref (g4 (0, 0)), .ref (g5 (1, 0)), .ref (g6 (2, 0)), .null, .null, .null])) :: ((((((zW tc g0 (zLW 0) ++ zW tc g1 (zLW 1)) ++ zW tc g2 (zL4 62)) ++ zW tc g3 zL3) ++ zW tc g4 zL0) ++ zW tc g5 zL1) ++ zW tc g6 (zL2 0))) H := hP
  have hD : va_D A ((h0, .inr (10, [.ref (g0 (9, 0)), .ref (g1 (9, 1)), .ref (g2 (4, 62)), .ref (g3 (3, 0)), .ref (g4 (0, 0)), .ref (g5 (1, 0)), .ref (g6 (2, 0)), .null, .null, .null])) :: ((((((zW tc g0 (zLW 0) ++ zW tc g1 (zLW 1)) ++ zW tc g2 (zL4 62)) ++ zW tc g3 zL3) ++ zW tc g4 zL0) ++ zW tc g5 zL1) ++ zW tc g6 (zL2 0))) := hD
  refine lv_aload_n hx hb dX10_init_81 rfl (lv_at hl 0 rfl) ?_
  refine va_new (ci := 2) (fs := [.null, .int 0, .null, .null, .long 0, .int 0, .int 0, .long 0]) (C := RX2) (T := TX2) (N := 8) (own := RX10) (index := 47) hx hb hts z_lw_2 tyX2 tyX2_ok hown (hts _ (z_has_in (kj := 2120) (by decide +kernel))) (hts _ (z_has_in (kj := 2121) (by decide +kernel))) (hts _ (z_has_in (kj := 1009) (by decide +kernel))) hK hP hD hS hA rfl dfX2 (by omega) (by omega) dX10_init_82 (fun q H hP hD hS => ?_)
  refine lv_dup hx hb dX10_init_85 rfl ?_
  refine zn_back (va_runIN (As := []) (rest := [.ref q, .ref h0]) ⟨hx, hb, hml, hown, hts⟩ (n_X2 l tc D 1 (by decide) q H.size) ⟨va_cnB 0 hts (z_TB_cons (z_has_in (kj := 2124) (by decide +kernel))) rfl rfl rfl hN.2.2.2.2.2.1 (hts _ (z_has_in (kj := 1009) (by decide +kernel))) ⟨by decide, by decide, by decide +kernel⟩ ⟨by show 1 + 1 ≤ _; omega, by show 8 + (1 + 11) + 12 ≤ _; omega⟩, rfl, (hts _ (z_has_in (kj := 2123) (by decide +kernel)))⟩ ⟨zn_blind (fun _ _ h z => z.same h), zn_pre (fun _ hW => hN.2.2.2.2.2.2.2.2.warm hW) hK hP⟩ rfl rfl hl.1 rfl (lv_room (Nat.le_of_ble_eq_true rfl)) dX10_init_86 ⟨by omega, by omega⟩) hP hD hS hA (fun g7 H locs hg hP2 hD2 hS2 => ?_)
  subst hg
  have hS := hS2
  have hP : va_P D vwCl ((h0, .inr (10, [.ref (g0 (9, 0)), .ref (g1 (9, 1)), .ref (g2 (4, 62)), .ref (g3 (3, 0)), .ref (g4 (0, 0)), .ref (g5 (1, 0)), .ref (g6 (2, 0)), .null, .null, .null])) :: (((((((zW tc g0 (zLW 0) ++ zW tc g1 (zLW 1)) ++ zW tc g2 (zL4 62)) ++ zW tc g3 zL3) ++ zW tc g4 zL0) ++ zW tc g5 zL1) ++ zW tc g6 (zL2 0)) ++ zW tc g7 (zL2 1))) H := hP2
  have hD : va_D A ((h0, .inr (10, [.ref (g0 (9, 0)), .ref (g1 (9, 1)), .ref (g2 (4, 62)), .ref (g3 (3, 0)), .ref (g4 (0, 0)), .ref (g5 (1, 0)), .ref (g6 (2, 0)), .null, .null, .null])) :: (((((((zW tc g0 (zLW 0) ++ zW tc g1 (zLW 1)) ++ zW tc g2 (zL4 62)) ++ zW tc g3 zL3) ++ zW tc g4 zL0) ++ zW tc g5 zL1) ++ zW tc g6 (zL2 0)) ++ zW tc g7 (zL2 1))) := hD2
  refine va_putF (D := D) (ci := 10) (v := .ref (g7 (2, 1))) (ty := .object "FareNumbers$Places") (C := RX10) (T := TX10) (N := 10) (own := RX10) (ref := RX10) (index := 54) hx hb hts z_lw_10 tyX10 tyX10_ok nmX10 hown hK hP hD hS 0 rfl rfl 7 (by decide) (hts _ (z_has_in (kj := 2225) (by decide +kernel))) (fun _ h9 => h9) rfl hin rfl (tyX10_ok 7 (by decide)) rfl rfl (Nat.le_of_ble_eq_true rfl) dX10_init_89 (fun H locs hP hD hS => ?_)
  have hP : va_P D vwCl ((h0, .inr (10, [.ref (g0 (9, 0)), .ref (g1 (9, 1)), .ref (g2 (4, 62)), .ref (g3 (3, 0)), .ref (g4 (0, 0)), .ref (g5 (1, 0)), .ref (g6 (2, 0)), .ref (g7 (2, 1)), .null, .null])) :: (((((((zW tc g0 (zLW 0) ++ zW tc g1 (zLW 1)) ++ zW tc g2 (zL4 62)) ++ zW tc g3 zL3) ++ zW tc g4 zL0) ++ zW tc g5 zL1) ++ zW tc g6 (zL2 0)) ++ zW tc g7 (zL2 1))) H := hP
  have hD : va_D A ((h0, .inr (10, [.ref (g0 (9, 0)), .ref (g1 (9, 1)), .ref (g2 (4, 62)), .ref (g3 (3, 0)), .ref (g4 (0, 0)), .ref (g5 (1, 0)), .ref (g6 (2, 0)), .ref (g7 (2, 1)), .null, .null])) :: (((((((zW tc g0 (zLW 0) ++ zW tc g1 (zLW 1)) ++ zW tc g2 (zL4 62)) ++ zW tc g3 zL3) ++ zW tc g4 zL0) ++ zW tc g5 zL1) ++ zW tc g6 (zL2 0)) ++ zW tc g7 (zL2 1))) := hD
  refine lv_aload_n hx hb dX10_init_92 rfl (lv_at hl 0 rfl) ?_
  refine va_new (ci := 8) (fs := [.null, .null, .int 0, .long 0, .int 0, .null, .null, .null, .int 0, .long 0, .long 0]) (C := RX8) (T := TX8) (N := 11) (own := RX10) (index := 57) hx hb hts z_lw_8 tyX8 tyX8_ok hown (hts _ (z_has_in (kj := 2156) (by decide +kernel))) (hts _ (z_has_in (kj := 2157) (by decide +kernel))) (hts _ (z_has_in (kj := 1010) (by decide +kernel))) hK hP hD hS hA rfl dfX8 (by omega) (by omega) dX10_init_93 (fun q H hP hD hS => ?_)
  refine lv_dup hx hb dX10_init_96 rfl ?_
  refine zn_back (va_runIN (As := []) (rest := [.ref q, .ref h0]) ⟨hx, hb, hml, hown, hts⟩ (n_X8 l tc D q H.size) ⟨va_cnB 0 hts (z_TB_cons (z_has_in (kj := 2160) (by decide +kernel))) rfl rfl rfl hN.2.2.2.2.2.2.1 (hts _ (z_has_in (kj := 1010) (by decide +kernel))) ⟨by decide, by decide, by decide +kernel⟩ ⟨by show 1 + 1 ≤ _; omega, by show 8 + (1 + 11) + 12 ≤ _; omega⟩, rfl, (hts _ (z_has_in (kj := 2159) (by decide +kernel)))⟩ ⟨zn_blind (fun _ _ _ _ => trivial), zn_pre (fun _ _ => trivial) hK hP⟩ rfl rfl hl.1 rfl (lv_room (Nat.le_of_ble_eq_true rfl)) dX10_init_97 ⟨by omega, by omega⟩) hP hD hS hA (fun g8 H locs hg hP2 hD2 hS2 => ?_)
  subst hg
  have hS := hS2
  have hP : va_P D vwCl ((h0, .inr (10, [.ref (g0 (9, 0)), .ref (g1 (9, 1)), .ref (g2 (4, 62)), .ref (g3 (3, 0)), .ref (g4 (0, 0)), .ref (g5 (1, 0)), .ref (g6 (2, 0)), .ref (g7 (2, 1)), .null, .null])) :: ((((((((zW tc g0 (zLW 0) ++ zW tc g1 (zLW 1)) ++ zW tc g2 (zL4 62)) ++ zW tc g3 zL3) ++ zW tc g4 zL0) ++ zW tc g5 zL1) ++ zW tc g6 (zL2 0)) ++ zW tc g7 (zL2 1)) ++ zW tc g8 zL8)) H := hP2
  have hD : va_D A ((h0, .inr (10, [.ref (g0 (9, 0)), .ref (g1 (9, 1)), .ref (g2 (4, 62)), .ref (g3 (3, 0)), .ref (g4 (0, 0)), .ref (g5 (1, 0)), .ref (g6 (2, 0)), .ref (g7 (2, 1)), .null, .null])) :: ((((((((zW tc g0 (zLW 0) ++ zW tc g1 (zLW 1)) ++ zW tc g2 (zL4 62)) ++ zW tc g3 zL3) ++ zW tc g4 zL0) ++ zW tc g5 zL1) ++ zW tc g6 (zL2 0)) ++ zW tc g7 (zL2 1)) ++ zW tc g8 zL8)) := hD2
  refine va_putF (D := D) (ci := 10) (v := .ref (g8 (8, 0))) (ty := .object "FareNumbers$Weights") (C := RX10) (T := TX10) (N := 10) (own := RX10) (ref := RX10) (index := 60) hx hb hts z_lw_10 tyX10 tyX10_ok nmX10 hown hK hP hD hS 0 rfl rfl 8 (by decide) (hts _ (z_has_in (kj := 2226) (by decide +kernel))) (fun _ h9 => h9) rfl hin rfl (tyX10_ok 8 (by decide)) rfl rfl (Nat.le_of_ble_eq_true rfl) dX10_init_100 (fun H locs hP hD hS => ?_)
  have hP : va_P D vwCl ((h0, .inr (10, [.ref (g0 (9, 0)), .ref (g1 (9, 1)), .ref (g2 (4, 62)), .ref (g3 (3, 0)), .ref (g4 (0, 0)), .ref (g5 (1, 0)), .ref (g6 (2, 0)), .ref (g7 (2, 1)), .ref (g8 (8, 0)), .null])) :: ((((((((zW tc g0 (zLW 0) ++ zW tc g1 (zLW 1)) ++ zW tc g2 (zL4 62)) ++ zW tc g3 zL3) ++ zW tc g4 zL0) ++ zW tc g5 zL1) ++ zW tc g6 (zL2 0)) ++ zW tc g7 (zL2 1)) ++ zW tc g8 zL8)) H := hP
  have hD : va_D A ((h0, .inr (10, [.ref (g0 (9, 0)), .ref (g1 (9, 1)), .ref (g2 (4, 62)), .ref (g3 (3, 0)), .ref (g4 (0, 0)), .ref (g5 (1, 0)), .ref (g6 (2, 0)), .ref (g7 (2, 1)), .ref (g8 (8, 0)), .null])) :: ((((((((zW tc g0 (zLW 0) ++ zW tc g1 (zLW 1)) ++ zW tc g2 (zL4 62)) ++ zW tc g3 zL3) ++ zW tc g4 zL0) ++ zW tc g5 zL1) ++ zW tc g6 (zL2 0)) ++ zW tc g7 (zL2 1)) ++ zW tc g8 zL8)) := hD
  refine lv_aload_n hx hb dX10_init_103 rfl (lv_at hl 0 rfl) ?_
  refine va_new (ci := 7) (fs := [.null, .null, .null]) (C := RX7) (T := TX7) (N := 3) (own := RX10) (index := 64) hx hb hts z_lw_7 tyX7 tyX7_ok hown (hts _ (z_has_in (kj := 2202) (by decide +kernel))) (hts _ (z_has_in (kj := 2203) (by decide +kernel))) (hts _ (z_has_in (kj := 1011) (by decide +kernel))) hK hP hD hS hA rfl dfX7 (by omega) (by omega) dX10_init_104 (fun q H hP hD hS => ?_)
  refine lv_dup hx hb dX10_init_107 rfl ?_
  refine zn_back (va_runIN (As := []) (rest := [.ref q, .ref h0]) ⟨hx, hb, hml, hown, hts⟩ (n_X7 l tc D q H.size) ⟨va_cnB 0 hts (z_TB_cons (z_has_in (kj := 2206) (by decide +kernel))) rfl rfl rfl hN.2.2.2.2.2.2.2.1 (hts _ (z_has_in (kj := 1011) (by decide +kernel))) ⟨by decide, by decide, by decide +kernel⟩ ⟨by show 1 + 1 ≤ _; omega, by show 8 + (1 + 11) + 12 ≤ _; omega⟩, rfl, (hts _ (z_has_in (kj := 2205) (by decide +kernel)))⟩ ⟨zn_blind (fun _ _ _ _ => trivial), zn_pre (fun _ _ => trivial) hK hP⟩ rfl rfl hl.1 rfl (lv_room (Nat.le_of_ble_eq_true rfl)) dX10_init_108 ⟨by omega, by omega⟩) hP hD hS hA (fun g9 H locs hg hP2 hD2 hS2 => ?_)
  subst hg
  have hS := hS2
  have hP : va_P D vwCl ((h0, .inr (10, [.ref (g0 (9, 0)), .ref (g1 (9, 1)), .ref (g2 (4, 62)), .ref (g3 (3, 0)), .ref (g4 (0, 0)), .ref (g5 (1, 0)), .ref (g6 (2, 0)), .ref (g7 (2, 1)), .ref (g8 (8, 0)), .null])) :: (((((((((zW tc g0 (zLW 0) ++ zW tc g1 (zLW 1)) ++ zW tc g2 (zL4 62)) ++ zW tc g3 zL3) ++ zW tc g4 zL0) ++ zW tc g5 zL1) ++ zW tc g6 (zL2 0)) ++ zW tc g7 (zL2 1)) ++ zW tc g8 zL8) ++ zW tc g9 zL7)) H := hP2
  have hD : va_D A ((h0, .inr (10, [.ref (g0 (9, 0)), .ref (g1 (9, 1)), .ref (g2 (4, 62)), .ref (g3 (3, 0)), .ref (g4 (0, 0)), .ref (g5 (1, 0)), .ref (g6 (2, 0)), .ref (g7 (2, 1)), .ref (g8 (8, 0)), .null])) :: (((((((((zW tc g0 (zLW 0) ++ zW tc g1 (zLW 1)) ++ zW tc g2 (zL4 62)) ++ zW tc g3 zL3) ++ zW tc g4 zL0) ++ zW tc g5 zL1) ++ zW tc g6 (zL2 0)) ++ zW tc g7 (zL2 1)) ++ zW tc g8 zL8) ++ zW tc g9 zL7)) := hD2
  refine va_putF (D := D) (ci := 10) (v := .ref (g9 (7, 0))) (ty := .object "FareNumbers$Walks") (C := RX10) (T := TX10) (N := 10) (own := RX10) (ref := RX10) (index := 67) hx hb hts z_lw_10 tyX10 tyX10_ok nmX10 hown hK hP hD hS 0 rfl rfl 9 (by decide) (hts _ (z_has_in (kj := 2227) (by decide +kernel))) (fun _ h9 => h9) rfl hin rfl (tyX10_ok 9 (by decide)) rfl rfl (Nat.le_of_ble_eq_true rfl) dX10_init_111 (fun H locs hP hD hS => ?_)
  have hP : va_P D vwCl ((h0, .inr (10, [.ref (g0 (9, 0)), .ref (g1 (9, 1)), .ref (g2 (4, 62)), .ref (g3 (3, 0)), .ref (g4 (0, 0)), .ref (g5 (1, 0)), .ref (g6 (2, 0)), .ref (g7 (2, 1)), .ref (g8 (8, 0)), .ref (g9 (7, 0))])) :: (((((((((zW tc g0 (zLW 0) ++ zW tc g1 (zLW 1)) ++ zW tc g2 (zL4 62)) ++ zW tc g3 zL3) ++ zW tc g4 zL0) ++ zW tc g5 zL1) ++ zW tc g6 (zL2 0)) ++ zW tc g7 (zL2 1)) ++ zW tc g8 zL8) ++ zW tc g9 zL7)) H := hP
  have hD : va_D A ((h0, .inr (10, [.ref (g0 (9, 0)), .ref (g1 (9, 1)), .ref (g2 (4, 62)), .ref (g3 (3, 0)), .ref (g4 (0, 0)), .ref (g5 (1, 0)), .ref (g6 (2, 0)), .ref (g7 (2, 1)), .ref (g8 (8, 0)), .ref (g9 (7, 0))])) :: (((((((((zW tc g0 (zLW 0) ++ zW tc g1 (zLW 1)) ++ zW tc g2 (zL4 62)) ++ zW tc g3 zL3) ++ zW tc g4 zL0) ++ zW tc g5 zL1) ++ zW tc g6 (zL2 0)) ++ zW tc g7 (zL2 1)) ++ zW tc g8 zL8) ++ zW tc g9 zL7)) := hD
  obtain ⟨ad, d1, d2, d3⟩ := zW_F hP hD
  refine W.widen (k := 302) (n := 6646) (by omega) (by omega) ?_
  exact W.vret hx hb hr (fun t ht hW => ⟨⟨ad, rfl, d1, by rw [ht]; exact d2, d3⟩, hS.F ht⟩) hS.2.2 dX10_init_114
