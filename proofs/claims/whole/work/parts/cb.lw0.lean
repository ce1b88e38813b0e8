/-! THE CLAIM OUT OF ONE WALK OF THE LAW'S BODY. Your part is whole_start (and what it stands on); all else here is the same for every law, but numbers. -/
def R_law : String := "FareNumbersLaw"
def lw_P (b : Addr) (xs : List Int32) (args : Array Value) (s : State) : Prop := args = #[.ref b] ∧ s.IntsAt b xs ∧ xs.length ≤ 3072 ∧ (Jvm.Cond.and given_1 narrow_1).before args s = true
def lw_Q (_ : Array Value) (s : State) (o : Outcome) (t : State) : Prop := o = .returned (some (.int 1)) ∧ Framed s o t [] 600000 7302250
def lw_Z (below : List Frame) (a : Array Value) (s : State) : State → Prop := fun t => ∃ o, t.status = .running ∧ Ended t below o ∧ lw_Q a s o t
/-- the law's own end, with 1 on the stack, nothing written that was there before, its room as the claim has it -/
theorem lw_ret {p : Program} {l : Launch} {e : Env} {s : State} {m : MethodId} {below : List Frame} {meth : Method} {c : Code} {b : Nat} (hx : p.tables.exec = Jvm.exec) (hb : c.code = code) (hr : meth.sig.returnType = ret) (hlocks : meth.locks = false) {pc : Nat} {H : Heap} {ls : Array Slot} (hdg : decode code pc = .ok (.ireturn, 1)) : W p l e room_1 s m #[Value.ref b] below meth c H [] 600000 7302250 (lw_Z below #[Value.ref b] s) (F0 m pc ls [.int 1]) := by
  intro T hT X
  obtain ⟨fs, hret, hrun, hended, hW, hframe⟩ := X.leave (v := some (.int 1)) (hlocks := hlocks) (fun h => by rw [hr] at h; cases h)
  have hmeth' : T.vm.method? m = some meth := X.method'
  refine ⟨T.setFrames fs, ?_, .returned (some (.int 1)), hrun, hended, rfl, ⟨_, rfl⟩, hW, hframe⟩
  jvm_step X.here [X.here.top, hx, hb, hdg, hmeth', hr, ret, narrow_b1]
  (try refine ⟨rfl, ?_⟩); (try refine ⟨rfl, ?_⟩)
  first | (intro acts; rw [hret _ acts rfl rfl rfl]) | rw [hret _ _ rfl rfl rfl]
  exact Steps.refl _
/-- what holds at the law's entry: the machine, the code, the tables' words (any of lw_tbl by 'hts w (by decide +kernel)'), the script of L ints xs at the cell b, what the Statement gives of the start (any of its parts by flat_of_before) -/
def lw_At (p : Program) (s : State) (m : MethodId) (meth : Method) (c : Code) (b L : Nat) (xs : Nat → Int32) : Prop :=
  p.tables.exec = Jvm.exec ∧ c.code = code ∧ meth.sig.returnType = ret ∧ c.maxLocals = 4 ∧ s.vm.findClass R_law = some m.cls ∧ (∀ w ∈ lw_tbl, w.before #[Value.ref b] s = true) ∧ va_X b L xs s s.heap ∧ b < s.heap.size ∧ meth.locks = false ∧ (Jvm.Cond.and given_1 narrow_1).before #[Value.ref b] s = true
/-! the law: words, its rows, its cases -/
/-- a row of the law's code -/
def dk (pc : Nat) (x : Instr) (n : Nat) : Bool := decide (decode code pc = .ok (x, n))
theorem dk_i {pc : Nat} {x : Instr} {n : Nat} (h : dk pc x n = true) : decode code pc = .ok (x, n) := of_decide_eq_true h
/-- the rows that lay arguments from the script -/
def lw_ar (pc : Nat) : List Nat → Bool
  | [] => true
  | k :: ks => dk pc (.aload_n 0) 1 && (dk (pc + 1) (.iload_n 3) 1 && (dk (pc + 2) (.iconst (k : Int)) 1 && (dk (pc + 3) .iadd 1 && (dk (pc + 4) .iaload 1 && (Nat.ble k 5 && lw_ar (pc + 5) ks)))))
/-- a call of the law: its method, its words -/
def lw_mk (a t idx na pl : Nat) : Bool := match z_MT[a]?, z_MD[a]? with
  | some (_, y, _, _, _, na1, st), some _ => Nat.beq na na1 && (!st && (decide (y.cls = z_cn t) && z_has pl (.methodLink R_law idx y)))
  | _, _ => false
/-- a case of the law -/
def lw_ck (pc a b i1 i2 : Nat) (ks : List Nat) (n : Nat) (lg : Bool) (p1 p2 : Nat) : Bool :=
  dk pc (.aload_n 1) 1 && (lw_ar (pc + 1) ks && (dk (pc + 1 + 5 * n) (.invokevirtual i1) 3 && (dk (pc + 1 + 5 * n + 3) (.aload_n 2) 1 && (lw_ar (pc + 1 + 5 * n + 3 + 1) ks && (dk (pc + 1 + 5 * n + 3 + 1 + 5 * n) (.invokevirtual i2) 3 &&
  ((match lg with
    | true => dk (pc + 1 + 5 * n + 3 + 1 + 5 * n + 3) .lcmp 1 && dk (pc + 1 + 5 * n + 3 + 1 + 5 * n + 3 + 1) (.ifCond .eq (1345 - ((pc + 1 + 5 * n + 3 + 1 + 5 * n + 3 + 1 : Nat) : Int))) 3
    | false => dk (pc + 1 + 5 * n + 3 + 1 + 5 * n + 3) (.if_icmp .eq (1345 - ((pc + 1 + 5 * n + 3 + 1 + 5 * n + 3 : Nat) : Int))) 3) &&
  (Nat.beq n ks.length && (lw_mk a 10 i1 n p1 && lw_mk b 11 i2 n p2))))))))
theorem lw_ic : ∀ k : Nat, k ≤ 5 → Int32.ofInt (k : Int) = nI k := by decide +kernel
section LW0
variable {p : Program} {l : Launch} {e : Env} {R : Room} {s : State} {m : MethodId} {args : Array Value} {below : List Frame} {meth : Method} {c : Code} {QQ : State → Prop}
variable {tc : Nat → ClassId} {ad : Nat × Nat → Nat} {D : va_G} {cells slots : Nat}
theorem lw_callK {H : Heap} {locs : List Loc} {pc : Nat} {rl : Array Slot} {st0 rest : List Value} {a : Array Value} {Qx : z_RT} (hr : va_Run p l e R s m args below meth c H locs cells slots 0 0 (F0 m pc rl st0) rest (z_Qc tc ad D Qx a) (z_A ad)) (hS : va_S (z_A ad) s.heap H locs)
    (kk : ∀ (v : z_V) (r : Option z_AV) (H1 : Heap) (locs1 : List Loc), Qx v r → z_okJ v → va_P D vwCl (z_ws tc ad v) H1 → va_S (z_A ad) s.heap H1 locs1 → W p l e R s m args below meth c H1 locs1 cells slots QQ (F0 m (pc + 3) rl ((r.map (z_cv ad)).toList ++ rest))) :
    W p l e R s m args below meth c H locs cells slots QQ (F0 m pc rl st0) := by
  intro T hT X
  obtain ⟨v, st₀, t, T2, L, h0, X2, hL, e1, e2, ⟨⟨v2, r, hv, hq, hok, hP, hJ⟩, hz, hk⟩, st⟩ := hr T hT X
  cases hv
  rw [h0] at hz hk
  obtain ⟨t2, a1, b1⟩ := kk v2 r T2.heap (locs ++ L) hq hJ (by rw [e1]; exact hP)
    ⟨Nat.le_trans hS.1 (by rw [e1]; exact hz), fun q h1 h2 => by rw [e1, hk q (Nat.lt_of_lt_of_le h1 hS.1) h2]; exact hS.2.1 q h1 h2, fun q hq => by
      rcases List.mem_append.mp hq with h | h
      · exact hS.2.2 q h
      · exact hL q h⟩ T2 rfl X2
  exact ⟨t2, st t2 a1, b1⟩
/-- what holds through the law's walk -/
def lw_C (p : Program) (s : State) (m : MethodId) (c : Code) (args : Array Value) (R : Room) (tc : Nat → ClassId) (ad : Nat × Nat → Nat) (D : va_G) (b L : Nat) (xs : Nat → Int32) : Prop := p.tables.exec = Jvm.exec ∧ c.code = code ∧ c.maxLocals = 4 ∧ s.vm.findClass R_law = some m.cls ∧ (∀ w ∈ z_TB, w.before args s = true) ∧ va_K D vwCl (z_tys tc) s ∧ z_SC (z_A ad) (ad (99, 0)) s s.heap ∧ z_inj ad ∧ 109 ≤ R.frames ∧ 8400 ≤ R.locals ∧ va_X b L xs s s.heap ∧ b < s.heap.size ∧ ¬ z_A ad b
theorem lw_call {b L : Nat} {xs : Nat → Int32} (C : lw_C p s m c args R tc ad D b L xs) (hcs : cells ≤ R.cells ∧ slots ≤ R.slots) {a t idx na pl : Nat} (hm : lw_mk a t idx na pl = true) (ht : t < 12) (hmem : (t, 0) ∈ z_MK) {As : List z_AV} (hAs : As.length = na) (hok : z_oks As) {v : z_V} {Qx : z_RT} (hC : z_C 100 a (vR t 0 :: As) v Qx) (hJ : z_okJ v) {H : Heap} {locs : List Loc} (hP : va_P D vwCl (z_ws tc ad v) H) (hS : va_S (z_A ad) s.heap H locs) {rl : Array Slot} (hl4 : rl.size = 4) {rest : List Value} (hrest : (rest.map fun v => v.category).sum ≤ 8) {pc : Nat} (hdg : decode code pc = .ok (.invokevirtual idx, 3))
    (kk : ∀ (v : z_V) (r : Option z_AV) (H1 : Heap) (locs1 : List Loc), Qx v r → z_okJ v → va_P D vwCl (z_ws tc ad v) H1 → va_S (z_A ad) s.heap H1 locs1 → W p l e R s m args below meth c H1 locs1 cells slots QQ (F0 m (pc + 3) rl ((r.map (z_cv ad)).toList ++ rest))) :
    W p l e R s m args below meth c H locs cells slots QQ (F0 m pc rl ((As.map (z_cv ad)).reverse ++ .ref (ad (t, 0)) :: rest)) := by
  obtain ⟨hx, hb, hml, hown, hts, hK, hSC, hinj, hfr, hlo, -, -, -⟩ := C
  unfold lw_mk at hm
  split at hm
  · rename_i own y bytes nL ret na1 st D0 hM hD
    simp only [Bool.and_eq_true, decide_eq_true_eq] at hm
    obtain ⟨h1, h2, h3, h4⟩ := hm
    have h1 : na = na1 := Nat.eq_of_beq_eq_true h1
    subst h1
    have h2 : st = false := by simpa using h2
    subst h2
    obtain ⟨p1, p2, p3, p4, ps, hg⟩ := z_all a (z_MTlt hM)
    unfold z_pair at hg
    rw [hM, hD] at hg
    simp only [Bool.and_eq_true, z_mck, decide_eq_true_eq] at hg
    obtain ⟨⟨g3, g4, g5, g6, g7, g8, g9, g10, g11, g12, g13, g14⟩, -⟩ := hg
    have hMet := z_Sd_all 100 a (vR t 0 :: As) v _ hC _ hM l tc ad D hinj hJ ⟨Or.inl hmem, hok⟩ (by simpa using hAs)
    have hcode := z_has_in g11
    obtain ⟨C, T, ty0, hc, hTT, hcn, -, -, -⟩ := z_cls t ht
    obtain ⟨i0, hi, -⟩ := z_ws_at (tc := tc) (ad := ad) (v := v) hmem
    rw [z_cell_o ht] at hi
    have hrecv := va_recv hK hP hc hi
    have hCy : y.cls = C := h3.trans hcn
    refine lw_callK (va_runV (e := e) (below := below) (meth := meth) (locs := locs) (C := y.cls) (b := ad (t, 0)) (As := As.map (z_cv ad)) (rest := rest) (n := na) ⟨hx, hb, hml, hown, hts⟩ hMet ⟨callB_of na hts (z_wsm_goodT _ hcode) rfl rfl rfl (hts _ (z_has_in g12)) (hts _ (z_has_in h4)) ⟨g4, g5, g6⟩ ⟨by show 100 + 8 + 1 ≤ _; omega, by
        show 8 + (nL + 11) + (80 * 100 + 300) ≤ _
        have := Nat.le_of_ble_eq_true g9
        omega⟩, hts _ (z_has_in g13), hts _ (z_has_in g14)⟩ ⟨z_Pc_blind, by rw [hCy]; exact hrecv, z_Pc_at hK hSC hP hS⟩ rfl (by simpa using hAs) hl4 rfl (lv_room hrest) hdg ⟨hcs.1, hcs.2⟩) hS kk
  · exact absurd hm (by decide)
theorem lw_push {b L : Nat} {xs : Nat → Int32} (C : lw_C p s m c args R tc ad D b L xs) {H : Heap} {locs : List Loc} (hS : va_S (z_A ad) s.heap H locs) {ls : Array Slot} {i q1 q2 : Nat} (hl : lv_has ls 4 [(0, .ref b), (1, .ref q1), (2, .ref q2), (3, .int (nI i))]) (hi : i + 6 ≤ L) (hL : L ≤ 3072) : ∀ (ks : List Nat) (pc : Nat) (st : List Value), lw_ar pc ks = true → W p l e R s m args below meth c H locs cells slots QQ (F0 m (pc + 5 * ks.length) ls ((ks.map (fun k => Value.int (xs (i + k)))).reverse ++ st)) → W p l e R s m args below meth c H locs cells slots QQ (F0 m pc ls st) := by
  obtain ⟨hx, hb, hml, hown, hts, hK, hSC, hinj, hfr, hlo, hX, hbl, hbA⟩ := C
  intro ks
  induction ks with
  | nil =>
    intro pc st _ h
    rw [List.length_nil, Nat.mul_zero, Nat.add_zero] at h
    exact h
  | cons k ks ih =>
    intro pc st hk h
    simp only [lw_ar, Bool.and_eq_true] at hk
    obtain ⟨h1, h2, h3, h4, h5, h6, h7⟩ := hk
    have h6 := Nat.le_of_ble_eq_true h6
    refine lv_aload_n hx hb (dk_i h1) rfl (lv_at hl 0 rfl) ?_
    refine lv_iload_n hx hb (dk_i h2) rfl (lv_at hl 3 rfl) ?_
    refine lv_iconst (v := nI k) hx hb (dk_i h3) (lw_ic k h6) ?_
    refine lv_iadd hx hb (dk_i h4) ?_
    rw [nI_add]
    refine va_sld hx hb hX hbl hbA hS (vp_in_nI (show i + k < L by omega) (by omega)) (dk_i h5) ?_
    rw [nI_clamp (by omega)]
    refine ih (pc + 5) _ h7 ?_
    have e1 : pc + 5 + 5 * ks.length = pc + 5 * (k :: ks).length := by rw [List.length_cons]; omega
    rw [e1]
    have e2 : (ks.map (fun k => Value.int (xs (i + k)))).reverse ++ Value.int (xs (i + k)) :: st = ((k :: ks).map (fun k => Value.int (xs (i + k)))).reverse ++ st := by
      rw [List.map_cons, List.reverse_cons, List.append_assoc]
      rfl
    rw [e2]
    exact h
theorem lw_oks {f : Nat → Int32} : ∀ ks : List Nat, z_oks (ks.map (fun k => vI (f k)))
  | [] => trivial
  | _ :: ks => ⟨trivial, lw_oks ks⟩
theorem lw_cvs {ad : Nat × Nat → Nat} {f : Nat → Int32} (ks : List Nat) : (ks.map (fun k => vI (f k))).map (z_cv ad) = ks.map (fun k => Value.int (f k)) := by
  rw [List.map_map]
  rfl
theorem lw_case {b L i : Nat} {xs : Nat → Int32} (C : lw_C p s m c args R tc ad D b L xs) (hcs : cells ≤ R.cells ∧ slots ≤ R.slots) (hi : i + 6 ≤ L) (hL : L ≤ 3072) {pc a b2 i1 i2 n p1 p2 : Nat} {ks : List Nat} (hk : lw_ck pc a b2 i1 i2 ks n false p1 p2 = true) {v : z_V} (h : PR 100 a b2 (ks.map (fun k => vI (xs (i + k)))) v) (hJ : z_okJ v) {H : Heap} {locs : List Loc} (hP : va_P D vwCl (z_ws tc ad v) H) (hS : va_S (z_A ad) s.heap H locs) {ls : Array Slot} (hl : lv_has ls 4 [(0, .ref b), (1, .ref (ad (10, 0))), (2, .ref (ad (11, 0))), (3, .int (nI i))])
    (kk : ∀ (w : z_V) (H1 : Heap) (locs1 : List Loc), Inv w → z_okJ w → va_P D vwCl (z_ws tc ad w) H1 → va_S (z_A ad) s.heap H1 locs1 → W p l e R s m args below meth c H1 locs1 cells slots QQ (F0 m 1345 ls [])) : W p l e R s m args below meth c H locs cells slots QQ (F0 m pc ls []) := by
  obtain ⟨hx, hb, -⟩ := id C
  simp only [lw_ck, Bool.and_eq_true] at hk
  obtain ⟨k1, k2, k3, k4, k5, k6, k7, k8, k9, k10⟩ := hk
  have k8 := Nat.eq_of_beq_eq_true k8
  subst k8
  refine lv_aload_n hx hb (dk_i k1) rfl (lv_at hl 1 rfl) ?_
  refine lw_push C hS hl hi hL ks _ _ k2 ?_
  rw [← lw_cvs (ad := ad)]
  refine lw_call C hcs k9 (by decide) (by decide +kernel) (by rw [List.length_map]) (lw_oks _) h hJ hP hS hl.1 (Nat.zero_le _) (dk_i k3) (fun v1 r H1 locs1 hq hJ1 hP1 hS1 => ?_)
  obtain ⟨x, rfl, hC2⟩ := hq
  refine lv_aload_n hx hb (dk_i k4) rfl (lv_at hl 2 rfl) ?_
  refine lw_push C hS1 hl hi hL ks _ _ k5 ?_
  rw [← lw_cvs (ad := ad)]
  refine lw_call C hcs k10 (by decide) (by decide +kernel) (by rw [List.length_map]) (lw_oks _) hC2 hJ1 hP1 hS1 hl.1 (by show 1 + 0 ≤ 8; decide) (dk_i k6) (fun v2 r2 H2 locs2 hq2 hJ2 hP2 hS2 => ?_)
  obtain ⟨rfl, hI⟩ := hq2
  exact lv_icmp_eq (tgt := 1345) hx hb (dk_i k7) (by omega) (fun _ => kk v2 H2 locs2 hI hJ2 hP2 hS2) (fun z => absurd rfl z)
theorem lg_cmp_self (x : Int64) : lg_cmp x x = 0 := by simp [lg_cmp]
theorem lw_caseL {b L i : Nat} {xs : Nat → Int32} (C : lw_C p s m c args R tc ad D b L xs) (hcs : cells ≤ R.cells ∧ slots ≤ R.slots) (hi : i + 6 ≤ L) (hL : L ≤ 3072) {pc a b2 i1 i2 n p1 p2 : Nat} {ks : List Nat} (hk : lw_ck pc a b2 i1 i2 ks n true p1 p2 = true) {v : z_V} (h : PRL 100 a b2 (ks.map (fun k => vI (xs (i + k)))) v) (hJ : z_okJ v) {H : Heap} {locs : List Loc} (hP : va_P D vwCl (z_ws tc ad v) H) (hS : va_S (z_A ad) s.heap H locs) {ls : Array Slot} (hl : lv_has ls 4 [(0, .ref b), (1, .ref (ad (10, 0))), (2, .ref (ad (11, 0))), (3, .int (nI i))])
    (kk : ∀ (w : z_V) (H1 : Heap) (locs1 : List Loc), Inv w → z_okJ w → va_P D vwCl (z_ws tc ad w) H1 → va_S (z_A ad) s.heap H1 locs1 → W p l e R s m args below meth c H1 locs1 cells slots QQ (F0 m 1345 ls [])) : W p l e R s m args below meth c H locs cells slots QQ (F0 m pc ls []) := by
  obtain ⟨hx, hb, -⟩ := id C
  simp only [lw_ck, Bool.and_eq_true] at hk
  obtain ⟨k1, k2, k3, k4, k5, k6, ⟨k7, k7b⟩, k8, k9, k10⟩ := hk
  have k8 := Nat.eq_of_beq_eq_true k8
  subst k8
  refine lv_aload_n hx hb (dk_i k1) rfl (lv_at hl 1 rfl) ?_
  refine lw_push C hS hl hi hL ks _ _ k2 ?_
  rw [← lw_cvs (ad := ad)]
  refine lw_call C hcs k9 (by decide) (by decide +kernel) (by rw [List.length_map]) (lw_oks _) h hJ hP hS hl.1 (Nat.zero_le _) (dk_i k3) (fun v1 r H1 locs1 hq hJ1 hP1 hS1 => ?_)
  obtain ⟨x, rfl, hC2⟩ := hq
  refine lv_aload_n hx hb (dk_i k4) rfl (lv_at hl 2 rfl) ?_
  refine lw_push C hS1 hl hi hL ks _ _ k5 ?_
  rw [← lw_cvs (ad := ad)]
  refine lw_call C hcs k10 (by decide) (by decide +kernel) (by rw [List.length_map]) (lw_oks _) hC2 hJ1 hP1 hS1 hl.1 (by show 2 + 0 ≤ 8; decide) (dk_i k6) (fun v2 r2 H2 locs2 hq2 hJ2 hP2 hS2 => ?_)
  obtain ⟨rfl, hI⟩ := hq2
  refine W.lcmp hx hb (dk_i k7) ?_
  rw [lg_cmp_self]
  exact lv_if_eq (tgt := 1345) hx hb (dk_i k7b) (by omega) (fun _ => kk v2 H2 locs2 hI hJ2 hP2 hS2) (fun z => absurd rfl z)
end LW0
