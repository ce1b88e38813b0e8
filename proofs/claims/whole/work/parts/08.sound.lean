theorem z_MTlt {a : Nat} {M : z_MR} (h : z_MT[a]? = some M) : a < 318 := by
  have h1 : a < z_MT.length := (List.getElem?_eq_some_iff.mp h).1
  have h2 : z_MT.length = 318 := by decide +kernel
  omega
theorem z_wsm_goodT (b : z_MR) (hb : Cond.code b.2.1 b.2.2.1 b.2.2.2.1 b.2.2.2.2.1 ∈ z_TB) : GoodIn z_TB (z_wsm b) := by
  intro w hw
  rcases List.mem_cons.mp hw with rfl | hw
  · exact z_TB_self _ hb
  · exact z_TB_self _ hw
theorem z_TB_cons {w0 : Cond} (h : w0 ∈ z_TB) : GoodIn z_TB (w0 :: z_TB) := by
  intro w hw
  rcases List.mem_cons.mp hw with rfl | hw
  · exact z_TB_self _ h
  · exact z_TB_self _ hw
theorem z_ch_ok : Cond.code yJ0_charAt_5068e cJ0_charAt_5068e 2 (some .char) ∈ z_TB ∧ Cond.initialized "java/lang/String" ∈ z_TB ∧ Cond.instanceMethod yJ0_charAt_5068e ∈ z_TB ∧ Cond.selects "java/lang/String" yJ0_charAt_5068e yJ0_charAt_5068e ∈ z_TB := ⟨z_has_in (kj := 3056) (by decide +kernel), z_has_in (kj := 1013) (by decide +kernel), z_has_in (kj := 3054) (by decide +kernel), z_has_in (kj := 3055) (by decide +kernel)⟩
theorem z_in_ok {j : Int32} {n : Nat} (h : z_in j n = true) : vp_in j n := of_decide_eq_true (p := ¬ (j < 0 ∨ n ≤ j.toNatClampNeg)) h
theorem z_sl_i {K : Nat → Prop} {pc : Nat} {y : Int32} {d : Int} : ∀ {os : List (Int × Int)}, (∀ x ∈ os, -1000 ≤ x.1 ∧ x.1 ≤ 1000) → z_sl K pc y d os → K (z_tg pc (Op.lookupswitch.offset os d y.toInt))
  | [], _, h => h
  | (k, o) :: os, hk, h => by
    have hk0 := hk (k, o) List.mem_cons_self
    have h3 : (Int32.ofInt k).toInt = k := Int32.toInt_ofInt_of_le (by simp; omega) (by simp; omega)
    rw [Op.lookupswitch.offset_cons]
    by_cases hy : y = Int32.ofInt k
    · rw [if_pos (by rw [hy, h3])]
      exact h.1 hy
    · rw [if_neg (fun q => hy (Int32.toInt_inj.mp (q.symm.trans h3.symm)))]
      exact z_sl_i (fun x hx => hk x (List.mem_cons_of_mem _ hx)) (h.2 hy)
theorem z_map_app {ad : Nat × Nat → Nat} (r : Option z_AV) (l : List z_AV) : (r.toList ++ l).map (z_cv ad) = (r.map (z_cv ad)).toList ++ l.map (z_cv ad) := by
  cases r <;> simp
theorem z_oks_res {r : Option z_AV} {l : List z_AV} (h1 : z_okr r) (h2 : z_oks l) : z_oks (r.toList ++ l) := by
  cases r with
  | none => exact h2
  | some x => exact ⟨h1, h2⟩
theorem z_off_mem {pc : Nat} {d k : Int} : ∀ {os : List (Int × Int)}, 0 ≤ (pc : Int) + d → (∀ x ∈ os, 0 ≤ (pc : Int) + x.2) → 0 ≤ (pc : Int) + Op.lookupswitch.offset os d k
  | [], h, _ => h
  | (a, o) :: os, h, hk => by
    rw [Op.lookupswitch.offset_cons]
    split
    · exact hk (a, o) List.mem_cons_self
    · exact z_off_mem h (fun x hx => hk x (List.mem_cons_of_mem _ hx))
/-- charAt of the launch's text -/
def z_Chs : Prop := ∀ (l : Launch) (tc : Nat → ClassId) (ad : Nat × Nat → Nat) (D : va_G) (v : z_V) (j : Int32), z_okJ v → z_in j z_wln = true →
  Met l yJ0_charAt_5068e (Cond.code yJ0_charAt_5068e cJ0_charAt_5068e 2 (some .char) :: z_TB) { frames := 5, cells := 0, slots := 0, locals := 200 } (z_Pc tc ad D [vR 99 0, vI j] v) (z_Qc tc ad D (fun v' r => v' = v ∧ r = some (vI (z_wch (n_ j))))) 0 0 (z_A ad)
section ZX
variable {p : Program} {l : Launch} {e : Env} {R : Room} {s : State} {m : MethodId} {args : Array Value} {below : List Frame} {meth : Method} {c : Code}
variable {cc : ByteArray} {own : String} {nL d rk : Nat} {tc : Nat → ClassId} {ad : Nat × Nat → Nat} {D : va_G} {QR : z_RT} {ret : Option FieldType}
/-- the callee's contract, told to the caller -/
theorem z_pk {own : String} {pc i a b pl : Nat} {ci : Int32} {cl : Int64} (h : z_ick own pc (.invokestatic i) a b ci cl pl = true) (ha : Nat.blt a 900 = false) : z_has pl (.methodLink own i (z_prim a)) = true := by
  have hck : (match Nat.blt a 900 with
    | false => Nat.blt a 907 && !(Nat.beq a 905) && z_has pl (.methodLink own i (z_prim a))
    | true => match z_MT[a]?, z_MD[a]? with
      | some (_, y, _, nL, _, na, st), some (rk, nL', _) => z_has pl (.methodLink own i y) && (st && (Nat.beq (b % 16) na && (Nat.beq (b / 16) rk && Nat.beq nL nL')))
      | _, _ => false) = true := h
  rw [ha] at hck
  dsimp only at hck
  rw [Bool.and_eq_true] at hck
  exact hck.2
theorem z_pk7 {own : String} {pc i b pl : Nat} {ci : Int32} {cl : Int64} (h : z_ick own pc (.invokevirtual i) 907 b ci cl pl = true) : z_has pl (.methodLink own i yJ0_charAt_5068e) = true := by
  have hck : (match Nat.blt 907 900 with
    | false => Nat.beq 907 907 && z_has pl (.methodLink own i yJ0_charAt_5068e)
    | true => match z_MT[907]?, z_MD[907]? with
      | some (_, y, _, nL, _, na, st), some (rk, nL', _) => z_has pl (.methodLink own i y) && (!st && (Nat.beq (b % 16) na && (Nat.beq (b / 16 % 16) rk && (Nat.beq nL nL' && (Nat.blt (b / 256) 12 && decide (y.cls = z_cn (b / 256)))))))
      | _, _ => false) = true := h
  rw [show Nat.blt 907 900 = false from rfl] at hck
  dsimp only at hck
  rw [Bool.and_eq_true] at hck
  exact hck.2
set_option maxRecDepth 100000 in
theorem z_stS (hSd : z_Sd d) (hx : p.tables.exec = Jvm.exec) (hb : c.code = cc) (hml : c.maxLocals = nL) (hown : s.vm.findClass own = some m.cls) (hts : ∀ w ∈ z_TB, w.before args s = true) (hK : va_K D vwCl (z_tys tc) s) (hSC : z_SC (z_A ad) (ad (99, 0)) s s.heap) (hinj : z_inj ad) (hfr : d + 9 ≤ R.frames) (hlo : 80 * d + 380 ≤ R.locals)
    {a i pl b pc : Nat} {H : Heap} {locs : List Loc} {rl : Array Slot} {ls : List (Option z_AV)} {stk : List z_AV} {v : z_V} (hL : z_LR ad nL ls rl) (hol : z_okl ls) (hos : z_oks stk) (hJ : z_okJ v) (hP : va_P D vwCl (z_ws tc ad v) H) (hS : va_S (z_A ad) s.heap H locs) {As r : List z_AV} (htk : z_tk (b % 16) [] stk = some (As, r)) (hcs : Nat.ble (z_cs r) 8 = true)
    (ha : Nat.blt a 900 = true) (hck : z_ick own pc (.invokestatic i) a b 0 0 pl = true) (hdg : decode cc pc = .ok (.invokestatic i, 3)) {K : z_KT} (hKs : ∀ pc ls stk v, K pc ls stk v → z_SP p l e R s m args below meth c nL tc ad D QR pc ls stk v)
    (hC : z_C d a As v (fun v' o => z_rt (b / 16) o (fun rs => K (pc + 3) ls (rs ++ r) v'))) :
    W p l e R s m args below meth c H locs 0 0 (MQ below (z_Qc tc ad D QR) args s 0 0 (z_A ad)) (F0 m pc rl (stk.map (z_cv ad))) := by
  have hck : (match Nat.blt a 900 with
    | false => Nat.blt a 907 && !(Nat.beq a 905) && z_has pl (.methodLink own i (z_prim a))
    | true => match z_MT[a]?, z_MD[a]? with
      | some (_, y, _, nL, _, na, st), some (rk, nL', _) => z_has pl (.methodLink own i y) && (st && (Nat.beq (b % 16) na && (Nat.beq (b / 16) rk && Nat.beq nL nL')))
      | _, _ => false) = true := hck
  rw [ha] at hck
  dsimp only at hck
  split at hck
  · rename_i own1 y bytes nL1 ret1 na st rk1 nL2 cd1 hM hD
    simp only [Bool.and_eq_true] at hck
    obtain ⟨hl, hst, hna, -, -⟩ := hck
    have hst : st = true := hst
    subst hst
    have hna : b % 16 = na := Nat.eq_of_beq_eq_true hna
    obtain ⟨la, h1, h2, h3⟩ := z_tk_spec htk
    rw [List.append_nil] at h2
    subst h2
    subst h3
    obtain ⟨g1, g2⟩ := z_oks_app.mp hos
    have g1 := z_oks_rev.mp g1
    obtain ⟨p1, p2, p3, p4, ps, hg⟩ := z_all a (by simpa using Nat.lt_of_lt_of_le (z_MTlt hM) (Nat.le_refl _))
    unfold z_pair at hg
    rw [hM, hD] at hg
    simp only [Bool.and_eq_true, z_mck, decide_eq_true_eq] at hg
    obtain ⟨⟨g3, g4, g5, g6, g7, g8, g9, g10, g11, g12, g13⟩, -⟩ := hg
    have hMet := hSd a As v _ hC _ hM l tc ad D hinj hJ g1 (by simpa using h1.trans hna)
    have hcode := z_has_in g11
    have hW := va_runS (e := e) (below := below) (meth := meth) (locs := locs) (As := As.map (z_cv ad)) (rest := r.map (z_cv ad)) (g := F0 m pc rl ((As.reverse ++ r).map (z_cv ad))) (n := na) ⟨hx, hb, hml, hown, hts⟩ hMet
      ⟨callB_of na hts (z_wsm_goodT _ hcode) rfl rfl rfl (hts _ (z_has_in g12)) (hts _ (z_has_in hl)) ⟨g4, g5, g6⟩ ⟨by show d + 8 + 1 ≤ _; omega, by
        show 8 + (nL1 + 11) + (80 * d + 300) ≤ _
        have := Nat.le_of_ble_eq_true g9
        omega⟩, hts _ (z_has_in g13)⟩ ⟨z_Pc_blind, z_Pc_at hK hSC hP hS⟩ rfl (by simpa using h1.trans hna) hL.1 (by simp [F0]) (lv_room (by rw [z_cs_sum]; exact Nat.le_of_ble_eq_true hcs)) hdg ⟨Nat.zero_le _, Nat.zero_le _⟩
    refine z_callK hW hS (fun v' r1 H1 locs1 hq hok hJ1 hP1 hS1 => ?_)
    have := hKs _ _ _ _ (z_rt_f hq) H1 locs1 rl hL hol (z_oks_res hok g2) hJ1 hP1 hS1
    rw [z_map_app] at this
    exact this
  · exact absurd hck (by decide)
set_option maxRecDepth 100000 in
theorem z_stV (hSd : z_Sd d) (hx : p.tables.exec = Jvm.exec) (hb : c.code = cc) (hml : c.maxLocals = nL) (hown : s.vm.findClass own = some m.cls) (hts : ∀ w ∈ z_TB, w.before args s = true) (hK : va_K D vwCl (z_tys tc) s) (hSC : z_SC (z_A ad) (ad (99, 0)) s s.heap) (hinj : z_inj ad) (hfr : d + 9 ≤ R.frames) (hlo : 80 * d + 380 ≤ R.locals)
    {a i pl b pc t n : Nat} {H : Heap} {locs : List Loc} {rl : Array Slot} {ls : List (Option z_AV)} {stk : List z_AV} {v : z_V} (hL : z_LR ad nL ls rl) (hol : z_okl ls) (hos : z_oks stk) (hJ : z_okJ v) (hP : va_P D vwCl (z_ws tc ad v) H) (hS : va_S (z_A ad) s.heap H locs) {As r : List z_AV} (htk : z_tk (b % 16) [] stk = some (As, .inr (.inr (some (t, n))) :: r)) (hcs : Nat.ble (z_cs r) 8 = true) (htb : t = b / 256)
    (ha : Nat.blt a 900 = true) (hck : z_ick own pc (.invokevirtual i) a b 0 0 pl = true) (hdg : decode cc pc = .ok (.invokevirtual i, 3)) {K : z_KT} (hKs : ∀ pc ls stk v, K pc ls stk v → z_SP p l e R s m args below meth c nL tc ad D QR pc ls stk v)
    (hC : z_C d a (vR t n :: As) v (fun v' o => z_rt (b / 16 % 16) o (fun rs => K (pc + 3) ls (rs ++ r) v'))) :
    W p l e R s m args below meth c H locs 0 0 (MQ below (z_Qc tc ad D QR) args s 0 0 (z_A ad)) (F0 m pc rl (stk.map (z_cv ad))) := by
  have hck : (match Nat.blt a 900 with
    | false => Nat.beq a 907 && z_has pl (.methodLink own i yJ0_charAt_5068e)
    | true => match z_MT[a]?, z_MD[a]? with
      | some (_, y, _, nL, _, na, st), some (rk, nL', _) => z_has pl (.methodLink own i y) && (!st && (Nat.beq (b % 16) na && (Nat.beq (b / 16 % 16) rk && (Nat.beq nL nL' && (Nat.blt (b / 256) 12 && decide (y.cls = z_cn (b / 256)))))))
      | _, _ => false) = true := hck
  rw [ha] at hck
  dsimp only at hck
  split at hck
  · rename_i own1 y bytes nL1 ret1 na st rk1 nL2 cd1 hM hD
    simp only [Bool.and_eq_true, decide_eq_true_eq] at hck
    obtain ⟨hl, hst, hna, -, -, ht12, hcls⟩ := hck
    have hst : st = false := by simpa using hst
    subst hst
    rw [← htb] at ht12 hcls
    have ht12 : t < 12 := by simpa using ht12
    have hna : b % 16 = na := Nat.eq_of_beq_eq_true hna
    obtain ⟨la, h1, h2, h3⟩ := z_tk_spec htk
    rw [List.append_nil] at h2
    subst h2
    subst h3
    obtain ⟨g1, gr, g2⟩ := z_oks_app.mp hos
    have g1 := z_oks_rev.mp g1
    have hmem : (t, n) ∈ z_MK := by
      rcases gr with h | h
      · exact h
      · cases h
        omega
    obtain ⟨p1, p2, p3, p4, ps, hg⟩ := z_all a (by simpa using Nat.lt_of_lt_of_le (z_MTlt hM) (Nat.le_refl _))
    unfold z_pair at hg
    rw [hM, hD] at hg
    simp only [Bool.and_eq_true, z_mck, decide_eq_true_eq] at hg
    obtain ⟨⟨g3, g4, g5, g6, g7, g8, g9, g10, g11, g12, g13, g14⟩, -⟩ := hg
    have hMet := hSd a (vR t n :: As) v _ hC _ hM l tc ad D hinj hJ ⟨gr, g1⟩ (by simpa using h1.trans hna)
    have hcode := z_has_in g11
    obtain ⟨C, T, ty0, hc, hTT, hcn, -, -, -⟩ := z_cls t ht12
    obtain ⟨i0, hi, -⟩ := z_ws_at (tc := tc) (ad := ad) (v := v) hmem
    rw [z_cell_o ht12] at hi
    have hrecv := va_recv hK hP hc hi
    have hCy : y.cls = C := hcls.trans hcn
    have hW := va_runV (e := e) (below := below) (meth := meth) (locs := locs) (C := y.cls) (b := ad (t, n)) (As := As.map (z_cv ad)) (rest := r.map (z_cv ad)) (g := F0 m pc rl ((As.reverse ++ .inr (.inr (some (t, n))) :: r).map (z_cv ad))) (n := na) ⟨hx, hb, hml, hown, hts⟩ hMet
      ⟨callB_of na hts (z_wsm_goodT _ hcode) rfl rfl rfl (hts _ (z_has_in g12)) (hts _ (z_has_in hl)) ⟨g4, g5, g6⟩ ⟨by show d + 8 + 1 ≤ _; omega, by
        show 8 + (nL1 + 11) + (80 * d + 300) ≤ _
        have := Nat.le_of_ble_eq_true g9
        omega⟩, hts _ (z_has_in g13), hts _ (z_has_in g14)⟩ ⟨z_Pc_blind, by rw [hCy]; exact hrecv, z_Pc_at hK hSC hP hS⟩ rfl (by simpa using h1.trans hna) hL.1 (by simp [F0, z_cv]) (lv_room (by rw [z_cs_sum]; exact Nat.le_of_ble_eq_true hcs)) hdg ⟨Nat.zero_le _, Nat.zero_le _⟩
    refine z_callK hW hS (fun v' r1 H1 locs1 hq hok hJ1 hP1 hS1 => ?_)
    have := hKs _ _ _ _ (z_rt_f hq) H1 locs1 rl hL hol (z_oks_res hok g2) hJ1 hP1 hS1
    rw [z_map_app] at this
    exact this
  · exact absurd hck (by decide)
set_option maxHeartbeats 8000000 in
theorem z_ex_sound (hSd : z_Sd d) (hch : z_Chs) (hx : p.tables.exec = Jvm.exec) (hb : c.code = cc) (hml : c.maxLocals = nL) (hr : meth.sig.returnType = ret) (hlk : meth.locks = false) (hown : s.vm.findClass own = some m.cls) (hts : ∀ w ∈ z_TB, w.before args s = true) (hK : va_K D vwCl (z_tys tc) s) (hSC : z_SC (z_A ad) (ad (99, 0)) s s.heap) (hinj : z_inj ad) (hfr : d + 9 ≤ R.frames) (hlo : 80 * d + 380 ≤ R.locals) (hrk : z_rko rk ret = true)
    {pc : Nat} {ins : Instr} {a b pl : Nat} {ci : Int32} {cl : Int64} {ls : List (Option z_AV)} {stk : List z_AV} {v : z_V} (hck : z_ick own pc ins a b ci cl pl = true) (hdg : decode cc pc = .ok (ins, z_il ins a))
    (h : z_ex (z_C d) rk QR (z_SP p l e R s m args below meth c nL tc ad D QR) pc ins a b ci cl ls stk v) : z_SP p l e R s m args below meth c nL tc ad D QR pc ls stk v := by
  intro H locs rl hL hol hos hJ hP hS
  cases ins
  case iload_n =>
    obtain ⟨x, hq, h⟩ := z_lI_i h
    exact lv_iload_n hx hb hdg rfl (hL.2.2.2 _ _ hq) (h H locs rl hL hol ⟨trivial, hos⟩ hJ hP hS)
  case iload =>
    obtain ⟨x, hq, h⟩ := z_lI_i h
    exact lv_iload hx hb hdg (hL.2.2.2 _ _ hq) (h H locs rl hL hol ⟨trivial, hos⟩ hJ hP hS)
  case lload_n =>
    obtain ⟨x, hq, h⟩ := z_lL_i h
    exact lv_lload_n hx hb hdg rfl (hL.2.2.2 _ _ hq) (h H locs rl hL hol ⟨trivial, hos⟩ hJ hP hS)
  case lload =>
    obtain ⟨x, hq, h⟩ := z_lL_i h
    exact lv_lload hx hb hdg (hL.2.2.2 _ _ hq) (h H locs rl hL hol ⟨trivial, hos⟩ hJ hP hS)
  case aload_n =>
    obtain ⟨q, hq, h⟩ := z_lR_i h
    cases q with
    | none => exact lv_aload_nN hx hb hdg rfl (hL.2.2.2 _ _ hq) (h H locs rl hL hol ⟨hol _ _ hq, hos⟩ hJ hP hS)
    | some q => exact lv_aload_n hx hb hdg rfl (hL.2.2.2 _ _ hq) (h H locs rl hL hol ⟨hol _ _ hq, hos⟩ hJ hP hS)
  case aload =>
    obtain ⟨q, hq, h⟩ := z_lR_i h
    cases q with
    | none => exact lv_aloadN hx hb hdg (hL.2.2.2 _ _ hq) (h H locs rl hL hol ⟨hol _ _ hq, hos⟩ hJ hP hS)
    | some q => exact lv_aload hx hb hdg (hL.2.2.2 _ _ hq) (h H locs rl hL hol ⟨hol _ _ hq, hos⟩ hJ hP hS)
  case istore_n =>
    obtain ⟨x, r, rfl, h⟩ := z_sI_i h
    obtain ⟨hlt, h⟩ := z_if_i h
    rw [hL.2.2.1, Nat.blt_eq] at hlt
    exact lv_istore_n hx hb hdg rfl hL.has hlt rfl (fun ls2 h2 => h H locs ls2 (hL.store1 (w := .inl x) h2) (hol.store _ trivial) hos.2 hJ hP hS)
  case istore =>
    obtain ⟨x, r, rfl, h⟩ := z_sI_i h
    obtain ⟨hlt, h⟩ := z_if_i h
    rw [hL.2.2.1, Nat.blt_eq] at hlt
    exact lv_istore hx hb hdg hL.has hlt rfl (fun ls2 h2 => h H locs ls2 (hL.store1 (w := .inl x) h2) (hol.store _ trivial) hos.2 hJ hP hS)
  case astore_n =>
    obtain ⟨q, r, rfl, h⟩ := z_sR_i h
    obtain ⟨hlt, h⟩ := z_if_i h
    rw [hL.2.2.1, Nat.blt_eq] at hlt
    cases q with
    | none => exact lv_astore_nN hx hb hdg rfl hL.has hlt rfl (fun ls2 h2 => h H locs ls2 (hL.store1 (w := .inr (.inr none)) h2) (hol.store _ trivial) hos.2 hJ hP hS)
    | some q => exact lv_astore_n hx hb hdg rfl hL.has hlt rfl (fun ls2 h2 => h H locs ls2 (hL.store1 (w := .inr (.inr (some q))) h2) (hol.store _ hos.1) hos.2 hJ hP hS)
  case lstore_n =>
    obtain ⟨x, r, rfl, h⟩ := z_sL_i h
    obtain ⟨hlt, h⟩ := z_if_i h
    rw [hL.2.2.1, Nat.blt_eq] at hlt
    exact lv_lstore_n hx hb hdg rfl hL.has hlt rfl (fun ls2 h2 => h H locs ls2 (hL.store2 (w := .inr (.inl x)) h2) (hol.store2 _ trivial) hos.2 hJ hP hS)
  case lstore =>
    obtain ⟨x, r, rfl, h⟩ := z_sL_i h
    obtain ⟨hlt, h⟩ := z_if_i h
    rw [hL.2.2.1, Nat.blt_eq] at hlt
    exact lv_lstore hx hb hdg hL.has hlt rfl (fun ls2 h2 => h H locs ls2 (hL.store2 (w := .inr (.inl x)) h2) (hol.store2 _ trivial) hos.2 hJ hP hS)
  case iinc k n =>
    obtain ⟨x, hq, h⟩ := z_lI_i h
    have hn : k < nL := by rw [← hL.2.2.1]; exact z_lget_lt hq
    obtain ⟨kk, hkk⟩ := List.getElem?_of_mem (z_lo_mem (ad := ad) hq)
    have hci : Int32.ofInt n = ci := by simpa [z_ick] using hck
    exact lv_iinc hx hb hdg hL.has hkk (by rw [hci]) hn rfl (fun ls2 h2 => h H locs ls2 (hL.store1 (w := .inl (x + ci)) h2) (hol.store _ trivial) hos hJ hP hS)
  case iconst n =>
    exact lv_iconst hx hb hdg (by simpa [z_ick] using hck) (h H locs rl hL hol ⟨trivial, hos⟩ hJ hP hS)
  case bipush n =>
    exact lv_bipush hx hb hdg (by simpa [z_ick] using hck) (h H locs rl hL hol ⟨trivial, hos⟩ hJ hP hS)
  case sipush n =>
    exact lv_sipush hx hb hdg (by simpa [z_ick] using hck) (h H locs rl hL hol ⟨trivial, hos⟩ hJ hP hS)
  case lconst n =>
    exact lv_lconst hx hb hdg (by simpa [z_ick] using hck) (h H locs rl hL hol ⟨trivial, hos⟩ hJ hP hS)
  case ldc i =>
    cases a with
    | zero => exact lv_ldc hx hb hown (hts _ (z_has_in hck)) hdg (h H locs rl hL hol ⟨trivial, hos⟩ hJ hP hS)
    | succ a =>
      have hck : (decide (own = RX3) && Nat.beq i 150) = true := hck
      rw [Bool.and_eq_true, decide_eq_true_eq] at hck
      obtain ⟨rfl, hi⟩ := hck
      have hi : i = 150 := Nat.eq_of_beq_eq_true hi
      subst hi
      exact va_ldcS hx hb hown hSC.1 hdg (h H locs rl hL hol ⟨Or.inr rfl, hos⟩ hJ hP hS)
  case ldc_w i =>
    cases a with
    | zero =>
      have hck : (true && z_has pl (.constant own i ci)) = true := hck
      exact lv_ldcw hx hb hown (hts _ (z_has_in (by simpa using hck))) hdg (h H locs rl hL hol ⟨trivial, hos⟩ hJ hP hS)
    | succ a => exact absurd hck (by simp [z_ick])
  case ldc2_w i =>
    exact lv_ldc2 hx hb hown (hts _ (z_has_in hck)) hdg (h H locs rl hL hol ⟨trivial, hos⟩ hJ hP hS)
  case aconst_null =>
    exact lv_null hx hb hdg (h H locs rl hL hol ⟨trivial, hos⟩ hJ hP hS)
  case iadd =>
    obtain ⟨y, r, rfl, h⟩ := z_sI_i h
    obtain ⟨x, r, rfl, h⟩ := z_sI_i h
    exact lv_iadd hx hb hdg (h H locs rl hL hol ⟨trivial, hos.2.2⟩ hJ hP hS)
  case isub =>
    obtain ⟨y, r, rfl, h⟩ := z_sI_i h
    obtain ⟨x, r, rfl, h⟩ := z_sI_i h
    exact lv_isub hx hb hdg (h H locs rl hL hol ⟨trivial, hos.2.2⟩ hJ hP hS)
  case imul =>
    obtain ⟨y, r, rfl, h⟩ := z_sI_i h
    obtain ⟨x, r, rfl, h⟩ := z_sI_i h
    exact lv_imul hx hb hdg (h H locs rl hL hol ⟨trivial, hos.2.2⟩ hJ hP hS)
  case iand =>
    obtain ⟨y, r, rfl, h⟩ := z_sI_i h
    obtain ⟨x, r, rfl, h⟩ := z_sI_i h
    exact lv_iand hx hb hdg (h H locs rl hL hol ⟨trivial, hos.2.2⟩ hJ hP hS)
  case ior =>
    obtain ⟨y, r, rfl, h⟩ := z_sI_i h
    obtain ⟨x, r, rfl, h⟩ := z_sI_i h
    exact lv_ior hx hb hdg (h H locs rl hL hol ⟨trivial, hos.2.2⟩ hJ hP hS)
  case ixor =>
    obtain ⟨y, r, rfl, h⟩ := z_sI_i h
    obtain ⟨x, r, rfl, h⟩ := z_sI_i h
    exact lv_ixor hx hb hdg (h H locs rl hL hol ⟨trivial, hos.2.2⟩ hJ hP hS)
  case ishl =>
    obtain ⟨y, r, rfl, h⟩ := z_sI_i h
    obtain ⟨x, r, rfl, h⟩ := z_sI_i h
    exact lv_ishl hx hb hdg (h H locs rl hL hol ⟨trivial, hos.2.2⟩ hJ hP hS)
  case ishr =>
    obtain ⟨y, r, rfl, h⟩ := z_sI_i h
    obtain ⟨x, r, rfl, h⟩ := z_sI_i h
    exact lv_ishr hx hb hdg (h H locs rl hL hol ⟨trivial, hos.2.2⟩ hJ hP hS)
  case iushr =>
    obtain ⟨y, r, rfl, h⟩ := z_sI_i h
    obtain ⟨x, r, rfl, h⟩ := z_sI_i h
    exact lv_iushr hx hb hdg rfl (h H locs rl hL hol ⟨trivial, hos.2.2⟩ hJ hP hS)
  case idiv =>
    obtain ⟨y, r, rfl, h⟩ := z_sI_i h
    obtain ⟨x, r, rfl, h⟩ := z_sI_i h
    obtain ⟨hnz, h⟩ := z_if_i h
    exact lv_idiv hx hb hdg (of_decide_eq_true hnz) (h H locs rl hL hol ⟨trivial, hos.2.2⟩ hJ hP hS)
  case irem =>
    obtain ⟨y, r, rfl, h⟩ := z_sI_i h
    obtain ⟨x, r, rfl, h⟩ := z_sI_i h
    obtain ⟨hnz, h⟩ := z_if_i h
    exact lv_irem hx hb hdg (of_decide_eq_true hnz) (h H locs rl hL hol ⟨trivial, hos.2.2⟩ hJ hP hS)
  case ineg =>
    obtain ⟨x, r, rfl, h⟩ := z_sI_i h
    exact lv_ineg hx hb hdg (h H locs rl hL hol ⟨trivial, hos.2⟩ hJ hP hS)
  case ladd =>
    obtain ⟨y, r, rfl, h⟩ := z_sL_i h
    obtain ⟨x, r, rfl, h⟩ := z_sL_i h
    exact lv_ladd hx hb hdg (h H locs rl hL hol ⟨trivial, hos.2.2⟩ hJ hP hS)
  case lsub =>
    obtain ⟨y, r, rfl, h⟩ := z_sL_i h
    obtain ⟨x, r, rfl, h⟩ := z_sL_i h
    exact lv_lsub hx hb hdg (h H locs rl hL hol ⟨trivial, hos.2.2⟩ hJ hP hS)
  case lmul =>
    obtain ⟨y, r, rfl, h⟩ := z_sL_i h
    obtain ⟨x, r, rfl, h⟩ := z_sL_i h
    exact lv_lmul hx hb hdg (h H locs rl hL hol ⟨trivial, hos.2.2⟩ hJ hP hS)
  case land =>
    obtain ⟨y, r, rfl, h⟩ := z_sL_i h
    obtain ⟨x, r, rfl, h⟩ := z_sL_i h
    exact lv_land hx hb hdg (h H locs rl hL hol ⟨trivial, hos.2.2⟩ hJ hP hS)
  case lor =>
    obtain ⟨y, r, rfl, h⟩ := z_sL_i h
    obtain ⟨x, r, rfl, h⟩ := z_sL_i h
    exact lv_lor hx hb hdg (h H locs rl hL hol ⟨trivial, hos.2.2⟩ hJ hP hS)
  case lxor =>
    obtain ⟨y, r, rfl, h⟩ := z_sL_i h
    obtain ⟨x, r, rfl, h⟩ := z_sL_i h
    exact lv_lxor hx hb hdg (h H locs rl hL hol ⟨trivial, hos.2.2⟩ hJ hP hS)
  case ldiv =>
    obtain ⟨y, r, rfl, h⟩ := z_sL_i h
    obtain ⟨x, r, rfl, h⟩ := z_sL_i h
    obtain ⟨hnz, h⟩ := z_if_i h
    exact lv_ldiv hx hb hdg (of_decide_eq_true hnz) (h H locs rl hL hol ⟨trivial, hos.2.2⟩ hJ hP hS)
  case lrem =>
    obtain ⟨y, r, rfl, h⟩ := z_sL_i h
    obtain ⟨x, r, rfl, h⟩ := z_sL_i h
    obtain ⟨hnz, h⟩ := z_if_i h
    exact lv_lrem hx hb hdg (of_decide_eq_true hnz) (h H locs rl hL hol ⟨trivial, hos.2.2⟩ hJ hP hS)
  case lneg =>
    obtain ⟨x, r, rfl, h⟩ := z_sL_i h
    exact lv_lneg hx hb hdg (h H locs rl hL hol ⟨trivial, hos.2⟩ hJ hP hS)
  case lshl =>
    obtain ⟨y, r, rfl, h⟩ := z_sI_i h
    obtain ⟨x, r, rfl, h⟩ := z_sL_i h
    exact lv_lshl hx hb hdg rfl (h H locs rl hL hol ⟨trivial, hos.2.2⟩ hJ hP hS)
  case lshr =>
    obtain ⟨y, r, rfl, h⟩ := z_sI_i h
    obtain ⟨x, r, rfl, h⟩ := z_sL_i h
    exact lv_lshr hx hb hdg rfl (h H locs rl hL hol ⟨trivial, hos.2.2⟩ hJ hP hS)
  case lushr =>
    obtain ⟨y, r, rfl, h⟩ := z_sI_i h
    obtain ⟨x, r, rfl, h⟩ := z_sL_i h
    exact lv_lushr hx hb hdg rfl (h H locs rl hL hol ⟨trivial, hos.2.2⟩ hJ hP hS)
  case lcmp =>
    obtain ⟨y, r, rfl, h⟩ := z_sL_i h
    obtain ⟨x, r, rfl, h⟩ := z_sL_i h
    exact W.lcmp hx hb hdg (h H locs rl hL hol ⟨trivial, hos.2.2⟩ hJ hP hS)
  case i2l =>
    obtain ⟨x, r, rfl, h⟩ := z_sI_i h
    exact lv_i2l hx hb hdg rfl (h H locs rl hL hol ⟨trivial, hos.2⟩ hJ hP hS)
  case l2i =>
    obtain ⟨x, r, rfl, h⟩ := z_sL_i h
    exact lv_l2i hx hb hdg rfl (h H locs rl hL hol ⟨trivial, hos.2⟩ hJ hP hS)
  case i2b =>
    obtain ⟨x, r, rfl, h⟩ := z_sI_i h
    exact lv_i2b hx hb hdg rfl (h H locs rl hL hol ⟨trivial, hos.2⟩ hJ hP hS)
  case dup =>
    match stk, h, hos with
    | .inl x :: r, h, hos => exact lv_dup hx hb hdg rfl (h H locs rl hL hol ⟨trivial, trivial, hos.2⟩ hJ hP hS)
    | .inr (.inr none) :: r, h, hos => exact lv_dup hx hb hdg rfl (h H locs rl hL hol ⟨trivial, trivial, hos.2⟩ hJ hP hS)
    | .inr (.inr (some q)) :: r, h, hos => exact lv_dup hx hb hdg rfl (h H locs rl hL hol ⟨hos.1, hos.1, hos.2⟩ hJ hP hS)
    | [], h, _ => exact False.elim h
    | .inr (.inl _) :: _, h, _ => exact False.elim h
  case dup2 =>
    match stk, h, hos with
    | .inr (.inl x) :: r, h, hos => exact lv_dup2_2 hx hb hdg rfl (h H locs rl hL hol ⟨trivial, trivial, hos.2⟩ hJ hP hS)
    | .inl y :: .inr (.inr none) :: r, h, hos => exact lv_dup2_11 hx hb hdg rfl rfl (h H locs rl hL hol ⟨trivial, trivial, trivial, trivial, hos.2.2⟩ hJ hP hS)
    | .inl y :: .inr (.inr (some q)) :: r, h, hos => exact lv_dup2_11 hx hb hdg rfl rfl (h H locs rl hL hol ⟨trivial, hos.2.1, trivial, hos.2.1, hos.2.2⟩ hJ hP hS)
    | [], h, _ => exact False.elim h
    | [.inl _], h, _ => exact False.elim h
    | .inl _ :: .inl _ :: _, h, _ => exact False.elim h
    | .inl _ :: .inr (.inl _) :: _, h, _ => exact False.elim h
    | .inr (.inr _) :: _, h, _ => exact False.elim h
  case pop =>
    match stk, h, hos with
    | .inl x :: r, h, hos => exact lv_pop hx hb hdg rfl (h H locs rl hL hol hos.2 hJ hP hS)
    | .inr (.inr none) :: r, h, hos => exact lv_pop hx hb hdg rfl (h H locs rl hL hol hos.2 hJ hP hS)
    | .inr (.inr (some q)) :: r, h, hos => exact lv_pop hx hb hdg rfl (h H locs rl hL hol hos.2 hJ hP hS)
    | [], h, _ => exact False.elim h
    | .inr (.inl _) :: _, h, _ => exact False.elim h
  case goto off =>
    exact lv_goto (tgt := z_tg pc off) hx hb hdg (z_tg_ok (of_decide_eq_true hck)) (h H locs rl hL hol hos hJ hP hS)
  case ifCond cnd off =>
    have ht := z_tg_ok (of_decide_eq_true hck)
    cases cnd
    case eq =>
      obtain ⟨x, r, rfl, h⟩ := z_sI_i h
      exact lv_if_eq (tgt := z_tg pc off) hx hb hdg ht (fun q => h.1 q H locs rl hL hol hos.2 hJ hP hS) (fun q => h.2 q H locs rl hL hol hos.2 hJ hP hS)
    case ne =>
      obtain ⟨x, r, rfl, h⟩ := z_sI_i h
      exact lv_if_ne (tgt := z_tg pc off) hx hb hdg ht (fun q => h.1 q H locs rl hL hol hos.2 hJ hP hS) (fun q => h.2 q H locs rl hL hol hos.2 hJ hP hS)
    case lt =>
      obtain ⟨x, r, rfl, h⟩ := z_sI_i h
      exact lv_if_lt (tgt := z_tg pc off) hx hb hdg ht (fun q => h.1 q H locs rl hL hol hos.2 hJ hP hS) (fun q => h.2 q H locs rl hL hol hos.2 hJ hP hS)
    case ge =>
      obtain ⟨x, r, rfl, h⟩ := z_sI_i h
      exact lv_if_ge (tgt := z_tg pc off) hx hb hdg ht (fun q => h.1 q H locs rl hL hol hos.2 hJ hP hS) (fun q => h.2 q H locs rl hL hol hos.2 hJ hP hS)
    case gt =>
      obtain ⟨x, r, rfl, h⟩ := z_sI_i h
      exact lv_if_gt (tgt := z_tg pc off) hx hb hdg ht (fun q => h.1 q H locs rl hL hol hos.2 hJ hP hS) (fun q => h.2 q H locs rl hL hol hos.2 hJ hP hS)
    case le =>
      obtain ⟨x, r, rfl, h⟩ := z_sI_i h
      exact lv_if_le (tgt := z_tg pc off) hx hb hdg ht (fun q => h.1 q H locs rl hL hol hos.2 hJ hP hS) (fun q => h.2 q H locs rl hL hol hos.2 hJ hP hS)
  case if_icmp cnd off =>
    have ht := z_tg_ok (of_decide_eq_true hck)
    cases cnd
    case eq =>
      obtain ⟨y, r, rfl, h⟩ := z_sI_i h
      obtain ⟨x, r, rfl, h⟩ := z_sI_i h
      exact lv_icmp_eq (tgt := z_tg pc off) hx hb hdg ht (fun q => h.1 q H locs rl hL hol hos.2.2 hJ hP hS) (fun q => h.2 q H locs rl hL hol hos.2.2 hJ hP hS)
    case ne =>
      obtain ⟨y, r, rfl, h⟩ := z_sI_i h
      obtain ⟨x, r, rfl, h⟩ := z_sI_i h
      exact lv_icmp_ne (tgt := z_tg pc off) hx hb hdg ht (fun q => h.1 q H locs rl hL hol hos.2.2 hJ hP hS) (fun q => h.2 q H locs rl hL hol hos.2.2 hJ hP hS)
    case lt =>
      obtain ⟨y, r, rfl, h⟩ := z_sI_i h
      obtain ⟨x, r, rfl, h⟩ := z_sI_i h
      exact lv_icmp_lt (tgt := z_tg pc off) hx hb hdg ht (fun q => h.1 q H locs rl hL hol hos.2.2 hJ hP hS) (fun q => h.2 q H locs rl hL hol hos.2.2 hJ hP hS)
    case ge =>
      obtain ⟨y, r, rfl, h⟩ := z_sI_i h
      obtain ⟨x, r, rfl, h⟩ := z_sI_i h
      exact lv_icmp_ge (tgt := z_tg pc off) hx hb hdg ht (fun q => h.1 q H locs rl hL hol hos.2.2 hJ hP hS) (fun q => h.2 q H locs rl hL hol hos.2.2 hJ hP hS)
    case gt =>
      obtain ⟨y, r, rfl, h⟩ := z_sI_i h
      obtain ⟨x, r, rfl, h⟩ := z_sI_i h
      exact lv_icmp_gt (tgt := z_tg pc off) hx hb hdg ht (fun q => h.1 q H locs rl hL hol hos.2.2 hJ hP hS) (fun q => h.2 q H locs rl hL hol hos.2.2 hJ hP hS)
    case le =>
      obtain ⟨y, r, rfl, h⟩ := z_sI_i h
      obtain ⟨x, r, rfl, h⟩ := z_sI_i h
      exact lv_icmp_le (tgt := z_tg pc off) hx hb hdg ht (fun q => h.1 q H locs rl hL hol hos.2.2 hJ hP hS) (fun q => h.2 q H locs rl hL hol hos.2.2 hJ hP hS)
  case ifnull off =>
    have ht := z_tg_ok (of_decide_eq_true hck)
    obtain ⟨q, r, rfl, h⟩ := z_sR_i h
    cases q with
    | none => exact lv_ifnullN (tgt := z_tg pc off) hx hb hdg ht (h H locs rl hL hol hos.2 hJ hP hS)
    | some q => exact lv_ifnull hx hb hdg (h H locs rl hL hol hos.2 hJ hP hS)
  case getfield i =>
    obtain ⟨q, r, rfl, h⟩ := z_sR_i h
    obtain ⟨t, n, rfl, h⟩ := z_rf_i h
    obtain ⟨hta, h⟩ := z_if_i h
    have hta : t = a := Nat.eq_of_beq_eq_true hta
    subst hta
    have hck : (Nat.blt t 12 && (Nat.blt b (z_nf t) && z_has pl (.fieldLink own i (z_TT t b).1 (z_TT t b).2.1 (z_TT t b).2.2.1))) = true := hck
    simp only [Bool.and_eq_true, Nat.blt_eq] at hck
    obtain ⟨ht, hbn, hh⟩ := hck
    have hmem : (t, n) ∈ z_MK := hos.1.resolve_right (fun q => by cases q; omega)
    refine z_getf hx hb hts hown hK hP hmem ht hbn hh hdg ?_
    split at h
    · rename_i hk
      rw [show z_fvl ad v t n b = .int (gI v t n b) by unfold z_fvl; rw [hk]; rfl]
      exact h H locs rl hL hol ⟨trivial, hos.2⟩ hJ hP hS
    · rename_i hk
      rw [show z_fvl ad v t n b = .int (gI v t n b) by unfold z_fvl; rw [hk]; rfl]
      exact h H locs rl hL hol ⟨trivial, hos.2⟩ hJ hP hS
    · rename_i hk
      rw [show z_fvl ad v t n b = .long (gL v t n b) by unfold z_fvl; rw [hk]; rfl]
      exact h H locs rl hL hol ⟨trivial, hos.2⟩ hJ hP hS
    · rename_i hk
      rw [show z_fvl ad v t n b = z_cv ad (vQ (z_FF t n b)) by unfold z_fvl; rw [hk]; rfl]
      obtain ⟨x, hx1, hx2⟩ := z_FF_f hmem hbn hk
      rw [hx1] at h ⊢
      exact h H locs rl hL hol ⟨Or.inl hx2, hos.2⟩ hJ hP hS
    · rename_i h0 h3 h1 h2
      obtain ⟨mm, hm, h⟩ := h
      rw [show z_fvl ad v t n b = z_cv ad (vQ (z_jq (gJ v))) by
        unfold z_fvl
        split
        · exact absurd ‹_› h0
        · exact absurd ‹_› h3
        · exact absurd ‹_› h1
        · exact absurd ‹_› h2
        · rfl]
      rw [hm]
      exact h H locs rl hL hol ⟨Or.inl (z_okJ_q hJ _ (by rw [hm]; rfl)), hos.2⟩ hJ hP hS
  case putfield i =>
    have hck : (Nat.blt a 12 && (Nat.blt b (z_nf a) && (z_has pl (.fieldLink own i (z_TT a b).1 (z_TT a b).2.1 (z_TT a b).2.2.1) && !(z_TT a b).2.2.2))) = true := hck
    simp only [Bool.and_eq_true, Nat.blt_eq, Bool.not_eq_true'] at hck
    obtain ⟨ht, hbn, hh, hfin⟩ := hck
    dsimp only [z_ex] at h
    split at h
    · rename_i hk
      obtain ⟨x, r, rfl, h⟩ := z_sI_i h
      obtain ⟨q, r, rfl, h⟩ := z_sR_i h
      obtain ⟨t, n, rfl, h⟩ := z_rf_i h
      obtain ⟨hta, h⟩ := z_if_i h
      have hta : t = a := Nat.eq_of_beq_eq_true hta
      subst hta
      have hmem : (t, n) ∈ z_MK := hos.2.1.resolve_right (fun q => by cases q; omega)
      have hty := z_ftys t ht b hbn
      rw [hk] at hty
      exact z_putf (v' := pI v t n b x) hx hb hts hown hK hinj hP hS hmem ht hbn hh hfin (z_fty_0 hty) rfl rfl (fun k _ => z_fvl_pI (Or.inl hk) k) z_pI_other hdg (fun H1 locs1 hP1 hS1 => h H1 locs1 rl hL hol hos.2.2 hJ hP1 hS1)
    · rename_i hk
      obtain ⟨x, r, rfl, h⟩ := z_sI_i h
      obtain ⟨q, r, rfl, h⟩ := z_sR_i h
      obtain ⟨t, n, rfl, h⟩ := z_rf_i h
      obtain ⟨hta, h⟩ := z_if_i h
      rw [Bool.and_eq_true] at hta
      obtain ⟨hta, h01⟩ := hta
      have h01 : x = 0 ∨ x = 1 := of_decide_eq_true h01
      have hta : t = a := Nat.eq_of_beq_eq_true hta
      subst hta
      have hmem : (t, n) ∈ z_MK := hos.2.1.resolve_right (fun q => by cases q; omega)
      have hty := z_ftys t ht b hbn
      rw [hk] at hty
      exact z_putf (v' := pI v t n b x) hx hb hts hown hK hinj hP hS hmem ht hbn hh hfin (z_fty_3 hty) (by rcases h01 with rfl | rfl <;> rfl) (by rcases h01 with rfl | rfl <;> rfl) (fun k _ => z_fvl_pI (Or.inr hk) k) z_pI_other hdg (fun H1 locs1 hP1 hS1 => h H1 locs1 rl hL hol hos.2.2 hJ hP1 hS1)
    · rename_i hk
      obtain ⟨x, r, rfl, h⟩ := z_sL_i h
      obtain ⟨q, r, rfl, h⟩ := z_sR_i h
      obtain ⟨t, n, rfl, h⟩ := z_rf_i h
      obtain ⟨hta, h⟩ := z_if_i h
      have hta : t = a := Nat.eq_of_beq_eq_true hta
      subst hta
      have hmem : (t, n) ∈ z_MK := hos.2.1.resolve_right (fun q => by cases q; omega)
      have hty := z_ftys t ht b hbn
      rw [hk] at hty
      exact z_putf (v' := pL v t n b x) hx hb hts hown hK hinj hP hS hmem ht hbn hh hfin (z_fty_1 hty) rfl rfl (fun k _ => z_fvl_pL hk k) z_pL_other hdg (fun H1 locs1 hP1 hS1 => h H1 locs1 rl hL hol hos.2.2 hJ hP1 hS1)
    · exact False.elim h
    · rename_i h0 h3 h1 h2
      obtain ⟨w, r, rfl, g1⟩ := z_sR_i h
      obtain ⟨q, r, rfl, g2⟩ := z_sR_i g1
      obtain ⟨t, n, rfl, g3⟩ := z_rf_i g2
      obtain ⟨t2, mm, rfl, g4⟩ := z_rf_i g3
      obtain ⟨hta, g5⟩ := z_if_i g4
      rw [Bool.and_eq_true] at hta
      obtain ⟨hta, ht2⟩ := hta
      have hta : t = a := Nat.eq_of_beq_eq_true hta
      have ht2 : t2 = 6 := Nat.eq_of_beq_eq_true ht2
      subst hta
      subst ht2
      have hmem : (t, n) ∈ z_MK := hos.2.1.resolve_right (fun q => by cases q; omega)
      have hm2 : (6, mm) ∈ z_MK := hos.1.resolve_right (fun q => by cases q)
      have hm8 : mm < 8 := (z_of_MK hm2).2
      have h35 : ∀ t, t < 12 → ∀ k, k < z_nf t → z_fk t k = 0 ∨ z_fk t k = 3 ∨ z_fk t k = 1 ∨ z_fk t k = 2 ∨ (t = 3 ∧ k = 5 ∧ z_fk t k = 5) := by decide +kernel
      have h35 := ((((h35 t ht b hbn).resolve_left h0).resolve_left h3).resolve_left h1).resolve_left h2
      obtain ⟨rfl, rfl, hk⟩ := h35
      have hty := z_ftys 3 ht 5 hbn
      rw [hk] at hty
      obtain ⟨C, hC⟩ := z_fty_5 hty
      have hn0 : n = 0 := by
        have : n < 1 := (z_of_MK hmem).2
        omega
      subst hn0
      refine z_putf (v' := pJ v (mm + 1)) (w := .ref (ad (6, mm))) hx hb hts hown hK hinj hP hS hmem ht hbn hh hfin hC rfl rfl (fun k hk2 => ?_) (fun q' hm' hq' => ?_) hdg (fun H1 locs1 hP1 hS1 => g5 H1 locs1 rl hL hol hos.2.2 (by show mm + 1 ≤ 8; omega) hP1 hS1)
      · have hkk : ∀ k, k < z_nf 3 → k ≠ 5 → z_fk 3 k = 0 ∨ z_fk 3 k = 3 ∨ z_fk 3 k = 1 ∨ z_fk 3 k = 2 := by decide +kernel
        by_cases h5 : k = 5
        · subst h5
          rw [if_pos rfl]
          rfl
        · rw [if_neg h5]
          rcases hkk k hk2 h5 with h | h | h | h <;> (unfold z_fvl; rw [h]; rfl)
      · by_cases h3q : q'.1 = 3
        · obtain ⟨t', n'⟩ := q'
          have h3q : t' = 3 := h3q
          subst h3q
          have : n' < 1 := (z_of_MK hm').2
          exact absurd (by rw [show n' = 0 by omega]) hq'
        · exact z_cell_cong (fun _ => rfl) (fun _ => rfl) (Or.inr h3q)
  case iaload =>
    obtain ⟨j, r, rfl, g1⟩ := z_sI_i h
    obtain ⟨q, r, rfl, g2⟩ := z_sR_i g1
    obtain ⟨t, n, rfl, g3⟩ := z_rf_i g2
    clear h g1 g2
    have h := g3
    obtain ⟨hc, h⟩ := z_if_i h
    rw [Bool.and_eq_true] at hc
    obtain ⟨hk, hin⟩ := hc
    have hk : z_kd t = 0 := Nat.eq_of_beq_eq_true hk
    have hmem : (t, n) ∈ z_MK := hos.2.1.resolve_right (fun q => by cases q; cases hk)
    obtain ⟨i0, hi, -⟩ := z_ws_at (tc := tc) (ad := ad) (v := v) hmem
    rw [z_cell_i hmem (by rw [hk]; decide) (by rw [hk]; decide) (by rw [hk]; decide), hk] at hi
    exact va_iald hx hb hK hP i0 0 hi rfl (z_in_ok hin) hdg (h H locs rl hL hol ⟨trivial, hos.2.2⟩ hJ hP hS)
  case baload =>
    obtain ⟨j, r, rfl, g1⟩ := z_sI_i h
    obtain ⟨q, r, rfl, g2⟩ := z_sR_i g1
    obtain ⟨t, n, rfl, g3⟩ := z_rf_i g2
    clear h g1 g2
    have h := g3
    split at h
    · rename_i hk
      obtain ⟨hin, h⟩ := z_if_i h
      have hmem : (t, n) ∈ z_MK := hos.2.1.resolve_right (fun q => by cases q; cases hk)
      obtain ⟨i0, hi, -⟩ := z_ws_at (tc := tc) (ad := ad) (v := v) hmem
      rw [z_cell_i hmem (by rw [hk]; decide) (by rw [hk]; decide) (by rw [hk]; decide), hk] at hi
      exact va_bald hx hb hK hP i0 2 hi rfl (z_in_ok hin) hdg (h H locs rl hL hol ⟨trivial, hos.2.2⟩ hJ hP hS)
    · rename_i hk
      obtain ⟨hin, h⟩ := z_if_i h
      have hmem : (t, n) ∈ z_MK := hos.2.1.resolve_right (fun q => by cases q; cases hk)
      obtain ⟨i0, hi, -⟩ := z_ws_at (tc := tc) (ad := ad) (v := v) hmem
      rw [z_cell_i hmem (by rw [hk]; decide) (by rw [hk]; decide) (by rw [hk]; decide), hk] at hi
      exact va_zald hx hb hK hP i0 3 hi rfl (z_in_ok hin) hdg (h H locs rl hL hol ⟨trivial, hos.2.2⟩ hJ hP hS)
    · exact False.elim h
  case laload =>
    obtain ⟨j, r, rfl, g1⟩ := z_sI_i h
    obtain ⟨q, r, rfl, g2⟩ := z_sR_i g1
    obtain ⟨t, n, rfl, g3⟩ := z_rf_i g2
    clear h g1 g2
    have h := g3
    obtain ⟨hc, h⟩ := z_if_i h
    rw [Bool.and_eq_true] at hc
    obtain ⟨hk, hin⟩ := hc
    have hk : z_kd t = 1 := Nat.eq_of_beq_eq_true hk
    have hmem : (t, n) ∈ z_MK := hos.2.1.resolve_right (fun q => by cases q; cases hk)
    obtain ⟨i0, hi, -⟩ := z_ws_at (tc := tc) (ad := ad) (v := v) hmem
    rw [z_cell_l hmem hk] at hi
    exact va_lald hx hb hK hP i0 1 hi rfl (z_in_ok hin) hdg (h H locs rl hL hol ⟨trivial, hos.2.2⟩ hJ hP hS)
  case aaload =>
    obtain ⟨j, r, rfl, g1⟩ := z_sI_i h
    obtain ⟨q, r, rfl, g2⟩ := z_sR_i g1
    obtain ⟨t, n, rfl, g3⟩ := z_rf_i g2
    clear h g1 g2
    have h := g3
    obtain ⟨hc, h⟩ := z_if_i h
    rw [Bool.and_eq_true] at hc
    obtain ⟨hk, hin⟩ := hc
    have hk : z_kd t = 4 := Nat.eq_of_beq_eq_true hk
    have hin : vp_in j (z_ln t) := z_in_ok hin
    have hmem : (t, n) ∈ z_MK := hos.2.1.resolve_right (fun q => by cases q; cases hk)
    obtain ⟨i0, hi, -⟩ := z_ws_at (tc := tc) (ad := ad) (v := v) hmem
    rw [z_cell_q hmem hk] at hi
    have hlt : n_ j < z_ln t := Nat.not_le.mp fun q => hin (Or.inr q)
    obtain ⟨x, hx1, hx2⟩ := z_FF_a hmem hlt hk
    rw [hx1] at h
    have hty : ∃ ty, (z_tys tc)[z_ty t]? = some (tc (z_ty t), ty) ∧ ty.isReference = true := by
      rcases z_ty_4 hmem hk with h | h | h <;> rw [h] <;> exact ⟨_, rfl, rfl⟩
    obtain ⟨ty, hty1, hty2⟩ := hty
    refine W.aald (v := .ref (ad x)) (ty := ty) hx hb (hP i0 _ hi) ((hK.2 _ _ hty1).1 (z_ln t) (fun k => va_rf ((z_FF t n k).map ad))) hty2 (fun q => by cases q) (by show ¬ (j < 0 ∨ (arrV _ _ _).slots.size ≤ _); rw [arrV_size]; exact hin) (by show (arrV (tc (z_ty t)) (z_ln t) (fun k => va_rf ((z_FF t n k).map ad))).slots[n_ j]? = _; rw [arrV_read _ _ hlt]; show some (va_rf ((z_FF t n (n_ j)).map ad)) = _; rw [hx1]; rfl) rfl rfl hdg (h H locs rl hL hol ⟨Or.inl hx2, hos.2.2⟩ hJ hP hS)
  case iastore =>
    obtain ⟨x, r, rfl, g1⟩ := z_sI_i h
    obtain ⟨j, r, rfl, g2⟩ := z_sI_i g1
    obtain ⟨q, r, rfl, g3⟩ := z_sR_i g2
    obtain ⟨t, n, rfl, g4⟩ := z_rf_i g3
    clear h g1 g2 g3
    have h := g4
    obtain ⟨hc, h⟩ := z_if_i h
    rw [Bool.and_eq_true] at hc
    obtain ⟨hk, hin⟩ := hc
    have hk : z_kd t = 0 := Nat.eq_of_beq_eq_true hk
    have hmem : (t, n) ∈ z_MK := hos.2.2.1.resolve_right (fun q => by cases q; cases hk)
    obtain ⟨i0, hi, hset⟩ := z_ws_at (tc := tc) (ad := ad) (v := v) hmem
    rw [z_cell_i hmem (by rw [hk]; decide) (by rw [hk]; decide) (by rw [hk]; decide), hk] at hi
    refine va_iast hx hb hK hP (z_D (A := z_A ad) (fun q hq => ⟨q, hq, rfl⟩) hinj) hS i0 0 hi rfl (z_in_ok hin) hdg (fun H1 locs1 hP1 _ hS1 => h H1 locs1 rl hL hol hos.2.2.2 hJ ?_ hS1)
    exact z_ar_i (hk1 := by rw [hk]; decide) (hk4 := by rw [hk]; decide) (hk9 := by rw [hk]; decide) hmem hset (by rw [hk]; exact hP1)
  case bastore =>
    obtain ⟨x, r, rfl, g1⟩ := z_sI_i h
    obtain ⟨j, r, rfl, g2⟩ := z_sI_i g1
    obtain ⟨q, r, rfl, g3⟩ := z_sR_i g2
    obtain ⟨t, n, rfl, g4⟩ := z_rf_i g3
    clear h g1 g2 g3
    have h := g4
    split at h
    · rename_i hk
      obtain ⟨hin, h⟩ := z_if_i h
      have hmem : (t, n) ∈ z_MK := hos.2.2.1.resolve_right (fun q => by cases q; cases hk)
      obtain ⟨i0, hi, hset⟩ := z_ws_at (tc := tc) (ad := ad) (v := v) hmem
      rw [z_cell_i hmem (by rw [hk]; decide) (by rw [hk]; decide) (by rw [hk]; decide), hk] at hi
      refine va_bast hx hb hK hP (z_D (A := z_A ad) (fun q hq => ⟨q, hq, rfl⟩) hinj) hS i0 2 hi rfl (z_in_ok hin) hdg (fun H1 locs1 hP1 _ hS1 => h H1 locs1 rl hL hol hos.2.2.2 hJ ?_ hS1)
      rw [show vp_nar _ x = x.toInt8.toInt32 from vp_nar_byte x] at hP1
      exact z_ar_i (hk1 := by rw [hk]; decide) (hk4 := by rw [hk]; decide) (hk9 := by rw [hk]; decide) hmem hset (by rw [hk]; exact hP1)
    · rename_i hk
      obtain ⟨hc, h⟩ := z_if_i h
      rw [Bool.and_eq_true] at hc
      obtain ⟨hin, h01⟩ := hc
      have h01 : x = 0 ∨ x = 1 := of_decide_eq_true h01
      have hmem : (t, n) ∈ z_MK := hos.2.2.1.resolve_right (fun q => by cases q; cases hk)
      obtain ⟨i0, hi, hset⟩ := z_ws_at (tc := tc) (ad := ad) (v := v) hmem
      rw [z_cell_i hmem (by rw [hk]; decide) (by rw [hk]; decide) (by rw [hk]; decide), hk] at hi
      refine va_zast hx hb hK hP (z_D (A := z_A ad) (fun q hq => ⟨q, hq, rfl⟩) hinj) hS i0 3 hi rfl (z_in_ok hin) hdg (fun H1 locs1 hP1 _ hS1 => h H1 locs1 rl hL hol hos.2.2.2 hJ ?_ hS1)
      rw [show vp_nar _ x = x from (by rcases h01 with rfl | rfl <;> rfl)] at hP1
      exact z_ar_i (hk1 := by rw [hk]; decide) (hk4 := by rw [hk]; decide) (hk9 := by rw [hk]; decide) hmem hset (by rw [hk]; exact hP1)
    · exact False.elim h
  case lastore =>
    obtain ⟨x, r, rfl, g1⟩ := z_sL_i h
    obtain ⟨j, r, rfl, g2⟩ := z_sI_i g1
    obtain ⟨q, r, rfl, g3⟩ := z_sR_i g2
    obtain ⟨t, n, rfl, g4⟩ := z_rf_i g3
    clear h g1 g2 g3
    have h := g4
    obtain ⟨hc, h⟩ := z_if_i h
    rw [Bool.and_eq_true] at hc
    obtain ⟨hk, hin⟩ := hc
    have hk : z_kd t = 1 := Nat.eq_of_beq_eq_true hk
    have hmem : (t, n) ∈ z_MK := hos.2.2.1.resolve_right (fun q => by cases q; cases hk)
    obtain ⟨i0, hi, hset⟩ := z_ws_at (tc := tc) (ad := ad) (v := v) hmem
    rw [z_cell_l hmem hk] at hi
    refine va_last hx hb hK hP (z_D (A := z_A ad) (fun q hq => ⟨q, hq, rfl⟩) hinj) hS i0 1 hi rfl (z_in_ok hin) hdg (fun H1 locs1 hP1 _ hS1 => h H1 locs1 rl hL hol hos.2.2.2 hJ ?_ hS1)
    rw [← hset (pL v t n (n_ j) x) z_pL_other, z_cell_l hmem hk]
    have : (fun k => gL (pL v t n (n_ j) x) t n k) = vp_updL (fun k => gL v t n k) (n_ j) x := funext fun k => gL_pL
    rw [this]
    exact hP1
  case tableswitch dd lo hi offs =>
    have hck : (decide (0 ≤ (pc : Int) + dd) && (offs.toList.all (fun o => decide (0 ≤ (pc : Int) + o)) && (decide (hi = lo + offs.size - 1) && (decide (-1000 ≤ lo) && decide (hi ≤ 1000))))) = true := hck
    simp only [Bool.and_eq_true, decide_eq_true_eq] at hck
    obtain ⟨hd0, hall, hhi, hlo1, hhi1⟩ := hck
    obtain ⟨x, r, rfl, h⟩ := z_sI_i h
    have hlen : (offs.toList.length : Int) = offs.size := by simp
    rcases z_sw_i hlo1 (by omega) h with ⟨k, off, h1, h2, h3⟩ | ⟨h1, h2⟩
    · have hk : k < offs.toList.length := (List.getElem?_eq_some_iff.mp h1).1
      exact lv_tableIn (tgt := z_tg pc off) hx hb hdg (by omega) (by omega) (by rw [h2, show (lo + (k : Int) - lo).toNat = k by omega, ← Array.getElem?_toList]; exact h1) (z_tg_ok (of_decide_eq_true (List.all_eq_true.mp hall _ (List.mem_of_getElem? h1)))) (h3 H locs rl hL hol hos.2 hJ hP hS)
    · exact lv_tableOut (tgt := z_tg pc dd) hx hb hdg (by omega) (z_tg_ok hd0) (h2 H locs rl hL hol hos.2 hJ hP hS)
  case lookupswitch dd ps =>
    have hck : (decide (0 ≤ (pc : Int) + dd) && (ps.toList.all (fun o => decide (0 ≤ (pc : Int) + o.2) && (decide (-1000 ≤ o.1) && decide (o.1 ≤ 1000))) && (ps.toList.zip (ps.toList.drop 1)).all (fun (a, next) => a.1 < next.1))) = true := hck
    rw [Bool.and_eq_true, Bool.and_eq_true] at hck
    obtain ⟨hd0, hall, hso⟩ := hck
    have hd0 : 0 ≤ (pc : Int) + dd := of_decide_eq_true hd0
    obtain ⟨x, r, rfl, h⟩ := z_sI_i h
    have hall2 : ∀ q ∈ ps.toList, 0 ≤ (pc : Int) + q.2 ∧ -1000 ≤ q.1 ∧ q.1 ≤ 1000 := fun q hq => by
      have := List.all_eq_true.mp hall q hq
      simpa only [Bool.and_eq_true, decide_eq_true_eq] using this
    exact lv_lookup (tgt := z_tg pc (Op.lookupswitch.offset ps.toList dd x.toInt)) hx hb hdg hso rfl (z_tg_ok (z_off_mem hd0 (fun q hq => (hall2 q hq).1))) (z_sl_i (fun q hq => (hall2 q hq).2) h H locs rl hL hol hos.2 hJ hP hS)
  case ireturn =>
    obtain ⟨x, r, rfl, g1⟩ := z_sI_i h
    clear h
    have h := g1
    split at h
    · split at h
      · have hr2 : ret = some .int := of_decide_eq_true hrk
        exact W.zret hx hb (hr.trans hr2) rfl (fun t ht hW => ⟨⟨v, some (.inl x), rfl, h, trivial, by rw [ht]; exact hP, hJ⟩, hS.F ht⟩) hS.2.2 hdg
      · obtain ⟨h01, h⟩ := z_if_i h
        have h01 : x = 0 ∨ x = 1 := of_decide_eq_true h01
        have hr2 : ret = some .boolean := of_decide_eq_true hrk
        exact W.zret hx hb (hr.trans hr2) (by rcases h01 with rfl | rfl <;> rfl) (fun t ht hW => ⟨⟨v, some (.inl x), rfl, h, trivial, by rw [ht]; exact hP, hJ⟩, hS.F ht⟩) hS.2.2 hdg
      · exact False.elim h
    · exact False.elim h
  case lreturn =>
    obtain ⟨x, r, rfl, g1⟩ := z_sL_i h
    clear h
    have h := g1
    split at h
    · obtain ⟨h2, h⟩ := z_if_i h
      have h2 : rk = 2 := Nat.eq_of_beq_eq_true h2
      subst h2
      have hr2 : ret = some .long := of_decide_eq_true hrk
      exact W.lret hx hb (hr.trans hr2) (fun t ht hW => ⟨⟨v, some (.inr (.inl x)), rfl, h, trivial, by rw [ht]; exact hP, hJ⟩, hS.F ht⟩) hS.2.2 hdg
    · exact False.elim h
  case areturn =>
    obtain ⟨x, r, rfl, g1⟩ := z_sR_i h
    clear h
    have h := g1
    split at h
    · obtain ⟨h2, h⟩ := z_if_i h
      have h2 : rk = 3 := Nat.eq_of_beq_eq_true h2
      subst h2
      have hr2 : ∃ C, ret = some (.object C) := by
        have hk : ∀ r : Option FieldType, z_rko 3 r = true → ∃ C, r = some (.object C) := by
          intro r hr
          cases r with
          | none => exact absurd hr (by decide)
          | some ty => cases ty <;> first | exact ⟨_, rfl⟩ | exact absurd hr (by simp [z_rko])
        exact hk ret hrk
      obtain ⟨C, hr2⟩ := hr2
      cases x with
      | none => exact W.aret hx hb (hr.trans hr2) (Or.inl ⟨_, rfl⟩) (Or.inl rfl) (fun t ht hW => ⟨⟨v, some (.inr (.inr none)), rfl, h, trivial, by rw [ht]; exact hP, hJ⟩, hS.F ht⟩) hS.2.2 hdg
      | some x => exact W.aret hx hb (hr.trans hr2) (Or.inl ⟨_, rfl⟩) (Or.inr ⟨_, rfl⟩) (fun t ht hW => ⟨⟨v, some (.inr (.inr (some x))), rfl, h, hos.1, by rw [ht]; exact hP, hJ⟩, hS.F ht⟩) hS.2.2 hdg
    · exact False.elim h
  case return_ =>
    dsimp only [z_ex] at h
    split at h
    · obtain ⟨h2, h⟩ := z_if_i h
      have h2 : rk = 0 := Nat.eq_of_beq_eq_true h2
      subst h2
      have hr2 : ret = none := of_decide_eq_true hrk
      exact W.vret hx hb (hr.trans hr2) (fun t ht hW => ⟨⟨v, none, rfl, h, trivial, by rw [ht]; exact hP, hJ⟩, hS.F ht⟩) hS.2.2 hdg
    · exact False.elim h
  case invokestatic i =>
    obtain ⟨⟨k1, k2, k3⟩, ⟨k4, k5⟩, ⟨k6, k7⟩, ⟨k8, k9⟩, ⟨k10, k11⟩, ⟨k12, k13, k14⟩⟩ := z_prim_ok
    have h : z_stc (z_C d) (z_SP p l e R s m args below meth c nL tc ad D QR) pc ls stk v a b := h
    have hmlr : c.maxLocals = rl.size := hml.trans hL.1.symm
    unfold z_stc at h
    split at h
    · obtain ⟨y, r, rfl, g1⟩ := z_sI_i h
      obtain ⟨x, r, rfl, g2⟩ := z_sI_i g1
      obtain ⟨hcs, g3⟩ := z_if_i g2
      clear h g1 g2
      have h := g3
      have hck2 : z_has pl (.methodLink own i Lib.Math.max.name) = true := z_pk hck rfl
      exact va_mmax hx hb hmlr hown (hts _ (z_has_in hck2)) (hts _ k1) (hts _ k2) (hts _ k3) (by omega) (by rw [z_cs_sum]; have := Nat.le_of_ble_eq_true hcs; omega) (Nat.zero_le _) (Nat.zero_le _) hdg (h H locs rl hL hol ⟨trivial, hos.2.2⟩ hJ hP hS)
    · obtain ⟨y, r, rfl, g1⟩ := z_sI_i h
      obtain ⟨x, r, rfl, g2⟩ := z_sI_i g1
      obtain ⟨hcs, g3⟩ := z_if_i g2
      clear h g1 g2
      have h := g3
      have hck2 : z_has pl (.methodLink own i Lib.Math.min.name) = true := z_pk hck rfl
      exact va_mmin hx hb hmlr hown (hts _ (z_has_in hck2)) (hts _ k4) (hts _ k2) (hts _ k5) (by omega) (by rw [z_cs_sum]; have := Nat.le_of_ble_eq_true hcs; omega) (Nat.zero_le _) (Nat.zero_le _) hdg (h H locs rl hL hol ⟨trivial, hos.2.2⟩ hJ hP hS)
    · obtain ⟨x, r, rfl, g1⟩ := z_sI_i h
      obtain ⟨hcs, g3⟩ := z_if_i g1
      clear h g1
      have h := g3
      have hck2 : z_has pl (.methodLink own i Lib.Math.abs.name) = true := z_pk hck rfl
      exact va_mabs hx hb hmlr hown (hts _ (z_has_in hck2)) (hts _ k6) (hts _ k2) (hts _ k7) (by omega) (by rw [z_cs_sum]; have := Nat.le_of_ble_eq_true hcs; omega) (Nat.zero_le _) (Nat.zero_le _) hdg (h H locs rl hL hol ⟨trivial, hos.2⟩ hJ hP hS)
    · obtain ⟨y, r, rfl, g1⟩ := z_sL_i h
      obtain ⟨x, r, rfl, g2⟩ := z_sL_i g1
      obtain ⟨hcs, g3⟩ := z_if_i g2
      clear h g1 g2
      have h := g3
      have hck2 : z_has pl (.methodLink own i Lib.MathLoose.max_long.x) = true := z_pk hck rfl
      exact va_mmax_long hx hb hmlr hown (hts _ (z_has_in hck2)) (hts _ k8) (hts _ k2) (hts _ k9) (by omega) (by rw [z_cs_sum]; have := Nat.le_of_ble_eq_true hcs; omega) (Nat.zero_le _) (Nat.zero_le _) hdg (h H locs rl hL hol ⟨trivial, hos.2.2⟩ hJ hP hS)
    · obtain ⟨y, r, rfl, g1⟩ := z_sL_i h
      obtain ⟨x, r, rfl, g2⟩ := z_sL_i g1
      obtain ⟨hcs, g3⟩ := z_if_i g2
      clear h g1 g2
      have h := g3
      have hck2 : z_has pl (.methodLink own i Lib.MathLoose.min_long.x) = true := z_pk hck rfl
      exact va_mmin_long hx hb hmlr hown (hts _ (z_has_in hck2)) (hts _ k10) (hts _ k2) (hts _ k11) (by omega) (by rw [z_cs_sum]; have := Nat.le_of_ble_eq_true hcs; omega) (Nat.zero_le _) (Nat.zero_le _) hdg (h H locs rl hL hol ⟨trivial, hos.2.2⟩ hJ hP hS)
    · obtain ⟨n, r, rfl, g1⟩ := z_sI_i h
      obtain ⟨dp, r, rfl, g2⟩ := z_sI_i g1
      obtain ⟨q2, r, rfl, g3⟩ := z_sR_i g2
      obtain ⟨sp, r, rfl, g4⟩ := z_sI_i g3
      obtain ⟨q, r, rfl, g5⟩ := z_sR_i g4
      obtain ⟨t2, n2, rfl, g6⟩ := z_rf_i g5
      obtain ⟨t, n1, rfl, g7⟩ := z_rf_i g6
      obtain ⟨hc, g8⟩ := z_if_i g7
      clear h g1 g2 g3 g4 g5 g6 g7
      have h := g8
      simp only [Bool.and_eq_true, decide_eq_true_eq] at hc
      obtain ⟨hcs, hk, hk2, hs0, hd0, hn0, hle1, hle2⟩ := hc
      have hk : z_kd t = 0 := Nat.eq_of_beq_eq_true hk
      have hk2 : z_kd t2 = 0 := Nat.eq_of_beq_eq_true hk2
      have hm2 : (t2, n2) ∈ z_MK := hos.2.2.1.resolve_right (fun q => by cases q; cases hk2)
      have hm1 : (t, n1) ∈ z_MK := hos.2.2.2.2.1.resolve_right (fun q => by cases q; cases hk)
      obtain ⟨i0, hi, -⟩ := z_ws_at (tc := tc) (ad := ad) (v := v) hm1
      obtain ⟨i1, hi1, hset⟩ := z_ws_at (tc := tc) (ad := ad) (v := v) hm2
      rw [z_cell_i hm1 (by rw [hk]; decide) (by rw [hk]; decide) (by rw [hk]; decide), hk] at hi
      rw [z_cell_i hm2 (by rw [hk2]; decide) (by rw [hk2]; decide) (by rw [hk2]; decide), hk2] at hi1
      have hck2 : z_has pl (.methodLink own i arraycopyName) = true := z_pk hck rfl
      refine va_copyi hx hb hmlr hown (hts _ (z_has_in hck2)) (hts _ k12) (hts _ k13) (hts _ k14) hK hP (z_D (A := z_A ad) (fun q hq => ⟨q, hq, rfl⟩) hinj) hS i0 i1 0 0 hi hi1 rfl rfl rfl hs0 hd0 hn0 (Nat.le_of_ble_eq_true hle1) (Nat.le_of_ble_eq_true hle2) (fun _ _ => rfl) (by omega) (by
        rw [z_cs_sum]
        have e1 := Nat.le_of_ble_eq_true hcs
        have e2 : nativeFrameWords "java/lang/System" "arraycopy" 5 = 7 := by decide +kernel
        rw [e2]
        omega) hdg (fun H1 locs1 hP1 _ hS1 => h H1 locs1 rl hL hol hos.2.2.2.2.2 hJ ?_ hS1)
      rw [← hset (pC v t n1 (n_ sp) t2 n2 (n_ dp) (n_ n)) (fun q' _ hq' => z_cell_cong (fun j => if_neg (fun e => hq' (Prod.ext e.1 e.2))) (fun _ => rfl) (Or.inl rfl)), z_cell_i hm2 (by rw [hk2]; decide) (by rw [hk2]; decide) (by rw [hk2]; decide), hk2]
      have : (fun k => gI (pC v t n1 (n_ sp) t2 n2 (n_ dp) (n_ n)) t2 n2 k) = va_cpy (fun k => gI v t n1 k) (fun k => gI v t2 n2 k) (n_ sp) (n_ dp) (n_ n) := funext fun k => if_pos ⟨rfl, rfl⟩
      rw [this]
      exact hP1
    · rename_i n0 n1 n2 n3 n4 n6
      split at h
      · rename_i As r htk
        obtain ⟨hcs, h⟩ := z_if_i h
        have ha : Nat.blt a 900 = true := by
          cases hb9 : Nat.blt a 900 with
          | true => rfl
          | false =>
            have hck : (match Nat.blt a 900 with
              | false => Nat.blt a 907 && !(Nat.beq a 905) && z_has pl (.methodLink own i (z_prim a))
              | true => match z_MT[a]?, z_MD[a]? with
                | some (_, y, _, nL, _, na, st), some (rk, nL', _) => z_has pl (.methodLink own i y) && (st && (Nat.beq (b % 16) na && (Nat.beq (b / 16) rk && Nat.beq nL nL')))
                | _, _ => false) = true := hck
            rw [hb9] at hck
            dsimp only at hck
            simp only [Bool.and_eq_true, Nat.blt_eq, Bool.not_eq_true'] at hck
            have h907 : a < 907 := hck.1.1
            have h905 : a ≠ 905 := fun q => by
              have := hck.1.2
              rw [q] at this
              cases this
            have h900 : ¬ a < 900 := fun q => by
              have := (Nat.blt_eq (x := a) (y := 900)).mpr q
              rw [hb9] at this
              cases this
            have m0 : a ≠ 900 := fun q => n0 q
            have m1 : a ≠ 901 := fun q => n1 q
            have m2 : a ≠ 902 := fun q => n2 q
            have m3 : a ≠ 903 := fun q => n3 q
            have m4 : a ≠ 904 := fun q => n4 q
            have m6 : a ≠ 906 := fun q => n6 q
            omega
        exact z_stS hSd hx hb hml hown hts hK hSC hinj hfr hlo hL hol hos hJ hP hS htk hcs ha hck hdg (fun _ _ _ _ z => z) h
      · exact False.elim h
  case invokevirtual i =>
    have h : z_vtc (z_C d) (z_SP p l e R s m args below meth c nL tc ad D QR) pc ls stk v a b := h
    unfold z_vtc at h
    split at h
    · obtain ⟨j, r, rfl, g1⟩ := z_sI_i h
      obtain ⟨q, r, rfl, g2⟩ := z_sR_i g1
      obtain ⟨t, n, rfl, g3⟩ := z_rf_i g2
      obtain ⟨hc, g4⟩ := z_if_i g3
      obtain ⟨hin, g5⟩ := z_if_i g4
      clear h g1 g2 g3 g4
      have h := g5
      rw [Bool.and_eq_true] at hc
      obtain ⟨ht, hcs⟩ := hc
      have ht : t = 99 := Nat.eq_of_beq_eq_true ht
      subst ht
      have h99 : (99, n) = ((99, 0) : Nat × Nat) := hos.2.1.resolve_left (fun q => by
        have := (z_of_MK q).1
        revert this
        decide)
      cases h99
      have hck2 := z_pk7 hck
      obtain ⟨⟨adV, hvk⟩, -, -⟩ := hSC.2
      have hrecv := vk_recv (i := 0) hvk (by decide) hS
      obtain ⟨c1, c2, c3, c4⟩ := z_ch_ok
      have hW := va_runV (e := e) (below := below) (meth := meth) (locs := locs) (C := "java/lang/String") (b := ad (99, 0)) (As := [.int j]) (rest := r.map (z_cv ad)) (g := F0 m pc rl ((.inl j :: .inr (.inr (some (99, 0))) :: r).map (z_cv ad))) (n := 1) ⟨hx, hb, hml, hown, hts⟩ (hch l tc ad D v j hJ hin)
        ⟨callB_of 1 hts (z_TB_cons c1) rfl rfl rfl (hts _ c2) (hts _ (z_has_in hck2)) ⟨by decide, by decide, by decide +kernel⟩ ⟨(by omega : 5 + 1 ≤ R.frames), (by omega : 8 + (2 + 11) + 200 ≤ R.locals)⟩, hts _ c3, hts _ c4⟩ ⟨z_Pc_blind, hrecv, z_Pc_at hK hSC hP hS⟩ rfl rfl hL.1 rfl (lv_room (by rw [z_cs_sum]; exact Nat.le_of_ble_eq_true hcs)) hdg ⟨Nat.zero_le _, Nat.zero_le _⟩
      refine z_callK hW hS (fun v' r1 H1 locs1 hq hok hJ1 hP1 hS1 => ?_)
      obtain ⟨rfl, rfl⟩ := hq
      exact g5 H1 locs1 rl hL hol ⟨trivial, hos.2.2⟩ hJ1 hP1 hS1
    · rename_i n7
      split at h
      · rename_i As r htk
        obtain ⟨q, r, rfl, h⟩ := z_sR_i h
        obtain ⟨t, n, rfl, h⟩ := z_rf_i h
        obtain ⟨hc, h⟩ := z_if_i h
        rw [Bool.and_eq_true] at hc
        obtain ⟨htb, hcs⟩ := hc
        have htb : t = b / 256 := Nat.eq_of_beq_eq_true htb
        have ha : Nat.blt a 900 = true := by
          cases hb9 : Nat.blt a 900 with
          | true => rfl
          | false =>
            have hck : (match Nat.blt a 900 with
              | false => Nat.beq a 907 && z_has pl (.methodLink own i yJ0_charAt_5068e)
              | true => match z_MT[a]?, z_MD[a]? with
                | some (_, y, _, nL, _, na, st), some (rk, nL', _) => z_has pl (.methodLink own i y) && (!st && (Nat.beq (b % 16) na && (Nat.beq (b / 16 % 16) rk && (Nat.beq nL nL' && (Nat.blt (b / 256) 12 && decide (y.cls = z_cn (b / 256)))))))
                | _, _ => false) = true := hck
            rw [hb9] at hck
            dsimp only at hck
            rw [Bool.and_eq_true] at hck
            exact absurd (Nat.eq_of_beq_eq_true hck.1) n7
        exact z_stV hSd hx hb hml hown hts hK hSC hinj hfr hlo hL hol hos hJ hP hS htk hcs htb ha hck hdg (fun _ _ _ _ z => z) h
      · exact False.elim h
  all_goals exact False.elim h
end ZX
