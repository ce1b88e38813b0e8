/-! reads and writes of the world -/
theorem z_tg_ok {pc : Nat} {off : Int} (h : 0 ≤ (pc : Int) + off) : (pc : Int) + off = (z_tg pc off : Int) := (Int.toNat_of_nonneg h).symm
theorem z_rt_f {rk : Nat} {r : Option z_AV} {f : List z_AV → Prop} (h : z_rt rk r f) : f r.toList := by
  unfold z_rt at h
  split at h
  · obtain ⟨rfl, h⟩ := h
    exact h
  · obtain ⟨x, rfl, h⟩ := h
    exact h
  · obtain ⟨x, rfl, h⟩ := h
    exact h
  · obtain ⟨x, rfl, h⟩ := h
    exact h
theorem z_fty_0 {o : Option FieldType} (h : z_fty 0 o = true) : o = some .int := by
  unfold z_fty at h
  split at h <;> first | rfl | (rename_i e; cases e) | cases h
theorem z_fty_1 {o : Option FieldType} (h : z_fty 1 o = true) : o = some .long := by
  unfold z_fty at h
  split at h <;> first | rfl | (rename_i e; cases e) | cases h
theorem z_fty_3 {o : Option FieldType} (h : z_fty 3 o = true) : o = some .boolean := by
  unfold z_fty at h
  split at h <;> first | rfl | (rename_i e; cases e) | cases h
theorem z_fty_5 {o : Option FieldType} (h : z_fty 5 o = true) : ∃ C, o = some (.object C) := by
  unfold z_fty at h
  split at h <;> first | exact ⟨_, rfl⟩ | (rename_i e; cases e) | cases h
theorem z_fs_set {ad : Nat × Nat → Nat} {v v' : z_V} {t n b : Nat} {w : Value} (h : ∀ k, k < z_nf t → z_fvl ad v' t n k = if k = b then w else z_fvl ad v t n k) : (List.range (z_nf t)).map (z_fvl ad v' t n) = ((List.range (z_nf t)).map (z_fvl ad v t n)).set b w := by
  apply List.ext_getElem?
  intro k
  rw [List.getElem?_set]
  by_cases hk : k < z_nf t
  · by_cases hb : b = k
    · subst hb
      rw [if_pos rfl, if_pos (by simpa using hk)]
      simp [List.getElem?_range hk, h b hk]
    · rw [if_neg hb]
      simp [List.getElem?_range hk, h k hk, Ne.symm hb]
  · have h1 : ((List.range (z_nf t)).map (z_fvl ad v' t n))[k]? = none := by simp; omega
    have h2 : ((List.range (z_nf t)).map (z_fvl ad v t n))[k]? = none := by simp; omega
    rw [h1, h2]
    split
    · rw [if_neg (by simp; omega)]
    · rfl
theorem z_fvl_pI {ad : Nat × Nat → Nat} {v : z_V} {t n b : Nat} {x : Int32} (hb : z_fk t b = 0 ∨ z_fk t b = 3) (k : Nat) : z_fvl ad (pI v t n b x) t n k = if k = b then .int x else z_fvl ad v t n k := by
  by_cases hk : k = b
  · subst hk
    rw [if_pos rfl]
    unfold z_fvl
    rcases hb with hb | hb <;> rw [hb] <;> simp only [gI_pI, if_true]
  · rw [if_neg hk]
    unfold z_fvl
    simp only [gI_pI, if_neg hk, gL_pI, gJ_pI]
theorem z_fvl_pL {ad : Nat × Nat → Nat} {v : z_V} {t n b : Nat} {x : Int64} (hb : z_fk t b = 1) (k : Nat) : z_fvl ad (pL v t n b x) t n k = if k = b then .long x else z_fvl ad v t n k := by
  by_cases hk : k = b
  · subst hk
    rw [if_pos rfl]
    unfold z_fvl
    rw [hb]
    simp only [gL_pL, if_true]
  · rw [if_neg hk]
    unfold z_fvl
    simp only [gI_pL, gL_pL, if_neg hk, gJ_pL]
theorem z_pI_other {tc : Nat → ClassId} {ad : Nat × Nat → Nat} {v : z_V} {t n k : Nat} {x : Int32} : ∀ q' ∈ z_MK, q' ≠ (t, n) → z_cell tc ad (pI v t n k x) q' = z_cell tc ad v q' := fun q' _ h => z_cell_cong (fun j => gI_pI_ne (fun e => h (Prod.ext e.1 e.2))) (fun _ => rfl) (Or.inl rfl)
theorem z_pL_other {tc : Nat → ClassId} {ad : Nat × Nat → Nat} {v : z_V} {t n k : Nat} {x : Int64} : ∀ q' ∈ z_MK, q' ≠ (t, n) → z_cell tc ad (pL v t n k x) q' = z_cell tc ad v q' := fun q' _ h => z_cell_cong (fun _ => rfl) (fun j => gL_pL_ne (fun e => h (Prod.ext e.1 e.2))) (Or.inl rfl)
section ZM
variable {p : Program} {l : Launch} {e : Env} {R : Room} {s : State} {m : MethodId} {args : Array Value} {below : List Frame} {meth : Method} {c : Code}
variable {cc : ByteArray} {own : String} {tc : Nat → ClassId} {ad : Nat × Nat → Nat} {D : va_G} {H : Heap} {locs : List Loc} {pc : Nat} {rl : Array Slot} {rest : List Value} {QQ : State → Prop} {v : z_V} {i pl t n b : Nat}
theorem z_getf (hx : p.tables.exec = Jvm.exec) (hb : c.code = cc) (hts : ∀ w ∈ z_TB, w.before args s = true) (hown : s.vm.findClass own = some m.cls) (hK : va_K D vwCl (z_tys tc) s) (hP : va_P D vwCl (z_ws tc ad v) H)
    (hq : (t, n) ∈ z_MK) (ht : t < 12) (hbn : b < z_nf t) (hh : z_has pl (.fieldLink own i (z_TT t b).1 (z_TT t b).2.1 (z_TT t b).2.2.1) = true) (hdg : decode cc pc = .ok (.getfield i, 3))
    (kk : W p l e R s m args below meth c H locs 0 0 QQ (F0 m (pc + 3) rl (z_fvl ad v t n b :: rest))) : W p l e R s m args below meth c H locs 0 0 QQ (F0 m pc rl (.ref (ad (t, n)) :: rest)) := by
  obtain ⟨C, T, ty0, hc, hTT, -, hws, hty, hnm⟩ := z_cls t ht
  obtain ⟨i0, hi, -⟩ := z_ws_at (tc := tc) (ad := ad) (v := v) hq
  rw [z_cell_o ht] at hi
  rw [hTT] at hh
  exact va_get hx hb hts hws hown hK hP i0 hi hc b hbn (hts _ (z_has_in hh)) (fun x hx => hx) (by simp [List.getElem?_range hbn]) hdg kk
theorem z_putf {v' : z_V} {w : Value} {ty : FieldType} (hx : p.tables.exec = Jvm.exec) (hb : c.code = cc) (hts : ∀ w ∈ z_TB, w.before args s = true) (hown : s.vm.findClass own = some m.cls) (hK : va_K D vwCl (z_tys tc) s) (hinj : z_inj ad) (hP : va_P D vwCl (z_ws tc ad v) H) (hS : va_S (z_A ad) s.heap H locs)
    (hq : (t, n) ∈ z_MK) (ht : t < 12) (hbn : b < z_nf t) (hh : z_has pl (.fieldLink own i (z_TT t b).1 (z_TT t b).2.1 (z_TT t b).2.2.1) = true) (hfin : (z_TT t b).2.2.2 = false) (hd : parseFieldDescriptor (z_TT t b).2.2.1 = some ty) (hn : narrow ty w = w) (hfit : fits ty w = true)
    (hv : ∀ k, k < z_nf t → z_fvl ad v' t n k = if k = b then w else z_fvl ad v t n k) (ho : ∀ q' ∈ z_MK, q' ≠ (t, n) → z_cell tc ad v' q' = z_cell tc ad v q') (hdg : decode cc pc = .ok (.putfield i, 3))
    (kk : ∀ (H1 : Heap) (locs1 : List Loc), va_P D vwCl (z_ws tc ad v') H1 → va_S (z_A ad) s.heap H1 locs1 → W p l e R s m args below meth c H1 locs1 0 0 QQ (F0 m (pc + 3) rl rest)) : W p l e R s m args below meth c H locs 0 0 QQ (F0 m pc rl (w :: .ref (ad (t, n)) :: rest)) := by
  obtain ⟨C, T, ty0, hc, hTT, -, hws, hty, hnm⟩ := z_cls t ht
  obtain ⟨i0, hi, hset⟩ := z_ws_at (tc := tc) (ad := ad) (v := v) hq
  rw [z_cell_o ht] at hi
  rw [hTT] at hh hfin hd
  refine va_put hx hb hts hws ty0 hty hnm hown hK hP (z_D (A := z_A ad) (fun q hq => ⟨q, hq, rfl⟩) hinj) hS i0 hi hc b hbn (hts _ (z_has_in hh)) (fun x hx => hx) hfin hd hn hfit (by simpa using hbn) hdg (fun H1 locs1 hP1 _ hS1 => kk H1 locs1 ?_ hS1)
  rw [← hset v' ho, z_cell_o ht, z_fs_set hv]
  exact hP1
theorem z_ar_i {hk1 : z_kd t ≠ 1} {hk4 : z_kd t ≠ 4} {hk9 : z_kd t ≠ 9} {k : Nat} {x : Int32} {H1 : Heap} {i0 : Nat} (hq : (t, n) ∈ z_MK) (hset : ∀ (v' : z_V), (∀ q' ∈ z_MK, q' ≠ (t, n) → z_cell tc ad v' q' = z_cell tc ad v q') → (z_ws tc ad v).set i0 (ad (t, n), z_cell tc ad v' (t, n)) = z_ws tc ad v')
    (hP1 : va_P D vwCl ((z_ws tc ad v).set i0 (ad (t, n), .inl (tc (z_kd t), z_ln t, .inl (upd (fun k => gI v t n k) k x)))) H1) : va_P D vwCl (z_ws tc ad (pI v t n k x)) H1 := by
  rw [← hset (pI v t n k x) z_pI_other, z_cell_i hq hk1 hk4 hk9]
  have : (fun j => gI (pI v t n k x) t n j) = upd (fun k => gI v t n k) k x := funext fun j => gI_pI
  rw [this]
  exact hP1
end ZM
theorem z_sw_i {K : Nat → Prop} {pc : Nat} {y : Int32} {d : Int} : ∀ {os : List Int} {lo : Int}, -1000 ≤ lo → lo + os.length ≤ 1001 → z_sw K pc y d lo os → (∃ (i : Nat) (o : Int), os[i]? = some o ∧ y.toInt = lo + i ∧ K (z_tg pc o)) ∨ ((y.toInt < lo ∨ lo + os.length ≤ y.toInt) ∧ K (z_tg pc d))
  | [], lo, _, _, h => Or.inr ⟨by simp; omega, h⟩
  | o :: os, lo, h1, h2, h => by
    have h3 : (Int32.ofInt lo).toInt = lo := Int32.toInt_ofInt_of_le (by simp; omega) (by simp at h2 ⊢; omega)
    by_cases hy : y = Int32.ofInt lo
    · refine Or.inl ⟨0, o, rfl, ?_, h.1 hy⟩
      rw [hy, h3]
      simp
    · have hy2 : y.toInt ≠ lo := fun q => hy (Int32.toInt_inj.mp (q.trans h3.symm))
      simp only [List.length_cons] at h2 ⊢
      rcases z_sw_i (lo := lo + 1) (by omega) (by omega) (h.2 hy) with ⟨i, o', h4, h5, h6⟩ | ⟨h4, h5⟩
      · exact Or.inl ⟨i + 1, o', h4, by rw [h5]; omega, h6⟩
      · exact Or.inr ⟨by omega, h5⟩
