/-! weights of open lines by the reference: the walk -/
def CW8 (N : z_N) (al : Bool) (K : Nat) (k : Nat) (W : Nat → Nat) : Bool := wdB N W k && suB N al K W k
def PbC (N : z_N) (al : Bool) (K : Nat) (W : Nat → Nat) : Bool := allL (oM N) (fun k => CW8 N al K k W)
def solW (N : z_N) (al : Bool) (K : Nat) (W : Nat → Nat) : Prop := ∀ k, k < oM N → CW8 N al K k W = true ∧ 1 ≤ W (oK N k) ∧ W (oK N k) ≤ oM N
def TW (N : z_N) (al : Bool) (K k : Nat) (W : Nat → Nat) : Nat := ctV 1 (oM N) (PbC N al K) (vLs (oK N) (k + 1) (oM N - (k + 1))) W
def LBx (v : z_V) (N : z_N) (W : Nat → Nat) (k : Nat) : Prop := ∀ l, l < nN N → l ≠ oK N k → gI v 1232 0 l = nI (if asR N k l = true then W l else 0)
def GW (D : Nat) (Q : z_RT) (al b : Bool) (x6 : Int32) (y : Nat) (u : z_V) : Prop := ∀ u3 u7, z_Wp (z_C D) 2 k_X11_weighed Q 68 [some (vR 11 0), some (vI (bI al)), some (vI (bI b)), u3, some (vL (lN y)), none, some (vI x6), u7] [] u
section WT2
variable {d : Nat} {v : z_V} {N : z_N} {nu : Nat → Nat} {W W' : Nat → Nat} {al b : Bool} {K : Nat} {Q : z_RT}
theorem asR_oK {p k : Nat} (hp : p < oM N) : asR N k (oK N p) = decide (p < k) := by
  have h := oK_ok hp
  unfold asR
  rw [h.2.1, h.2.2]
  rfl
theorem asR_s {k l : Nat} (hk : k < oM N) (hl : l < 10) (h : l ≠ oK N k) : asR N (k + 1) l = asR N k l := by
  unfold asR
  cases e : nP N l
  · rfl
  · have : oR N l ≠ k := fun z => h (by rw [← z, oK_rk hl e])
    congr 1
    rw [decide_eq_decide]
    omega
theorem LBx.put {u : z_V} {k x : Nat} (hn : nN N ≤ 10) (h : LBx u N W k) (hk : k < oM N) : LBW (pI u 1232 0 (oK N k) (nI x)) N (sU W (oK N k) x) (k + 1) := fun l hl => by
  by_cases e : l = oK N k
  · subst e
    rw [gI_pI_s, asR_oK hk, decide_eq_true (by omega), if_pos rfl, sU_s]
  · rw [gI_pI_k e, h l hl e, asR_s hk (by omega) e, sU_n e]
theorem LBx.zero {u : z_V} {k : Nat} (h : LBx u N W k) (hk : k < oM N) : LBW (pI u 1232 0 (oK N k) 0) N W k := fun l hl => by
  by_cases e : l = oK N k
  · subst e
    rw [gI_pI_s, asR_oK hk, decide_eq_false (by omega), if_neg (by decide)]
    rfl
  · rw [gI_pI_k e, h l hl e]
theorem LBx.upd {u : z_V} {k : Nat} {x : Int32} (h : LBx u N W k) : LBx (pI u 1232 0 (oK N k) x) N W k := fun l hl e => by
  rw [gI_pI_k e]
  exact h l hl e
theorem LBW.x {u : z_V} {k : Nat} (h : LBW u N W k) : LBx u N W k := fun l hl _ => h l hl
theorem LBW.low {u : z_V} {k : Nat} (hn : nN N ≤ 10) (hk : k < oM N) (h : LBW u N W' (k + 1)) (e : ∀ p, p < k → W' (oK N p) = W (oK N p)) : LBx u N W k := fun l hl hne => by
  rw [h l hl, asR_s hk (by omega) hne]
  cases z : asR N k l
  · rfl
  · have z := asR_iff.mp z
    have := e (oR N l) z.2
    rw [oK_rk (by omega) z.1] at this
    rw [this]
theorem OLn.upd {u : z_V} {k : Nat} {x : Int32} (h : OLn u N) : OLn (pI u 1232 0 k x) N := ⟨by rw [gI_pI_t (by decide)]; exact h.1, fun p hp => by rw [gI_pI_t (by decide)]; exact h.2 p hp⟩
theorem wA_loc {k h : Nat} (e : ∀ p, p < k → W (oK N p) = W' (oK N p)) : wAt N (asR N k) W h = wAt N (asR N k) W' h := wA_cg (fun _ _ => rfl) (fun l hl z => by
  have z := asR_iff.mp z
  have := e (oR N l) z.2
  rw [oK_rk hl z.1] at this
  exact this)
theorem CW_loc {k : Nat} (e : ∀ p, p ≤ k → W (oK N p) = W' (oK N p)) : CW8 N al K k W = CW8 N al K k W' := by
  have h1 : wdB N W k = wdB N W' k := by
    unfold wdB
    congr 1
    refine anyL_cg (fun p hp => ?_)
    rw [e p (by omega), e k (Nat.le_refl _)]
  have hw : ∀ h, wAt N (asR N (k + 1)) W h = wAt N (asR N (k + 1)) W' h := fun h => wA_loc (fun p hp => e p (by omega))
  have h2 : suB N al K W k = suB N al K W' k := by
    unfold suB
    refine allL_cg (fun h _ => ?_)
    unfold suA suU
    rw [hw h]
    have : allL 7 (fun g => decide (g = h) || (!dnB N (asR N (k + 1)) g || decide (wAt N (asR N (k + 1)) W g ≠ wAt N (asR N (k + 1)) W' h))) = allL 7 (fun g => decide (g = h) || (!dnB N (asR N (k + 1)) g || decide (wAt N (asR N (k + 1)) W' g ≠ wAt N (asR N (k + 1)) W' h))) := allL_cg (fun g _ => by rw [hw g])
    rw [this]
  unfold CW8
  rw [h1, h2]
theorem TW_s {k : Nat} (hk : k + 1 < oM N) : TW N al K k W = smF (oM N) 1 (fun x => TW N al K (k + 1) (sU W (oK N (k + 1)) x)) := by
  unfold TW
  rw [show oM N - (k + 1) = (oM N - (k + 1 + 1)) + 1 by omega]
  rfl
theorem TW_e {k : Nat} (hk : k + 1 = oM N) : TW N al K k W = if PbC N al K W = true then 1 else 0 := by
  unfold TW
  rw [show oM N - (k + 1) = 0 by omega]
  rfl
theorem TW_0 {k : Nat} (hk : k < oM N) (e : CW8 N al K k W = false) : TW N al K k W = 0 := ctV_0 (fun L' h => allL_f (show k < oM N from hk) (by
  rw [← e]
  refine CW_loc (fun p hp => h _ (fun z => ?_))
  obtain ⟨p', h1, h2, h3⟩ := vLs_mem.mp z
  exact oK_ne (N := N) (p := p') (k := p) (by omega) (by omega) (by omega) h3))
theorem s_wstep {k c y : Nat} {u : z_V} (hM : MS v N nu) (f : Fr fWt v u) (hO : OLn u N) (hx : LBx u N W k) (hk : k < oM N) (hc : c ≤ oM N) (hlab : gI u 1232 0 (oK N k) = nI c) (h35 : al = true → gI u 11 0 35 = nI K) (hK2 : K ≤ 110) (hpb : ∀ p, p < k → W (oK N p) ≤ oM N)
    (g1 : c = oM N → GW (d + 5) Q al b (nI k + (-1)) y (pI (pI u 1232 0 (oK N k) (nI (c + 1))) 1232 0 (oK N k) 0))
    (g2 : c < oM N → CW8 N al K k (sU W (oK N k) (c + 1)) = false → GW (d + 5) Q al b (nI k) y (pI u 1232 0 (oK N k) (nI (c + 1))))
    (g3 : c < oM N → CW8 N al K k (sU W (oK N k) (c + 1)) = true → k + 1 = oM N → b = true → GW (d + 5) Q al b (nI k) (y + 1) (pI u 1232 0 (oK N k) (nI (c + 1))))
    (g4 : c < oM N → CW8 N al K k (sU W (oK N k) (c + 1)) = true → k + 1 = oM N → b = false → Q (pI u 1232 0 (oK N k) (nI (c + 1))) (some (vL (lN (y + 1)))))
    (g5 : c < oM N → CW8 N al K k (sU W (oK N k) (c + 1)) = true → k + 1 < oM N → GW (d + 5) Q al b (nI (k + 1)) y (pI u 1232 0 (oK N k) (nI (c + 1)))) : GW (d + 5) Q al b (nI k) y u := by
  intro u3 u7
  have hm := oM_le (N := N)
  have hw := oK_ok hk
  have hn := hM.1.1
  have f1 : Fr fWt v (pI u 1232 0 (oK N k) (nI (c + 1))) := f.pI (Or.inl rfl)
  have hO1 := hO.upd (k := oK N k) (x := nI (c + 1))
  have hL1 := hx.put (x := c + 1) hn hk
  refine B_X11_weighed_68 (br_F (nI_pos (by omega)) ?_)
  rw [n_nI (n := k) (by omega), hO.2 k hk, n_nI (n := oK N k) (by omega), hlab, nI_1, gI_pI_s, nI_1]
  refine z_ii k rfl (by omega) (z_ii _ rfl hw.1 (z_ii _ rfl hw.1 (z_ii _ rfl hw.1 ?_)))
  refine pk_le (c + 1) (oM N) (fun q => ?_) (fun q => z_ii _ rfl hw.1 (g1 (by omega) _ _)) rfl hO.1
  have hb : ∀ p, p ≤ k → sU W (oK N k) (c + 1) (oK N p) ≤ 10 := fun p hp => by
    by_cases z : p = k
    · subst z
      rw [sU_s]
      omega
    · rw [sU_n (oK_ne (by omega) hk z)]
      have := hpb p (by omega)
      omega
  have hM1 := hM.wt f1
  refine cP (s_isWeighed (d := d + 4) hM1 hO1 hL1 hk hb) (br_z (fun e => g2 (by omega) (by unfold CW8; rw [e]; rfl) _ _) (fun e => ?_))
  have h35' : al = true → gI (pI u 1232 0 (oK N k) (nI (c + 1))) 11 0 35 = nI K := fun z => by rw [gI_pI_t (by decide)]; exact h35 z
  refine cP (s_areSums (d := d) hM1 hO1 hL1 hk hb h35' hK2) (br_n (fun e2 => ?_) (fun e2 => g2 (by omega) (by unfold CW8; rw [e2, Bool.and_false]) _ _))
  have eC : CW8 N al K k (sU W (oK N k) (c + 1)) = true := by
    unfold CW8
    rw [e, e2]
    rfl
  have em : nI (oM N) - 1 = nI (oM N - 1) := pk_sub (b := 1) (by omega)
  rw [hO1.1, em, lN_1]
  refine pk_le (oM N - 1) k (fun z => br_n (fun y => g3 (by omega) eC (by omega) y _ _) (fun y => g4 (by omega) eC (by omega) y)) (fun z => g5 (by omega) eC (by omega) _ _)
theorem s_visW (hM : MS v N nu) (hK2 : K ≤ 110) : ∀ (j k : Nat), k + j = oM N → k < oM N → ∀ (r c : Nat), c + r = oM N → ∀ (W : Nat → Nat) (u : z_V) (y : Nat), OLn u N → LBx u N W k → gI u 1232 0 (oK N k) = nI c → Fr fWt v u → (al = true → gI u 11 0 35 = nI K) → (∀ p, p < k → CW8 N al K p W = true ∧ 1 ≤ W (oK N p) ∧ W (oK N p) ≤ oM N) → (b = false → (∀ p, p < k → ∀ W', solW N al K W' → (∀ p', p' < p → W' (oK N p') = W (oK N p')) → W (oK N p) ≤ W' (oK N p)) ∧ ∀ W', solW N al K W' → (∀ p', p' < k → W' (oK N p') = W (oK N p')) → c + 1 ≤ W' (oK N k)) →
      (∀ (u' : z_V) (y' : Nat), OLn u' N → LBW u' N W k → Fr fWt v u' → (al = true → gI u' 11 0 35 = nI K) → (b = true → y' = y + smF r (c + 1) (fun x => TW N al K k (sU W (oK N k) x))) → (b = false → y' = y ∧ ∀ W', solW N al K W' → (∀ p, p < k → W' (oK N p) = W (oK N p)) → False) → GW (d + 5) Q al b (nI k + (-1)) y' u') →
      (∀ (u' : z_V) (W' : Nat → Nat), b = false → OLn u' N → LBW u' N W' (oM N) → Fr fWt v u' → (al = true → gI u' 11 0 35 = nI K) → solW N al K W' → (∀ p, p < oM N → ∀ W2, solW N al K W2 → (∀ p', p' < p → W2 (oK N p') = W' (oK N p')) → W' (oK N p) ≤ W2 (oK N p)) → Q u' (some (vL (lN (y + 1))))) → GW (d + 5) Q al b (nI k) y u := by
  have hn := hM.1.1
  intro j
  induction j with
  | zero => intro k hk hk2; omega
  | succ j ihj =>
    intro k hk hkm r
    have hw := oK_ok hkm
    induction r with
    | zero =>
      intro c hc W u y hO hx hlab f h35 hpre hnb kb kf
      refine s_wstep (W := W) (c := c) hM f hO hx hkm (by omega) hlab h35 hK2 (fun p hp => (hpre p hp).2.2) (fun q => ?_) (fun q => absurd q (by omega)) (fun q => absurd q (by omega)) (fun q => absurd q (by omega)) (fun q => absurd q (by omega))
      refine kb _ y hO.upd.upd (hx.upd.zero hkm) ((f.pI (Or.inl rfl)).pI (Or.inl rfl)) (fun z => ?_) (fun _ => rfl) (fun e => ⟨rfl, fun W' h1 h2 => ?_⟩)
      · rw [gI_pI_t (by decide), gI_pI_t (by decide)]
        exact h35 z
      · have := (hnb e).2 W' h1 h2
        have := (h1 k hkm).2.2
        omega
    | succ r ihr =>
      intro c hc W u y hO hx hlab f h35 hpre hnb kb kf
      have hO1 := hO.upd (k := oK N k) (x := nI (c + 1))
      have hL1 := hx.put (x := c + 1) hn hkm
      have f1 : Fr fWt v (pI u 1232 0 (oK N k) (nI (c + 1))) := f.pI (Or.inl rfl)
      have hlab1 : gI (pI u 1232 0 (oK N k) (nI (c + 1))) 1232 0 (oK N k) = nI (c + 1) := gI_pI_s
      have h351 : al = true → gI (pI u 1232 0 (oK N k) (nI (c + 1))) 11 0 35 = nI K := fun z => by rw [gI_pI_t (by decide)]; exact h35 z
      have pre1 : CW8 N al K k (sU W (oK N k) (c + 1)) = true → ∀ p, p < k + 1 → CW8 N al K p (sU W (oK N k) (c + 1)) = true ∧ 1 ≤ sU W (oK N k) (c + 1) (oK N p) ∧ sU W (oK N k) (c + 1) (oK N p) ≤ oM N := fun e p hp => by
        by_cases z : p = k
        · subst z
          rw [sU_s]
          exact ⟨e, by omega, by omega⟩
        · rw [sU_n (oK_ne (by omega) hkm z)]
          refine ⟨?_, (hpre p (by omega)).2⟩
          rw [← (hpre p (by omega)).1]
          exact CW_loc (fun p' hp' => sU_n (oK_ne (by omega) hkm (by omega)))
      have hcl : ∀ W', (∀ p, p < k → W' (oK N p) = W (oK N p)) → W' (oK N k) = c + 1 → CW8 N al K k W' = CW8 N al K k (sU W (oK N k) (c + 1)) := fun W' h1 h2 => CW_loc (fun p hp => by
        by_cases z : p = k
        · subst z
          rw [h2, sU_s]
        · rw [h1 p (by omega), sU_n (oK_ne (by omega) hkm z)])
      have nb1 : b = false → ∀ p, p < k + 1 → ∀ W', solW N al K W' → (∀ p', p' < p → W' (oK N p') = sU W (oK N k) (c + 1) (oK N p')) → sU W (oK N k) (c + 1) (oK N p) ≤ W' (oK N p) := fun hb p hp W' h1 h2 => by
        by_cases z : p = k
        · subst z
          rw [sU_s]
          exact (hnb hb).2 W' h1 (fun p' hp' => by rw [h2 p' hp', sU_n (oK_ne (by omega) hkm (by omega))])
        · rw [sU_n (oK_ne (by omega) hkm z)]
          exact (hnb hb).1 p (by omega) W' h1 (fun p' hp' => by rw [h2 p' hp', sU_n (oK_ne (by omega) hkm (by omega))])
      refine s_wstep (W := W) (c := c) hM f hO hx hkm (by omega) hlab h35 hK2 (fun p hp => (hpre p hp).2.2) (fun q => absurd q (by omega)) (fun q e => ?_) (fun q e hm hb => ?_) (fun q e hm hb => ?_) (fun q e hm => ?_)
      · refine ihr (c + 1) (by omega) W _ y hO1 hx.upd hlab1 f1 h351 hpre (fun hb => ⟨(hnb hb).1, fun W' h1 h2 => ?_⟩) (fun u' y' g1 g2 g3 g4 g5 g6 => kb u' y' g1 g2 g3 g4 (fun hb => ?_) g6) kf
        · have h3 := (hnb hb).2 W' h1 h2
          have h4 : W' (oK N k) ≠ c + 1 := fun z => by
            have := (h1 k hkm).1
            rw [hcl W' h2 z, e] at this
            cases this
          omega
        · rw [g5 hb]
          simp only [smF]
          rw [TW_0 hkm e]
          omega
      · refine ihr (c + 1) (by omega) W _ (y + 1) hO1 hx.upd hlab1 f1 h351 hpre (fun z => by rw [hb] at z; cases z) (fun u' y' g1 g2 g3 g4 g5 g6 => kb u' y' g1 g2 g3 g4 (fun _ => ?_) (fun z => by rw [hb] at z; cases z)) (fun u' W' z => by rw [hb] at z; cases z)
        rw [g5 hb]
        simp only [smF]
        have hP : PbC N al K (sU W (oK N k) (c + 1)) = true := allL_iff.mpr (fun p hp => (pre1 e p (by omega)).1)
        have h1 : TW N al K k (sU W (oK N k) (c + 1)) = 1 := by
          rw [TW_e hm, hP]
          rfl
        rw [h1]
        omega
      · exact kf _ (sU W (oK N k) (c + 1)) hb hO1 (by rw [← hm]; exact hL1) f1 h351 (fun p hp => pre1 e p (by omega)) (fun p hp => nb1 hb p (by omega))
      · have h0 : gI (pI u 1232 0 (oK N k) (nI (c + 1))) 1232 0 (oK N (k + 1)) = nI 0 := by
          have hw1 := oK_ok hm
          rw [hL1 _ (nP_lt hM.1 hw1.2.1), asR_oK hm, decide_eq_false (by omega), if_neg (by decide)]
        refine ihj (k + 1) (by omega) hm (oM N) 0 (by omega) (sU W (oK N k) (c + 1)) _ y hO1 hL1.x h0 f1 h351 (pre1 e) (fun hb => ⟨nb1 hb, fun W' h1 _ => (h1 (k + 1) hm).2.1⟩) (fun u' y' g1 g2 g3 g4 g5 g6 => ?_) kf
        rw [pk_m1]
        have hl2 : gI u' 1232 0 (oK N k) = nI (c + 1) := by
          rw [g2 _ (nP_lt hM.1 hw.2.1), asR_oK hkm, decide_eq_true (by omega), if_pos rfl, sU_s]
        refine ihr (c + 1) (by omega) W u' y' g1 (g2.low hn hkm (fun p hp => sU_n (oK_ne (by omega) hkm (by omega)))) hl2 g3 g4 hpre (fun hb => ⟨(hnb hb).1, fun W' h1 h2 => ?_⟩) (fun u2 y2 q1 q2 q3 q4 q5 q6 => kb u2 y2 q1 q2 q3 q4 (fun hb => ?_) (fun hb => ?_)) (fun u2 W' hb q1 q2 q3 q4 q5 q6 => ?_)
        · have h3 := (hnb hb).2 W' h1 h2
          have h4 : W' (oK N k) ≠ c + 1 := fun z => (g6 hb).2 W' h1 (fun p hp => by
            by_cases zz : p = k
            · subst zz
              rw [z, sU_s]
            · rw [h2 p (by omega), sU_n (oK_ne (by omega) hkm zz)])
          omega
        · rw [q5 hb, g5 hb, Nat.zero_add]
          have e2 := TW_s (W := sU W (oK N k) (c + 1)) (al := al) (K := K) hm
          simp only [smF]
          rw [e2]
          omega
        · rw [(q6 hb).1, (g6 hb).1]
          exact ⟨rfl, (q6 hb).2⟩
        · have := kf u2 W' hb q1 q2 q3 q4 q5 q6
          rw [(g6 hb).1]
          exact this
end WT2
