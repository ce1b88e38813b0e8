/-! what is done to a world, as maps of worlds; the class's world -/
def wTx (W : z_W) (T : Nat → z_T) : Option z_T := if wR W = -1 then none else some (T (n_ (wR W)))
def rdV (W : z_W) (T : Nat → z_T) (l : Nat) : Nat := match wTx W T with
  | none => 5
  | some X => lv (wNet W) (wnu W) (wS W 0) (wS W 2) l 0 X.1 5 10
def csV (W : z_W) (T : Nat → z_T) (h x : Nat) : Nat := match wTx W T with
  | none => 1
  | some X => lv (wNet W) (wnu W) (wS W 0) (wS W 2) h x X.2.1 1 99
theorem hl_le {x : Int} {top : Nat} : hl x top ≤ top := by
  unfold hl
  split
  · omega
  · split <;> omega
theorem lv_le {N : z_N} {nu : Nat → Nat} {D F wh num wo top : Nat} {law : Option z_X} (h : wo ≤ top) : lv N nu D F wh num law wo top ≤ top := by
  unfold lv
  split
  · exact h
  · exact hl_le
theorem rdV_le {W : z_W} {T : Nat → z_T} {l : Nat} : rdV W T l ≤ 10 := by
  unfold rdV
  split
  · decide
  · exact lv_le (by decide)
theorem csV_le {W : z_W} {T : Nat → z_T} {h x : Nat} : csV W T h x ≤ 99 := by
  unfold csV
  split
  · decide
  · exact lv_le (by decide)
/-- a step is kept -/
def wKp (W : z_W) : z_W := (W.1, W.2.1, W.2.2.1, W.2.2.2.1, (if wC W < 30 then wC W + 1 else 30), (fun i => if wC W < 30 then (if i = wC W then wS W else wH W i) else (if i = 29 then wS W else wH W (i + 1))), W.2.2.2.2.2.2)
def wKb (b : Bool) (W : z_W) : z_W := if b = true then wKp W else W
def wUn (W : z_W) : z_W × Int32 := if wC W = 0 then (W, -1) else ((W.1, W.2.1, W.2.2.1, wH W (wC W - 1), wC W - 1, W.2.2.2.2.2), nI (wC W - 1))
def wLy (W : z_W) (a b : Int32) : z_W × Int32 := if (inr a 7 && (inr b 7 && (decide (a ≠ b) && (decide (wN W < 10) && !anyL (wN W) (fun l => nEd (wNet W) l (n_ a) (n_ b)))))) = true
  then ((wN W + 1, (fun l => if l = wN W then n_ a else wA W l), (fun l => if l = wN W then n_ b else wB W l), W.2.2.2), nI (wN W)) else (W, -1)
def plS (s : z_St) (c h x : Nat) : z_St := sWr (sU (sU s 2 (s 2 - c)) (5 + h) x) 0 h x
def plOk (W : z_W) (T : Nat → z_T) (h x : Nat) : Prop := wS W (5 + h) ≠ x ∧ csV W T h x ≤ wS W 2
def wPl (W : z_W) (T : Nat → z_T) (b : Bool) (a1 a2 : Int32) : z_W × Int32 :=
  if (inr a1 7 && inr a2 100) = true ∧ wS W (5 + n_ a1) ≠ n_ a2 ∧ csV W T (n_ a1) (n_ a2) ≤ wS W 2 then (wS' (wKb b W) (plS (wS W) (csV W T (n_ a1) (n_ a2)) (n_ a1) (n_ a2)), nI (csV W T (n_ a1) (n_ a2))) else (W, -1)
def tuS (s : z_St) (l : Nat) : z_St := sWr (sU s 4 (s 4 ^^^ 2 ^ l)) 1 l (if (s 4).testBit l = true then 1 else 0)
def wTu (W : z_W) (b : Bool) (a : Int32) : z_W × Int32 := if inr a (wN W) = true then (wS' (wKb b W) (tuS (wS W) (n_ a)), 1) else (W, 0)
def irg (a : Int32) (lo hi : Int) : Bool := decide (lo ≤ a.toInt ∧ a.toInt ≤ hi)
def wGr (W : z_W) (b : Bool) (a : Int32) : z_W × Int32 := if (irg a 1 99 && decide (wS W 2 + n_ a ≤ 99999)) = true then (wS' (wKb b W) (sU (wS W) 2 (wS W 2 + n_ a)), 1) else (W, 0)
/-- a day: the lines from l on -/
def pdL (rid fr : z_St → Nat → Nat) : Nat → Nat → z_St → Nat → z_St × Nat
  | 0, _, s, c => (s, c)
  | k + 1, l, s, c => if (s 4).testBit l = true then pdL rid fr k (l + 1) s c
    else if s 1 % 10 < rid (sDr s) l then pdL rid fr k (l + 1) (sWr (sU (sDr s) 2 (min 99999 (s 2 + fr s l))) 2 l (fr s l)) (c + fr s l)
    else pdL rid fr k (l + 1) (sDr s) c
def wRid (W : z_W) (T : Nat → z_T) : z_St → Nat → Nat := fun s l => rdV (wS' W s) T l
def wFr (W : z_W) : z_St → Nat → Nat := fun s l => fare (wNet W) (fun h => s (5 + h)) l
def wPd (W : z_W) (T : Nat → z_T) : z_St × Nat := pdL (wRid W T) (wFr W) (wN W) 0 (wS W) 0
def wPs (W : z_W) (T : Nat → z_T) (b : Bool) : z_W × Nat := (wS' (wKb b W) (sU (wPd W T).1 0 ((wPd W T).1 0 + 1)), (wPd W T).2)
def wDw (W : z_W) (T : Nat → z_T) (x : Nat) : z_W := if x % 6 = 0 then (wPl W T false (nI (x / 6 % 7)) (nI (x % 20))).1
  else if x % 6 = 1 then (if x % 4 = 3 then (wTu W false (nI (x / 6 % 10))).1 else W)
  else if x % 6 = 2 then (wGr W false (nI (1 + x / 6 % 9))).1
  else if wS W 0 < 9999 then (wPs W T false).1 else W
theorem okW.kp {W : z_W} (h : okW W) : okW (wKp W) := by
  refine ⟨h.1, h.2.1, ?_, fun i hi => ?_, h.2.2.2.2⟩
  · show (if wC W < 30 then wC W + 1 else 30) ≤ 30
    split <;> omega
  · show okS (wN W) (if wC W < 30 then (if i = wC W then wS W else wH W i) else (if i = 29 then wS W else wH W (i + 1)))
    have hi : i < (if wC W < 30 then wC W + 1 else 30) := hi
    have hc := h.2.2.1
    by_cases e : wC W < 30
    · rw [if_pos e] at hi ⊢
      split
      · exact h.2.1
      · exact h.2.2.2.1 i (by omega)
    · rw [if_neg e] at hi ⊢
      split
      · exact h.2.1
      · exact h.2.2.2.1 (i + 1) (by omega)
theorem okW.kb {W : z_W} (h : okW W) (b : Bool) : okW (wKb b W) := by
  cases b
  · exact h
  · exact h.kp
theorem wKb_rd {W : z_W} {T : Nat → z_T} {b : Bool} {l : Nat} : rdV (wKb b W) T l = rdV W T l := by cases b <;> rfl
theorem wKb_cs {W : z_W} {T : Nat → z_T} {b : Bool} {h x : Nat} : csV (wKb b W) T h x = csV W T h x := by cases b <;> rfl
theorem wKb_S {W : z_W} {b : Bool} : wS (wKb b W) = wS W := by cases b <;> rfl
theorem wKb_N {W : z_W} {b : Bool} : wN (wKb b W) = wN W := by cases b <;> rfl
theorem wKb_net {W : z_W} {b : Bool} : wNet (wKb b W) = wNet W := by cases b <;> rfl
theorem sU_ok2 {n x : Nat} {s : z_St} (h : okS n s) (hx : x ≤ 99999) : okS n (sU s 2 x) := by
  refine ⟨?_, ?_, ?_, ?_, ?_, fun k hk => ?_, fun k hk => ?_⟩
  · rw [sU_n (by decide)]; exact h.1
  · rw [sU_n (by decide)]; exact h.2.1
  · rw [sU_s]; exact hx
  · rw [sU_n (by decide)]; exact h.2.2.2.1
  · rw [sU_n (by decide)]; exact h.2.2.2.2.1
  · rw [sU_n (by omega)]; exact h.2.2.2.2.2.1 k hk
  · rw [sU_n (by omega)]; exact h.2.2.2.2.2.2 k hk
theorem sU_ok0 {n x : Nat} {s : z_St} (h : okS n s) (hx : x ≤ 9999) : okS n (sU s 0 x) := by
  refine ⟨?_, ?_, ?_, ?_, ?_, fun k hk => ?_, fun k hk => ?_⟩
  · rw [sU_s]; exact hx
  · rw [sU_n (by decide)]; exact h.2.1
  · rw [sU_n (by decide)]; exact h.2.2.1
  · rw [sU_n (by decide)]; exact h.2.2.2.1
  · rw [sU_n (by decide)]; exact h.2.2.2.2.1
  · rw [sU_n (by omega)]; exact h.2.2.2.2.2.1 k hk
  · rw [sU_n (by omega)]; exact h.2.2.2.2.2.2 k hk
theorem sU_ok1 {n x : Nat} {s : z_St} (h : okS n s) (hx : x < 31013) : okS n (sU s 1 x) := by
  refine ⟨?_, ?_, ?_, ?_, ?_, fun k hk => ?_, fun k hk => ?_⟩
  · rw [sU_n (by decide)]; exact h.1
  · rw [sU_s]; exact hx
  · rw [sU_n (by decide)]; exact h.2.2.1
  · rw [sU_n (by decide)]; exact h.2.2.2.1
  · rw [sU_n (by decide)]; exact h.2.2.2.2.1
  · rw [sU_n (by omega)]; exact h.2.2.2.2.2.1 k hk
  · rw [sU_n (by omega)]; exact h.2.2.2.2.2.2 k hk
theorem sU_ok4 {n x : Nat} {s : z_St} (h : okS n s) (hx : x < 2 ^ n) : okS n (sU s 4 x) := by
  refine ⟨?_, ?_, ?_, ?_, ?_, fun k hk => ?_, fun k hk => ?_⟩
  · rw [sU_n (by decide)]; exact h.1
  · rw [sU_n (by decide)]; exact h.2.1
  · rw [sU_n (by decide)]; exact h.2.2.1
  · rw [sU_n (by decide)]; exact h.2.2.2.1
  · rw [sU_s]; exact hx
  · rw [sU_n (by omega)]; exact h.2.2.2.2.2.1 k hk
  · rw [sU_n (by omega)]; exact h.2.2.2.2.2.2 k hk
theorem sU_ok5 {n x g : Nat} {s : z_St} (h : okS n s) (hg : g < 7) (hx : x ≤ 99) : okS n (sU s (5 + g) x) := by
  refine ⟨?_, ?_, ?_, ?_, ?_, fun k hk => ?_, fun k hk => ?_⟩
  · rw [sU_n (by omega)]; exact h.1
  · rw [sU_n (by omega)]; exact h.2.1
  · rw [sU_n (by omega)]; exact h.2.2.1
  · rw [sU_n (by omega)]; exact h.2.2.2.1
  · rw [sU_n (by omega)]; exact h.2.2.2.2.1
  · by_cases e : 5 + k = 5 + g
    · rw [e, sU_s]; exact hx
    · rw [sU_n e]; exact h.2.2.2.2.2.1 k hk
  · rw [sU_n (by omega)]; exact h.2.2.2.2.2.2 k hk
theorem fare_le {W : z_W} (hW : okW W) {s : z_St} (hs : okS (wN W) s) {l : Nat} (hl : l < wN W) : wFr W s l ≤ 99 := by
  have hw := hW.1.2.2.1 l hl
  exact dst_le (hs.2.2.2.2.2.1 _ hw.1) (hs.2.2.2.2.2.1 _ hw.2.1)
theorem pdL_ok {W : z_W} {rid : z_St → Nat → Nat} (hW : okW W) : ∀ {k l : Nat} {s : z_St} {c : Nat}, l + k ≤ wN W → okS (wN W) s → okS (wN W) (pdL rid (wFr W) k l s c).1 ∧ (pdL rid (wFr W) k l s c).1 0 = s 0
  | 0, _, _, _, _, h => ⟨h, rfl⟩
  | k + 1, l, s, c, hl, h => by
    have hn := hW.n
    unfold pdL
    split
    · exact pdL_ok hW (by omega) h
    · split
      · have hf := fare_le hW h (l := l) (by omega)
        have h2 := pdL_ok (rid := rid) (c := c + wFr W s l) hW (show l + 1 + k ≤ wN W by omega) (sWr_ok (what := 2) (which := l) (num := wFr W s l) (sU_ok2 (sDr_ok h) (Nat.min_le_left 99999 (s 2 + wFr W s l))) (by decide) (by omega) hf)
        refine ⟨h2.1, h2.2.trans ?_⟩
        unfold sWr
        split
        · rw [sU_n (by omega), sU_n (by omega), sU_n (by decide)]
          exact sU_n (by decide)
        · rw [sU_n (by omega), sU_n (by omega), sSh_o (by omega), sU_n (by decide)]
          exact sU_n (by decide)
      · have h2 := pdL_ok (rid := rid) (c := c) hW (show l + 1 + k ≤ wN W by omega) (sDr_ok h)
        exact ⟨h2.1, h2.2.trans (sU_n (by decide))⟩
/-- the class's world number w -/
def RC (v : z_V) (w : Nat) (W : z_W) : Prop := okW W ∧ gI v 9 w 8 = nI (wN W) ∧ gI v 9 w 9 = nI (wT W) ∧ gI v 9 w 10 = wR W ∧ gI v 9 w 11 = nI (wQ W) ∧ gI v 9 w 12 = nI (wC W) ∧ (∃ f, f < 30 ∧ gI v 9 w 13 = nI f ∧ ∀ i, i < wC W → RS v (31 * w + 1 + (f + i) % 30) (wH W i)) ∧ (∀ l, l < wN W → gI v 1001 w l = nI (wA W l) ∧ gI v 1002 w l = nI (wB W l)) ∧ RS v (31 * w) (wS W) ∧ ∀ i, i < wQ W → gI v 1004 w i = nI (wL W i) ∧ gI v 1005 w i = nI (wM W i)
def inW (w : Nat) : Nat → Nat → Prop := fun t n => ((t = 9 ∨ t = 1001 ∨ t = 1002 ∨ t = 1004 ∨ t = 1005) ∧ n = w) ∨ ((t = 4 ∨ t = 500 ∨ t = 501) ∧ 31 * w ≤ n ∧ n < 31 * w + 31)
def sWo (w : Nat) : Nat → Nat → Prop := fun t n => inW w t n ∨ t = 5 ∨ t = 600
theorem RC.fn {v u : z_V} {w : Nat} {W : z_W} {S : Nat → Nat → Prop} (h : RC v w W) (f : Fn S v u) (hs : ∀ t n, inW w t n → ¬ S t n) : RC u w W := by
  obtain ⟨a0, a1, a2, a3, a4, a5, ⟨g, b1, b2, b3⟩, a7, a8, a9⟩ := h
  have n9 : ¬ S 9 w := hs _ _ (Or.inl ⟨Or.inl rfl, rfl⟩)
  have n1 : ¬ S 1001 w := hs _ _ (Or.inl ⟨Or.inr (Or.inl rfl), rfl⟩)
  have n2 : ¬ S 1002 w := hs _ _ (Or.inl ⟨Or.inr (Or.inr (Or.inl rfl)), rfl⟩)
  have n4 : ¬ S 1004 w := hs _ _ (Or.inl ⟨Or.inr (Or.inr (Or.inr (Or.inl rfl))), rfl⟩)
  have n5 : ¬ S 1005 w := hs _ _ (Or.inl ⟨Or.inr (Or.inr (Or.inr (Or.inr rfl))), rfl⟩)
  have hR : ∀ {n : Nat} {s : z_St}, 31 * w ≤ n → n < 31 * w + 31 → RS v n s → RS u n s := fun h1 h2 h => h.fn f (hs _ _ (Or.inr ⟨Or.inl rfl, h1, h2⟩)) (hs _ _ (Or.inr ⟨Or.inr (Or.inl rfl), h1, h2⟩)) (hs _ _ (Or.inr ⟨Or.inr (Or.inr rfl), h1, h2⟩))
  exact ⟨a0, (f.i n9).trans a1, (f.i n9).trans a2, (f.i n9).trans a3, (f.i n9).trans a4, (f.i n9).trans a5, ⟨g, b1, (f.i n9).trans b2, fun i hi => hR (by omega) (by omega) (b3 i hi)⟩, fun l hl => ⟨(f.i n1).trans (a7 l hl).1, (f.i n2).trans (a7 l hl).2⟩, hR (by omega) (by omega) a8, fun i hi => ⟨(f.i n4).trans (a9 i hi).1, (f.i n5).trans (a9 i hi).2⟩⟩
theorem RC.ce {v : z_V} {w : Nat} {W : z_W} (h : RC v w W) : CE v w (wNet W) (wnu W) (wS W 0) (wS W 2) := by
  obtain ⟨a0, a1, a2, a3, a4, a5, _, a7, a8, a9⟩ := h
  exact ⟨⟨a0.1, a1, ⟨wS W 4, a8.2.2.2.2.1, by
    have := a0.2.1.2.2.2.2.1
    show wS W 4 + (2 ^ wN W - 1 - wS W 4) + 1 = 2 ^ wN W
    omega⟩, a7, fun k hk => ⟨a8.2.2.2.2.2.1 k hk, a0.2.1.2.2.2.2.2.1 k hk⟩⟩, a8.1, a8.2.2.1, a0.2.1.1, a0.2.1.2.2.1⟩
theorem RC.cw {v : z_V} {w : Nat} {W : z_W} (h : RC v w W) : CW v w (wNet W) (wnu W) := h.ce.1
/-- another standing now -/
theorem RC.set {v u : z_V} {w : Nat} {W : z_W} {s : z_St} (h : RC v w W) (f : Fn (sSt (31 * w)) v u) (hs : okS (wN W) s) (hu : RS u (31 * w) s) : RC u w (wS' W s) := by
  obtain ⟨a0, a1, a2, a3, a4, a5, ⟨g, b1, b2, b3⟩, a7, a8, a9⟩ := h
  have n : ∀ t, t ≠ 4 → t ≠ 500 → t ≠ 501 → ∀ n, ¬ sSt (31 * w) t n := fun t h1 h2 h3 n q => by
    rcases q.1 with z | z | z
    · exact h1 z
    · exact h2 z
    · exact h3 z
  have n9 := n 9 (by decide) (by decide) (by decide) w
  exact ⟨a0.set hs, (f.i n9).trans a1, (f.i n9).trans a2, (f.i n9).trans a3, (f.i n9).trans a4, (f.i n9).trans a5, ⟨g, b1, (f.i n9).trans b2, fun i hi => (b3 i hi).fn f (fun q => by have := q.2; omega) (fun q => by have := q.2; omega) (fun q => by have := q.2; omega)⟩, fun l hl => ⟨(f.i (n 1001 (by decide) (by decide) (by decide) w)).trans (a7 l hl).1, (f.i (n 1002 (by decide) (by decide) (by decide) w)).trans (a7 l hl).2⟩, hu, fun i hi => ⟨(f.i (n 1004 (by decide) (by decide) (by decide) w)).trans (a9 i hi).1, (f.i (n 1005 (by decide) (by decide) (by decide) w)).trans (a9 i hi).2⟩⟩
theorem sWo_st {w a : Nat} (h1 : 31 * w ≤ a) (h2 : a < 31 * w + 31) {v u : z_V} (f : Fn (sSt a) v u) : Fn (sWo w) v u := f.mono (fun t n q => Or.inl (Or.inr ⟨q.1, by rw [q.2]; exact h1, by rw [q.2]; exact h2⟩))
theorem sWo_tl {w : Nat} {v u : z_V} (f : Fr sTl v u) : Fn (sWo w) v u := Fn.ofT f (fun t n _ (q : t ∈ [5, 600]) => by
  simp only [List.mem_cons, List.not_mem_nil, or_false] at q
  exact Or.inr q)
theorem RC.tl {v u : z_V} {w : Nat} {W : z_W} (h : RC v w W) (f : Fr sTl v u) : RC u w W := h.fn (S := fun t _ => t ∈ [5, 600]) (Fn.ofT f (fun t n _ q => q)) (fun t n hi (q : t ∈ [5, 600]) => by
  simp only [List.mem_cons, List.not_mem_nil, or_false] at q
  rcases hi with ⟨z, _⟩ | ⟨z, _⟩ <;> omega)
/-- the class's texts -/
def TX (v : z_V) (w : Nat) (W : z_W) (T : Nat → z_T) : Prop := ∀ k, k < wT W → TC v (4 * w + k) (T k)
theorem TC.fn {v u : z_V} {m : Nat} {T : z_T} {S : Nat → Nat → Prop} (h : TC v m T) (f : Fn S v u) (h6 : ¬ S 6 m) (h0 : ¬ S 700 m) (h1 : ¬ S 701 m) (h2 : ¬ S 702 m) (h3 : ¬ S 703 m) : TC u m T := by
  have g0 : gI u 700 m = gI v 700 m := funext fun k => f.i h0
  have hl : ∀ a b r law, LC1 v m a b r law → LC1 u m a b r law := by
    intro a b r law q
    cases law with
    | none => exact ⟨(f.i h6).trans q.1, (f.i h6).trans q.2⟩
    | some e =>
      obtain ⟨g, q1, q2, q3, q4, q5⟩ := q
      exact ⟨g, (f.i h6).trans q1, (f.i h6).trans q2, q3, by rw [g0]; exact q4, q5⟩
  exact ⟨hl _ _ _ _ h.1, hl _ _ _ _ h.2.1, (f.i h6).trans h.2.2.1, h.2.2.2.1, fun j hj => ⟨(f.i h1).trans (h.2.2.2.2 j hj).1, (f.i h2).trans (h.2.2.2.2 j hj).2.1, (f.i h3).trans (h.2.2.2.2 j hj).2.2.1, (h.2.2.2.2 j hj).2.2.2⟩⟩
theorem TX.wo {v u : z_V} {w w' : Nat} {W : z_W} {T : Nat → z_T} (h : TX v w' W T) (f : Fn (sWo w) v u) : TX u w' W T := fun k hk => by
  have n : ∀ t, t = 6 ∨ (700 ≤ t ∧ t ≤ 703) → ¬ sWo w t (4 * w' + k) := fun t ht q => by
    rcases q with (⟨z, _⟩ | ⟨z, _⟩) | z <;> omega
  exact (h k hk).fn f (n 6 (by decide)) (n 700 (by decide)) (n 701 (by decide)) (n 702 (by decide)) (n 703 (by decide))
