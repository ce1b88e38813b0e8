/-! tables of the small machine: rows, fields, references -/
def z_as : List (Nat × Nat) → Nat → Nat
  | [], _ => 9
  | (k, x) :: r, t => match Nat.beq k t with
    | true => x
    | false => z_as r t
def z_nth : List Nat → Nat → Nat
  | [], _ => 9
  | x :: _, 0 => x
  | _ :: r, n + 1 => z_nth r n
def z_nth2 : List (List Nat) → Nat → List Nat
  | [], _ => []
  | x :: _, 0 => x
  | _ :: r, n + 1 => z_nth2 r n
def z_kd (t : Nat) : Nat := z_as [(100, 0), (101, 0), (102, 0), (200, 0), (202, 0), (300, 0), (302, 4), (303, 4), (352, 0), (353, 0), (400, 2), (500, 0), (501, 0), (600, 0), (700, 0), (701, 0), (702, 0), (703, 0), (800, 0), (801, 0), (802, 0), (900, 0), (901, 0), (905, 0), (906, 0), (907, 0), (1001, 0), (1002, 0), (1003, 4), (1004, 0), (1005, 0), (1006, 4), (1200, 0), (1201, 0), (1202, 0), (1203, 0), (1215, 0), (1220, 0), (1221, 1), (1222, 3), (1225, 0), (1226, 0), (1227, 0), (1232, 0), (1233, 0), (1236, 3), (1237, 0)] t
def z_ln (t : Nat) : Nat := z_as [(100, 10), (101, 10), (102, 7), (200, 7), (202, 7), (300, 7), (302, 7), (303, 7), (352, 7), (353, 7), (400, 300), (500, 7), (501, 25), (600, 64), (700, 300), (701, 24), (702, 24), (703, 24), (800, 128), (801, 7), (802, 7), (900, 10), (901, 10), (905, 10), (906, 7), (907, 7), (1001, 10), (1002, 10), (1003, 4), (1004, 8), (1005, 8), (1006, 30), (1200, 1218), (1201, 1218), (1202, 2724), (1203, 300), (1215, 160), (1220, 10), (1221, 330), (1222, 330), (1225, 17), (1226, 7), (1227, 7), (1232, 10), (1233, 10), (1236, 128), (1237, 7)] t
def z_ty (t : Nat) : Nat := z_as [(100, 0), (101, 0), (102, 0), (200, 0), (202, 0), (300, 0), (302, 6), (303, 6), (352, 0), (353, 0), (400, 2), (500, 0), (501, 0), (600, 0), (700, 0), (701, 0), (702, 0), (703, 0), (800, 0), (801, 0), (802, 0), (900, 0), (901, 0), (905, 0), (906, 0), (907, 0), (1001, 0), (1002, 0), (1003, 4), (1004, 0), (1005, 0), (1006, 5), (1200, 0), (1201, 0), (1202, 0), (1203, 0), (1215, 0), (1220, 0), (1221, 1), (1222, 3), (1225, 0), (1226, 0), (1227, 0), (1232, 0), (1233, 0), (1236, 3), (1237, 0)] t
def z_FK : List (List Nat) := [[2, 2, 2, 0, 0, 0, 0, 1], [2, 0, 2, 1, 1, 1, 0, 0, 3, 3, 3, 1, 1, 1, 1], [2, 0, 2, 2, 1, 0, 0, 1], [2, 0, 3, 0, 0, 5, 0, 0, 0, 0, 0], [2, 2, 0, 0, 0, 0, 0], [2, 0, 0, 0], [2, 2, 2, 2, 0, 0, 0, 0, 0, 0], [2, 2, 2], [2, 2, 0, 1, 3, 2, 2, 2, 0, 1, 1], [2, 2, 2, 2, 2, 2, 2, 2, 0, 0, 0, 0, 0, 0], [2, 2, 2, 2, 2, 2, 2, 2, 2, 2], [2, 2, 2, 2, 0, 0, 0, 0, 0, 0, 0, 1, 0, 0, 0, 2, 0, 0, 3, 0, 2, 2, 2, 3, 0, 2, 2, 2, 0, 0, 0, 0, 2, 2, 0, 0, 2, 2]]
def z_fk (a b : Nat) : Nat := z_nth (z_nth2 z_FK a) b
def z_nf (a : Nat) : Nat := (z_nth2 z_FK a).length
def z_FF (t n k : Nat) : Option (Nat × Nat) :=
  cond (Nat.beq t 9) (cond (Nat.beq k 0) (some (4, 31 * n)) (cond (Nat.beq k 7) (some (5, n)) (some (1000 + k, n))))
  (cond (Nat.beq t 10) (match k with
    | 0 => some (9, 0)
    | 1 => some (9, 1)
    | 2 => some (4, 62)
    | 3 => some (3, 0)
    | 4 => some (0, 0)
    | 5 => some (1, 0)
    | 6 => some (2, 0)
    | 7 => some (2, 1)
    | 8 => some (8, 0)
    | _ => some (7, 0))
  (cond (Nat.beq t 1003) (some (6, 4 * n + k))
  (cond (Nat.beq t 1006) (some (4, 31 * n + 1 + k))
  (cond (Nat.beq t 302) (some (352, 7 * n + k))
  (cond (Nat.beq t 303) (some (353, 7 * n + k))
  (some (100 * (t + 1) + k, n)))))))
def z_WD : List Int32 := [114, 105, 100, 101, 115, 32, 32, 99, 111, 115, 116, 115, 32, 32, 108, 97, 121, 32, 32, 32, 32, 116, 111, 32, 32, 32, 32, 32, 112, 108, 97, 116, 101, 32, 32, 97, 116, 32, 32, 32, 32, 32, 116, 117, 114, 110, 32, 32, 32, 103, 114, 97, 110, 116, 32, 32, 100, 97, 121, 32, 32, 32, 32, 119, 104, 105, 99, 104, 32, 32, 102, 117, 110, 100, 32, 32, 32, 111, 112, 101, 110, 32, 32, 32, 100, 105, 102, 102, 32, 32, 32, 108, 111, 119, 32, 32, 32, 32, 104, 105, 103, 104, 32, 32, 32, 111, 108, 100, 32, 32, 32, 32, 110, 101, 119, 32, 32, 32, 32, 98, 101, 115, 105, 100, 101, 32, 102, 97, 114, 101, 32, 32, 32, 115, 105, 103, 110, 32, 32, 32, 105, 102, 32, 32, 32, 32, 32, 116, 104, 101, 110, 32, 32, 32, 101, 108, 115, 101, 32, 32, 32, 101, 110, 100, 32, 32, 32, 32, 111, 114, 32, 32, 32, 32, 32, 97, 110, 100, 32, 32, 32, 32, 110, 111, 116, 32, 32, 32, 32]
def z_wln : Nat := 189
def z_wch (k : Nat) : Int32 := z_WD.getD k 0
/-! THE SMALL MACHINE: values, states, one step, runs, calls -/
abbrev z_AV : Type := Int32 ⊕ (Int64 ⊕ Option (Nat × Nat))
abbrev z_V : Type := (Nat → Nat → Nat → Int32) × ((Nat → Nat → Nat → Int64) × Nat)
abbrev z_E : Type := Nat × (Instr × (Nat × (Nat × (List Nat × (Int32 × Int64)))))
abbrev z_KT : Type := Nat → List (Option z_AV) → List z_AV → z_V → Prop
abbrev z_RT : Type := z_V → Option z_AV → Prop
abbrev z_CT : Type := Nat → List z_AV → z_V → z_RT → Prop
abbrev vI (x : Int32) : z_AV := Sum.inl x
abbrev vL (x : Int64) : z_AV := Sum.inr (Sum.inl x)
abbrev vR (t n : Nat) : z_AV := Sum.inr (Sum.inr (some (t, n)))
abbrev vQ (q : Option (Nat × Nat)) : z_AV := Sum.inr (Sum.inr q)
def i_rem (x y : Int32) : Int32 := x - x / y * y
def i_shl (x y : Int32) : Int32 := x <<< (y &&& 31)
def i_shr (x y : Int32) : Int32 := x >>> (y &&& 31)
def i_ush (x y : Int32) : Int32 := (x.toUInt32 >>> (y.toUInt32 &&& Int32.toUInt32 31)).toInt32
def l_rem (x y : Int64) : Int64 := x - x / y * y
def l_shl (x : Int64) (y : Int32) : Int64 := x <<< (y.toInt64 &&& 63)
def l_shr (x : Int64) (y : Int32) : Int64 := x >>> (y.toInt64 &&& 63)
def l_ush (x : Int64) (y : Int32) : Int64 := (x.toUInt64 >>> (y.toInt64.toUInt64 &&& Int64.toUInt64 63)).toInt64
def i_max (x y : Int32) : Int32 := if x < y then y else x
def i_min (x y : Int32) : Int32 := if y < x then y else x
def i_abs (x : Int32) : Int32 := if 0 ≤ x then x else 0 - x
def l_max (x y : Int64) : Int64 := if y < x then x else y
def l_min (x y : Int64) : Int64 := if y < x then y else x
def n_ (x : Int32) : Nat := x.toNatClampNeg
def gI (v : z_V) (t n k : Nat) : Int32 := v.1 t n k
def gL (v : z_V) (t n k : Nat) : Int64 := v.2.1 t n k
def gJ (v : z_V) : Nat := v.2.2
def pI (v : z_V) (t n k : Nat) (x : Int32) : z_V := (fun t' n' k' => if t' = t ∧ k' = k ∧ n' = n then x else v.1 t' n' k', v.2)
def pL (v : z_V) (t n k : Nat) (x : Int64) : z_V := (v.1, (fun t' n' k' => if t' = t ∧ k' = k ∧ n' = n then x else v.2.1 t' n' k', v.2.2))
def pJ (v : z_V) (j : Nat) : z_V := (v.1, (v.2.1, j))
/-- ints copied from one row into another (or the same), as if by a row between -/
def pC (v : z_V) (t n sp t2 n2 dp len : Nat) : z_V := (fun t' n' k' => if t' = t2 ∧ n' = n2 then va_cpy (v.1 t n) (v.1 t2 n2) sp dp len k' else v.1 t' n' k', v.2)
def z_if (c : Bool) (T : Prop) : Prop := match c with
  | true => T
  | false => False
def z_in (j : Int32) (n : Nat) : Bool := decide (¬ (j < 0 ∨ n ≤ j.toNatClampNeg))
def z_nz (x : Int32) : Bool := decide (¬ x = 0)
def z_nzL (x : Int64) : Bool := decide (¬ x = 0)
def z_01 (x : Int32) : Bool := decide (x = 0 ∨ x = 1)
def z_sI (stk : List z_AV) (f : Int32 → List z_AV → Prop) : Prop := match stk with
  | .inl x :: r => f x r
  | _ => False
def z_sL (stk : List z_AV) (f : Int64 → List z_AV → Prop) : Prop := match stk with
  | .inr (.inl x) :: r => f x r
  | _ => False
def z_sR (stk : List z_AV) (f : Option (Nat × Nat) → List z_AV → Prop) : Prop := match stk with
  | .inr (.inr q) :: r => f q r
  | _ => False
def z_rf (q : Option (Nat × Nat)) (f : Nat → Nat → Prop) : Prop := match q with
  | some (t, n) => f t n
  | none => False
def z_lget : List (Option z_AV) → Nat → Option z_AV
  | [], _ => none
  | x :: _, 0 => x
  | _ :: r, n + 1 => z_lget r n
def z_lset : List (Option z_AV) → Nat → Option z_AV → List (Option z_AV)
  | [], _, _ => []
  | _ :: r, 0, w => w :: r
  | x :: r, n + 1, w => x :: z_lset r n w
def z_kl : List Nat → List (Option z_AV) → List (Option z_AV)
  | [], l => l
  | k :: ks, l => z_kl ks (z_lset l k none)
/-- what a store ahead of a place leaves of a value there: no long -/
def z_nl (x : Option z_AV) : Option z_AV := match x with
  | some (.inr (.inl _)) => none
  | y => y
def z_s1 : List (Option z_AV) → Nat → z_AV → List (Option z_AV)
  | [], _, _ => []
  | _ :: r, 0, w => some w :: r
  | x :: r, n + 1, w => (match n with
    | 0 => z_nl x
    | _ + 1 => x) :: z_s1 r n w
def z_lI (l : List (Option z_AV)) (i : Nat) (f : Int32 → Prop) : Prop := match z_lget l i with
  | some (.inl x) => f x
  | _ => False
def z_lL (l : List (Option z_AV)) (i : Nat) (f : Int64 → Prop) : Prop := match z_lget l i with
  | some (.inr (.inl x)) => f x
  | _ => False
def z_lR (l : List (Option z_AV)) (i : Nat) (f : Option (Nat × Nat) → Prop) : Prop := match z_lget l i with
  | some (.inr (.inr q)) => f q
  | _ => False
def z_at : List z_E → Nat → Option (Instr × (Nat × (Nat × (List Nat × (Int32 × Int64)))))
  | [], _ => none
  | (p, e) :: r, pc => match Nat.beq p pc with
    | true => some e
    | false => z_at r pc
def z_tg (pc : Nat) (off : Int) : Nat := ((pc : Int) + off).toNat
def z_sw (K : Nat → Prop) (pc : Nat) (y : Int32) (d : Int) : Int → List Int → Prop
  | _, [] => K (z_tg pc d)
  | lo, o :: os => (y = Int32.ofInt lo → K (z_tg pc o)) ∧ (¬ y = Int32.ofInt lo → z_sw K pc y d (lo + 1) os)
def z_sl (K : Nat → Prop) (pc : Nat) (y : Int32) (d : Int) : List (Int × Int) → Prop
  | [] => K (z_tg pc d)
  | (k, o) :: os => (y = Int32.ofInt k → K (z_tg pc o)) ∧ (¬ y = Int32.ofInt k → z_sl K pc y d os)
def z_cs : List z_AV → Nat
  | [] => 0
  | .inr (.inl _) :: r => 2 + z_cs r
  | _ :: r => 1 + z_cs r
def z_tk : Nat → List z_AV → List z_AV → Option (List z_AV × List z_AV)
  | 0, acc, r => some (acc, r)
  | _ + 1, _, [] => none
  | n + 1, acc, x :: r => z_tk n (x :: acc) r
/-- what comes back: 0 nothing, 2 a long, 3 a reference, else an int -/
def z_rt (rk : Nat) (r : Option z_AV) (f : List z_AV → Prop) : Prop := match rk with
  | 0 => r = none ∧ f []
  | 2 => ∃ x : Int64, r = some (vL x) ∧ f [vL x]
  | 3 => ∃ q : Option (Nat × Nat), r = some (vQ q) ∧ f [vQ q]
  | _ => ∃ x : Int32, r = some (vI x) ∧ f [vI x]
def z_jp (c : Prop) (A B : Prop) : Prop := (c → A) ∧ (¬ c → B)
def z_stc (C : z_CT) (K : z_KT) (pc : Nat) (ls : List (Option z_AV)) (stk : List z_AV) (v : z_V) (a b : Nat) : Prop := match a with
  | 900 => z_sI stk fun y r => z_sI r fun x r => z_if (Nat.ble (z_cs r) 20) (K (pc + 3) ls (.inl (i_max x y) :: r) v)
  | 901 => z_sI stk fun y r => z_sI r fun x r => z_if (Nat.ble (z_cs r) 20) (K (pc + 3) ls (.inl (i_min x y) :: r) v)
  | 902 => z_sI stk fun x r => z_if (Nat.ble (z_cs r) 20) (K (pc + 3) ls (.inl (i_abs x) :: r) v)
  | 903 => z_sL stk fun y r => z_sL r fun x r => z_if (Nat.ble (z_cs r) 20) (K (pc + 3) ls (.inr (.inl (l_max x y)) :: r) v)
  | 904 => z_sL stk fun y r => z_sL r fun x r => z_if (Nat.ble (z_cs r) 20) (K (pc + 3) ls (.inr (.inl (l_min x y)) :: r) v)
  | 906 => z_sI stk fun n r => z_sI r fun dp r => z_sR r fun q2 r => z_sI r fun sp r => z_sR r fun q r => z_rf q2 fun t2 n2 => z_rf q fun t n1 =>
      z_if (Nat.ble (z_cs r) 20 && (Nat.beq (z_kd t) 0 && (Nat.beq (z_kd t2) 0 && (decide (¬ sp < 0) && (decide (¬ dp < 0) && (decide (¬ n < 0) && (Nat.ble (n_ sp + n_ n) (z_ln t) && Nat.ble (n_ dp + n_ n) (z_ln t2))))))))
        (K (pc + 3) ls r (pC v t n1 (n_ sp) t2 n2 (n_ dp) (n_ n)))
  | a => match z_tk (b % 16) [] stk with
    | some (As, r) => z_if (Nat.ble (z_cs r) 8) (C a As v (fun v' o => z_rt (b / 16) o (fun rs => K (pc + 3) ls (rs ++ r) v')))
    | none => False
def z_vtc (C : z_CT) (K : z_KT) (pc : Nat) (ls : List (Option z_AV)) (stk : List z_AV) (v : z_V) (a b : Nat) : Prop := match a with
  | 907 => z_sI stk fun j r => z_sR r fun q r => z_rf q fun t _ => z_if (Nat.beq t 99 && Nat.ble (z_cs r) 8) (z_if (z_in j z_wln) (K (pc + 3) ls (.inl (z_wch (n_ j)) :: r) v))
  | a => match z_tk (b % 16) [] stk with
    | some (As, r) => z_sR r fun q r => z_rf q fun t n => z_if (Nat.beq t (b / 256) && Nat.ble (z_cs r) 8) (C a (vR t n :: As) v (fun v' o => z_rt (b / 16 % 16) o (fun rs => K (pc + 3) ls (rs ++ r) v')))
    | none => False
/-- one instruction -/
def z_ex (C : z_CT) (rk : Nat) (R : z_RT) (K : z_KT) (pc : Nat) (ins : Instr) (a b : Nat) (c : Int32) (cl : Int64) (ls : List (Option z_AV)) (stk : List z_AV) (v : z_V) : Prop := match ins with
  | .aload_n n => z_lR ls n fun q => K (pc + 1) ls (.inr (.inr q) :: stk) v
  | .aload n => z_lR ls n fun q => K (pc + 2) ls (.inr (.inr q) :: stk) v
  | .iload_n n => z_lI ls n fun x => K (pc + 1) ls (.inl x :: stk) v
  | .iload n => z_lI ls n fun x => K (pc + 2) ls (.inl x :: stk) v
  | .lload_n n => z_lL ls n fun x => K (pc + 1) ls (.inr (.inl x) :: stk) v
  | .lload n => z_lL ls n fun x => K (pc + 2) ls (.inr (.inl x) :: stk) v
  | .istore_n n => z_sI stk fun x r => z_if (Nat.blt n ls.length) (K (pc + 1) (z_s1 ls n (.inl x)) r v)
  | .istore n => z_sI stk fun x r => z_if (Nat.blt n ls.length) (K (pc + 2) (z_s1 ls n (.inl x)) r v)
  | .astore_n n => z_sR stk fun x r => z_if (Nat.blt n ls.length) (K (pc + 1) (z_s1 ls n (.inr (.inr x))) r v)
  | .lstore_n n => z_sL stk fun x r => z_if (Nat.blt (n + 1) ls.length) (K (pc + 1) (z_lset (z_s1 ls n (.inr (.inl x))) (n + 1) none) r v)
  | .lstore n => z_sL stk fun x r => z_if (Nat.blt (n + 1) ls.length) (K (pc + 2) (z_lset (z_s1 ls n (.inr (.inl x))) (n + 1) none) r v)
  | .iinc n _ => z_lI ls n fun x => K (pc + 3) (z_s1 ls n (.inl (x + c))) stk v
  | .iconst _ => K (pc + 1) ls (.inl c :: stk) v
  | .bipush _ => K (pc + 2) ls (.inl c :: stk) v
  | .sipush _ => K (pc + 3) ls (.inl c :: stk) v
  | .ldc _ => match a with
    | 0 => K (pc + 2) ls (.inl c :: stk) v
    | _ => K (pc + 2) ls (vR 99 0 :: stk) v
  | .ldc_w _ => match a with
    | 0 => K (pc + 3) ls (.inl c :: stk) v
    | _ => K (pc + 3) ls (vR 99 0 :: stk) v
  | .ldc2_w _ => K (pc + 3) ls (.inr (.inl cl) :: stk) v
  | .lconst _ => K (pc + 1) ls (.inr (.inl cl) :: stk) v
  | .aconst_null => K (pc + 1) ls (.inr (.inr none) :: stk) v
  | .iadd => z_sI stk fun y r => z_sI r fun x r => K (pc + 1) ls (.inl (x + y) :: r) v
  | .isub => z_sI stk fun y r => z_sI r fun x r => K (pc + 1) ls (.inl (x - y) :: r) v
  | .imul => z_sI stk fun y r => z_sI r fun x r => K (pc + 1) ls (.inl (x * y) :: r) v
  | .iand => z_sI stk fun y r => z_sI r fun x r => K (pc + 1) ls (.inl (x &&& y) :: r) v
  | .ior => z_sI stk fun y r => z_sI r fun x r => K (pc + 1) ls (.inl (x ||| y) :: r) v
  | .ixor => z_sI stk fun y r => z_sI r fun x r => K (pc + 1) ls (.inl (x ^^^ y) :: r) v
  | .idiv => z_sI stk fun y r => z_sI r fun x r => z_if (z_nz y) (K (pc + 1) ls (.inl (x / y) :: r) v)
  | .irem => z_sI stk fun y r => z_sI r fun x r => z_if (z_nz y) (K (pc + 1) ls (.inl (i_rem x y) :: r) v)
  | .ineg => z_sI stk fun x r => K (pc + 1) ls (.inl (-x) :: r) v
  | .ishl => z_sI stk fun y r => z_sI r fun x r => K (pc + 1) ls (.inl (i_shl x y) :: r) v
  | .ishr => z_sI stk fun y r => z_sI r fun x r => K (pc + 1) ls (.inl (i_shr x y) :: r) v
  | .iushr => z_sI stk fun y r => z_sI r fun x r => K (pc + 1) ls (.inl (i_ush x y) :: r) v
  | .ladd => z_sL stk fun y r => z_sL r fun x r => K (pc + 1) ls (.inr (.inl (x + y)) :: r) v
  | .lsub => z_sL stk fun y r => z_sL r fun x r => K (pc + 1) ls (.inr (.inl (x - y)) :: r) v
  | .lmul => z_sL stk fun y r => z_sL r fun x r => K (pc + 1) ls (.inr (.inl (x * y)) :: r) v
  | .land => z_sL stk fun y r => z_sL r fun x r => K (pc + 1) ls (.inr (.inl (x &&& y)) :: r) v
  | .lor => z_sL stk fun y r => z_sL r fun x r => K (pc + 1) ls (.inr (.inl (x ||| y)) :: r) v
  | .lxor => z_sL stk fun y r => z_sL r fun x r => K (pc + 1) ls (.inr (.inl (x ^^^ y)) :: r) v
  | .ldiv => z_sL stk fun y r => z_sL r fun x r => z_if (z_nzL y) (K (pc + 1) ls (.inr (.inl (x / y)) :: r) v)
  | .lrem => z_sL stk fun y r => z_sL r fun x r => z_if (z_nzL y) (K (pc + 1) ls (.inr (.inl (l_rem x y)) :: r) v)
  | .lneg => z_sL stk fun x r => K (pc + 1) ls (.inr (.inl (-x)) :: r) v
  | .lshl => z_sI stk fun y r => z_sL r fun x r => K (pc + 1) ls (.inr (.inl (l_shl x y)) :: r) v
  | .lshr => z_sI stk fun y r => z_sL r fun x r => K (pc + 1) ls (.inr (.inl (l_shr x y)) :: r) v
  | .lushr => z_sI stk fun y r => z_sL r fun x r => K (pc + 1) ls (.inr (.inl (l_ush x y)) :: r) v
  | .lcmp => z_sL stk fun y r => z_sL r fun x r => K (pc + 1) ls (.inl (lg_cmp x y) :: r) v
  | .i2l => z_sI stk fun x r => K (pc + 1) ls (.inr (.inl x.toInt64) :: r) v
  | .l2i => z_sL stk fun x r => K (pc + 1) ls (.inl x.toInt32 :: r) v
  | .i2b => z_sI stk fun x r => K (pc + 1) ls (.inl x.toInt8.toInt32 :: r) v
  | .dup => match stk with
    | .inl x :: r => K (pc + 1) ls (.inl x :: .inl x :: r) v
    | .inr (.inr x) :: r => K (pc + 1) ls (.inr (.inr x) :: .inr (.inr x) :: r) v
    | _ => False
  | .dup2 => match stk with
    | .inr (.inl x) :: r => K (pc + 1) ls (.inr (.inl x) :: .inr (.inl x) :: r) v
    | .inl y :: .inr (.inr x) :: r => K (pc + 1) ls (.inl y :: .inr (.inr x) :: .inl y :: .inr (.inr x) :: r) v
    | _ => False
  | .pop => match stk with
    | .inl _ :: r => K (pc + 1) ls r v
    | .inr (.inr _) :: r => K (pc + 1) ls r v
    | _ => False
  | .goto off => K (z_tg pc off) ls stk v
  | .ifCond .eq off => z_sI stk fun x r => (x = 0 → K (z_tg pc off) ls r v) ∧ (¬ x = 0 → K (pc + 3) ls r v)
  | .ifCond .ne off => z_sI stk fun x r => (¬ x = 0 → K (z_tg pc off) ls r v) ∧ (x = 0 → K (pc + 3) ls r v)
  | .ifCond .lt off => z_sI stk fun x r => (x < 0 → K (z_tg pc off) ls r v) ∧ (¬ x < 0 → K (pc + 3) ls r v)
  | .ifCond .ge off => z_sI stk fun x r => (0 ≤ x → K (z_tg pc off) ls r v) ∧ (¬ 0 ≤ x → K (pc + 3) ls r v)
  | .ifCond .gt off => z_sI stk fun x r => (0 < x → K (z_tg pc off) ls r v) ∧ (¬ 0 < x → K (pc + 3) ls r v)
  | .ifCond .le off => z_sI stk fun x r => (x ≤ 0 → K (z_tg pc off) ls r v) ∧ (¬ x ≤ 0 → K (pc + 3) ls r v)
  | .if_icmp .eq off => z_sI stk fun y r => z_sI r fun x r => (x = y → K (z_tg pc off) ls r v) ∧ (¬ x = y → K (pc + 3) ls r v)
  | .if_icmp .ne off => z_sI stk fun y r => z_sI r fun x r => (¬ x = y → K (z_tg pc off) ls r v) ∧ (x = y → K (pc + 3) ls r v)
  | .if_icmp .lt off => z_sI stk fun y r => z_sI r fun x r => (x < y → K (z_tg pc off) ls r v) ∧ (¬ x < y → K (pc + 3) ls r v)
  | .if_icmp .ge off => z_sI stk fun y r => z_sI r fun x r => (y ≤ x → K (z_tg pc off) ls r v) ∧ (¬ y ≤ x → K (pc + 3) ls r v)
  | .if_icmp .gt off => z_sI stk fun y r => z_sI r fun x r => (y < x → K (z_tg pc off) ls r v) ∧ (¬ y < x → K (pc + 3) ls r v)
  | .if_icmp .le off => z_sI stk fun y r => z_sI r fun x r => (x ≤ y → K (z_tg pc off) ls r v) ∧ (¬ x ≤ y → K (pc + 3) ls r v)
  | .ifnull off => z_sR stk fun q r => match q with
    | none => K (z_tg pc off) ls r v
    | some _ => K (pc + 3) ls r v
  | .tableswitch d lo _ offs => z_sI stk fun y r => z_sw (fun tg => K tg ls r v) pc y d lo offs.toList
  | .lookupswitch d ps => z_sI stk fun y r => z_sl (fun tg => K tg ls r v) pc y d ps.toList
  | .getfield _ => z_sR stk fun q r => z_rf q fun t n => z_if (Nat.beq t a) (match z_fk a b with
    | 0 => K (pc + 3) ls (.inl (gI v a n b) :: r) v
    | 3 => K (pc + 3) ls (.inl (gI v a n b) :: r) v
    | 1 => K (pc + 3) ls (.inr (.inl (gL v a n b)) :: r) v
    | 2 => K (pc + 3) ls (.inr (.inr (z_FF a n b)) :: r) v
    | _ => ∃ m, gJ v = m + 1 ∧ K (pc + 3) ls (.inr (.inr (some (6, m))) :: r) v)
  | .putfield _ => match z_fk a b with
    | 0 => z_sI stk fun x r => z_sR r fun q r => z_rf q fun t n => z_if (Nat.beq t a) (K (pc + 3) ls r (pI v a n b x))
    | 3 => z_sI stk fun x r => z_sR r fun q r => z_rf q fun t n => z_if (Nat.beq t a && z_01 x) (K (pc + 3) ls r (pI v a n b x))
    | 1 => z_sL stk fun x r => z_sR r fun q r => z_rf q fun t n => z_if (Nat.beq t a) (K (pc + 3) ls r (pL v a n b x))
    | 2 => False
    | _ => z_sR stk fun w r => z_sR r fun q r => z_rf q fun t _ => z_rf w fun t2 m => z_if (Nat.beq t a && Nat.beq t2 6) (K (pc + 3) ls r (pJ v (m + 1)))
  | .iaload => z_sI stk fun j r => z_sR r fun q r => z_rf q fun t n => z_if (Nat.beq (z_kd t) 0 && z_in j (z_ln t)) (K (pc + 1) ls (.inl (gI v t n (n_ j)) :: r) v)
  | .baload => z_sI stk fun j r => z_sR r fun q r => z_rf q fun t n => match z_kd t with
    | 2 => z_if (z_in j (z_ln t)) (K (pc + 1) ls (.inl (gI v t n (n_ j)) :: r) v)
    | 3 => z_if (z_in j (z_ln t)) (K (pc + 1) ls (.inl (gI v t n (n_ j)) :: r) v)
    | _ => False
  | .laload => z_sI stk fun j r => z_sR r fun q r => z_rf q fun t n => z_if (Nat.beq (z_kd t) 1 && z_in j (z_ln t)) (K (pc + 1) ls (.inr (.inl (gL v t n (n_ j))) :: r) v)
  | .aaload => z_sI stk fun j r => z_sR r fun q r => z_rf q fun t n => z_if (Nat.beq (z_kd t) 4 && z_in j (z_ln t)) (K (pc + 1) ls (.inr (.inr (z_FF t n (n_ j))) :: r) v)
  | .iastore => z_sI stk fun x r => z_sI r fun j r => z_sR r fun q r => z_rf q fun t n => z_if (Nat.beq (z_kd t) 0 && z_in j (z_ln t)) (K (pc + 1) ls r (pI v t n (n_ j) x))
  | .bastore => z_sI stk fun x r => z_sI r fun j r => z_sR r fun q r => z_rf q fun t n => match z_kd t with
    | 2 => z_if (z_in j (z_ln t)) (K (pc + 1) ls r (pI v t n (n_ j) x.toInt8.toInt32))
    | 3 => z_if (z_in j (z_ln t) && z_01 x) (K (pc + 1) ls r (pI v t n (n_ j) x))
    | _ => False
  | .lastore => z_sL stk fun x r => z_sI r fun j r => z_sR r fun q r => z_rf q fun t n => z_if (Nat.beq (z_kd t) 1 && z_in j (z_ln t)) (K (pc + 1) ls r (pL v t n (n_ j) x))
  | .invokestatic _ => z_stc C K pc ls stk v a b
  | .invokevirtual _ => z_vtc C K pc ls stk v a b
  | .ireturn => z_sI stk fun x r => match r with
    | [] => (match rk with
      | 1 => R v (some (vI x))
      | 4 => z_if (z_01 x) (R v (some (vI x)))
      | _ => False)
    | _ => False
  | .lreturn => z_sL stk fun x r => match r with
    | [] => z_if (Nat.beq rk 2) (R v (some (vL x)))
    | _ => False
  | .areturn => z_sR stk fun x r => match r with
    | [] => z_if (Nat.beq rk 3) (R v (some (vQ x)))
    | _ => False
  | .return_ => match stk with
    | [] => z_if (Nat.beq rk 0) (R v none)
    | _ => False
  | _ => False
def z_step (C : z_CT) (rk : Nat) (cd : List z_E) (R : z_RT) (K : z_KT) (pc : Nat) (ls : List (Option z_AV)) (stk : List z_AV) (v : z_V) : Prop := match z_at cd pc with
  | none => False
  | some (ins, a, b, ks, c, cl) => z_ex C rk R K pc ins a b c cl (z_kl ks ls) stk v
/-- a run from here comes to an end that R allows: the least such set -/
def z_Wp (C : z_CT) (rk : Nat) (cd : List z_E) (R : z_RT) (pc : Nat) (ls : List (Option z_AV)) (stk : List z_AV) (v : z_V) : Prop :=
  ∀ S : z_KT, (∀ pc ls stk v, z_step C rk cd R S pc ls stk v → S pc ls stk v) → S pc ls stk v
/-- a method's start: its arguments, then nothing -/
def z_ent : List z_AV → List (Option z_AV)
  | [] => []
  | .inr (.inl x) :: r => some (.inr (.inl x)) :: none :: z_ent r
  | x :: r => some x :: z_ent r
def z_pad : Nat → List (Option z_AV) → List (Option z_AV)
  | 0, l => l
  | n + 1, [] => none :: z_pad n []
  | n + 1, x :: r => x :: z_pad n r
theorem z_sI_m {stk : List z_AV} {f g : Int32 → List z_AV → Prop} (k : ∀ x r, f x r → g x r) (h : z_sI stk f) : z_sI stk g := by
  match stk, h with
  | .inl x :: r, h => exact k x r h
  | [], h => exact False.elim h
  | .inr _ :: _, h => exact False.elim h
theorem z_sL_m {stk : List z_AV} {f g : Int64 → List z_AV → Prop} (k : ∀ x r, f x r → g x r) (h : z_sL stk f) : z_sL stk g := by
  match stk, h with
  | .inr (.inl x) :: r, h => exact k x r h
  | [], h => exact False.elim h
  | .inl _ :: _, h => exact False.elim h
  | .inr (.inr _) :: _, h => exact False.elim h
theorem z_sR_m {stk : List z_AV} {f g : Option (Nat × Nat) → List z_AV → Prop} (k : ∀ x r, f x r → g x r) (h : z_sR stk f) : z_sR stk g := by
  match stk, h with
  | .inr (.inr x) :: r, h => exact k x r h
  | [], h => exact False.elim h
  | .inl _ :: _, h => exact False.elim h
  | .inr (.inl _) :: _, h => exact False.elim h
theorem z_rf_m {q : Option (Nat × Nat)} {f g : Nat → Nat → Prop} (k : ∀ x r, f x r → g x r) (h : z_rf q f) : z_rf q g := by
  match q, h with
  | some (t, n), h => exact k t n h
  | none, h => exact False.elim h
theorem z_if_m {c : Bool} {T T' : Prop} (k : T → T') (h : z_if c T) : z_if c T' := by
  match c, h with
  | true, h => exact k h
  | false, h => exact False.elim h
theorem z_lI_m {l : List (Option z_AV)} {i : Nat} {f g : Int32 → Prop} (k : ∀ x, f x → g x) (h : z_lI l i f) : z_lI l i g := by
  unfold z_lI at h ⊢
  split at h
  · exact k _ h
  · exact False.elim h
theorem z_lL_m {l : List (Option z_AV)} {i : Nat} {f g : Int64 → Prop} (k : ∀ x, f x → g x) (h : z_lL l i f) : z_lL l i g := by
  unfold z_lL at h ⊢
  split at h
  · exact k _ h
  · exact False.elim h
theorem z_lR_m {l : List (Option z_AV)} {i : Nat} {f g : Option (Nat × Nat) → Prop} (k : ∀ x, f x → g x) (h : z_lR l i f) : z_lR l i g := by
  unfold z_lR at h ⊢
  split at h
  · exact k _ h
  · exact False.elim h
theorem z_sw_m {K K' : Nat → Prop} (k : ∀ t, K t → K' t) {pc : Nat} {y : Int32} {d : Int} : ∀ {os : List Int} {lo : Int}, z_sw K pc y d lo os → z_sw K' pc y d lo os
  | [], _, h => k _ h
  | _ :: _, _, h => ⟨fun c => k _ (h.1 c), fun c => z_sw_m k (h.2 c)⟩
theorem z_sl_m {K K' : Nat → Prop} (k : ∀ t, K t → K' t) {pc : Nat} {y : Int32} {d : Int} : ∀ {os : List (Int × Int)}, z_sl K pc y d os → z_sl K' pc y d os
  | [], h => k _ h
  | _ :: _, h => ⟨fun c => k _ (h.1 c), fun c => z_sl_m k (h.2 c)⟩
theorem z_rt_m {rk : Nat} {r : Option z_AV} {f g : List z_AV → Prop} (k : ∀ l, f l → g l) (h : z_rt rk r f) : z_rt rk r g := by
  unfold z_rt at h ⊢
  split at h
  · exact ⟨h.1, k _ h.2⟩
  · obtain ⟨x, h1, h2⟩ := h
    exact ⟨x, h1, k _ h2⟩
  · obtain ⟨x, h1, h2⟩ := h
    exact ⟨x, h1, k _ h2⟩
  · obtain ⟨x, h1, h2⟩ := h
    exact ⟨x, h1, k _ h2⟩
def z_Cm (C C' : z_CT) : Prop := ∀ (a : Nat) (As : List z_AV) (v : z_V) (Q Q' : z_RT), (∀ v r, Q v r → Q' v r) → C a As v Q → C' a As v Q'
theorem z_stc_m {C C' : z_CT} {K K' : z_KT} {pc : Nat} {ls : List (Option z_AV)} {stk : List z_AV} {v : z_V} {a b : Nat} (hC : z_Cm C C') (hK : ∀ pc ls stk v, K pc ls stk v → K' pc ls stk v) (h : z_stc C K pc ls stk v a b) : z_stc C' K' pc ls stk v a b := by
  unfold z_stc at h ⊢
  split at h
  · exact z_sI_m (fun y r h => z_sI_m (fun x r h => z_if_m (fun h => hK _ _ _ _ h) h) h) h
  · exact z_sI_m (fun y r h => z_sI_m (fun x r h => z_if_m (fun h => hK _ _ _ _ h) h) h) h
  · exact z_sI_m (fun y r h => z_if_m (fun h => hK _ _ _ _ h) h) h
  · exact z_sL_m (fun y r h => z_sL_m (fun x r h => z_if_m (fun h => hK _ _ _ _ h) h) h) h
  · exact z_sL_m (fun y r h => z_sL_m (fun x r h => z_if_m (fun h => hK _ _ _ _ h) h) h) h
  · exact z_sI_m (fun n r h => z_sI_m (fun dp r h => z_sR_m (fun q2 r h => z_sI_m (fun sp r h => z_sR_m (fun q r h => z_rf_m (fun t2 n2 h => z_rf_m (fun t n1 h => z_if_m (fun h => hK _ _ _ _ h) h) h) h) h) h) h) h) h
  · split at h
    · exact z_if_m (fun h => hC _ _ _ _ _ (fun v' o h => z_rt_m (fun rs h => hK _ _ _ _ h) h) h) h
    · exact h
theorem z_vtc_m {C C' : z_CT} {K K' : z_KT} {pc : Nat} {ls : List (Option z_AV)} {stk : List z_AV} {v : z_V} {a b : Nat} (hC : z_Cm C C') (hK : ∀ pc ls stk v, K pc ls stk v → K' pc ls stk v) (h : z_vtc C K pc ls stk v a b) : z_vtc C' K' pc ls stk v a b := by
  unfold z_vtc at h ⊢
  split at h
  · exact z_sI_m (fun y r h => z_sR_m (fun x r h => z_rf_m (fun t n h => z_if_m (fun h => z_if_m (fun h => hK _ _ _ _ h) h) h) h) h) h
  · split at h
    · exact z_sR_m (fun q r h => z_rf_m (fun t n h => z_if_m (fun h => hC _ _ _ _ _ (fun v' o h => z_rt_m (fun rs h => hK _ _ _ _ h) h) h) h) h) h
    · exact h
set_option maxHeartbeats 4000000 in
theorem z_ex_m {C C' : z_CT} {rk : Nat} {R R' : z_RT} {K K' : z_KT} {pc : Nat} {ins : Instr} {a b : Nat} {c : Int32} {cl : Int64} {ls : List (Option z_AV)} {stk : List z_AV} {v : z_V} (hC : z_Cm C C') (hR : ∀ v r, R v r → R' v r) (hK : ∀ pc ls stk v, K pc ls stk v → K' pc ls stk v)
    (h : z_ex C rk R K pc ins a b c cl ls stk v) : z_ex C' rk R' K' pc ins a b c cl ls stk v := by
  cases ins
  case aload_n =>
    exact z_lR_m (fun x h => hK _ _ _ _ h) h
  case aload =>
    exact z_lR_m (fun x h => hK _ _ _ _ h) h
  case iload_n =>
    exact z_lI_m (fun x h => hK _ _ _ _ h) h
  case iload =>
    exact z_lI_m (fun x h => hK _ _ _ _ h) h
  case iinc =>
    exact z_lI_m (fun x h => hK _ _ _ _ h) h
  case lload_n =>
    exact z_lL_m (fun x h => hK _ _ _ _ h) h
  case lload =>
    exact z_lL_m (fun x h => hK _ _ _ _ h) h
  case istore_n =>
    exact z_sI_m (fun x r h => z_if_m (fun h => hK _ _ _ _ h) h) h
  case istore =>
    exact z_sI_m (fun x r h => z_if_m (fun h => hK _ _ _ _ h) h) h
  case astore_n =>
    exact z_sR_m (fun x r h => z_if_m (fun h => hK _ _ _ _ h) h) h
  case lstore_n =>
    exact z_sL_m (fun x r h => z_if_m (fun h => hK _ _ _ _ h) h) h
  case lstore =>
    exact z_sL_m (fun x r h => z_if_m (fun h => hK _ _ _ _ h) h) h
  case iconst =>
    exact hK _ _ _ _ h
  case bipush =>
    exact hK _ _ _ _ h
  case sipush =>
    exact hK _ _ _ _ h
  case ldc2_w =>
    exact hK _ _ _ _ h
  case lconst =>
    exact hK _ _ _ _ h
  case aconst_null =>
    exact hK _ _ _ _ h
  case goto =>
    exact hK _ _ _ _ h
  case iadd =>
    exact z_sI_m (fun x r h => z_sI_m (fun x r h => hK _ _ _ _ h) h) h
  case isub =>
    exact z_sI_m (fun x r h => z_sI_m (fun x r h => hK _ _ _ _ h) h) h
  case imul =>
    exact z_sI_m (fun x r h => z_sI_m (fun x r h => hK _ _ _ _ h) h) h
  case iand =>
    exact z_sI_m (fun x r h => z_sI_m (fun x r h => hK _ _ _ _ h) h) h
  case ior =>
    exact z_sI_m (fun x r h => z_sI_m (fun x r h => hK _ _ _ _ h) h) h
  case ixor =>
    exact z_sI_m (fun x r h => z_sI_m (fun x r h => hK _ _ _ _ h) h) h
  case ishl =>
    exact z_sI_m (fun x r h => z_sI_m (fun x r h => hK _ _ _ _ h) h) h
  case ishr =>
    exact z_sI_m (fun x r h => z_sI_m (fun x r h => hK _ _ _ _ h) h) h
  case iushr =>
    exact z_sI_m (fun x r h => z_sI_m (fun x r h => hK _ _ _ _ h) h) h
  case idiv =>
    exact z_sI_m (fun x r h => z_sI_m (fun x r h => z_if_m (fun h => hK _ _ _ _ h) h) h) h
  case irem =>
    exact z_sI_m (fun x r h => z_sI_m (fun x r h => z_if_m (fun h => hK _ _ _ _ h) h) h) h
  case ineg =>
    exact z_sI_m (fun x r h => hK _ _ _ _ h) h
  case i2l =>
    exact z_sI_m (fun x r h => hK _ _ _ _ h) h
  case i2b =>
    exact z_sI_m (fun x r h => hK _ _ _ _ h) h
  case ladd =>
    exact z_sL_m (fun x r h => z_sL_m (fun x r h => hK _ _ _ _ h) h) h
  case lsub =>
    exact z_sL_m (fun x r h => z_sL_m (fun x r h => hK _ _ _ _ h) h) h
  case lmul =>
    exact z_sL_m (fun x r h => z_sL_m (fun x r h => hK _ _ _ _ h) h) h
  case land =>
    exact z_sL_m (fun x r h => z_sL_m (fun x r h => hK _ _ _ _ h) h) h
  case lor =>
    exact z_sL_m (fun x r h => z_sL_m (fun x r h => hK _ _ _ _ h) h) h
  case lxor =>
    exact z_sL_m (fun x r h => z_sL_m (fun x r h => hK _ _ _ _ h) h) h
  case lcmp =>
    exact z_sL_m (fun x r h => z_sL_m (fun x r h => hK _ _ _ _ h) h) h
  case ldiv =>
    exact z_sL_m (fun x r h => z_sL_m (fun x r h => z_if_m (fun h => hK _ _ _ _ h) h) h) h
  case lrem =>
    exact z_sL_m (fun x r h => z_sL_m (fun x r h => z_if_m (fun h => hK _ _ _ _ h) h) h) h
  case lneg =>
    exact z_sL_m (fun x r h => hK _ _ _ _ h) h
  case l2i =>
    exact z_sL_m (fun x r h => hK _ _ _ _ h) h
  case lshl =>
    exact z_sI_m (fun x r h => z_sL_m (fun x r h => hK _ _ _ _ h) h) h
  case lshr =>
    exact z_sI_m (fun x r h => z_sL_m (fun x r h => hK _ _ _ _ h) h) h
  case lushr =>
    exact z_sI_m (fun x r h => z_sL_m (fun x r h => hK _ _ _ _ h) h) h
  case iaload =>
    exact z_sI_m (fun x r h => z_sR_m (fun x r h => z_rf_m (fun t n h => z_if_m (fun h => hK _ _ _ _ h) h) h) h) h
  case laload =>
    exact z_sI_m (fun x r h => z_sR_m (fun x r h => z_rf_m (fun t n h => z_if_m (fun h => hK _ _ _ _ h) h) h) h) h
  case aaload =>
    exact z_sI_m (fun x r h => z_sR_m (fun x r h => z_rf_m (fun t n h => z_if_m (fun h => hK _ _ _ _ h) h) h) h) h
  case iastore =>
    exact z_sI_m (fun x r h => z_sI_m (fun x r h => z_sR_m (fun x r h => z_rf_m (fun t n h => z_if_m (fun h => hK _ _ _ _ h) h) h) h) h) h
  case lastore =>
    exact z_sL_m (fun x r h => z_sI_m (fun x r h => z_sR_m (fun x r h => z_rf_m (fun t n h => z_if_m (fun h => hK _ _ _ _ h) h) h) h) h) h
  case tableswitch =>
    exact z_sI_m (fun x r h => z_sw_m (fun t h => hK _ _ _ _ h) h) h
  case lookupswitch =>
    exact z_sI_m (fun x r h => z_sl_m (fun t h => hK _ _ _ _ h) h) h
  case invokestatic =>
    exact z_stc_m hC hK h
  case invokevirtual =>
    exact z_vtc_m hC hK h
  case ifCond cond off =>
    cases cond <;> exact z_sI_m (fun x r h => ⟨fun c => hK _ _ _ _ (h.1 c), fun c => hK _ _ _ _ (h.2 c)⟩) h
  case if_icmp cond off =>
    cases cond <;> exact z_sI_m (fun y r h => z_sI_m (fun x r h => ⟨fun c => hK _ _ _ _ (h.1 c), fun c => hK _ _ _ _ (h.2 c)⟩) h) h
  case ldc =>
    dsimp only [z_ex] at h ⊢
    split at h <;> exact hK _ _ _ _ h
  case ldc_w =>
    dsimp only [z_ex] at h ⊢
    split at h <;> exact hK _ _ _ _ h
  case dup =>
    dsimp only [z_ex] at h ⊢
    split at h <;> first | exact hK _ _ _ _ h | exact h
  case dup2 =>
    dsimp only [z_ex] at h ⊢
    split at h <;> first | exact hK _ _ _ _ h | exact h
  case pop =>
    dsimp only [z_ex] at h ⊢
    split at h <;> first | exact hK _ _ _ _ h | exact h
  case ifnull =>
    exact z_sR_m (fun q r h => by split at h <;> exact hK _ _ _ _ h) h
  case getfield =>
    exact z_sR_m (fun q r h => z_rf_m (fun t n h => z_if_m (fun h => by
      split at h
      · exact hK _ _ _ _ h
      · exact hK _ _ _ _ h
      · exact hK _ _ _ _ h
      · exact hK _ _ _ _ h
      · obtain ⟨m, h1, h2⟩ := h
        exact ⟨m, h1, hK _ _ _ _ h2⟩) h) h) h
  case putfield =>
    dsimp only [z_ex] at h ⊢
    split at h
    · exact z_sI_m (fun x r h => z_sR_m (fun x r h => z_rf_m (fun t n h => z_if_m (fun h => hK _ _ _ _ h) h) h) h) h
    · exact z_sI_m (fun x r h => z_sR_m (fun x r h => z_rf_m (fun t n h => z_if_m (fun h => hK _ _ _ _ h) h) h) h) h
    · exact z_sL_m (fun x r h => z_sR_m (fun x r h => z_rf_m (fun t n h => z_if_m (fun h => hK _ _ _ _ h) h) h) h) h
    · exact h
    · exact z_sR_m (fun w r h => z_sR_m (fun q r h => z_rf_m (fun t n h => z_rf_m (fun t2 m h => z_if_m (fun h => hK _ _ _ _ h) h) h) h) h) h
  case baload =>
    exact z_sI_m (fun x r h => z_sR_m (fun q r h => z_rf_m (fun t n h => by
      split at h
      · exact z_if_m (fun h => hK _ _ _ _ h) h
      · exact z_if_m (fun h => hK _ _ _ _ h) h
      · exact h) h) h) h
  case bastore =>
    exact z_sI_m (fun x r h => z_sI_m (fun x r h => z_sR_m (fun q r h => z_rf_m (fun t n h => by
      split at h
      · exact z_if_m (fun h => hK _ _ _ _ h) h
      · exact z_if_m (fun h => hK _ _ _ _ h) h
      · exact h) h) h) h) h
  case ireturn =>
    exact z_sI_m (fun x r h => by
      split at h
      · split at h
        · exact hR _ _ h
        · exact z_if_m (fun h => hR _ _ h) h
        · exact h
      · exact h) h
  case lreturn =>
    exact z_sL_m (fun x r h => by
      split at h
      · exact z_if_m (fun h => hR _ _ h) h
      · exact h) h
  case areturn =>
    exact z_sR_m (fun x r h => by
      split at h
      · exact z_if_m (fun h => hR _ _ h) h
      · exact h) h
  case return_ =>
    dsimp only [z_ex] at h ⊢
    split at h
    · exact z_if_m (fun h => hR _ _ h) h
    · exact h
  all_goals exact h
theorem z_step_m {C C' : z_CT} {rk : Nat} {cd : List z_E} {R R' : z_RT} {K K' : z_KT} (hC : z_Cm C C') (hR : ∀ v r, R v r → R' v r) (hK : ∀ pc ls stk v, K pc ls stk v → K' pc ls stk v) {pc : Nat} {ls : List (Option z_AV)} {stk : List z_AV} {v : z_V} (h : z_step C rk cd R K pc ls stk v) : z_step C' rk cd R' K' pc ls stk v := by
  unfold z_step at h ⊢
  split at h
  · exact h
  · exact z_ex_m hC hR hK h
theorem z_Wp_m {C C' : z_CT} {rk : Nat} {cd : List z_E} {R R' : z_RT} (hC : z_Cm C C') (hR : ∀ v r, R v r → R' v r) {pc : Nat} {ls : List (Option z_AV)} {stk : List z_AV} {v : z_V} (h : z_Wp C rk cd R pc ls stk v) : z_Wp C' rk cd R' pc ls stk v := by
  intro S hS
  exact h S (fun pc ls stk v q => hS pc ls stk v (z_step_m hC hR (fun _ _ _ _ z => z) q))
/-- one step ahead of what ends well -/
theorem z_Wp_s {C : z_CT} {rk : Nat} {cd : List z_E} {R : z_RT} (hC : z_Cm C C) {pc : Nat} {ls : List (Option z_AV)} {stk : List z_AV} {v : z_V} (h : z_step C rk cd R (z_Wp C rk cd R) pc ls stk v) : z_Wp C rk cd R pc ls stk v := by
  intro S hS
  exact hS _ _ _ _ (z_step_m hC (fun _ _ z => z) (fun pc ls stk v q => q S hS) h)
def z_mem (pc : Nat) : List Nat → Bool
  | [] => false
  | k :: r => match Nat.beq k pc with
    | true => true
    | false => z_mem pc r
/-- a run of many steps, up to the places named -/
def z_Rn (C : z_CT) (rk : Nat) (cd : List z_E) (R : z_RT) (cuts : List Nat) : Nat → z_KT
  | 0 => z_Wp C rk cd R
  | n + 1 => fun pc ls stk v => match z_mem pc cuts with
    | true => z_Wp C rk cd R pc ls stk v
    | false => z_step C rk cd R (z_Rn C rk cd R cuts n) pc ls stk v
theorem z_Rn_W {C : z_CT} {rk : Nat} {cd : List z_E} {R : z_RT} {cuts : List Nat} (hC : z_Cm C C) : ∀ {n pc : Nat} {ls : List (Option z_AV)} {stk : List z_AV} {v : z_V}, z_Rn C rk cd R cuts n pc ls stk v → z_Wp C rk cd R pc ls stk v
  | 0, _, _, _, _, h => h
  | n + 1, pc, ls, stk, v, h => by
    unfold z_Rn at h
    split at h
    · exact h
    · exact z_Wp_s hC (z_step_m hC (fun _ _ z => z) (fun _ _ _ _ q => z_Rn_W hC q) h)
