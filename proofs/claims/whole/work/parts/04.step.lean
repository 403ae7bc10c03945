/-! THE TABLE OF A METHOD, and one step of a path -/
def ab_in (w : Cond) (pos : Nat) : Bool := decide (lw_tbl[pos]? = some w) && goodWord w
theorem ab_in_mem {w : Cond} {pos : Nat} (h : ab_in w pos = true) : w ∈ ab_G := by
  unfold ab_in at h
  rw [Bool.and_eq_true, decide_eq_true_eq] at h
  exact List.mem_filter.mpr ⟨List.mem_of_getElem? h.1, h.2⟩
def ab_len (n : Nat) : Instr → Nat
  | .bipush _ | .ldc _ | .iload _ | .lload _ | .aload _ | .istore _ | .lstore _ | .astore _ | .newarray _ => 2
  | .sipush _ | .iinc _ _ | .ifCond _ _ | .if_icmp _ _ | .goto _ | .getfield _ | .putfield _ | .new _ | .invokespecial _ | .invokestatic _ | .invokevirtual _ => 3
  | .tableswitch _ _ _ _ => n
  | _ => 1
def ab_chk (own : String) (cc : ByteArray) (nL : Nat) (ini : Bool) (q : Nat × ab_I) : Bool :=
  match q with
  | (pc, ins, len, x, y, pos, v) => decide (decode cc pc = .ok (ins, ab_len len ins)) && match ins with
    | .iconst n => decide (Int32.ofInt n = v)
    | .bipush n => decide ((Int8.ofInt n).toInt32 = v)
    | .sipush n => decide ((Int16.ofInt n).toInt32 = v)
    | .ldc n => Nat.beq x 1 || ab_in (.constant own n v) pos
    | .iload k => Nat.beq k x
    | .lload k => Nat.beq k x
    | .aload k => Nat.beq k x
    | .iload_n k => Nat.beq k.val x
    | .lload_n k => Nat.beq k.val x
    | .aload_n k => Nat.beq k.val x
    | .istore k => Nat.beq k x && Nat.blt x nL
    | .astore k => Nat.beq k x && Nat.blt x nL
    | .istore_n k => Nat.beq k.val x && Nat.blt x nL
    | .astore_n k => Nat.beq k.val x && Nat.blt x nL
    | .lstore k => Nat.beq k x && Nat.blt (x + 1) nL
    | .lstore_n k => Nat.beq k.val x && Nat.blt (x + 1) nL
    | .iinc k n => Nat.beq k x && (Nat.blt x nL && decide (Int32.ofInt n = v))
    | .ifCond _ off => decide ((pc : Int) + off = (x : Int))
    | .if_icmp _ off => decide ((pc : Int) + off = (x : Int))
    | .goto off => decide ((pc : Int) + off = (x : Int))
    | .getfield n => match ab_cl[x]? with
      | some (_, T, N) => Nat.blt y N && ab_in (.fieldLink own n (T y).1 (T y).2.1 (T y).2.2.1) pos
      | none => false
    | .putfield n => match ab_cl[x]? with
      | some (_, T, N) => Nat.blt y N && (ab_in (.fieldLink own n (T y).1 (T y).2.1 (T y).2.2.1) pos && (!(T y).2.2.2 || (ini && decide ((T y).1 = own))))
      | none => false
    | .new n => match ab_cl[x]? with
      | some (C, _, N) => ab_in (.classLink own n C) pos && (ab_in (.instantiable C N) y && ab_in (.initialized C) len)
      | none => Nat.beq x 99
    | .newarray a => ab_in (.arrayClass (newarray.typeOf a)) pos
    | .invokestatic n => match x with
      | 1 => ab_in (.methodLink own n Lib.Math.max.name) pos
      | 2 => ab_in (.methodLink own n Lib.Math.min.name) pos
      | 3 => ab_in (.methodLink own n Lib.Math.abs.name) pos
      | _ => true
    | .invokespecial n => match x with
      | 9 => ab_in (.methodLink own n objectInit) pos
      | _ => true
    | _ => true
def ab_fit (t : FieldType) (v : Value) : Bool := match t, v with
  | .int, .int _ => true
  | .long, .long _ => true
  | .object _, .ref _ => true
  | .object _, .null => true
  | .array _, .ref _ => true
  | .array _, .null => true
  | _, _ => false
theorem ab_fit_ok {t : FieldType} {v : Value} (ad : Nat → Nat) (h : ab_fit t v = true) : narrow t (ab_v ad v) = ab_v ad v ∧ fits t (ab_v ad v) = true := by
  cases t <;> cases v <;> first | exact ⟨rfl, rfl⟩ | (exact absurd h (by simp [ab_fit]))
def ab_yes (k : ClassFile.Cond) (x y : Int32) : Prop := match k with
  | .eq => x = y
  | .ne => ¬ x = y
  | .lt => x < y
  | .ge => y ≤ x
  | .gt => y < x
  | .le => x ≤ y
def ab_no (k : ClassFile.Cond) (x y : Int32) : Prop := match k with
  | .eq => ¬ x = y
  | .ne => x = y
  | .lt => ¬ x < y
  | .ge => ¬ y ≤ x
  | .gt => ¬ y < x
  | .le => ¬ x ≤ y
def ab_wt (st : List Value) : Nat := (st.map fun v => v.category).sum
/-- one step: the decisions left, what must hold, the next frame -/
def ab_st (Rc Rs : Nat) (sc : ab_S) (ds : List Nat) (i : ab_I) (F : ab_F) : Option (List Nat × Option Prop × ab_F) :=
  match F, i with
  | (pc, L, st, h, kc, ks), (ins, _, x, y, _, v) => match ins with
    | .iconst _ => some (ds, none, pc + 1, L, .int v :: st, h, kc, ks)
    | .bipush _ => some (ds, none, pc + 2, L, .int v :: st, h, kc, ks)
    | .sipush _ => some (ds, none, pc + 3, L, .int v :: st, h, kc, ks)
    | .ldc _ => bif Nat.beq x 1 then none else some (ds, none, pc + 2, L, .int v :: st, h, kc, ks)
    | .lconst n => some (ds, none, pc + 1, L, .long (Int64.ofNat (n : Nat)) :: st, h, kc, ks)
    | .iload _ => match ab_get L x with
      | some (.int a) => some (ds, none, pc + 2, L, .int a :: st, h, kc, ks)
      | _ => none
    | .iload_n _ => match ab_get L x with
      | some (.int a) => some (ds, none, pc + 1, L, .int a :: st, h, kc, ks)
      | _ => none
    | .lload _ => match ab_get L x with
      | some (.long a) => some (ds, none, pc + 2, L, .long a :: st, h, kc, ks)
      | _ => none
    | .lload_n _ => match ab_get L x with
      | some (.long a) => some (ds, none, pc + 1, L, .long a :: st, h, kc, ks)
      | _ => none
    | .aload _ => match ab_get L x with
      | some (.ref a) => some (ds, none, pc + 2, L, .ref a :: st, h, kc, ks)
      | _ => none
    | .aload_n _ => match ab_get L x with
      | some (.ref a) => some (ds, none, pc + 1, L, .ref a :: st, h, kc, ks)
      | _ => none
    | .istore _ => match st with
      | .int a :: r => some (ds, none, pc + 2, ab_set1 L x (.int a), r, h, kc, ks)
      | _ => none
    | .istore_n _ => match st with
      | .int a :: r => some (ds, none, pc + 1, ab_set1 L x (.int a), r, h, kc, ks)
      | _ => none
    | .astore _ => match st with
      | .ref a :: r => some (ds, none, pc + 2, ab_set1 L x (.ref a), r, h, kc, ks)
      | _ => none
    | .astore_n _ => match st with
      | .ref a :: r => some (ds, none, pc + 1, ab_set1 L x (.ref a), r, h, kc, ks)
      | _ => none
    | .lstore _ => match st with
      | .long a :: r => some (ds, none, pc + 2, ab_set2 L x (.long a), r, h, kc, ks)
      | _ => none
    | .lstore_n _ => match st with
      | .long a :: r => some (ds, none, pc + 1, ab_set2 L x (.long a), r, h, kc, ks)
      | _ => none
    | .iinc _ _ => match ab_get L x with
      | some (.int a) => some (ds, none, pc + 3, ab_set1 L x (.int (a + v)), st, h, kc, ks)
      | _ => none
    | .iadd => match st with
      | .int b :: .int a :: r => some (ds, none, pc + 1, L, .int (a + b) :: r, h, kc, ks)
      | _ => none
    | .isub => match st with
      | .int b :: .int a :: r => some (ds, none, pc + 1, L, .int (a - b) :: r, h, kc, ks)
      | _ => none
    | .imul => match st with
      | .int b :: .int a :: r => some (ds, none, pc + 1, L, .int (a * b) :: r, h, kc, ks)
      | _ => none
    | .idiv => match st with
      | .int b :: .int a :: r => some (ds, some (¬ b = 0), pc + 1, L, .int (a / b) :: r, h, kc, ks)
      | _ => none
    | .irem => match st with
      | .int b :: .int a :: r => some (ds, some (¬ b = 0), pc + 1, L, .int (a - a / b * b) :: r, h, kc, ks)
      | _ => none
    | .ineg => match st with
      | .int a :: r => some (ds, none, pc + 1, L, .int (-a) :: r, h, kc, ks)
      | _ => none
    | .iand => match st with
      | .int b :: .int a :: r => some (ds, none, pc + 1, L, .int (a &&& b) :: r, h, kc, ks)
      | _ => none
    | .ior => match st with
      | .int b :: .int a :: r => some (ds, none, pc + 1, L, .int (a ||| b) :: r, h, kc, ks)
      | _ => none
    | .ixor => match st with
      | .int b :: .int a :: r => some (ds, none, pc + 1, L, .int (a ^^^ b) :: r, h, kc, ks)
      | _ => none
    | .ishl => match st with
      | .int b :: .int a :: r => some (ds, none, pc + 1, L, .int (a <<< (b &&& 31)) :: r, h, kc, ks)
      | _ => none
    | .ishr => match st with
      | .int b :: .int a :: r => some (ds, none, pc + 1, L, .int (a >>> (b &&& 31)) :: r, h, kc, ks)
      | _ => none
    | .iushr => match st with
      | .int b :: .int a :: r => some (ds, none, pc + 1, L, .int ((a.toUInt32 >>> (b.toUInt32 &&& Int32.toUInt32 31)).toInt32) :: r, h, kc, ks)
      | _ => none
    | .ladd => match st with
      | .long b :: .long a :: r => some (ds, none, pc + 1, L, .long (a + b) :: r, h, kc, ks)
      | _ => none
    | .lsub => match st with
      | .long b :: .long a :: r => some (ds, none, pc + 1, L, .long (a - b) :: r, h, kc, ks)
      | _ => none
    | .land => match st with
      | .long b :: .long a :: r => some (ds, none, pc + 1, L, .long (a &&& b) :: r, h, kc, ks)
      | _ => none
    | .lor => match st with
      | .long b :: .long a :: r => some (ds, none, pc + 1, L, .long (a ||| b) :: r, h, kc, ks)
      | _ => none
    | .lshl => match st with
      | .int b :: .long a :: r => some (ds, none, pc + 1, L, .long (a <<< (b.toInt64 &&& 63)) :: r, h, kc, ks)
      | _ => none
    | .lshr => match st with
      | .int b :: .long a :: r => some (ds, none, pc + 1, L, .long (a >>> (b.toInt64 &&& 63)) :: r, h, kc, ks)
      | _ => none
    | .lcmp => match st with
      | .long b :: .long a :: r => some (ds, none, pc + 1, L, .int (lg_cmp a b) :: r, h, kc, ks)
      | _ => none
    | .i2l => match st with
      | .int a :: r => some (ds, none, pc + 1, L, .long a.toInt64 :: r, h, kc, ks)
      | _ => none
    | .l2i => match st with
      | .long a :: r => some (ds, none, pc + 1, L, .int a.toInt32 :: r, h, kc, ks)
      | _ => none
    | .dup => match st with
      | a :: r => bif Nat.beq a.category 1 then some (ds, none, pc + 1, L, a :: a :: r, h, kc, ks) else none
      | _ => none
    | .dup_x1 => match st with
      | a :: b :: r => bif Nat.beq a.category 1 && Nat.beq b.category 1 then some (ds, none, pc + 1, L, a :: b :: a :: r, h, kc, ks) else none
      | _ => none
    | .dup2 => match st with
      | a :: b :: r => bif Nat.beq a.category 1 && Nat.beq b.category 1 then some (ds, none, pc + 1, L, a :: b :: a :: b :: r, h, kc, ks) else none
      | _ => none
    | .pop => match st with
      | a :: r => bif Nat.beq a.category 1 then some (ds, none, pc + 1, L, r, h, kc, ks) else none
      | _ => none
    | .goto _ => some (ds, none, x, L, st, h, kc, ks)
    | .ifCond k _ => match st, ds with
      | .int a :: r, 0 :: ds' => some (ds', some (ab_no k a 0), pc + 3, L, r, h, kc, ks)
      | .int a :: r, 1 :: ds' => some (ds', some (ab_yes k a 0), x, L, r, h, kc, ks)
      | _, _ => none
    | .if_icmp k _ => match st, ds with
      | .int b :: .int a :: r, 0 :: ds' => some (ds', some (ab_no k a b), pc + 3, L, r, h, kc, ks)
      | .int b :: .int a :: r, 1 :: ds' => some (ds', some (ab_yes k a b), x, L, r, h, kc, ks)
      | _, _ => none
    | .tableswitch d lo hi offs => match st, ds with
      | .int a :: r, 0 :: ds' => match (pc : Int) + d with
        | .ofNat t => some (ds', some (a.toInt < lo ∨ hi < a.toInt), t, L, r, h, kc, ks)
        | _ => none
      | .int a :: r, (j + 1) :: ds' => match offs[j]? with
        | some off => match (pc : Int) + off with
          | .ofNat t => some (ds', some (a.toInt = lo + j ∧ ¬ hi < a.toInt), t, L, r, h, kc, ks)
          | _ => none
        | none => none
      | _, _ => none
    | .getfield _ => match st with
      | .ref (a + 1) :: r => match h[a]? with
        | some (.inr (ci, fs)) => bif Nat.beq ci x then match fs[y]? with
          | some w => some (ds, none, pc + 3, L, w :: r, h, kc, ks)
          | none => none
          else none
        | _ => none
      | _ => none
    | .putfield _ => match st with
      | w :: .ref (a + 1) :: r => match h[a]? with
        | some (.inr (ci, fs)) => bif Nat.beq ci x && (ab_fit (ab_ft x y) w && Nat.blt y fs.length) then some (ds, none, pc + 3, L, r, h.set a (.inr (ci, fs.set y w)), kc, ks) else none
        | _ => none
      | _ => none
    | .iaload => match st with
      | .int j :: .ref 0 :: r => match sc with
        | some (n, f) => some (ds, some (vp_in j n), pc + 1, L, .int (f j.toNatClampNeg) :: r, h, kc, ks)
        | none => none
      | .int j :: .ref (a + 1) :: r => match h[a]? with
        | some (.inl (.int, n, .inl f)) => some (ds, some (vp_in j n), pc + 1, L, .int (f j.toNatClampNeg) :: r, h, kc, ks)
        | _ => none
      | _ => none
    | .baload => match st with
      | .int j :: .ref (a + 1) :: r => match h[a]? with
        | some (.inl (.boolean, n, .inl f)) => some (ds, some (vp_in j n), pc + 1, L, .int (f j.toNatClampNeg) :: r, h, kc, ks)
        | _ => none
      | _ => none
    | .laload => match st with
      | .int j :: .ref (a + 1) :: r => match h[a]? with
        | some (.inl (.long, n, .inr (.inl f))) => some (ds, some (vp_in j n), pc + 1, L, .long (f j.toNatClampNeg) :: r, h, kc, ks)
        | _ => none
      | _ => none
    | .iastore => match st with
      | .int w :: .int j :: .ref (a + 1) :: r => match h[a]? with
        | some (.inl (.int, n, .inl f)) => some (ds, some (vp_in j n), pc + 1, L, r, h.set a (.inl (.int, n, .inl (upd f j.toNatClampNeg w))), kc, ks)
        | _ => none
      | _ => none
    | .bastore => match st with
      | .int w :: .int j :: .ref (a + 1) :: r => match h[a]? with
        | some (.inl (.boolean, n, .inl f)) => some (ds, some (vp_in j n), pc + 1, L, r, h.set a (.inl (.boolean, n, .inl (upd f j.toNatClampNeg (vp_nar .boolean w)))), kc, ks)
        | _ => none
      | _ => none
    | .lastore => match st with
      | .long w :: .int j :: .ref (a + 1) :: r => match h[a]? with
        | some (.inl (.long, n, .inr (.inl f))) => some (ds, some (vp_in j n), pc + 1, L, r, h.set a (.inl (.long, n, .inr (.inl (vp_updL f j.toNatClampNeg w)))), kc, ks)
        | _ => none
      | _ => none
    | .arraylength => match st with
      | .ref 0 :: r => match sc with
        | some (n, _) => some (ds, none, pc + 1, L, .int (Int32.ofNat n) :: r, h, kc, ks)
        | none => none
      | .ref (a + 1) :: r => match h[a]? with
        | some (.inl (.int, n, _)) => some (ds, none, pc + 1, L, .int (Int32.ofNat n) :: r, h, kc, ks)
        | _ => none
      | _ => none
    | .new _ => match ab_cl[x]? with
      | some (_, _, N) => some (ds, some (ab_wf h.length L st h = true ∧ kc + 1 ≤ Rc ∧ ks + N ≤ Rs), pc + 3, L, .ref (h.length + 1) :: st, h ++ [.inr (x, ab_df x)], kc + 1, ks + N)
      | none => none
    | .newarray a => match st with
      | .int n :: r => match a with
        | .int => some (ds, some (ab_wf h.length L r h = true ∧ ¬ n < 0 ∧ n.toNatClampNeg ≤ 1000000 ∧ kc + 1 ≤ Rc ∧ ks + n.toNatClampNeg ≤ Rs), pc + 2, L, .ref (h.length + 1) :: r, h ++ [.inl (.int, n.toNatClampNeg, .inl fun _ => 0)], kc + 1, ks + n.toNatClampNeg)
        | .long => some (ds, some (ab_wf h.length L r h = true ∧ ¬ n < 0 ∧ n.toNatClampNeg ≤ 1000000 ∧ kc + 1 ≤ Rc ∧ ks + n.toNatClampNeg ≤ Rs), pc + 2, L, .ref (h.length + 1) :: r, h ++ [.inl (.long, n.toNatClampNeg, .inr (.inl fun _ => 0))], kc + 1, ks + n.toNatClampNeg)
        | .boolean => some (ds, some (ab_wf h.length L r h = true ∧ ¬ n < 0 ∧ n.toNatClampNeg ≤ 1000000 ∧ kc + 1 ≤ Rc ∧ ks + n.toNatClampNeg ≤ Rs), pc + 2, L, .ref (h.length + 1) :: r, h ++ [.inl (.boolean, n.toNatClampNeg, .inl fun _ => 0)], kc + 1, ks + n.toNatClampNeg)
        | _ => none
      | _ => none
    | .invokestatic _ => match x, st with
      | 1, .int b :: .int a :: r => bif Nat.ble (ab_wt r) 8 then some (ds, some (kc ≤ Rc ∧ ks ≤ Rs), pc + 3, L, .int (if a < b then b else a) :: r, h, kc, ks) else none
      | 2, .int b :: .int a :: r => bif Nat.ble (ab_wt r) 8 then some (ds, some (kc ≤ Rc ∧ ks ≤ Rs), pc + 3, L, .int (if b < a then b else a) :: r, h, kc, ks) else none
      | 3, .int a :: r => bif Nat.ble (ab_wt r) 8 then some (ds, some (kc ≤ Rc ∧ ks ≤ Rs), pc + 3, L, .int (if 0 ≤ a then a else 0 - a) :: r, h, kc, ks) else none
      | _, _ => none
    | .invokespecial _ => match x, st with
      | 9, .ref _ :: r => bif Nat.ble (ab_wt r) 8 then some (ds, none, pc + 3, L, r, h, kc, ks) else none
      | _, _ => none
    | _ => none
def ab_lk : List (Nat × ab_I) → Nat → Option ab_I
  | [], _ => none
  | q :: r, i => bif Nat.beq q.1 i then some q.2 else ab_lk r i
theorem ab_lk_mem : ∀ (L : List (Nat × ab_I)) (i : Nat) (v : ab_I), ab_lk L i = some v → (i, v) ∈ L
  | [], i, v, h => by cases h
  | q :: r, i, v, h => by
    unfold ab_lk at h
    cases hq : Nat.beq q.1 i with
    | true =>
      rw [hq] at h
      have h1 : q.2 = v := Option.some.inj h
      have h2 : q.1 = i := Nat.eq_of_beq_eq_true hq
      rw [← h1, ← h2]
      exact List.mem_cons_self
    | false =>
      rw [hq] at h
      exact List.mem_cons_of_mem _ (ab_lk_mem r i v h)
/-- a path of k steps -/
def ab_path (cd : List (Nat × ab_I)) (Rc Rs : Nat) (sc : ab_S) : Nat → List Nat → List Prop → ab_F → Option (List Prop × ab_F)
  | 0, _, acc, F => some (acc, F)
  | k + 1, ds, acc, F => match ab_lk cd F.1 with
    | none => none
    | some i => match ab_st Rc Rs sc ds i F with
      | some (ds', none, F') => ab_path cd Rc Rs sc k ds' acc F'
      | some (ds', some P, F') => ab_path cd Rc Rs sc k ds' (P :: acc) F'
      | none => none
def ab_all : List Prop → Prop
  | [] => True
  | [P] => P
  | P :: r => P ∧ ab_all r
