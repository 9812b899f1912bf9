/-! MM, a small machine of its own: frames over a world of cells; a reference is a place in the world (.ref k), or a cell that was there before (.retAddr j). What it computes the real machine does (part 04 ..). -/
abbrev mmC : Type := (Nat ⊕ Nat) × List Value
abbrev mmW : Type := List mmC × Nat × Nat
abbrev mmE : Type := Instr × Nat × Nat × Nat
abbrev mmO : Type := Option Value × mmW
abbrev mmL : Type := List (Option Value)
abbrev mmF : Type := Nat × mmL × List Value × mmW
abbrev mmR : Type := Option (mmO ⊕ mmF)
/-- what it reads: the code by method and place; the fields of a new object; the old cells; which cells an array of references takes; the locals of a method -/
abbrev mmP : Type := (Nat → Nat → Option mmE) × (Nat → Option (List Value)) × (Nat → Option mmC) × (Nat → (Nat ⊕ Nat) → Bool) × (Nat → Nat)
def mm_kd : Value → Nat
  | .int _ => 0
  | .long _ => 1
  | .ref _ => 2
  | .null => 2
  | .retAddr _ => 2
  | .float _ => 2
  | _ => 3
def mm_nx (pc : Nat) (ls : mmL) (st : List Value) (w : mmW) : mmR := some (.inr (pc, ls, st, w))
def mm_cell (P : mmP) (w : mmW) : Value → Option mmC
  | .ref x => w.1[x]?
  | .retAddr j => P.2.2.1 j
  | _ => none
def mm_set (w : mmW) (x : Nat) (c : mmC) : mmW := (w.1.set x c, w.2)
def mm_mk (w : mmW) (c : mmC) : mmW := (w.1 ++ [c], w.2.1 + 1, w.2.2 + c.2.length)
def mm_jp (pc : Nat) (off : Int) (ls : mmL) (st : List Value) (w : mmW) : mmR := match (pc : Int) + off with
  | .ofNat t => mm_nx t ls st w
  | .negSucc _ => none
/-- loads and stores of locals -/
def mm_ld (k i d pc : Nat) (ls : mmL) (st : List Value) (w : mmW) : mmR := match ls[i]? with
  | some (some v) => if mm_kd v = k then mm_nx (pc + d) ls (v :: st) w else none
  | _ => none
def mm_nol (ls : mmL) : Nat → Bool
  | 0 => true
  | j + 1 => match ls[j]? with
    | some (some (.long _)) => false
    | _ => true
def mm_st (k i d pc : Nat) (ls : mmL) (st : List Value) (w : mmW) : mmR := match st with
  | v :: r => if mm_kd v = k ∧ i < ls.length ∧ mm_nol ls i = true then mm_nx (pc + d) (ls.set i (some v)) r w else none
  | [] => none
def mm_st2 (i d pc : Nat) (ls : mmL) (st : List Value) (w : mmW) : mmR := match st with
  | .long v :: r => if i + 1 < ls.length ∧ mm_nol ls i = true then mm_nx (pc + d) ((ls.set i (some (.long v))).set (i + 1) none) r w else none
  | _ => none
def mm_iinc (i : Nat) (n : Int) (pc : Nat) (ls : mmL) (st : List Value) (w : mmW) : mmR := match ls[i]? with
  | some (some (.int x)) => mm_nx (pc + 3) (ls.set i (some (.int (x + Int32.ofInt n)))) st w
  | _ => none
/-- arithmetic -/
def mm_pu (v : Value) (d pc : Nat) (ls : mmL) (st : List Value) (w : mmW) : mmR := mm_nx (pc + d) ls (v :: st) w
def mm_un (f : Int32 → Value) (pc : Nat) (ls : mmL) (st : List Value) (w : mmW) : mmR := match st with
  | .int x :: r => mm_nx (pc + 1) ls (f x :: r) w
  | _ => none
def mm_bi (f : Int32 → Int32 → Int32) (pc : Nat) (ls : mmL) (st : List Value) (w : mmW) : mmR := match st with
  | .int y :: .int x :: r => mm_nx (pc + 1) ls (.int (f x y) :: r) w
  | _ => none
def mm_dv (f : Int32 → Int32 → Int32) (pc : Nat) (ls : mmL) (st : List Value) (w : mmW) : mmR := match st with
  | .int y :: .int x :: r => if y = 0 then none else mm_nx (pc + 1) ls (.int (f x y) :: r) w
  | _ => none
def mm_bl (f : Int64 → Int64 → Value) (pc : Nat) (ls : mmL) (st : List Value) (w : mmW) : mmR := match st with
  | .long y :: .long x :: r => mm_nx (pc + 1) ls (f x y :: r) w
  | _ => none
def mm_sl (f : Int64 → Int32 → Int64) (pc : Nat) (ls : mmL) (st : List Value) (w : mmW) : mmR := match st with
  | .int y :: .long x :: r => mm_nx (pc + 1) ls (.long (f x y) :: r) w
  | _ => none
/-- the stack -/
def mm_pop (pc : Nat) (ls : mmL) (st : List Value) (w : mmW) : mmR := match st with
  | a :: r => if a.category = 1 then mm_nx (pc + 1) ls r w else none
  | _ => none
def mm_dup (pc : Nat) (ls : mmL) (st : List Value) (w : mmW) : mmR := match st with
  | a :: r => if a.category = 1 then mm_nx (pc + 1) ls (a :: a :: r) w else none
  | _ => none
def mm_dupx (pc : Nat) (ls : mmL) (st : List Value) (w : mmW) : mmR := match st with
  | a :: b :: r => if a.category = 1 ∧ b.category = 1 then mm_nx (pc + 1) ls (a :: b :: a :: r) w else none
  | _ => none
def mm_dup2 (pc : Nat) (ls : mmL) (st : List Value) (w : mmW) : mmR := match st with
  | a :: b :: r => if a.category = 1 ∧ b.category = 1 then mm_nx (pc + 1) ls (a :: b :: a :: b :: r) w else none
  | _ => none
/-- branches -/
def mm_holds (c : ClassFile.Cond) (x y : Int32) : Bool := match c with
  | .eq => decide (x = y)
  | .ne => decide (¬ x = y)
  | .lt => decide (x < y)
  | .ge => decide (y ≤ x)
  | .gt => decide (y < x)
  | .le => decide (x ≤ y)
def mm_if (c : ClassFile.Cond) (off : Int) (pc : Nat) (ls : mmL) (st : List Value) (w : mmW) : mmR := match st with
  | .int x :: r => bif mm_holds c x 0 then mm_jp pc off ls r w else mm_nx (pc + 3) ls r w
  | _ => none
def mm_icmp (c : ClassFile.Cond) (off : Int) (pc : Nat) (ls : mmL) (st : List Value) (w : mmW) : mmR := match st with
  | .int y :: .int x :: r => bif mm_holds c x y then mm_jp pc off ls r w else mm_nx (pc + 3) ls r w
  | _ => none
def mm_req : Value → Value → Option Bool
  | .null, .null => some true
  | .null, .ref _ => some false
  | .null, .retAddr _ => some false
  | .ref _, .null => some false
  | .retAddr _, .null => some false
  | .ref x, .ref y => some (decide (x = y))
  | .ref _, .retAddr j => if j < 6 then some false else none
  | .retAddr j, .ref _ => if j < 6 then some false else none
  | .retAddr i, .retAddr j => if i = j then some true else none
  | _, _ => none
def mm_acmp (c : ACond) (off : Int) (pc : Nat) (ls : mmL) (st : List Value) (w : mmW) : mmR := match st with
  | b :: a :: r => match mm_req a b with
    | some z => bif (match c with | .eq => z | .ne => !z) then mm_jp pc off ls r w else mm_nx (pc + 3) ls r w
    | none => none
  | _ => none
def mm_ifn (yes : Bool) (off : Int) (pc : Nat) (ls : mmL) (st : List Value) (w : mmW) : mmR := match st with
  | .null :: r => bif yes then mm_jp pc off ls r w else mm_nx (pc + 3) ls r w
  | .ref _ :: r => bif yes then mm_nx (pc + 3) ls r w else mm_jp pc off ls r w
  | _ => none
def mm_tsw (dflt lo hi : Int) (offs : Array Int) (pc : Nat) (ls : mmL) (st : List Value) (w : mmW) : mmR := match st with
  | .int x :: r => if x.toInt < lo ∨ hi < x.toInt then mm_jp pc dflt ls r w else match offs[(x.toInt - lo).toNat]? with
    | some off => mm_jp pc off ls r w
    | none => none
  | _ => none
def mm_lsw (dflt : Int) (ps : Array (Int × Int)) (pc : Nat) (ls : mmL) (st : List Value) (w : mmW) : mmR := match st with
  | .int x :: r => if (ps.toList.zip (ps.toList.drop 1)).all (fun (a, next) => a.1 < next.1) = true then mm_jp pc (Op.lookupswitch.offset ps.toList dflt x.toInt) ls r w else none
  | _ => none
/-- fields -/
def mm_get (P : mmP) (a b pc : Nat) (ls : mmL) (st : List Value) (w : mmW) : mmR := match st with
  | x :: r => match mm_cell P w x with
    | some (.inr c, vs) => if c = a then match vs[b]? with
      | some v => mm_nx (pc + 3) ls (v :: r) w
      | none => none
      else none
    | _ => none
  | _ => none
def mm_fit (t : Nat) (v : Value) : Bool := match t, v with
  | 0, .int _ => true
  | 1, .int x => x == 0 || x == 1
  | 2, .ref _ => true
  | 2, .null => true
  | 2, .retAddr _ => true
  | 3, .long _ => true
  | _, _ => false
def mm_put (a b t pc : Nat) (ls : mmL) (st : List Value) (w : mmW) : mmR := match st with
  | v :: .ref x :: r => match w.1[x]? with
    | some (.inr c, vs) => if c = a ∧ b < vs.length ∧ mm_fit t v = true then mm_nx (pc + 3) ls r (mm_set w x (.inr c, vs.set b v)) else none
    | _ => none
  | _ => none
/-- arrays: number 0 ints, 1 booleans, 2 bytes, 3 longs, from 4 on references -/
def mm_ald (q : Nat → Bool) (P : mmP) (pc : Nat) (ls : mmL) (st : List Value) (w : mmW) : mmR := match st with
  | .int i :: x :: r => match mm_cell P w x with
    | some (.inl t, vs) => if q t = true ∧ ¬ i < 0 then match vs[i.toNatClampNeg]? with
      | some v => mm_nx (pc + 1) ls (v :: r) w
      | none => none
      else none
    | _ => none
  | _ => none
def mm_ast (t0 k : Nat) (pc : Nat) (ls : mmL) (st : List Value) (w : mmW) : mmR := match st with
  | v :: .int i :: .ref x :: r => match w.1[x]? with
    | some (.inl t, vs) => if t = t0 ∧ mm_kd v = k ∧ ¬ i < 0 ∧ i.toNatClampNeg < vs.length then mm_nx (pc + 1) ls r (mm_set w x (.inl t, vs.set i.toNatClampNeg v)) else none
    | _ => none
  | _ => none
def mm_bast (pc : Nat) (ls : mmL) (st : List Value) (w : mmW) : mmR := match st with
  | .int v :: .int i :: .ref x :: r => match w.1[x]? with
    | some (.inl 1, vs) => if ¬ i < 0 ∧ i.toNatClampNeg < vs.length then mm_nx (pc + 1) ls r (mm_set w x (.inl 1, vs.set i.toNatClampNeg (.int (vp_nar .boolean v)))) else none
    | _ => none
  | _ => none
def mm_elok (P : mmP) (t : Nat) (w : mmW) : Value → Bool
  | .null => true
  | .ref y => match w.1[y]? with
    | some (k, _) => P.2.2.2.1 t k
    | none => false
  | _ => false
def mm_aast (P : mmP) (pc : Nat) (ls : mmL) (st : List Value) (w : mmW) : mmR := match st with
  | v :: .int i :: .ref x :: r => match w.1[x]? with
    | some (.inl t, vs) => if 4 ≤ t ∧ mm_elok P t w v = true ∧ ¬ i < 0 ∧ i.toNatClampNeg < vs.length then mm_nx (pc + 1) ls r (mm_set w x (.inl t, vs.set i.toNatClampNeg v)) else none
    | _ => none
  | _ => none
def mm_alen (P : mmP) (pc : Nat) (ls : mmL) (st : List Value) (w : mmW) : mmR := match st with
  | x :: r => match mm_cell P w x with
    | some (.inl _, vs) => mm_nx (pc + 1) ls (.int (Int32.ofNat vs.length) :: r) w
    | _ => none
  | _ => none
def mm_zero (t : Nat) : Value := if t < 3 then .int 0 else if t = 3 then .long 0 else .null
def mm_newa (t d pc : Nat) (ls : mmL) (st : List Value) (w : mmW) : mmR := match st with
  | .int n :: r => if ¬ n < 0 ∧ n.toNatClampNeg ≤ 100000 then mm_nx (pc + d) ls (.ref w.1.length :: r) (mm_mk w (.inl t, List.replicate n.toNatClampNeg (mm_zero t))) else none
  | _ => none
def mm_new (P : mmP) (a pc : Nat) (ls : mmL) (st : List Value) (w : mmW) : mmR := match P.2.1 a with
  | some vs => mm_nx (pc + 3) ls (.ref w.1.length :: st) (mm_mk w (.inr a, vs))
  | none => none
def mm_cast (a pc : Nat) (ls : mmL) (st : List Value) (w : mmW) : mmR := match st with
  | .null :: r => mm_nx (pc + 3) ls (.null :: r) w
  | .ref x :: r => match w.1[x]? with
    | some (.inr c, _) => if c = a then mm_nx (pc + 3) ls (.ref x :: r) w else none
    | _ => none
  | _ => none
/-- constants -/
def mm_ldc (a b d pc : Nat) (ls : mmL) (st : List Value) (w : mmW) : mmR := match a with
  | 0 => mm_nx (pc + d) ls (.int (Int32.ofNat b) :: st) w
  | 1 => mm_nx (pc + d) ls (.retAddr b :: st) w
  | 2 => mm_nx (pc + d) ls (.float 0 :: st) w
  | _ => none
/-- calls: a the method, b how many arguments with the receiver, t what sort: 0 static, 1 a constructor, t + 2 the receiver's class -/
def mm_cat (st : List Value) : Nat := (st.map fun v => v.category).sum
def mm_recv (P : mmP) (t : Nat) (w : mmW) (as : List Value) : Bool := match t, as with
  | 0, _ => true
  | 1, .ref _ :: _ => true
  | t + 2, x :: _ => match mm_cell P w x with
    | some (.inr c, _) => decide (c = t)
    | _ => false
  | _, _ => false
def mm_call (P : mmP) (call : Nat → List Value → mmW → Option mmO) (a b t pc : Nat) (ls : mmL) (st : List Value) (w : mmW) : mmR :=
  if b ≤ st.length ∧ mm_cat (st.drop b) ≤ 8 ∧ mm_recv P t w (st.take b).reverse = true then match call a (st.take b).reverse w with
    | some (v, w') => mm_nx (pc + 3) ls (v.toList ++ st.drop b) w'
    | none => none
  else none
/-- System.arraycopy between ints, or between references, of two different cells -/
def mm_lcpy (f g : List Value) (sp dp n : Nat) : List Value := g.take dp ++ (f.drop sp).take n ++ g.drop (dp + n)
def mm_acpy (P : mmP) (pc : Nat) (ls : mmL) (st : List Value) (w : mmW) : mmR := match st with
  | .int n :: .int dp :: .ref y :: .int sp :: .ref x :: r => match w.1[x]?, w.1[y]? with
    | some (.inl t, f), some (.inl u, g) => if mm_cat r ≤ 8 ∧ ¬ sp < 0 ∧ ¬ dp < 0 ∧ ¬ n < 0 ∧ sp.toNatClampNeg + n.toNatClampNeg ≤ f.length ∧ dp.toNatClampNeg + n.toNatClampNeg ≤ g.length ∧ t = u ∧ (t = 0 ∨ (t = 1 ∧ ((f.drop sp.toNatClampNeg).take n.toNatClampNeg).all (fun v => mm_fit 1 v) = true) ∨ (4 ≤ t ∧ ((f.drop sp.toNatClampNeg).take n.toNatClampNeg).all (fun v => mm_elok P t w v) = true)) then
        mm_nx (pc + 3) ls r (mm_set w y (.inl u, mm_lcpy f g sp.toNatClampNeg dp.toNatClampNeg n.toNatClampNeg)) else none
    | _, _ => none
  | _ => none
def mm_getC (P : mmP) (a t0 pc : Nat) (ls : mmL) (st : List Value) (w : mmW) : mmR := match st with
  | .ref x :: r => match w.1[x]? with
    | some (.inl t, _) => if t = t0 ∧ mm_cat r ≤ 8 then mm_nx (pc + 3) ls (.retAddr a :: r) w else none
    | _ => none
  | _ => none
/-- returns -/
def mm_ret (t k : Nat) (st : List Value) (w : mmW) : mmR := match st with
  | [v] => if mm_kd v = k ∧ mm_fit t v = true then some (.inl (some v, w)) else none
  | _ => none
def mm_retc (st : List Value) (w : mmW) : mmR := match st with
  | [.int v] => if narrow .char (.int v) = .int v then some (.inl (some (.int v), w)) else none
  | _ => none
def mm_retb (st : List Value) (w : mmW) : mmR := match st with
  | [.int v] => if narrow .byte (.int v) = .int v then some (.inl (some (.int v), w)) else none
  | _ => none
def mm_retv (st : List Value) (w : mmW) : mmR := match st with
  | [] => some (.inl (none, w))
  | _ => none
def mm_obj (pc : Nat) (ls : mmL) (st : List Value) (w : mmW) : mmR := match st with
  | .ref _ :: r => if mm_cat r ≤ 8 then mm_nx (pc + 3) ls r w else none
  | _ => none
/-- Math.max, Math.min -/
def mm_mx (f : Int32 → Int32 → Int32) (pc : Nat) (ls : mmL) (st : List Value) (w : mmW) : mmR := match st with
  | .int y :: .int x :: r => if mm_cat r ≤ 8 then mm_nx (pc + 3) ls (.int (f x y) :: r) w else none
  | _ => none
def mm_max (x y : Int32) : Int32 := if x < y then y else x
def mm_min (x y : Int32) : Int32 := if y < x then y else x
def mm_is (a b t pc : Nat) (P : mmP) (call : Nat → List Value → mmW → Option mmO) (ls : mmL) (st : List Value) (w : mmW) : mmR :=
  if t = 1000 then mm_acpy P pc ls st w else if t = 1004 then mm_mx mm_max pc ls st w else if t = 1005 then mm_mx mm_min pc ls st w else if t = 0 then mm_call P call a b t pc ls st w else none
def mm_iv (a b t pc : Nat) (P : mmP) (call : Nat → List Value → mmW → Option mmO) (ls : mmL) (st : List Value) (w : mmW) : mmR :=
  if t = 1001 then mm_getC P a b pc ls st w else if 2 ≤ t then mm_call P call a b t pc ls st w else none
def mm_ip (a b t pc : Nat) (P : mmP) (call : Nat → List Value → mmW → Option mmO) (ls : mmL) (st : List Value) (w : mmW) : mmR :=
  if t = 1003 then mm_obj pc ls st w else if t = 1 then mm_call P call a b t pc ls st w else none
def mm1 (P : mmP) (call : Nat → List Value → mmW → Option mmO) (e : mmE) (pc : Nat) (ls : mmL) (st : List Value) (w : mmW) : mmR :=
  match e with
  | (.iload i, _, _, _) => mm_ld 0 i 2 pc ls st w
  | (.iload_n i, _, _, _) => mm_ld 0 i 1 pc ls st w
  | (.lload i, _, _, _) => mm_ld 1 i 2 pc ls st w
  | (.lload_n i, _, _, _) => mm_ld 1 i 1 pc ls st w
  | (.aload i, _, _, _) => mm_ld 2 i 2 pc ls st w
  | (.aload_n i, _, _, _) => mm_ld 2 i 1 pc ls st w
  | (.istore i, _, _, _) => mm_st 0 i 2 pc ls st w
  | (.istore_n i, _, _, _) => mm_st 0 i 1 pc ls st w
  | (.astore i, _, _, _) => mm_st 2 i 2 pc ls st w
  | (.astore_n i, _, _, _) => mm_st 2 i 1 pc ls st w
  | (.lstore i, _, _, _) => mm_st2 i 2 pc ls st w
  | (.lstore_n i, _, _, _) => mm_st2 i 1 pc ls st w
  | (.iinc i n, _, _, _) => mm_iinc i n pc ls st w
  | (.iconst n, _, _, _) => mm_pu (.int (Int32.ofInt n)) 1 pc ls st w
  | (.bipush n, _, _, _) => mm_pu (.int (Int8.ofInt n).toInt32) 2 pc ls st w
  | (.sipush n, _, _, _) => mm_pu (.int (Int16.ofInt n).toInt32) 3 pc ls st w
  | (.lconst n, _, _, _) => mm_pu (.long (Int64.ofNat n)) 1 pc ls st w
  | (.aconst_null, _, _, _) => mm_pu .null 1 pc ls st w
  | (.iadd, _, _, _) => mm_bi (fun x y => x + y) pc ls st w
  | (.isub, _, _, _) => mm_bi (fun x y => x - y) pc ls st w
  | (.imul, _, _, _) => mm_bi (fun x y => x * y) pc ls st w
  | (.iand, _, _, _) => mm_bi (fun x y => x &&& y) pc ls st w
  | (.ior, _, _, _) => mm_bi (fun x y => x ||| y) pc ls st w
  | (.ishl, _, _, _) => mm_bi (fun x y => x <<< (y &&& 31)) pc ls st w
  | (.ishr, _, _, _) => mm_bi (fun x y => x >>> (y &&& 31)) pc ls st w
  | (.iushr, _, _, _) => mm_bi (fun x y => (x.toUInt32 >>> (y.toUInt32 &&& Int32.toUInt32 31)).toInt32) pc ls st w
  | (.idiv, _, _, _) => mm_dv (fun x y => x / y) pc ls st w
  | (.irem, _, _, _) => mm_dv (fun x y => x - x / y * y) pc ls st w
  | (.ineg, _, _, _) => mm_un (fun x => .int (-x)) pc ls st w
  | (.i2l, _, _, _) => mm_un (fun x => .long x.toInt64) pc ls st w
  | (.i2c, _, _, _) => mm_un (fun x => .int (x.toUInt32 % 65536).toInt32) pc ls st w
  | (.i2b, _, _, _) => mm_un (fun x => .int x.toInt8.toInt32) pc ls st w
  | (.ladd, _, _, _) => mm_bl (fun x y => .long (x + y)) pc ls st w
  | (.lor, _, _, _) => mm_bl (fun x y => .long (x ||| y)) pc ls st w
  | (.lcmp, _, _, _) => mm_bl (fun x y => .int (lg_cmp x y)) pc ls st w
  | (.lshl, _, _, _) => mm_sl (fun x y => x <<< (y.toInt64 &&& 63)) pc ls st w
  | (.pop, _, _, _) => mm_pop pc ls st w
  | (.dup, _, _, _) => mm_dup pc ls st w
  | (.dup_x1, _, _, _) => mm_dupx pc ls st w
  | (.dup2, _, _, _) => mm_dup2 pc ls st w
  | (.ifCond c off, _, _, _) => mm_if c off pc ls st w
  | (.if_icmp c off, _, _, _) => mm_icmp c off pc ls st w
  | (.if_acmp c off, _, _, _) => mm_acmp c off pc ls st w
  | (.ifnull off, _, _, _) => mm_ifn true off pc ls st w
  | (.ifnonnull off, _, _, _) => mm_ifn false off pc ls st w
  | (.goto off, _, _, _) => mm_jp pc off ls st w
  | (.tableswitch d lo hi offs, _, _, _) => mm_tsw d lo hi offs pc ls st w
  | (.lookupswitch d ps, _, _, _) => mm_lsw d ps pc ls st w
  | (.getfield _, a, b, _) => mm_get P a b pc ls st w
  | (.putfield _, a, b, t) => mm_put a b t pc ls st w
  | (.iaload, _, _, _) => mm_ald (fun t => t == 0) P pc ls st w
  | (.baload, _, _, _) => mm_ald (fun t => t == 1 || t == 2) P pc ls st w
  | (.laload, _, _, _) => mm_ald (fun t => t == 3) P pc ls st w
  | (.aaload, _, _, _) => mm_ald (fun t => decide (4 ≤ t)) P pc ls st w
  | (.iastore, _, _, _) => mm_ast 0 0 pc ls st w
  | (.lastore, _, _, _) => mm_ast 3 1 pc ls st w
  | (.bastore, _, _, _) => mm_bast pc ls st w
  | (.aastore, _, _, _) => mm_aast P pc ls st w
  | (.arraylength, _, _, _) => mm_alen P pc ls st w
  | (.newarray _, a, _, _) => mm_newa a 2 pc ls st w
  | (.anewarray _, a, _, _) => mm_newa a 3 pc ls st w
  | (.new _, a, _, _) => mm_new P a pc ls st w
  | (.checkcast _, a, _, _) => mm_cast a pc ls st w
  | (.ldc _, a, b, _) => mm_ldc a b 2 pc ls st w
  | (.ldc_w _, a, b, _) => mm_ldc a b 3 pc ls st w
  | (.getstatic _, a, b, _) => mm_ldc a b 3 pc ls st w
  | (.invokestatic _, a, b, t) => mm_is a b t pc P call ls st w
  | (.invokevirtual _, a, b, t) => mm_iv a b t pc P call ls st w
  | (.invokespecial _, a, b, t) => mm_ip a b t pc P call ls st w
  | (.ireturn, 0, _, _) => mm_ret 0 0 st w
  | (.ireturn, 1, _, _) => mm_ret 1 0 st w
  | (.ireturn, 2, _, _) => mm_retc st w
  | (.ireturn, 3, _, _) => mm_retb st w
  | (.lreturn, _, _, _) => mm_ret 3 1 st w
  | (.areturn, _, _, _) => mm_ret 2 2 st w
  | (.return_, _, _, _) => mm_retv st w
  | _ => none
def mm_go (P : mmP) (call : Nat → List Value → mmW → Option mmO) (k : Nat) : Nat → mmF → Option mmO
  | 0, _ => none
  | n + 1, (pc, ls, st, w) => match P.1 k pc with
    | none => none
    | some e => match mm1 P call e pc ls st w with
      | none => none
      | some (.inl o) => some o
      | some (.inr f) => mm_go P call k n f
def mm_args (as : List Value) : mmL := as.flatMap fun v => if v.category = 2 then [some v, none] else [some v]
def mm_entry (nl : Nat) (as : List Value) : mmL := mm_args as ++ List.replicate (nl - (mm_args as).length) none
def mm_ev (P : mmP) (N : Nat) : Nat → Nat → List Value → mmW → Option mmO
  | 0, _, _, _ => none
  | d + 1, k, as, w => if (mm_args as).length ≤ P.2.2.2.2 k then mm_go P (mm_ev P N d) k N (0, mm_entry (P.2.2.2.2 k) as, [], w) else none
