/-! the heap as functions, frames of typed values: the ground on which both programs are read as functions (their rows are written by wip/whole/shallow.py) -/
abbrev hO : Type := Int ⊕ Nat
abbrev hV : Type := (Int ⊕ Nat) ⊕ Int64
abbrev vi (z : Int) : hO := .inl z
abbrev vr (x : Nat) : hO := .inr x
abbrev vI (z : Int) : hV := .inl (.inl z)
abbrev vR (x : Nat) : hV := .inl (.inr x)
abbrev vJ (l : Int64) : hV := .inr l
/-- a reference by its number: 0 null, 1 .. 7 the old cells, from 8 on the cells of the world -/
def rv : Nat → Value
  | 0 => .null
  | 1 => .retAddr 0
  | 2 => .retAddr 1
  | 3 => .retAddr 2
  | 4 => .retAddr 3
  | 5 => .retAddr 4
  | 6 => .retAddr 5
  | 7 => .retAddr 6
  | n + 8 => .ref n
def uo : hO → Value
  | .inl z => .int (Int32.ofInt z)
  | .inr x => rv x
def uv : hV → Value
  | .inl v => uo v
  | .inr l => .long l
/-- a number that an int holds -/
def rg (z : Int) : Prop := (Int32.ofInt z).toInt = z
theorem rg_t (x : Int32) : rg x.toInt := by unfold rg; rw [Int32.ofInt_toInt]
theorem rg_of {z : Int} (h1 : -2147483648 ≤ z) (h2 : z < 2147483648) : rg z := Int32.toInt_ofInt_of_le h1 h2
theorem rg_b {z : Int} (h : rg z) : -2147483648 ≤ z ∧ z < 2147483648 := by
  unfold rg at h
  rw [← h]
  exact ⟨Int32.le_toInt _, Int32.toInt_lt _⟩
theorem rv_kd (x : Nat) : mm_kd (rv x) = 2 := by unfold rv; split <;> rfl
theorem rv_cat (x : Nat) : (rv x).category = 1 := by unfold rv; split <;> rfl
theorem uo_cat (v : hO) : (uo v).category = 1 := by
  cases v with
  | inl z => rfl
  | inr x => exact rv_cat x
theorem uo_nl {v : hO} {l : Int64} (h : uo v = .long l) : False := by
  have := uo_cat v
  rw [h] at this
  cases this
/-! arithmetic -/
def wadd (x y : Int) : Int := (Int32.ofInt x + Int32.ofInt y).toInt
def wsub (x y : Int) : Int := (Int32.ofInt x - Int32.ofInt y).toInt
def wmul (x y : Int) : Int := (Int32.ofInt x * Int32.ofInt y).toInt
def wand (x y : Int) : Int := (Int32.ofInt x &&& Int32.ofInt y).toInt
def wor (x y : Int) : Int := (Int32.ofInt x ||| Int32.ofInt y).toInt
def wshl (x y : Int) : Int := (Int32.ofInt x <<< (Int32.ofInt y &&& 31)).toInt
def wshr (x y : Int) : Int := (Int32.ofInt x >>> (Int32.ofInt y &&& 31)).toInt
def wushr (x y : Int) : Int := (((Int32.ofInt x).toUInt32 >>> ((Int32.ofInt y).toUInt32 &&& Int32.toUInt32 31)).toInt32).toInt
def wdiv (x y : Int) : Int := (Int32.ofInt x / Int32.ofInt y).toInt
def wrem (x y : Int) : Int := (Int32.ofInt x - Int32.ofInt x / Int32.ofInt y * Int32.ofInt y).toInt
def wmax (x y : Int) : Int := (mm_max (Int32.ofInt x) (Int32.ofInt y)).toInt
def wmin (x y : Int) : Int := (mm_min (Int32.ofInt x) (Int32.ofInt y)).toInt
def wneg (x : Int) : Int := (-Int32.ofInt x).toInt
def wchr (x : Int) : Int := ((Int32.ofInt x).toUInt32 % 65536).toInt32.toInt
def wbyt (x : Int) : Int := (Int32.ofInt x).toInt8.toInt32.toInt
def wlng (x : Int) : Int64 := (Int32.ofInt x).toInt64
def wcmp (x y : Int64) : Int := (lg_cmp x y).toInt
def wlsh (x : Int64) (y : Int) : Int64 := x <<< ((Int32.ofInt y).toInt64 &&& 63)
def wbol (x : Int) : Int := (vp_nar .boolean (Int32.ofInt x)).toInt
theorem rg_add (x y : Int) : rg (wadd x y) := rg_t _
theorem rg_sub (x y : Int) : rg (wsub x y) := rg_t _
theorem rg_mul (x y : Int) : rg (wmul x y) := rg_t _
theorem rg_and (x y : Int) : rg (wand x y) := rg_t _
theorem rg_or (x y : Int) : rg (wor x y) := rg_t _
theorem rg_shl (x y : Int) : rg (wshl x y) := rg_t _
theorem rg_shr (x y : Int) : rg (wshr x y) := rg_t _
theorem rg_ushr (x y : Int) : rg (wushr x y) := rg_t _
theorem rg_div (x y : Int) : rg (wdiv x y) := rg_t _
theorem rg_rem (x y : Int) : rg (wrem x y) := rg_t _
theorem rg_max (x y : Int) : rg (wmax x y) := rg_t _
theorem rg_min (x y : Int) : rg (wmin x y) := rg_t _
theorem rg_neg (x : Int) : rg (wneg x) := rg_t _
theorem rg_chr (x : Int) : rg (wchr x) := rg_t _
theorem rg_byt (x : Int) : rg (wbyt x) := rg_t _
theorem rg_cmp (x y : Int64) : rg (wcmp x y) := rg_t _
theorem rg_bol (x : Int) : rg (wbol x) := rg_t _
/-! instructions that touch no heap, on typed frames -/
abbrev hF : Type := Nat × List (Option hO) × List hV
def hcat : List hV → Nat
  | [] => 0
  | .inl _ :: r => 1 + hcat r
  | .inr _ :: r => 2 + hcat r
theorem hcat_ok : ∀ st : List hV, mm_cat (st.map uv) = hcat st
  | [] => rfl
  | .inl v :: r => by
    have := hcat_ok r
    unfold mm_cat at this ⊢
    simp only [List.map_cons, List.sum_cons, hcat, this]
    rw [show (uv (.inl v)).category = 1 from uo_cat v]
  | .inr l :: r => by
    have := hcat_ok r
    unfold mm_cat at this ⊢
    simp only [List.map_cons, List.sum_cons, hcat, this]
    rfl
def hnx (pc : Nat) (ls : List (Option hO)) (st : List hV) : Option hF := some (pc, ls, st)
def hjp (pc : Nat) (off : Int) (ls : List (Option hO)) (st : List hV) : Option hF := match (pc : Int) + off with
  | .ofNat t => some (t, ls, st)
  | .negSucc _ => none
def hldI (i d pc : Nat) (ls : List (Option hO)) (st : List hV) : Option hF := match ls[i]? with
  | some (some (.inl z)) => some (pc + d, ls, vI z :: st)
  | _ => none
def hldR (i d pc : Nat) (ls : List (Option hO)) (st : List hV) : Option hF := match ls[i]? with
  | some (some (.inr x)) => some (pc + d, ls, vR x :: st)
  | _ => none
def hstI (i d pc : Nat) (ls : List (Option hO)) (st : List hV) : Option hF := match st with
  | .inl (.inl z) :: r => if i < ls.length then some (pc + d, ls.set i (some (vi z)), r) else none
  | _ => none
def hstR (i d pc : Nat) (ls : List (Option hO)) (st : List hV) : Option hF := match st with
  | .inl (.inr x) :: r => if i < ls.length then some (pc + d, ls.set i (some (vr x)), r) else none
  | _ => none
def hinc (i : Nat) (n : Int) (pc : Nat) (ls : List (Option hO)) (st : List hV) : Option hF := match ls[i]? with
  | some (some (.inl x)) => some (pc + 3, ls.set i (some (vi (wadd x n))), st)
  | _ => none
def hun (f : Int32 → Int32) (pc : Nat) (ls : List (Option hO)) (st : List hV) : Option hF := match st with
  | .inl (.inl x) :: r => some (pc + 1, ls, vI (f (Int32.ofInt x)).toInt :: r)
  | _ => none
def hi2l (pc : Nat) (ls : List (Option hO)) (st : List hV) : Option hF := match st with
  | .inl (.inl x) :: r => some (pc + 1, ls, vJ (wlng x) :: r)
  | _ => none
def hbi (f : Int32 → Int32 → Int32) (pc : Nat) (ls : List (Option hO)) (st : List hV) : Option hF := match st with
  | .inl (.inl y) :: .inl (.inl x) :: r => some (pc + 1, ls, vI (f (Int32.ofInt x) (Int32.ofInt y)).toInt :: r)
  | _ => none
def hdv (f : Int32 → Int32 → Int32) (pc : Nat) (ls : List (Option hO)) (st : List hV) : Option hF := match st with
  | .inl (.inl y) :: .inl (.inl x) :: r => if (0 : Int) < y ∧ y < 100000 then some (pc + 1, ls, vI (f (Int32.ofInt x) (Int32.ofInt y)).toInt :: r) else none
  | _ => none
def hbj (f : Int64 → Int64 → Int64) (pc : Nat) (ls : List (Option hO)) (st : List hV) : Option hF := match st with
  | .inr y :: .inr x :: r => some (pc + 1, ls, vJ (f x y) :: r)
  | _ => none
def hcmp (pc : Nat) (ls : List (Option hO)) (st : List hV) : Option hF := match st with
  | .inr y :: .inr x :: r => some (pc + 1, ls, vI (wcmp x y) :: r)
  | _ => none
def hlsh (pc : Nat) (ls : List (Option hO)) (st : List hV) : Option hF := match st with
  | .inl (.inl y) :: .inr x :: r => some (pc + 1, ls, vJ (wlsh x y) :: r)
  | _ => none
def hmx (f : Int32 → Int32 → Int32) (pc : Nat) (ls : List (Option hO)) (st : List hV) : Option hF := match st with
  | .inl (.inl y) :: .inl (.inl x) :: r => if hcat r ≤ 8 then some (pc + 3, ls, vI (f (Int32.ofInt x) (Int32.ofInt y)).toInt :: r) else none
  | _ => none
def hpop (pc : Nat) (ls : List (Option hO)) (st : List hV) : Option hF := match st with
  | .inl _ :: r => some (pc + 1, ls, r)
  | _ => none
def hdup (pc : Nat) (ls : List (Option hO)) (st : List hV) : Option hF := match st with
  | .inl a :: r => some (pc + 1, ls, .inl a :: .inl a :: r)
  | _ => none
def hdupx (pc : Nat) (ls : List (Option hO)) (st : List hV) : Option hF := match st with
  | .inl a :: .inl b :: r => some (pc + 1, ls, .inl a :: .inl b :: .inl a :: r)
  | _ => none
def hdup2 (pc : Nat) (ls : List (Option hO)) (st : List hV) : Option hF := match st with
  | .inl a :: .inl b :: r => some (pc + 1, ls, .inl a :: .inl b :: .inl a :: .inl b :: r)
  | _ => none
def hldc (a b d pc : Nat) (ls : List (Option hO)) (st : List hV) : Option hF := match a with
  | 0 => if b < 2147483648 then some (pc + d, ls, vI (Int.ofNat b) :: st) else none
  | 1 => if b < 7 then some (pc + d, ls, vR (b + 1) :: st) else none
  | _ => none
def h1 (e : mmE) (pc : Nat) (ls : List (Option hO)) (st : List hV) : Option hF := match e with
  | (.iload i, _, _, _) => hldI i 2 pc ls st
  | (.iload_n i, _, _, _) => hldI i 1 pc ls st
  | (.aload i, _, _, _) => hldR i 2 pc ls st
  | (.aload_n i, _, _, _) => hldR i 1 pc ls st
  | (.istore i, _, _, _) => hstI i 2 pc ls st
  | (.istore_n i, _, _, _) => hstI i 1 pc ls st
  | (.astore i, _, _, _) => hstR i 2 pc ls st
  | (.astore_n i, _, _, _) => hstR i 1 pc ls st
  | (.iinc i n, _, _, _) => hinc i n pc ls st
  | (.iconst n, _, _, _) => hnx (pc + 1) ls (vI n :: st)
  | (.bipush n, _, _, _) => if (-128 : Int) ≤ n ∧ n < 128 then hnx (pc + 2) ls (vI n :: st) else none
  | (.sipush n, _, _, _) => if (-32768 : Int) ≤ n ∧ n < 32768 then hnx (pc + 3) ls (vI n :: st) else none
  | (.lconst n, _, _, _) => hnx (pc + 1) ls (vJ (Int64.ofNat n) :: st)
  | (.aconst_null, _, _, _) => hnx (pc + 1) ls (vR 0 :: st)
  | (.iadd, _, _, _) => hbi (fun x y => x + y) pc ls st
  | (.isub, _, _, _) => hbi (fun x y => x - y) pc ls st
  | (.imul, _, _, _) => hbi (fun x y => x * y) pc ls st
  | (.iand, _, _, _) => hbi (fun x y => x &&& y) pc ls st
  | (.ior, _, _, _) => hbi (fun x y => x ||| y) pc ls st
  | (.ishl, _, _, _) => hbi (fun x y => x <<< (y &&& 31)) pc ls st
  | (.ishr, _, _, _) => hbi (fun x y => x >>> (y &&& 31)) pc ls st
  | (.iushr, _, _, _) => hbi (fun x y => (x.toUInt32 >>> (y.toUInt32 &&& Int32.toUInt32 31)).toInt32) pc ls st
  | (.idiv, _, _, _) => hdv (fun x y => x / y) pc ls st
  | (.irem, _, _, _) => hdv (fun x y => x - x / y * y) pc ls st
  | (.ineg, _, _, _) => hun (fun x => -x) pc ls st
  | (.i2c, _, _, _) => hun (fun x => (x.toUInt32 % 65536).toInt32) pc ls st
  | (.i2b, _, _, _) => hun (fun x => x.toInt8.toInt32) pc ls st
  | (.i2l, _, _, _) => hi2l pc ls st
  | (.ladd, _, _, _) => hbj (fun x y => x + y) pc ls st
  | (.lor, _, _, _) => hbj (fun x y => x ||| y) pc ls st
  | (.lcmp, _, _, _) => hcmp pc ls st
  | (.lshl, _, _, _) => hlsh pc ls st
  | (.pop, _, _, _) => hpop pc ls st
  | (.dup, _, _, _) => hdup pc ls st
  | (.dup_x1, _, _, _) => hdupx pc ls st
  | (.dup2, _, _, _) => hdup2 pc ls st
  | (.goto off, _, _, _) => hjp pc off ls st
  | (.ldc _, a, b, _) => hldc a b 2 pc ls st
  | (.ldc_w _, a, b, _) => hldc a b 3 pc ls st
  | (.getstatic _, a, b, _) => hldc a b 3 pc ls st
  | (.invokestatic _, _, _, 1004) => hmx mm_max pc ls st
  | (.invokestatic _, _, _, 1005) => hmx mm_min pc ls st
  | _ => none
def hrun (k : Nat) : Nat → hF → Option hF
  | 0, f => some f
  | j + 1, (pc, ls, st) => match mt_code k pc with
    | none => none
    | some e => match h1 e pc ls st with
      | some f => hrun k j f
      | none => none
section HRN
variable {call : Nat → List Value → mmW → Option mmO} {pc : Nat} {ls : List (Option hO)} {st : List hV} {w : mmW} {f : hF}
abbrev hup (f : hF) (w : mmW) : mmR := some (.inr (f.1, f.2.1.map (Option.map uo), f.2.2.map uv, w))
theorem hjp_ok {off : Int} (h : hjp pc off ls st = some f) : mm_jp pc off (ls.map (Option.map uo)) (st.map uv) w = hup f w := by
  unfold hjp at h
  unfold mm_jp
  split at h
  · rename_i t ht
    cases h
    rw [ht]
    rfl
  · cases h
theorem hldI_ok {i d : Nat} (h : hldI i d pc ls st = some f) : mm_ld 0 i d pc (ls.map (Option.map uo)) (st.map uv) w = hup f w := by
  unfold hldI at h
  split at h
  · rename_i z hz
    cases h
    unfold mm_ld
    rw [List.getElem?_map, hz]
    rfl
  · cases h
theorem hldR_ok {i d : Nat} (h : hldR i d pc ls st = some f) : mm_ld 2 i d pc (ls.map (Option.map uo)) (st.map uv) w = hup f w := by
  unfold hldR at h
  split at h
  · rename_i x hz
    cases h
    unfold mm_ld
    rw [List.getElem?_map, hz]
    simp only [Option.map_some]
    rw [if_pos (show mm_kd (uo (.inr x)) = 2 from rv_kd x)]
    rfl
  · cases h
theorem hnol_ok (ls : List (Option hO)) : ∀ i, mm_nol (ls.map (Option.map uo)) i = true
  | 0 => rfl
  | i + 1 => by
    show (match (ls.map (Option.map uo))[i]? with | some (some (Value.long _)) => false | _ => true) = true
    rw [List.getElem?_map]
    cases ls[i]? with
    | none => rfl
    | some v =>
      cases v with
      | none => rfl
      | some v =>
        cases v with
        | inl z => rfl
        | inr x =>
          show (match some (some (rv x)) with | some (some (Value.long _)) => false | _ => true) = true
          unfold rv
          split <;> first | rfl | (rename_i q; split at q <;> cases q)
theorem hstI_ok {i d : Nat} (h : hstI i d pc ls st = some f) : mm_st 0 i d pc (ls.map (Option.map uo)) (st.map uv) w = hup f w := by
  unfold hstI at h
  split at h
  · rename_i z r
    split at h
    · rename_i hi
      cases h
      show (if mm_kd (uo (vi z)) = 0 ∧ i < (ls.map (Option.map uo)).length ∧ mm_nol (ls.map (Option.map uo)) i = true then mm_nx (pc + d) ((ls.map (Option.map uo)).set i (some (uo (vi z)))) (r.map uv) w else none) = _
      rw [if_pos ⟨rfl, by rw [List.length_map]; exact hi, hnol_ok ls i⟩, ← show Option.map uo (some (vi z)) = some (uo (vi z)) from rfl, ← List.map_set]
      rfl
    · cases h
  · cases h
theorem hstR_ok {i d : Nat} (h : hstR i d pc ls st = some f) : mm_st 2 i d pc (ls.map (Option.map uo)) (st.map uv) w = hup f w := by
  unfold hstR at h
  split at h
  · rename_i z r
    split at h
    · rename_i hi
      cases h
      show (if mm_kd (uo (vr z)) = 2 ∧ i < (ls.map (Option.map uo)).length ∧ mm_nol (ls.map (Option.map uo)) i = true then mm_nx (pc + d) ((ls.map (Option.map uo)).set i (some (uo (vr z)))) (r.map uv) w else none) = _
      rw [if_pos ⟨rv_kd z, by rw [List.length_map]; exact hi, hnol_ok ls i⟩, ← show Option.map uo (some (vr z)) = some (uo (vr z)) from rfl, ← List.map_set]
      rfl
    · cases h
  · cases h
theorem hinc_ok {i : Nat} {n : Int} (h : hinc i n pc ls st = some f) : mm_iinc i n pc (ls.map (Option.map uo)) (st.map uv) w = hup f w := by
  unfold hinc at h
  split at h
  · rename_i x hz
    cases h
    unfold mm_iinc
    rw [List.getElem?_map, hz]
    have e : (some (Value.int (Int32.ofInt x + Int32.ofInt n)) : Option Value) = Option.map uo (some (vi (wadd x n))) := by
      show _ = some (Value.int (Int32.ofInt (wadd x n)))
      unfold wadd
      rw [Int32.ofInt_toInt]
    show mm_nx (pc + 3) ((ls.map (Option.map uo)).set i (some (.int (Int32.ofInt x + Int32.ofInt n)))) (st.map uv) w = _
    rw [e, ← List.map_set]
    rfl
  · cases h
theorem uvI (x : Int32) : uv (vI x.toInt) = .int x := by
  show Value.int (Int32.ofInt x.toInt) = _
  rw [Int32.ofInt_toInt]
theorem hun_ok {g : Int32 → Int32} (h : hun g pc ls st = some f) : mm_un (fun x => .int (g x)) pc (ls.map (Option.map uo)) (st.map uv) w = hup f w := by
  unfold hun at h
  split at h
  · rename_i x r
    cases h
    show mm_nx (pc + 1) _ (.int (g (Int32.ofInt x)) :: r.map uv) w = _
    rw [← uvI]
    rfl
  · cases h
theorem hi2l_ok (h : hi2l pc ls st = some f) : mm_un (fun x => .long x.toInt64) pc (ls.map (Option.map uo)) (st.map uv) w = hup f w := by
  unfold hi2l at h
  split at h
  · cases h; rfl
  · cases h
theorem hbi_ok {g : Int32 → Int32 → Int32} (h : hbi g pc ls st = some f) : mm_bi g pc (ls.map (Option.map uo)) (st.map uv) w = hup f w := by
  unfold hbi at h
  split at h
  · rename_i y x r
    cases h
    show mm_nx (pc + 1) _ (.int (g (Int32.ofInt x) (Int32.ofInt y)) :: r.map uv) w = _
    rw [← uvI]
    rfl
  · cases h
theorem rg_ne0 {y : Int} (h1 : rg y) (h2 : ¬ y = 0) : ¬ Int32.ofInt y = 0 := by
  intro q
  unfold rg at h1
  rw [q] at h1
  exact h2 h1.symm
theorem hdv_ok {g : Int32 → Int32 → Int32} (h : hdv g pc ls st = some f) : mm_dv g pc (ls.map (Option.map uo)) (st.map uv) w = hup f w := by
  unfold hdv at h
  split at h
  · rename_i y x r
    split at h
    · rename_i hy
      cases h
      show (if Int32.ofInt y = 0 then none else mm_nx (pc + 1) _ (.int (g (Int32.ofInt x) (Int32.ofInt y)) :: r.map uv) w) = _
      rw [if_neg (rg_ne0 (rg_of (by omega) (by omega)) (by omega)), ← uvI]
      rfl
    · cases h
  · cases h
theorem hbj_ok {g : Int64 → Int64 → Int64} (h : hbj g pc ls st = some f) : mm_bl (fun x y => .long (g x y)) pc (ls.map (Option.map uo)) (st.map uv) w = hup f w := by
  unfold hbj at h
  split at h
  · cases h; rfl
  · cases h
theorem hcmp_ok (h : hcmp pc ls st = some f) : mm_bl (fun x y => .int (lg_cmp x y)) pc (ls.map (Option.map uo)) (st.map uv) w = hup f w := by
  unfold hcmp at h
  split at h
  · rename_i y x r
    cases h
    show mm_nx (pc + 1) _ (.int (lg_cmp x y) :: r.map uv) w = _
    rw [← uvI]
    rfl
  · cases h
theorem hlsh_ok (h : hlsh pc ls st = some f) : mm_sl (fun x y => x <<< (y.toInt64 &&& 63)) pc (ls.map (Option.map uo)) (st.map uv) w = hup f w := by
  unfold hlsh at h
  split at h
  · cases h; rfl
  · cases h
theorem hmx_ok {g : Int32 → Int32 → Int32} (h : hmx g pc ls st = some f) : mm_mx g pc (ls.map (Option.map uo)) (st.map uv) w = hup f w := by
  unfold hmx at h
  split at h
  · rename_i y x r
    split at h
    · rename_i hr
      cases h
      show (if mm_cat (r.map uv) ≤ 8 then mm_nx (pc + 3) _ (.int (g (Int32.ofInt x) (Int32.ofInt y)) :: r.map uv) w else none) = _
      rw [if_pos (by rw [hcat_ok]; exact hr), ← uvI]
      rfl
    · cases h
  · cases h
theorem hpop_ok (h : hpop pc ls st = some f) : mm_pop pc (ls.map (Option.map uo)) (st.map uv) w = hup f w := by
  unfold hpop at h
  split at h
  · rename_i a r
    cases h
    show (if (uo a).category = 1 then mm_nx (pc + 1) _ (r.map uv) w else none) = _
    rw [if_pos (uo_cat a)]
    rfl
  · cases h
theorem hdup_ok (h : hdup pc ls st = some f) : mm_dup pc (ls.map (Option.map uo)) (st.map uv) w = hup f w := by
  unfold hdup at h
  split at h
  · rename_i a r
    cases h
    show (if (uo a).category = 1 then mm_nx (pc + 1) _ (uo a :: uo a :: r.map uv) w else none) = _
    rw [if_pos (uo_cat a)]
    rfl
  · cases h
theorem hdupx_ok (h : hdupx pc ls st = some f) : mm_dupx pc (ls.map (Option.map uo)) (st.map uv) w = hup f w := by
  unfold hdupx at h
  split at h
  · rename_i a b r
    cases h
    show (if (uo a).category = 1 ∧ (uo b).category = 1 then mm_nx (pc + 1) _ (uo a :: uo b :: uo a :: r.map uv) w else none) = _
    rw [if_pos ⟨uo_cat a, uo_cat b⟩]
    rfl
  · cases h
theorem hdup2_ok (h : hdup2 pc ls st = some f) : mm_dup2 pc (ls.map (Option.map uo)) (st.map uv) w = hup f w := by
  unfold hdup2 at h
  split at h
  · rename_i a b r
    cases h
    show (if (uo a).category = 1 ∧ (uo b).category = 1 then mm_nx (pc + 1) _ (uo a :: uo b :: uo a :: uo b :: r.map uv) w else none) = _
    rw [if_pos ⟨uo_cat a, uo_cat b⟩]
    rfl
  · cases h
theorem w_nat {b : Nat} (h : b < 2147483648) : Int32.ofInt (Int.ofNat b) = Int32.ofNat b := by
  apply Int32.toInt_inj.mp
  have h1 : (0 : Int) ≤ Int.ofNat b := Int.natCast_nonneg b
  have h2 : Int.ofNat b < 2147483648 := Int.ofNat_lt.mpr h
  exact (Int32.toInt_ofInt_of_le (by omega) (by omega)).trans (Int32.toInt_ofNat_of_lt (by omega)).symm
theorem hldc_ok {a b d : Nat} (h : hldc a b d pc ls st = some f) : mm_ldc a b d pc (ls.map (Option.map uo)) (st.map uv) w = hup f w := by
  unfold hldc at h
  split at h
  · split at h
    · rename_i hb
      cases h
      show mm_nx (pc + d) _ (.int (Int32.ofNat b) :: st.map uv) w = _
      rw [← w_nat hb]
      rfl
    · cases h
  · split at h
    · rename_i hb
      cases h
      have e : (Value.retAddr b) = rv (b + 1) := by
        match b, hb with
        | 0, _ => rfl
        | 1, _ => rfl
        | 2, _ => rfl
        | 3, _ => rfl
        | 4, _ => rfl
        | 5, _ => rfl
        | 6, _ => rfl
      show mm_nx (pc + d) _ (.retAddr b :: st.map uv) w = _
      rw [e]
      rfl
    · cases h
  · cases h
theorem w_i8 {n : Int} (h1 : -128 ≤ n) (h2 : n < 128) : (Int8.ofInt n).toInt32 = Int32.ofInt n := by
  apply Int32.toInt_inj.mp
  rw [Int8.toInt_toInt32, Int8.toInt_ofInt_of_le h1 h2, Int32.toInt_ofInt_of_le (by omega) (by omega)]
theorem w_i16 {n : Int} (h1 : -32768 ≤ n) (h2 : n < 32768) : (Int16.ofInt n).toInt32 = Int32.ofInt n := by
  apply Int32.toInt_inj.mp
  rw [Int16.toInt_toInt32, Int16.toInt_ofInt_of_le h1 h2, Int32.toInt_ofInt_of_le (by omega) (by omega)]
set_option maxHeartbeats 4000000 in
theorem h1_ok {e : mmE} (h : h1 e pc ls st = some f) : mm1 mt_P0 call e pc (ls.map (Option.map uo)) (st.map uv) w = hup f w := by
  obtain ⟨i, a, b, t⟩ := e
  cases i
  case iload i => exact hldI_ok h
  case iload_n i => exact hldI_ok h
  case aload i => exact hldR_ok h
  case aload_n i => exact hldR_ok h
  case istore i => exact hstI_ok h
  case istore_n i => exact hstI_ok h
  case astore i => exact hstR_ok h
  case astore_n i => exact hstR_ok h
  case iinc i n => exact hinc_ok h
  case iconst n => cases h; rfl
  case bipush n =>
    have h : (if (-128 : Int) ≤ n ∧ n < 128 then hnx (pc + 2) ls (vI n :: st) else none) = some f := h
    split at h
    · rename_i hn
      cases h
      show mm_nx (pc + 2) _ (.int (Int8.ofInt n).toInt32 :: st.map uv) w = _
      rw [w_i8 hn.1 hn.2]
      rfl
    · cases h
  case sipush n =>
    have h : (if (-32768 : Int) ≤ n ∧ n < 32768 then hnx (pc + 3) ls (vI n :: st) else none) = some f := h
    split at h
    · rename_i hn
      cases h
      show mm_nx (pc + 3) _ (.int (Int16.ofInt n).toInt32 :: st.map uv) w = _
      rw [w_i16 hn.1 hn.2]
      rfl
    · cases h
  case lconst n => cases h; rfl
  case aconst_null => cases h; rfl
  case iadd => exact hbi_ok h
  case isub => exact hbi_ok h
  case imul => exact hbi_ok h
  case iand => exact hbi_ok h
  case ior => exact hbi_ok h
  case ishl => exact hbi_ok h
  case ishr => exact hbi_ok h
  case iushr => exact hbi_ok h
  case idiv => exact hdv_ok h
  case irem => exact hdv_ok h
  case ineg => exact hun_ok h
  case i2c => exact hun_ok h
  case i2b => exact hun_ok h
  case i2l => exact hi2l_ok h
  case ladd => exact hbj_ok h
  case lor => exact hbj_ok h
  case lcmp => exact hcmp_ok h
  case lshl => exact hlsh_ok h
  case pop => exact hpop_ok h
  case dup => exact hdup_ok h
  case dup_x1 => exact hdupx_ok h
  case dup2 => exact hdup2_ok h
  case goto off => exact hjp_ok h
  case ldc i => exact hldc_ok h
  case ldc_w i => exact hldc_ok h
  case getstatic i => exact hldc_ok h
  case invokestatic i =>
    by_cases q1 : t = 1004
    · subst q1
      exact hmx_ok h
    · by_cases q2 : t = 1005
      · subst q2
        exact hmx_ok h
      · exfalso
        unfold h1 at h
        split at h <;> simp_all
  all_goals cases h
end HRN
