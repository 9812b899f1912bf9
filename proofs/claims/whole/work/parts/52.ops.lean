/-! one instruction, on typed frames over a world that holds the heap h -/
def hK (d k pc : Nat) (ls : mmL) (st : List hV) (w : mmW) (Q : mmO → Prop) : Prop := mu_G mt_P0 d k (pc, ls, st.map uv, w) Q
abbrev hG (d k pc : Nat) (ls : List (Option hO)) (st : List hV) (w : mmW) (Q : mmO → Prop) : Prop := hK d k pc (ls.map (Option.map uo)) st w Q
def hEv (d k : Nat) (args : List hV) (w : mmW) (Q : mmO → Prop) : Prop := ∃ N o, mm_ev mt_P0 N d k (args.map uv) w = some o ∧ Q o
def qI (o : Int × hS) (r : mmO) : Prop := r.1 = some (.int (Int32.ofInt o.1)) ∧ rg o.1 ∧ Abs o.2 r.2
def qIp (v : Int) (w : mmW) (r : mmO) : Prop := r = (some (.int (Int32.ofInt v)), w) ∧ rg v
def qR (o : Nat × hS) (r : mmO) : Prop := r.1 = some (rv o.1) ∧ Abs o.2 r.2
def qRp (v : Nat) (w : mmW) (r : mmO) : Prop := r = (some (rv v), w)
def qJp (v : Int64) (w : mmW) (r : mmO) : Prop := r = (some (.long v), w)
def qV (h : hS) (r : mmO) : Prop := r.1 = none ∧ Abs h r.2
def qVp (w : mmW) (r : mmO) : Prop := r = (none, w)
section HOP
variable {d k pc : Nat} {ls : mmL} {st : List hV} {w : mmW} {h h' : hS} {Q : mmO → Prop}
theorem hg_run {ls : List (Option hO)} (j : Nat) {pc' : Nat} {ls' : List (Option hO)} {st' : List hV} (e : hrun k j (pc, ls, st) = some (pc', ls', st')) (g : hG d k pc' ls' st' w Q) : hG d k pc ls st w Q := by
  induction j generalizing pc ls st with
  | zero => cases e; exact g
  | succ j ih =>
    unfold hrun at e
    split at e
    · cases e
    · rename_i en hen
      split at e
      · rename_i f hf
        obtain ⟨pc1, ls1, st1⟩ := f
        have := ih e
        refine mt_runs 1 ?_ this
        have hen' : mt_P0.1 k pc = some en := hen
        simp only [mm_run, hen']
        rw [h1_ok (call := fun _ _ _ => none) (w := w) hf]
      · cases e
theorem hEv_start {args : List hO} {nl : Nat} (hn : mt_nl k = nl) (hl : args.length ≤ nl) (g : hG d k 0 (args.map some ++ List.replicate (nl - args.length) none) [] w Q) : hEv (d + 1) k (args.map .inl) w Q := by
  have ea : ∀ as : List hO, mm_args ((as.map Sum.inl : List hV).map uv) = (as.map some).map (Option.map uo) := by
    intro as
    induction as with
    | nil => rfl
    | cons v r ih =>
      unfold mm_args at ih ⊢
      simp only [List.map_cons, List.flatMap_cons, ih]
      rw [if_neg (by rw [show (uv (.inl v)).category = 1 from uo_cat v]; decide)]
      rfl
  obtain ⟨N, n, o, h1, h2⟩ := g
  refine ⟨max N n, o, ?_, h2⟩
  unfold mm_ev
  have hl' : (mm_args ((args.map Sum.inl : List hV).map uv)).length = args.length := by rw [ea]; simp
  rw [if_pos (by rw [hl']; show _ ≤ mt_nl k; rw [hn]; exact hl)]
  have e2 : mm_entry (mt_P0.2.2.2.2 k) ((args.map Sum.inl : List hV).map uv) = (args.map some ++ List.replicate (nl - args.length) none).map (Option.map uo) := by
    unfold mm_entry
    rw [hl', ea, List.map_append, List.map_replicate, show mt_P0.2.2.2.2 k = nl from hn]
    rfl
  rw [e2]
  exact mm_go_up (fun _ _ _ _ q => mm_ev_up (by omega) q) (by omega) h1
theorem hg_ifT {c : ClassFile.Cond} {off : Int} {z : Nat × Nat × Nat} {x : Int} {tgt : Nat} (hc : mt_code k pc = some (.ifCond c off, z)) (ht : (pc : Int) + off = (tgt : Int)) (rx : rg x) (q : mu_cnd c x 0) (g : hK d k tgt ls st w Q) : hK d k pc ls (vI x :: st) w Q :=
  mu_if (x := Int32.ofInt x) hc ht (fun _ => g) (fun q' => absurd (by rw [rx]; exact q) q')
theorem hg_ifF {c : ClassFile.Cond} {off : Int} {z : Nat × Nat × Nat} {x : Int} {tgt : Nat} (hc : mt_code k pc = some (.ifCond c off, z)) (ht : (pc : Int) + off = (tgt : Int)) (rx : rg x) (q : ¬ mu_cnd c x 0) (g : hK d k (pc + 3) ls st w Q) : hK d k pc ls (vI x :: st) w Q :=
  mu_if (x := Int32.ofInt x) hc ht (fun q' => absurd (by rw [rx] at q'; exact q') q) (fun _ => g)
theorem hg_icT {c : ClassFile.Cond} {off : Int} {z : Nat × Nat × Nat} {x y : Int} {tgt : Nat} (hc : mt_code k pc = some (.if_icmp c off, z)) (ht : (pc : Int) + off = (tgt : Int)) (rx : rg x) (ry : rg y) (q : mu_cnd c x y) (g : hK d k tgt ls st w Q) : hK d k pc ls (vI y :: vI x :: st) w Q :=
  mu_icmp (x := Int32.ofInt x) (y := Int32.ofInt y) hc ht (fun _ => g) (fun q' => absurd (by rw [rx, ry]; exact q) q')
theorem hg_icF {c : ClassFile.Cond} {off : Int} {z : Nat × Nat × Nat} {x y : Int} {tgt : Nat} (hc : mt_code k pc = some (.if_icmp c off, z)) (ht : (pc : Int) + off = (tgt : Int)) (rx : rg x) (ry : rg y) (q : ¬ mu_cnd c x y) (g : hK d k (pc + 3) ls st w Q) : hK d k pc ls (vI y :: vI x :: st) w Q :=
  mu_icmp (x := Int32.ofInt x) (y := Int32.ofInt y) hc ht (fun q' => absurd (by rw [rx, ry] at q'; exact q') q) (fun _ => g)
/-- is it null -/
def hnul (x : Nat) : Option Bool := match rv x with
  | .null => some true
  | .ref _ => some false
  | _ => none
theorem hg_nul {yes b : Bool} {off : Int} {z : Nat × Nat × Nat} {x : Nat} {i : Instr} {tgt t2 : Nat} (hc : mt_code k pc = some (i, z)) (hi : ∀ call ls st w, mm1 mt_P0 call (i, z) pc ls st w = mm_ifn yes off pc ls st w) (ht : (pc : Int) + off = (tgt : Int)) (q : hnul x = some b) (hb : (bif (b == yes) then tgt else pc + 3) = t2) (g : hK d k t2 ls st w Q) : hK d k pc ls (vR x :: st) w Q := by
  refine mt_runs 1 ?_ g
  have hc' : mt_P0.1 k pc = some (i, z) := hc
  simp only [mm_run, hc', hi]
  show (match mm_ifn yes off pc _ (rv x :: st.map uv) w with | some (.inr f) => some f | _ => none) = _
  unfold hnul at q
  split at q
  · rename_i e
    cases q
    rw [e]
    unfold mm_ifn mm_jp
    cases yes
    · cases hb; rfl
    · cases hb; rw [ht]; rfl
  · rename_i e
    cases q
    rw [e]
    unfold mm_ifn mm_jp
    cases yes
    · cases hb; rw [ht]; rfl
    · cases hb; rfl
  · cases q
/-- are they the same -/
def hreq (x y : Nat) : Option Bool := mm_req (rv x) (rv y)
theorem hg_acm {c : ACond} {b : Bool} {off : Int} {z : Nat × Nat × Nat} {x y : Nat} {tgt t2 : Nat} (hc : mt_code k pc = some (.if_acmp c off, z)) (ht : (pc : Int) + off = (tgt : Int)) (q : hreq x y = some b) (hb : (bif (match c with | .eq => b | .ne => !b) then tgt else pc + 3) = t2) (g : hK d k t2 ls st w Q) : hK d k pc ls (vR y :: vR x :: st) w Q := by
  refine mt_runs 1 ?_ g
  have hc' : mt_P0.1 k pc = some (.if_acmp c off, z) := hc
  simp only [mm_run, hc', mm1]
  show (match mm_acmp c off pc _ (rv y :: rv x :: st.map uv) w with | some (.inr f) => some f | _ => none) = _
  unfold hreq at q
  unfold mm_acmp mm_jp
  simp only [q, ht]
  cases c <;> cases b <;> (cases hb; rfl)
theorem hg_lsw {dflt off : Int} {ps : Array (Int × Int)} {z : Nat × Nat × Nat} {x : Int} {tgt : Nat} (hc : mt_code k pc = some (.lookupswitch dflt ps, z)) (hs : (ps.toList.zip (ps.toList.drop 1)).all (fun (a, next) => a.1 < next.1) = true) (rx : rg x) (ho : Op.lookupswitch.offset ps.toList dflt x = off) (ht : (pc : Int) + off = (tgt : Int)) (g : hK d k tgt ls st w Q) : hK d k pc ls (vI x :: st) w Q := by
  refine mt_runs 1 ?_ g
  have hc' : mt_P0.1 k pc = some (.lookupswitch dflt ps, z) := hc
  simp only [mm_run, hc', mm1]
  show (match mm_lsw dflt ps pc _ (.int (Int32.ofInt x) :: st.map uv) w with | some (.inr f) => some f | _ => none) = _
  have rx' : (Int32.ofInt x).toInt = x := rx
  simp only [mm_lsw, hs, if_true, rx', ho, mm_jp, ht]
  rfl
theorem hg_tsD {dflt lo hi : Int} {offs : Array Int} {z : Nat × Nat × Nat} {x : Int} {tgt : Nat} (hc : mt_code k pc = some (.tableswitch dflt lo hi offs, z)) (rx : rg x) (ho : x < lo ∨ hi < x) (ht : (pc : Int) + dflt = (tgt : Int)) (g : hK d k tgt ls st w Q) : hK d k pc ls (vI x :: st) w Q :=
  mu_tswD (x := Int32.ofInt x) hc (by rw [rx]; exact ho) ht g
theorem hg_tsC {dflt lo hi off : Int} {offs : Array Int} {z : Nat × Nat × Nat} {x c : Int} {tgt : Nat} (hc : mt_code k pc = some (.tableswitch dflt lo hi offs, z)) (rx : rg x) (hx : x = c) (hlo : ¬ (c < lo ∨ hi < c)) (ho : offs[(c - lo).toNat]? = some off) (ht : (pc : Int) + off = (tgt : Int)) (g : hK d k tgt ls st w Q) : hK d k pc ls (vI x :: st) w Q := by
  subst hx
  refine mt_runs 1 ?_ g
  have hc' : mt_P0.1 k pc = some (.tableswitch dflt lo hi offs, z) := hc
  simp only [mm_run, hc', mm1]
  show (match mm_tsw dflt lo hi offs pc _ (.int (Int32.ofInt x) :: st.map uv) w with | some (.inr f) => some f | _ => none) = _
  have rx' : (Int32.ofInt x).toInt = x := rx
  simp only [mm_tsw, rx']
  rw [if_neg hlo]
  simp only [ho, mm_jp, ht]
  rfl
/-! fields -/
def gI (h : hS) (x t b : Nat) : Option Int := if hT h x = t then some (hI h x b) else none
def gR (h : hS) (x t b : Nat) : Option Nat := if hT h x = t then some (hR h x b) else none
def pI (h : hS) (x t b : Nat) (v : Int) : Option hS := if hT h x = t then some (sI h x b v) else none
def pR (h : hS) (x t b : Nat) (v : Nat) : Option hS := if hT h x = t then some (sR h x b v) else none
theorem gI_e {x t b : Nat} {v : Int} (e : gI h x t b = some v) : hT h x = t ∧ v = hI h x b := by
  unfold gI at e
  split at e
  · rename_i q; exact ⟨q, (Option.some.inj e).symm⟩
  · cases e
theorem gR_e {x t b : Nat} {v : Nat} (e : gR h x t b = some v) : hT h x = t ∧ v = hR h x b := by
  unfold gR at e
  split at e
  · rename_i q; exact ⟨q, (Option.some.inj e).symm⟩
  · cases e
theorem pI_e {x t b : Nat} {v : Int} (e : pI h x t b v = some h') : hT h x = t ∧ some (sI h x b v) = some h' := by
  unfold pI at e
  split at e
  · rename_i q; exact ⟨q, e⟩
  · cases e
theorem pR_e {x t b : Nat} {v : Nat} (e : pR h x t b v = some h') : hT h x = t ∧ some (sR h x b v) = some h' := by
  unfold pR at e
  split at e
  · rename_i q; exact ⟨q, e⟩
  · cases e
theorem hg_get {x a b t : Nat} {i : Nat} {V : hV} (hc : mt_code k pc = some (.getfield i, a, b, t)) (A : Abs h w) (hs : hT h x = 2 * a + 2) (hb : b < nfl a) (hV : hv h x b (fty (2 * a + 2) b) = uv V) (g : hK d k (pc + 3) ls (V :: st) w Q) : hK d k pc ls (vR x :: st) w Q := by
  obtain ⟨vs, h1, h2, h3⟩ := Abs_obj A hs
  have h4 := h3 b hb
  rw [hV] at h4
  refine mt_runs 1 ?_ g
  have hc' : mt_P0.1 k pc = some (.getfield i, a, b, t) := hc
  simp only [mm_run, hc', mm1]
  show (match mm_get mt_P0 a b pc _ (rv x :: st.map uv) w with | some (.inr f) => some f | _ => none) = _
  simp only [mm_get, h1, if_true, h4]
  rfl
theorem hg_gI {x a b t : Nat} {i : Nat} {v : Int} (hc : mt_code k pc = some (.getfield i, a, b, t)) (A : Abs h w) (hs : hT h x = 2 * a + 2) (hb : b < nfl a) (hf : fty (2 * a + 2) b = 0) (hv1 : hI h x b = v) (g : rg v → hK d k (pc + 3) ls (vI v :: st) w Q) : hK d k pc ls (vR x :: st) w Q :=
  hg_get hc A hs hb (V := vI v) (by rw [hf, ← hv1]; rfl) (g (hv1 ▸ A.2.2.1 x b))
theorem hg_gR {x a b t : Nat} {i : Nat} {v : Nat} (hc : mt_code k pc = some (.getfield i, a, b, t)) (A : Abs h w) (hs : hT h x = 2 * a + 2) (hb : b < nfl a) (hf : fty (2 * a + 2) b = 2) (hv1 : hR h x b = v) (g : hK d k (pc + 3) ls (vR v :: st) w Q) : hK d k pc ls (vR x :: st) w Q :=
  hg_get hc A hs hb (V := vR v) (by rw [hf, ← hv1]; rfl) g
theorem hg_gJ {x a b t : Nat} {i : Nat} {v : Int64} (hc : mt_code k pc = some (.getfield i, a, b, t)) (A : Abs h w) (hs : hT h x = 2 * a + 2) (hb : b < nfl a) (hf : fty (2 * a + 2) b = 3) (hv1 : hJ h x b = v) (g : hK d k (pc + 3) ls (vJ v :: st) w Q) : hK d k pc ls (vR x :: st) w Q :=
  hg_get hc A hs hb (V := vJ v) (by rw [hf, ← hv1]; rfl) g
theorem hg_put {x a b t : Nat} {i : Nat} {V : hV} (hc : mt_code k pc = some (.putfield i, a, b, t)) (A : Abs h w) (hs : hT h x = 2 * a + 2) (h8 : 8 ≤ x) (hb : b < nfl a) (hft : mm_fit t (uv V) = true) (g : ∀ c : mmC, c.1 = .inr a → c.2.length = nfl a → mm_cell mt_P0 w (rv x) = some c → hK d k (pc + 3) ls st (mm_set w (x - 8) (c.1, c.2.set b (uv V))) Q) : hK d k pc ls (V :: vR x :: st) w Q := by
  obtain ⟨vs, h1, h2, h3⟩ := Abs_obj A hs
  refine mt_runs 1 ?_ (g (.inr a, vs) rfl h2 h1)
  have h1' := Abs_ref A h8 h1
  have hc' : mt_P0.1 k pc = some (.putfield i, a, b, t) := hc
  simp only [mm_run, hc', mm1]
  show (match mm_put a b t pc _ (uv V :: rv x :: st.map uv) w with | some (.inr f) => some f | _ => none) = _
  rw [rv_ge h8]
  simp only [mm_put, h1']
  rw [if_pos ⟨trivial, by rw [h2]; exact hb, hft⟩]
  rfl
def kB (v : Int) : Option Unit := if v = 0 ∨ v = 1 then some () else none
theorem kB_e {v : Int} {u : Unit} (e : kB v = some u) : v = 0 ∨ v = 1 := by
  unfold kB at e
  split at e
  · rename_i q; exact q
  · cases e
theorem fit_I (v : Int) : mm_fit 0 (uv (vI v)) = true := rfl
theorem fit_B {v : Int} (q : v = 0 ∨ v = 1) : mm_fit 1 (uv (vI v)) = true := by
  rcases q with rfl | rfl <;> rfl
theorem fit_R (x : Nat) : mm_fit 2 (uv (vR x)) = true := by
  show mm_fit 2 (rv x) = true
  unfold rv
  split <;> rfl
theorem hg_pI {x a b t : Nat} {i : Nat} {v : Int} (hc : mt_code k pc = some (.putfield i, a, b, t)) (A : Abs h w) (hs : hT h x = 2 * a + 2) (h8 : 8 ≤ x) (hb : b < nfl a) (hf : fty (2 * a + 2) b = 0) (hft : mm_fit t (uv (vI v)) = true) (rv1 : rg v) (e : some (sI h x b v) = some h') (g : ∀ w', Abs h' w' → hK d k (pc + 3) ls st w' Q) : hK d k pc ls (vI v :: vR x :: st) w Q := by
  cases e
  refine hg_put hc A hs h8 hb hft (fun c hc1 hc2 hcl => g _ ?_)
  exact Abs_sI A h8 hcl (by rw [hc2]; exact hb) (by rw [hc1]; exact hf) rv1
theorem hg_pR {x a b t : Nat} {i : Nat} {v : Nat} (hc : mt_code k pc = some (.putfield i, a, b, t)) (A : Abs h w) (hs : hT h x = 2 * a + 2) (h8 : 8 ≤ x) (hb : b < nfl a) (hf : fty (2 * a + 2) b = 2) (ht : t = 2) (hk : kfok (2 * a + 2) b = true) (e : some (sR h x b v) = some h') (g : ∀ w', Abs h' w' → hK d k (pc + 3) ls st w' Q) : hK d k pc ls (vR v :: vR x :: st) w Q := by
  cases e
  refine hg_put hc A hs h8 hb (by rw [ht]; exact fit_R v) (fun c hc1 hc2 hcl => g _ ?_)
  exact Abs_sR A h8 hcl (by rw [hc2]; exact hb) (by rw [hc1]; exact hf) (fun e he => kf_ne A hs hk he)
theorem hg_pJ {x a b t : Nat} {i : Nat} {v : Int64} (hc : mt_code k pc = some (.putfield i, a, b, t)) (A : Abs h w) (hs : hT h x = 2 * a + 2) (h8 : 8 ≤ x) (hb : b < nfl a) (hf : fty (2 * a + 2) b = 3) (ht : t = 3) (e : some (sJ h x b v) = some h') (g : ∀ w', Abs h' w' → hK d k (pc + 3) ls st w' Q) : hK d k pc ls (vJ v :: vR x :: st) w Q := by
  cases e
  refine hg_put hc A hs h8 hb (by rw [ht]; rfl) (fun c hc1 hc2 hcl => g _ ?_)
  exact Abs_sJ A h8 hcl (by rw [hc2]; exact hb) (by rw [hc1]; exact hf)
/-! arrays -/
def aI (h : hS) (x t : Nat) (i : Int) : Option Int := if hT h x = t ∧ 0 ≤ i ∧ i < (hL h x : Int) then some (hI h x i.toNat) else none
def aR (h : hS) (x t : Nat) (i : Int) : Option Nat := if hT h x = t ∧ 0 ≤ i ∧ i < (hL h x : Int) then some (hR h x i.toNat) else none
def aIs (h : hS) (x n : Nat) (i : Int) : Option Int := if 0 ≤ i ∧ i < (n : Int) then some (hI h x i.toNat) else none
def aRs (h : hS) (x n : Nat) (i : Int) : Option Nat := if 0 ≤ i ∧ i < (n : Int) then some (hR h x i.toNat) else none
def aJs (h : hS) (x n : Nat) (i : Int) : Option Int64 := if 0 ≤ i ∧ i < (n : Int) then some (hJ h x i.toNat) else none
def wI (h : hS) (x t : Nat) (i v : Int) : Option hS := if hT h x = t ∧ 0 ≤ i ∧ i < (hL h x : Int) then some (sI h x i.toNat v) else none
def wIs (h : hS) (x n : Nat) (i v : Int) : Option hS := if 0 ≤ i ∧ i < (n : Int) then some (sI h x i.toNat v) else none
def wJs (h : hS) (x n : Nat) (i : Int) (v : Int64) : Option hS := if 0 ≤ i ∧ i < (n : Int) then some (sJ h x i.toNat v) else none
def wR (h : hS) (x t te : Nat) (i : Int) (v : Nat) : Option hS := if (hT h x = t ∧ 8 ≤ x ∧ 0 ≤ i ∧ i < (hL h x : Int)) ∧ (v = 0 ∨ hT h v = te) then some (sR h x i.toNat v) else none
def wRs (h : hS) (x n te : Nat) (i : Int) (v : Nat) : Option hS := if (0 ≤ i ∧ i < (n : Int)) ∧ (v = 0 ∨ hT h v = te) then some (sR h x i.toNat v) else none
theorem aI_e {x t : Nat} {i : Int} {v : Int} (e : aI h x t i = some v) : hT h x = t ∧ (0 ≤ i ∧ i < (hL h x : Int)) ∧ v = hI h x i.toNat := by
  unfold aI at e
  split at e
  · rename_i q; exact ⟨q.1, q.2, (Option.some.inj e).symm⟩
  · cases e
theorem aR_e {x t : Nat} {i : Int} {v : Nat} (e : aR h x t i = some v) : hT h x = t ∧ (0 ≤ i ∧ i < (hL h x : Int)) ∧ v = hR h x i.toNat := by
  unfold aR at e
  split at e
  · rename_i q; exact ⟨q.1, q.2, (Option.some.inj e).symm⟩
  · cases e
theorem aIs_e {x n : Nat} {i : Int} {v : Int} (e : aIs h x n i = some v) : (0 ≤ i ∧ i < (n : Int)) ∧ v = hI h x i.toNat := by
  unfold aIs at e
  split at e
  · rename_i q; exact ⟨q, (Option.some.inj e).symm⟩
  · cases e
theorem aRs_e {x n : Nat} {i : Int} {v : Nat} (e : aRs h x n i = some v) : (0 ≤ i ∧ i < (n : Int)) ∧ v = hR h x i.toNat := by
  unfold aRs at e
  split at e
  · rename_i q; exact ⟨q, (Option.some.inj e).symm⟩
  · cases e
theorem aJs_e {x n : Nat} {i : Int} {v : Int64} (e : aJs h x n i = some v) : (0 ≤ i ∧ i < (n : Int)) ∧ v = hJ h x i.toNat := by
  unfold aJs at e
  split at e
  · rename_i q; exact ⟨q, (Option.some.inj e).symm⟩
  · cases e
theorem wI_e {x t : Nat} {i v : Int} (e : wI h x t i v = some h') : hT h x = t ∧ (0 ≤ i ∧ i < (hL h x : Int)) ∧ some (sI h x i.toNat v) = some h' := by
  unfold wI at e
  split at e
  · rename_i q; exact ⟨q.1, q.2, e⟩
  · cases e
theorem wIs_e {x n : Nat} {i v : Int} (e : wIs h x n i v = some h') : (0 ≤ i ∧ i < (n : Int)) ∧ some (sI h x i.toNat v) = some h' := by
  unfold wIs at e
  split at e
  · rename_i q; exact ⟨q, e⟩
  · cases e
theorem wJs_e {x n : Nat} {i : Int} {v : Int64} (e : wJs h x n i v = some h') : (0 ≤ i ∧ i < (n : Int)) ∧ some (sJ h x i.toNat v) = some h' := by
  unfold wJs at e
  split at e
  · rename_i q; exact ⟨q, e⟩
  · cases e
theorem wR_e {x t te : Nat} {i : Int} {v : Nat} (e : wR h x t te i v = some h') : hT h x = t ∧ 8 ≤ x ∧ (0 ≤ i ∧ i < (hL h x : Int)) ∧ (v = 0 ∨ hT h v = te) ∧ some (sR h x i.toNat v) = some h' := by
  unfold wR at e
  split at e
  · rename_i q; exact ⟨q.1.1, q.1.2.1, q.1.2.2, q.2, e⟩
  · cases e
theorem wRs_e {x n te : Nat} {i : Int} {v : Nat} (e : wRs h x n te i v = some h') : (0 ≤ i ∧ i < (n : Int)) ∧ (v = 0 ∨ hT h v = te) ∧ some (sR h x i.toNat v) = some h' := by
  unfold wRs at e
  split at e
  · rename_i q; exact ⟨q.1, q.2, e⟩
  · cases e
theorem hL_rg (A : Abs h w) (x : Nat) : rg (hL h x : Int) := rg_of (by omega) (by have := A.2.2.2.1 x; omega)
theorem idx_ok (A : Abs h w) {x : Nat} {i : Int} (q : 0 ≤ i ∧ i < (hL h x : Int)) : ¬ Int32.ofInt i < 0 ∧ (Int32.ofInt i).toNatClampNeg = i.toNat ∧ i.toNat < hL h x := by
  have hl := A.2.2.2.1 x
  have hr : (Int32.ofInt i).toInt = i := Int32.toInt_ofInt_of_le (by omega) (by omega)
  refine ⟨?_, ?_, by omega⟩
  · intro c
    have := Int32.lt_iff_toInt_lt.mp c
    rw [hr] at this
    have e0 : (0 : Int32).toInt = 0 := by decide
    omega
  · show (Int32.ofInt i).toInt.toNat = _
    rw [hr]
theorem hg_ald {e : mmE} {q : Nat → Bool} {x t : Nat} {i : Int} {V : hV} (hc : mt_code k pc = some e) (he : ∀ call ls st w, mm1 mt_P0 call e pc ls st w = mm_ald q mt_P0 pc ls st w) (A : Abs h w) (hs : hT h x = 2 * t + 1) (hq : q t = true) (hi : 0 ≤ i ∧ i < (hL h x : Int)) (hV : hv h x i.toNat (fty (2 * t + 1) i.toNat) = uv V) (g : hK d k (pc + 1) ls (V :: st) w Q) : hK d k pc ls (vI i :: vR x :: st) w Q := by
  obtain ⟨vs, h1, h2, h3⟩ := Abs_arr A hs
  obtain ⟨i1, i2, i3⟩ := idx_ok A hi
  have h4 := h3 i.toNat i3
  rw [hV] at h4
  refine mt_runs 1 ?_ g
  have hc' : mt_P0.1 k pc = some e := hc
  simp only [mm_run, hc', he]
  show (match mm_ald q mt_P0 pc _ (.int (Int32.ofInt i) :: rv x :: st.map uv) w with | some (.inr f) => some f | _ => none) = _
  simp only [mm_ald, h1]
  rw [if_pos ⟨hq, i1⟩, i2, h4]
  rfl
theorem fty_i {t j : Nat} (ht : t < 3) : fty (2 * t + 1) j = 0 := by
  match t, ht with
  | 0, _ => rfl
  | 1, _ => rfl
  | 2, _ => rfl
theorem fty_r {t j : Nat} (ht : 4 ≤ t) : fty (2 * t + 1) j = 2 := by
  unfold fty
  rw [show (2 * t + 1) % 2 = 1 by omega]
  have h1 : Nat.beq (2 * t + 1) 7 = false := by
    cases q : Nat.beq (2 * t + 1) 7 with
    | false => rfl
    | true => have := Nat.eq_of_beq_eq_true q; omega
  have h2 : Nat.ble (2 * t + 1) 5 = false := by
    cases q : Nat.ble (2 * t + 1) 5 with
    | false => rfl
    | true => have := Nat.le_of_ble_eq_true q; omega
  rw [h1, h2]
  rfl
theorem hg_aI {e : mmE} {q : Nat → Bool} {x t : Nat} {i v : Int} (hc : mt_code k pc = some e) (he : ∀ call ls st w, mm1 mt_P0 call e pc ls st w = mm_ald q mt_P0 pc ls st w) (A : Abs h w) (hs : hT h x = 2 * t + 1) (hq : q t = true) (ht : t < 3) (hi : 0 ≤ i ∧ i < (hL h x : Int)) (hv1 : v = hI h x i.toNat) (g : rg v → hK d k (pc + 1) ls (vI v :: st) w Q) : hK d k pc ls (vI i :: vR x :: st) w Q :=
  hg_ald hc he A hs hq hi (V := vI v) (by rw [fty_i ht, hv1]; rfl) (g (hv1 ▸ A.2.2.1 x _))
theorem hg_aR {e : mmE} {q : Nat → Bool} {x t : Nat} {i : Int} {v : Nat} (hc : mt_code k pc = some e) (he : ∀ call ls st w, mm1 mt_P0 call e pc ls st w = mm_ald q mt_P0 pc ls st w) (A : Abs h w) (hs : hT h x = 2 * t + 1) (hq : q t = true) (ht : 4 ≤ t) (hi : 0 ≤ i ∧ i < (hL h x : Int)) (hv1 : v = hR h x i.toNat) (g : hK d k (pc + 1) ls (vR v :: st) w Q) : hK d k pc ls (vI i :: vR x :: st) w Q :=
  hg_ald hc he A hs hq hi (V := vR v) (by rw [fty_r ht, hv1]; rfl) g
theorem hg_aJ {e : mmE} {q : Nat → Bool} {x : Nat} {i : Int} {v : Int64} (hc : mt_code k pc = some e) (he : ∀ call ls st w, mm1 mt_P0 call e pc ls st w = mm_ald q mt_P0 pc ls st w) (A : Abs h w) (hs : hT h x = 7) (hq : q 3 = true) (hi : 0 ≤ i ∧ i < (hL h x : Int)) (hv1 : v = hJ h x i.toNat) (g : hK d k (pc + 1) ls (vJ v :: st) w Q) : hK d k pc ls (vI i :: vR x :: st) w Q :=
  hg_ald (t := 3) hc he A hs hq hi (V := vJ v) (by rw [hv1]; rfl) g
theorem hg_st {x t : Nat} {i : Int} {V : hV} {e : mmE} (hc : mt_code k pc = some e) (A : Abs h w) (hs : hT h x = 2 * t + 1) (h8 : 8 ≤ x) (hi : 0 ≤ i ∧ i < (hL h x : Int)) (V' : Value) (he : ∀ vs, w.1[x - 8]? = some (.inl t, vs) → vs.length = hL h x → mm1 mt_P0 (fun _ _ _ => none) e pc (ls) (uv V :: .int (Int32.ofInt i) :: .ref (x - 8) :: st.map uv) w = some (.inr (pc + 1, ls, st.map uv, mm_set w (x - 8) (.inl t, vs.set i.toNat V')))) (g : ∀ c : mmC, c.1 = .inl t → c.2.length = hL h x → mm_cell mt_P0 w (rv x) = some c → hK d k (pc + 1) ls st (mm_set w (x - 8) (c.1, c.2.set i.toNat V')) Q) : hK d k pc ls (V :: vI i :: vR x :: st) w Q := by
  obtain ⟨vs, h1, h2, h3⟩ := Abs_arr A hs
  refine mt_runs 1 ?_ (g (.inl t, vs) rfl h2 h1)
  have h1' := Abs_ref A h8 h1
  have hc' : mt_P0.1 k pc = some e := hc
  have := he vs h1' h2
  simp only [mm_run, hc']
  show (match mm1 mt_P0 _ e pc _ (uv V :: .int (Int32.ofInt i) :: rv x :: st.map uv) w with | some (.inr f) => some f | _ => none) = _
  rw [rv_ge h8, this]
theorem hg_wI {x : Nat} {i v : Int} {z : Nat × Nat × Nat} (hc : mt_code k pc = some (.iastore, z)) (A : Abs h w) (hs : hT h x = 1) (h8 : 8 ≤ x) (hi : 0 ≤ i ∧ i < (hL h x : Int)) (rv1 : rg v) (e : some (sI h x i.toNat v) = some h') (g : ∀ w', Abs h' w' → hK d k (pc + 1) ls st w' Q) : hK d k pc ls (vI v :: vI i :: vR x :: st) w Q := by
  cases e
  obtain ⟨i1, i2, i3⟩ := idx_ok A hi
  refine hg_st (t := 0) hc A hs h8 hi (.int (Int32.ofInt v)) ?_ (fun c hc1 hc2 hcl => g _ (Abs_sI A h8 hcl (by rw [hc2]; exact i3) (by rw [hc1]; rfl) rv1))
  intro vs q1 q2
  show mm_ast 0 0 pc _ (.int (Int32.ofInt v) :: .int (Int32.ofInt i) :: .ref (x - 8) :: _) w = _
  simp only [mm_ast, q1]
  rw [if_pos ⟨trivial, rfl, i1, by rw [i2, q2]; exact i3⟩, i2]
  rfl
theorem hg_wB {x : Nat} {i v : Int} {z : Nat × Nat × Nat} (hc : mt_code k pc = some (.bastore, z)) (A : Abs h w) (hs : hT h x = 3) (h8 : 8 ≤ x) (hi : 0 ≤ i ∧ i < (hL h x : Int)) (e : some (sI h x i.toNat (wbol v)) = some h') (g : ∀ w', Abs h' w' → hK d k (pc + 1) ls st w' Q) : hK d k pc ls (vI v :: vI i :: vR x :: st) w Q := by
  cases e
  obtain ⟨i1, i2, i3⟩ := idx_ok A hi
  refine hg_st (t := 1) hc A hs h8 hi (.int (Int32.ofInt (wbol v))) ?_ (fun c hc1 hc2 hcl => g _ (Abs_sI A h8 hcl (by rw [hc2]; exact i3) (by rw [hc1]; rfl) (rg_bol v)))
  intro vs q1 q2
  show mm_bast pc _ (.int (Int32.ofInt v) :: .int (Int32.ofInt i) :: .ref (x - 8) :: _) w = _
  simp only [mm_bast, q1]
  rw [if_pos ⟨i1, by rw [i2, q2]; exact i3⟩, i2]
  have e1 : Int32.ofInt (wbol v) = vp_nar .boolean (Int32.ofInt v) := by unfold wbol; rw [Int32.ofInt_toInt]
  rw [e1]
  rfl
theorem hg_wJ {x : Nat} {i : Int} {v : Int64} {z : Nat × Nat × Nat} (hc : mt_code k pc = some (.lastore, z)) (A : Abs h w) (hs : hT h x = 7) (h8 : 8 ≤ x) (hi : 0 ≤ i ∧ i < (hL h x : Int)) (e : some (sJ h x i.toNat v) = some h') (g : ∀ w', Abs h' w' → hK d k (pc + 1) ls st w' Q) : hK d k pc ls (vJ v :: vI i :: vR x :: st) w Q := by
  cases e
  obtain ⟨i1, i2, i3⟩ := idx_ok A hi
  refine hg_st (t := 3) hc A hs h8 hi (.long v) ?_ (fun c hc1 hc2 hcl => g _ (Abs_sJ A h8 hcl (by rw [hc2]; exact i3) (by rw [hc1]; rfl)))
  intro vs q1 q2
  show mm_ast 3 1 pc _ (.long v :: .int (Int32.ofInt i) :: .ref (x - 8) :: _) w = _
  simp only [mm_ast, q1]
  rw [if_pos ⟨trivial, rfl, i1, by rw [i2, q2]; exact i3⟩, i2]
  rfl
/-- which cells an array of references takes, by tags -/
def elk (t te : Nat) : Bool := kok te && ((bif Nat.beq (te % 2) 1 then mt_el t (.inl (te / 2)) else mt_el t (.inr (te / 2 - 1))))
theorem elok_ok (A : Abs h w) {t te v : Nat} (hk : elk t te = true) (hv1 : v = 0 ∨ hT h v = te) : mm_elok mt_P0 t w (rv v) = true := by
  rcases hv1 with rfl | hv1
  · rfl
  · unfold elk at hk
    rw [Bool.and_eq_true] at hk
    have h8 := Abs_8 A hv1 hk.1
    have hne : hT h v ≠ 0 := by
      intro q
      rw [hv1] at q
      subst q
      cases hk.1
    obtain ⟨c, h1, h2, -⟩ := Abs_cell A hne
    have h1' := Abs_ref A h8 h1
    rw [rv_ge h8]
    obtain ⟨tg, vs⟩ := c
    have h2 : te = tcode tg := by rw [← hv1]; exact h2
    show (match w.1[v - 8]? with | some (k, _) => mt_el t k | none => false) = true
    rw [h1']
    have h3 := hk.2
    rw [h2] at h3
    cases tg with
    | inl b =>
      have e1 : tcode (.inl b) % 2 = 1 := by show (2 * b + 1) % 2 = 1; omega
      have e2 : tcode (.inl b) / 2 = b := by show (2 * b + 1) / 2 = b; omega
      rw [e1, e2] at h3
      exact h3
    | inr b =>
      have e1 : tcode (.inr b) % 2 = 0 := by show (2 * b + 2) % 2 = 0; omega
      have e2 : tcode (.inr b) / 2 - 1 = b := by show (2 * b + 2) / 2 - 1 = b; omega
      rw [e1, e2] at h3
      exact h3
theorem hg_wR {x t te : Nat} {i : Int} {v : Nat} {z : Nat × Nat × Nat} (hc : mt_code k pc = some (.aastore, z)) (A : Abs h w) (hs : hT h x = 2 * t + 1) (h8 : 8 ≤ x) (ht : 4 ≤ t) (hk : elk t te = true) (hv1 : v = 0 ∨ hT h v = te) (hi : 0 ≤ i ∧ i < (hL h x : Int)) (e : some (sR h x i.toNat v) = some h') (g : ∀ w', Abs h' w' → hK d k (pc + 1) ls st w' Q) : hK d k pc ls (vR v :: vI i :: vR x :: st) w Q := by
  cases e
  obtain ⟨i1, i2, i3⟩ := idx_ok A hi
  refine hg_st (t := t) hc A hs h8 hi (rv v) ?_ (fun c hc1 hc2 hcl => g _ (Abs_sR A h8 hcl (by rw [hc2]; exact i3) (by rw [hc1]; exact fty_r ht) (fun e he q => kf_odd A hs he q.1)))
  intro vs q1 q2
  show mm_aast mt_P0 pc _ (rv v :: .int (Int32.ofInt i) :: .ref (x - 8) :: _) w = _
  simp only [mm_aast, q1]
  rw [if_pos ⟨ht, elok_ok A hk hv1, i1, by rw [i2, q2]; exact i3⟩, i2]
  rfl
def lA (h : hS) (x t : Nat) : Option Int := if hT h x = t then some (hL h x : Int) else none
theorem lA_e {x t : Nat} {v : Int} (e : lA h x t = some v) : hT h x = t ∧ v = (hL h x : Int) := by
  unfold lA at e
  split at e
  · rename_i q; exact ⟨q, (Option.some.inj e).symm⟩
  · cases e
theorem hg_len {x t : Nat} {v : Int} {z : Nat × Nat × Nat} (hc : mt_code k pc = some (.arraylength, z)) (A : Abs h w) (hs : hT h x = 2 * t + 1) (hv1 : v = (hL h x : Int)) (g : rg v → hK d k (pc + 1) ls (vI v :: st) w Q) : hK d k pc ls (vR x :: st) w Q := by
  subst hv1
  obtain ⟨vs, h1, h2, h3⟩ := Abs_arr A hs
  refine mt_runs 1 ?_ (g (hL_rg A x))
  have hc' : mt_P0.1 k pc = some (.arraylength, z) := hc
  simp only [mm_run, hc', mm1]
  show (match mm_alen mt_P0 pc _ (rv x :: st.map uv) w with | some (.inr f) => some f | _ => none) = _
  simp only [mm_alen, h1]
  rw [h2, ← w_nat (show hL h x < 2147483648 by have := A.2.2.2.1 x; omega)]
  rfl
/-! new cells -/
def nA (h : hS) (t : Nat) (n : Int) : Option hS := if 0 ≤ n ∧ n ≤ 100000 then some (mkH h t n.toNat) else none
theorem nA_e {t : Nat} {n : Int} (e : nA h t n = some h') : (0 ≤ n ∧ n ≤ 100000) ∧ some (mkH h t n.toNat) = some h' := by
  unfold nA at e
  split at e
  · rename_i q; exact ⟨q, e⟩
  · cases e
theorem zero_ok (t i n : Nat) : mm_zero t = hv (mkH h (2 * t + 1) n) (hN h) i (fty (2 * t + 1) i) := by
  have e1 : hI (mkH h (2 * t + 1) n) (hN h) i = 0 := by show (if hN h = hN h then (0 : Int) else _) = 0; rw [if_pos rfl]
  have e2 : hR (mkH h (2 * t + 1) n) (hN h) i = 0 := by show (if hN h = hN h then (0 : Nat) else _) = 0; rw [if_pos rfl]
  have e3 : hJ (mkH h (2 * t + 1) n) (hN h) i = 0 := by show (if hN h = hN h then (0 : Int64) else _) = 0; rw [if_pos rfl]
  unfold mm_zero
  by_cases h3 : t < 3
  · rw [if_pos h3, fty_i h3]
    show _ = Value.int (Int32.ofInt (hI _ _ _))
    rw [e1]
    rfl
  · rw [if_neg h3]
    by_cases h4 : t = 3
    · subst h4
      rw [if_pos rfl]
      show _ = Value.long (hJ _ _ _)
      rw [e3]
    · rw [if_neg h4, fty_r (by omega)]
      show _ = rv (hR _ _ _)
      rw [e2]
      rfl
theorem hg_nA {t dd : Nat} {n : Int} {e : mmE} (hc : mt_code k pc = some e) (he : ∀ call ls st w, mm1 mt_P0 call e pc ls st w = mm_newa t dd pc ls st w) (A : Abs h w) (q : 0 ≤ n ∧ n ≤ 100000) (e' : some (mkH h (2 * t + 1) n.toNat) = some h') (g : ∀ w', Abs h' w' → hK d k (pc + dd) ls (vR (hN h) :: st) w' Q) : hK d k pc ls (vI n :: st) w Q := by
  cases e'
  have hr : (Int32.ofInt n).toInt = n := Int32.toInt_ofInt_of_le (by omega) (by omega)
  have h0 : ¬ Int32.ofInt n < 0 := by
    intro c
    have := Int32.lt_iff_toInt_lt.mp c
    rw [hr] at this
    have e0 : (0 : Int32).toInt = 0 := by decide
    omega
  have hn : (Int32.ofInt n).toNatClampNeg = n.toNat := by show (Int32.ofInt n).toInt.toNat = _; rw [hr]
  have A' := Abs_mk A (tg := .inl t) (vs := List.replicate n.toNat (mm_zero t)) (by
    intro i hi
    rw [List.length_replicate] at hi ⊢
    rw [List.getElem?_replicate, if_pos hi]
    congr 1
    exact zero_ok t i n.toNat) (by rw [List.length_replicate]; omega) (fun a q => by cases q)
  rw [List.length_replicate] at A'
  refine mt_runs 1 ?_ (g _ A')
  have hc' : mt_P0.1 k pc = some e := hc
  simp only [mm_run, hc', he]
  show (match mm_newa t dd pc _ (.int (Int32.ofInt n) :: st.map uv) w with | some (.inr f) => some f | _ => none) = _
  simp only [mm_newa]
  rw [if_pos ⟨h0, by rw [hn]; omega⟩, hn]
  have e8 : rv (hN h) = .ref w.1.length := by
    have := A.1.1
    rw [rv_ge (by omega), ← this]
    rfl
  show _ = some (pc + dd, ls, rv (hN h) :: st.map uv, _)
  rw [e8]
  rfl
/-- a new object: all its slots are empty -/
def nwok (a : Nat) : Bool := match mt_nw a with
  | none => false
  | some vs => Nat.beq vs.length (nfl a) && (List.range (nfl a)).all fun i => match fty (2 * a + 2) i, vs[i]? with
    | 0, some (.int x) => x == 0
    | 2, some .null => true
    | 3, some (.long x) => x == 0
    | _, _ => false
theorem hg_new {a i : Nat} {z : Nat} (hc : mt_code k pc = some (.new i, a, z, 0)) (A : Abs h w) (hk : nwok a = true) (hl : nfl a ≤ 100000) (e' : some (mkH h (2 * a + 2) (nfl a)) = some h') (g : ∀ w', Abs h' w' → hK d k (pc + 3) ls (vR (hN h) :: st) w' Q) : hK d k pc ls st w Q := by
  cases e'
  unfold nwok at hk
  split at hk
  · cases hk
  · rename_i vs hvs
    rw [Bool.and_eq_true] at hk
    have hlen : vs.length = nfl a := Nat.eq_of_beq_eq_true hk.1
    have hall := List.all_eq_true.mp hk.2
    have A' := Abs_mk A (tg := .inr a) (vs := vs) (by
      intro i hi
      rw [hlen] at hi ⊢
      have := hall i (List.mem_range.mpr hi)
      have e1 : hI (mkH h (tcode (.inr a)) (nfl a)) (hN h) i = 0 := by show (if hN h = hN h then (0 : Int) else _) = 0; rw [if_pos rfl]
      have e2 : hR (mkH h (tcode (.inr a)) (nfl a)) (hN h) i = 0 := by show (if hN h = hN h then (0 : Nat) else _) = 0; rw [if_pos rfl]
      have e3 : hJ (mkH h (tcode (.inr a)) (nfl a)) (hN h) i = 0 := by show (if hN h = hN h then (0 : Int64) else _) = 0; rw [if_pos rfl]
      split at this
      · rename_i q1 q2
        have q0 := eq_of_beq this
        rw [q2, q0, show fty (tcode (.inr a)) i = 0 from q1]
        show _ = some (Value.int (Int32.ofInt (hI _ _ _)))
        rw [e1]
        rfl
      · rename_i q1 q2
        rw [q2, show fty (tcode (.inr a)) i = 2 from q1]
        show _ = some (rv (hR _ _ _))
        rw [e2]
        rfl
      · rename_i q1 q2
        have q0 := eq_of_beq this
        rw [q2, q0, show fty (tcode (.inr a)) i = 3 from q1]
        show _ = some (Value.long (hJ _ _ _))
        rw [e3]
      · cases this) (by rw [hlen]; exact hl) (fun b q => by cases q; exact hlen)
    rw [hlen] at A'
    refine mt_runs 1 ?_ (g _ A')
    have hc' : mt_P0.1 k pc = some (.new i, a, z, 0) := hc
    have hvs' : mt_P0.2.1 a = some vs := hvs
    simp only [mm_run, hc', mm1, mm_new, hvs']
    have e8 : rv (hN h) = .ref w.1.length := by
      have := A.1.1
      rw [rv_ge (by omega), ← this]
      rfl
    show _ = some (pc + 3, ls, rv (hN h) :: st.map uv, _)
    rw [e8]
    rfl
/-! checks -/
def kT (h : hS) (x t : Nat) : Option Unit := if hT h x = t then some () else none
theorem kT_e {x t : Nat} {u : Unit} (e : kT h x t = some u) : hT h x = t := by
  unfold kT at e
  split at e
  · rename_i q; exact q
  · cases e
def k8 (x : Nat) : Option Unit := if 8 ≤ x then some () else none
theorem k8_e {x : Nat} {u : Unit} (e : k8 x = some u) : 8 ≤ x := by
  unfold k8 at e
  split at e
  · rename_i q; exact q
  · cases e
def cC (h : hS) (x t : Nat) : Option Unit := if x = 0 ∨ (8 ≤ x ∧ hT h x = t) then some () else none
theorem cC_e {x t : Nat} {u : Unit} (e : cC h x t = some u) : x = 0 ∨ (8 ≤ x ∧ hT h x = t) := by
  unfold cC at e
  split at e
  · rename_i q; exact q
  · cases e
theorem hg_cast {x a i : Nat} {z : Nat × Nat} (hc : mt_code k pc = some (.checkcast i, a, z)) (A : Abs h w) (q : x = 0 ∨ (8 ≤ x ∧ hT h x = 2 * a + 2)) (g : hK d k (pc + 3) ls (vR x :: st) w Q) : hK d k pc ls (vR x :: st) w Q := by
  refine mt_runs 1 ?_ g
  have hc' : mt_P0.1 k pc = some (.checkcast i, a, z) := hc
  simp only [mm_run, hc', mm1]
  show (match mm_cast a pc _ (rv x :: st.map uv) w with | some (.inr f) => some f | _ => none) = some (pc + 3, ls, rv x :: st.map uv, w)
  rcases q with rfl | ⟨h8, hs⟩
  · rfl
  · obtain ⟨vs, h1, h2, h3⟩ := Abs_obj A hs
    have h1' := Abs_ref A h8 h1
    rw [rv_ge h8]
    simp only [mm_cast, h1', if_true]
    rfl
theorem hg_objc {x i a b : Nat} (hc : mt_code k pc = some (.invokespecial i, a, b, 1003)) (h8 : 8 ≤ x) (hst : hcat st ≤ 8) (g : hK d k (pc + 3) ls st w Q) : hK d k pc ls (vR x :: st) w Q := by
  refine mt_runs 1 ?_ g
  have hc' : mt_P0.1 k pc = some (.invokespecial i, a, b, 1003) := hc
  simp only [mm_run, hc', mm1]
  show (match mm_obj pc _ (rv x :: st.map uv) w with | some (.inr f) => some f | _ => none) = _
  rw [rv_ge h8]
  simp only [mm_obj]
  rw [if_pos (by rw [hcat_ok]; exact hst)]
  rfl
def dI (x y : Int) : Option Int := if y = 0 then none else some (wdiv x y)
theorem dI_e {x y v : Int} (e : dI x y = some v) : ¬ y = 0 ∧ v = wdiv x y := by
  unfold dI at e
  split at e
  · cases e
  · rename_i q; exact ⟨q, (Option.some.inj e).symm⟩
theorem hg_div {x y v : Int} {z : Nat × Nat × Nat} (hc : mt_code k pc = some (.idiv, z)) (ry : rg y) (q : ¬ y = 0) (hv1 : v = wdiv x y) (g : rg v → hK d k (pc + 1) ls (vI v :: st) w Q) : hK d k pc ls (vI y :: vI x :: st) w Q := by
  subst hv1
  refine mt_runs 1 ?_ (g (rg_div x y))
  have hc' : mt_P0.1 k pc = some (.idiv, z) := hc
  simp only [mm_run, hc', mm1]
  show (match mm_dv _ pc _ (.int (Int32.ofInt y) :: .int (Int32.ofInt x) :: st.map uv) w with | some (.inr f) => some f | _ => none) = _
  simp only [mm_dv]
  rw [if_neg (rg_ne0 ry q), ← uvI]
  rfl
theorem hg_getC {x i a t0 : Nat} (hc : mt_code k pc = some (.invokevirtual i, a, t0, 1001)) (A : Abs h w) (hs : hT h x = 2 * t0 + 1) (h8 : 8 ≤ x) (hst : hcat st ≤ 8) (ha : a = 6) (g : hK d k (pc + 3) ls (vR 7 :: st) w Q) : hK d k pc ls (vR x :: st) w Q := by
  subst ha
  obtain ⟨vs, h1, h2, h3⟩ := Abs_arr A hs
  have h1' := Abs_ref A h8 h1
  refine mt_runs 1 ?_ g
  have hc' : mt_P0.1 k pc = some (.invokevirtual i, 6, t0, 1001) := hc
  simp only [mm_run, hc', mm1]
  show (match mm_getC mt_P0 6 t0 pc _ (rv x :: st.map uv) w with | some (.inr f) => some f | _ => none) = _
  rw [rv_ge h8]
  simp only [mm_getC, h1']
  rw [if_pos ⟨trivial, by rw [hcat_ok]; exact hst⟩]
  rfl
/-! returns -/
theorem hg_retI {t : Nat} {z : Nat × Nat} {v : Int} (hc : mt_code k pc = some (.ireturn, t, z)) (ht : t < 2) (hf : mm_fit t (uv (vI v)) = true) (g : Q (some (.int (Int32.ofInt v)), w)) : hK d k pc ls [vI v] w Q := by
  refine mt_ret (e := (.ireturn, t, z)) hc ?_ g
  match t, ht with
  | 0, _ => rfl
  | 1, _ =>
    show (if mm_kd (uv (vI v)) = 0 ∧ mm_fit 1 (uv (vI v)) = true then some (Sum.inl (some (uv (vI v)), w)) else none) = _
    rw [if_pos ⟨rfl, hf⟩]
    rfl
def kN (t : FieldType) (v : Int) : Option Unit := if narrow t (.int (Int32.ofInt v)) = .int (Int32.ofInt v) then some () else none
theorem kN_e {t : FieldType} {v : Int} {u : Unit} (e : kN t v = some u) : narrow t (.int (Int32.ofInt v)) = .int (Int32.ofInt v) := by
  unfold kN at e
  split at e
  · rename_i q; exact q
  · cases e
theorem hg_retC {z : Nat × Nat} {v : Int} (hc : mt_code k pc = some (.ireturn, 2, z)) (hf : narrow .char (.int (Int32.ofInt v)) = .int (Int32.ofInt v)) (g : Q (some (.int (Int32.ofInt v)), w)) : hK d k pc ls [vI v] w Q := by
  refine mt_ret (e := (.ireturn, 2, z)) hc ?_ g
  show (if narrow .char (.int (Int32.ofInt v)) = .int (Int32.ofInt v) then some (Sum.inl (some (Value.int (Int32.ofInt v)), w)) else none) = _
  rw [if_pos hf]
theorem hg_retY {z : Nat × Nat} {v : Int} (hc : mt_code k pc = some (.ireturn, 3, z)) (hf : narrow .byte (.int (Int32.ofInt v)) = .int (Int32.ofInt v)) (g : Q (some (.int (Int32.ofInt v)), w)) : hK d k pc ls [vI v] w Q := by
  refine mt_ret (e := (.ireturn, 3, z)) hc ?_ g
  show (if narrow .byte (.int (Int32.ofInt v)) = .int (Int32.ofInt v) then some (Sum.inl (some (Value.int (Int32.ofInt v)), w)) else none) = _
  rw [if_pos hf]
theorem hg_retR {z : Nat × Nat × Nat} {v : Nat} (hc : mt_code k pc = some (.areturn, z)) (g : Q (some (rv v), w)) : hK d k pc ls [vR v] w Q := by
  refine mt_ret (e := (.areturn, z)) hc ?_ g
  show (if mm_kd (rv v) = 2 ∧ mm_fit 2 (rv v) = true then some (Sum.inl (some (rv v), w)) else none) = _
  rw [if_pos ⟨rv_kd v, fit_R v⟩]
theorem hg_retJ {z : Nat × Nat × Nat} {v : Int64} (hc : mt_code k pc = some (.lreturn, z)) (g : Q (some (.long v), w)) : hK d k pc ls [vJ v] w Q :=
  mt_ret (e := (.lreturn, z)) hc rfl g
theorem hg_retV {z : Nat × Nat × Nat} (hc : mt_code k pc = some (.return_, z)) (g : Q (none, w)) : hK d k pc ls [] w Q :=
  mt_ret (e := (.return_, z)) hc rfl g
/-! calls -/
theorem recv0 {as : List hV} : mm_recv mt_P0 0 w (as.map uv) = true := rfl
theorem recv1 {x : Nat} {as : List hV} (h8 : 8 ≤ x) : mm_recv mt_P0 1 w ((vR x :: as).map uv) = true := by
  show mm_recv mt_P0 1 w (rv x :: as.map uv) = true
  rw [rv_ge h8]
  rfl
theorem recvV (A : Abs h w) {x a : Nat} {as : List hV} (hs : hT h x = 2 * a + 2) : mm_recv mt_P0 (a + 2) w ((vR x :: as).map uv) = true := by
  obtain ⟨vs, h1, -⟩ := Abs_obj A hs
  show (match mm_cell mt_P0 w (rv x) with | some (.inr c, _) => decide (c = a) | _ => false) = true
  rw [h1]
  exact decide_eq_true rfl
theorem hg_call {i : Instr} {a b t : Nat} {as st' : List hV} {Q1 : mmO → Prop} (hc : mt_code k pc = some (i, a, b, t)) (hm : ∀ call ls st w, mm1 mt_P0 call (i, a, b, t) pc ls st w = mm_call mt_P0 call a b t pc ls st w) (ha : (st.take b).reverse = as) (hd : st.drop b = st') (hb : b ≤ st.length) (h8 : hcat st' ≤ 8) (hr : mm_recv mt_P0 t w (as.map uv) = true) (e : hEv d a as w Q1) (g : ∀ o : mmO, Q1 o → mu_G mt_P0 d k (pc + 3, ls, o.1.toList ++ st'.map uv, o.2) Q) : hK d k pc ls st w Q := by
  obtain ⟨N, o, e1, e2⟩ := e
  have ea : (((st.map uv).take b).reverse) = as.map uv := by rw [← List.map_take, ← List.map_reverse, ha]
  have ed : (st.map uv).drop b = st'.map uv := by rw [← List.map_drop, hd]
  refine mt_callX (o := o) (a := a) (b := b) (t := t) hc (fun call => hm call _ _ _) ⟨by rw [List.length_map]; exact hb, by rw [ed, hcat_ok]; exact h8, by rw [ea]; exact hr⟩ ⟨N, by rw [ea]; exact e1⟩ ?_
  rw [ed]
  exact g o e2
section CAL
variable {i : Instr} {a b t : Nat} {as st' : List hV}
theorem hg_cI {o : Int × hS} (hc : mt_code k pc = some (i, a, b, t)) (hm : ∀ call ls st w, mm1 mt_P0 call (i, a, b, t) pc ls st w = mm_call mt_P0 call a b t pc ls st w) (ha : (st.take b).reverse = as) (hd : st.drop b = st') (hb : b ≤ st.length) (h8 : hcat st' ≤ 8) (hr : mm_recv mt_P0 t w (as.map uv) = true) (e : hEv d a as w (qI o)) (g : ∀ w', rg o.1 → Abs o.2 w' → hK d k (pc + 3) ls (vI o.1 :: st') w' Q) : hK d k pc ls st w Q := by
  refine hg_call hc hm ha hd hb h8 hr e (fun r hr => ?_)
  obtain ⟨v, w'⟩ := r
  obtain ⟨q1, q2, q3⟩ := hr
  have q1 : v = _ := q1
  subst q1
  exact g w' q2 q3
theorem hg_cIp {o : Int} (hc : mt_code k pc = some (i, a, b, t)) (hm : ∀ call ls st w, mm1 mt_P0 call (i, a, b, t) pc ls st w = mm_call mt_P0 call a b t pc ls st w) (ha : (st.take b).reverse = as) (hd : st.drop b = st') (hb : b ≤ st.length) (h8 : hcat st' ≤ 8) (hr : mm_recv mt_P0 t w (as.map uv) = true) (e : hEv d a as w (qIp o w)) (g : rg o → hK d k (pc + 3) ls (vI o :: st') w Q) : hK d k pc ls st w Q := by
  refine hg_call hc hm ha hd hb h8 hr e (fun r hr => ?_)
  obtain ⟨q1, q2⟩ := hr
  subst q1
  exact g q2
theorem hg_cR {o : Nat × hS} (hc : mt_code k pc = some (i, a, b, t)) (hm : ∀ call ls st w, mm1 mt_P0 call (i, a, b, t) pc ls st w = mm_call mt_P0 call a b t pc ls st w) (ha : (st.take b).reverse = as) (hd : st.drop b = st') (hb : b ≤ st.length) (h8 : hcat st' ≤ 8) (hr : mm_recv mt_P0 t w (as.map uv) = true) (e : hEv d a as w (qR o)) (g : ∀ w', Abs o.2 w' → hK d k (pc + 3) ls (vR o.1 :: st') w' Q) : hK d k pc ls st w Q := by
  refine hg_call hc hm ha hd hb h8 hr e (fun r hr => ?_)
  obtain ⟨v, w'⟩ := r
  obtain ⟨q1, q3⟩ := hr
  have q1 : v = _ := q1
  subst q1
  exact g w' q3
theorem hg_cRp {o : Nat} (hc : mt_code k pc = some (i, a, b, t)) (hm : ∀ call ls st w, mm1 mt_P0 call (i, a, b, t) pc ls st w = mm_call mt_P0 call a b t pc ls st w) (ha : (st.take b).reverse = as) (hd : st.drop b = st') (hb : b ≤ st.length) (h8 : hcat st' ≤ 8) (hr : mm_recv mt_P0 t w (as.map uv) = true) (e : hEv d a as w (qRp o w)) (g : hK d k (pc + 3) ls (vR o :: st') w Q) : hK d k pc ls st w Q := by
  refine hg_call hc hm ha hd hb h8 hr e (fun r hr => ?_)
  have q1 : r = _ := hr
  subst q1
  exact g
theorem hg_cJp {o : Int64} (hc : mt_code k pc = some (i, a, b, t)) (hm : ∀ call ls st w, mm1 mt_P0 call (i, a, b, t) pc ls st w = mm_call mt_P0 call a b t pc ls st w) (ha : (st.take b).reverse = as) (hd : st.drop b = st') (hb : b ≤ st.length) (h8 : hcat st' ≤ 8) (hr : mm_recv mt_P0 t w (as.map uv) = true) (e : hEv d a as w (qJp o w)) (g : hK d k (pc + 3) ls (vJ o :: st') w Q) : hK d k pc ls st w Q := by
  refine hg_call hc hm ha hd hb h8 hr e (fun r hr => ?_)
  have q1 : r = _ := hr
  subst q1
  exact g
theorem hg_cV {o : hS} (hc : mt_code k pc = some (i, a, b, t)) (hm : ∀ call ls st w, mm1 mt_P0 call (i, a, b, t) pc ls st w = mm_call mt_P0 call a b t pc ls st w) (ha : (st.take b).reverse = as) (hd : st.drop b = st') (hb : b ≤ st.length) (h8 : hcat st' ≤ 8) (hr : mm_recv mt_P0 t w (as.map uv) = true) (e : hEv d a as w (qV o)) (g : ∀ w', Abs o w' → hK d k (pc + 3) ls st' w' Q) : hK d k pc ls st w Q := by
  refine hg_call hc hm ha hd hb h8 hr e (fun r hr => ?_)
  obtain ⟨v, w'⟩ := r
  obtain ⟨q1, q3⟩ := hr
  have q1 : v = _ := q1
  subst q1
  exact g w' q3
theorem hg_cVp (hc : mt_code k pc = some (i, a, b, t)) (hm : ∀ call ls st w, mm1 mt_P0 call (i, a, b, t) pc ls st w = mm_call mt_P0 call a b t pc ls st w) (ha : (st.take b).reverse = as) (hd : st.drop b = st') (hb : b ≤ st.length) (h8 : hcat st' ≤ 8) (hr : mm_recv mt_P0 t w (as.map uv) = true) (e : hEv d a as w (qVp w)) (g : hK d k (pc + 3) ls st' w Q) : hK d k pc ls st w Q := by
  refine hg_call hc hm ha hd hb h8 hr e (fun r hr => ?_)
  have q1 : r = _ := hr
  subst q1
  exact g
end CAL
/-! arrays copied -/
def cpI (h : hS) (x y t : Nat) (sp dp n : Int) : Option hS := if (hT h x = t ∧ hT h y = t ∧ 8 ≤ x ∧ 8 ≤ y) ∧ (0 ≤ sp ∧ 0 ≤ dp ∧ 0 ≤ n) ∧ sp + n ≤ (hL h x : Int) ∧ dp + n ≤ (hL h y : Int) ∧ (t = 1 ∨ ∀ j, j < n.toNat → hI h x (sp.toNat + j) = 0 ∨ hI h x (sp.toNat + j) = 1) then some (sCI h x sp.toNat y dp.toNat n.toNat) else none
def cpR (h : hS) (x y t te : Nat) (sp dp n : Int) : Option hS := if (hT h x = t ∧ hT h y = t ∧ 8 ≤ x ∧ 8 ≤ y) ∧ (0 ≤ sp ∧ 0 ≤ dp ∧ 0 ≤ n) ∧ sp + n ≤ (hL h x : Int) ∧ dp + n ≤ (hL h y : Int) ∧ (∀ j, j < n.toNat → hR h x (sp.toNat + j) = 0 ∨ hT h (hR h x (sp.toNat + j)) = te) then some (sCR h x sp.toNat y dp.toNat n.toNat) else none
theorem cpI_e {x y t : Nat} {sp dp n : Int} (e : cpI h x y t sp dp n = some h') : ((hT h x = t ∧ hT h y = t ∧ 8 ≤ x ∧ 8 ≤ y) ∧ (0 ≤ sp ∧ 0 ≤ dp ∧ 0 ≤ n) ∧ sp + n ≤ (hL h x : Int) ∧ dp + n ≤ (hL h y : Int) ∧ (t = 1 ∨ ∀ j, j < n.toNat → hI h x (sp.toNat + j) = 0 ∨ hI h x (sp.toNat + j) = 1)) ∧ some (sCI h x sp.toNat y dp.toNat n.toNat) = some h' := by
  unfold cpI at e
  split at e
  · rename_i q; exact ⟨q, e⟩
  · cases e
theorem cpR_e {x y t te : Nat} {sp dp n : Int} (e : cpR h x y t te sp dp n = some h') : ((hT h x = t ∧ hT h y = t ∧ 8 ≤ x ∧ 8 ≤ y) ∧ (0 ≤ sp ∧ 0 ≤ dp ∧ 0 ≤ n) ∧ sp + n ≤ (hL h x : Int) ∧ dp + n ≤ (hL h y : Int) ∧ (∀ j, j < n.toNat → hR h x (sp.toNat + j) = 0 ∨ hT h (hR h x (sp.toNat + j)) = te)) ∧ some (sCR h x sp.toNat y dp.toNat n.toNat) = some h' := by
  unfold cpR at e
  split at e
  · rename_i q; exact ⟨q, e⟩
  · cases e
theorem lcpy_at {f g : List Value} {sp dp n : Nat} (h1 : sp + n ≤ f.length) (h2 : dp + n ≤ g.length) (j : Nat) : (mm_lcpy f g sp dp n)[j]? = if dp ≤ j ∧ j < dp + n then f[j - dp + sp]? else g[j]? := by
  unfold mm_lcpy
  have l1 : (g.take dp).length = dp := by rw [List.length_take]; omega
  have l2 : ((f.drop sp).take n).length = n := by rw [List.length_take, List.length_drop]; omega
  by_cases q1 : j < dp
  · rw [if_neg (by omega), List.append_assoc, List.getElem?_append_left (by omega), List.getElem?_take, if_pos q1]
  · by_cases q2 : j < dp + n
    · rw [if_pos ⟨by omega, q2⟩, List.append_assoc, List.getElem?_append_right (by omega), l1, List.getElem?_append_left (by omega), List.getElem?_take, if_pos (by omega), List.getElem?_drop, Nat.add_comm]
    · rw [if_neg (by omega), List.getElem?_append_right (by rw [List.length_append]; omega), List.getElem?_drop, List.length_append, l1, l2]
      congr 1
      omega
theorem lcpy_len {f g : List Value} {sp dp n : Nat} (h1 : sp + n ≤ f.length) (h2 : dp + n ≤ g.length) : (mm_lcpy f g sp dp n).length = g.length := by
  unfold mm_lcpy
  rw [List.length_append, List.length_append, List.length_take, List.length_take, List.length_drop, List.length_drop]
  omega
theorem hg_cp {x y t : Nat} {sp dp n : Int} {z : Nat × Nat} {i : Nat} (hc : mt_code k pc = some (.invokestatic i, z.1, z.2, 1000)) (A : Abs h w) (hx : hT h x = 2 * t + 1) (hy : hT h y = 2 * t + 1) (x8 : 8 ≤ x) (y8 : 8 ≤ y) (q : 0 ≤ sp ∧ 0 ≤ dp ∧ 0 ≤ n) (q1 : sp + n ≤ (hL h x : Int)) (q2 : dp + n ≤ (hL h y : Int)) (hst : hcat st ≤ 8)
    (hk : ∀ f : List Value, f.length = hL h x → (∀ j, j < hL h x → f[j]? = some (hv h x j (fty (2 * t + 1) j))) → t = 0 ∨ (t = 1 ∧ ((f.drop sp.toNat).take n.toNat).all (fun v => mm_fit 1 v) = true) ∨ (4 ≤ t ∧ ((f.drop sp.toNat).take n.toNat).all (fun v => mm_elok mt_P0 t w v) = true))
    (e2 : h'.2.2.2 = h.2.2.2) (e3 : ∀ z j, ¬ z = y → ∀ k, hv h' z j k = hv h z j k) (e4 : ∀ j, hv h' y j (fty (2 * t + 1) j) = if dp.toNat ≤ j ∧ j < dp.toNat + n.toNat then hv h x (j - dp.toNat + sp.toNat) (fty (2 * t + 1) (j - dp.toNat + sp.toNat)) else hv h y j (fty (2 * t + 1) j)) (e5 : ∀ z j, rg (hI h' z j)) (e6 : ∀ e ∈ kfL, hR h' e.1 e.2.1 = e.2.2)
    (g : ∀ w', Abs h' w' → hK d k (pc + 3) ls st w' Q) : hK d k pc ls (vI n :: vI dp :: vR y :: vI sp :: vR x :: st) w Q := by
  obtain ⟨f, f1, f2, f3⟩ := Abs_arr A hx
  obtain ⟨u, g1, g2, g3⟩ := Abs_arr A hy
  have f1' := Abs_ref A x8 f1
  have g1' := Abs_ref A y8 g1
  have lx := A.2.2.2.1 x
  have ly := A.2.2.2.1 y
  have idx : ∀ a : Int, 0 ≤ a → a ≤ 100000 → ¬ Int32.ofInt a < 0 ∧ (Int32.ofInt a).toNatClampNeg = a.toNat := by
    intro a a0 a1
    have hr : (Int32.ofInt a).toInt = a := Int32.toInt_ofInt_of_le (by omega) (by omega)
    refine ⟨?_, ?_⟩
    · intro c
      have := Int32.lt_iff_toInt_lt.mp c
      rw [hr] at this
      have e0 : (0 : Int32).toInt = 0 := by decide
      omega
    · show (Int32.ofInt a).toInt.toNat = _
      rw [hr]
  obtain ⟨s0, s1⟩ := idx sp (by omega) (by omega)
  obtain ⟨d0, d1⟩ := idx dp (by omega) (by omega)
  obtain ⟨n0, n1⟩ := idx n (by omega) (by omega)
  have b1 : sp.toNat + n.toNat ≤ f.length := by rw [f2]; omega
  have b2 : dp.toNat + n.toNat ≤ u.length := by rw [g2]; omega
  refine mt_runs 1 ?_ (g (mm_set w (y - 8) (.inl t, mm_lcpy f u sp.toNat dp.toNat n.toNat)) ?_)
  · have hc' : mt_P0.1 k pc = some (.invokestatic i, z.1, z.2, 1000) := hc
    simp only [mm_run, hc', mm1]
    show (match mm_acpy mt_P0 pc _ (.int (Int32.ofInt n) :: .int (Int32.ofInt dp) :: rv y :: .int (Int32.ofInt sp) :: rv x :: st.map uv) w with | some (.inr f) => some f | _ => none) = _
    rw [rv_ge x8, rv_ge y8]
    simp only [mm_acpy, f1', g1']
    rw [if_pos ⟨by rw [hcat_ok]; exact hst, s0, d0, n0, by rw [s1, n1]; exact b1, by rw [d1, n1]; exact b2, trivial, by rw [s1, n1]; exact hk f f2 f3⟩, s1, d1, n1]
    rfl
  · refine Abs_rep A y8 g1 (by rw [lcpy_len b1 b2]) ?_ e2 e3 e5 e6
    intro j hj
    have hj : j < hL h y := by rw [← g2]; exact hj
    show _ = some (hv h' y j (fty (2 * t + 1) j))
    rw [lcpy_at b1 b2, e4 j]
    split
    · rename_i qj
      exact f3 _ (by omega)
    · exact g3 j hj
theorem take_in {f : List Value} {s n : Nat} {v : Value} (hv1 : v ∈ (f.drop s).take n) : ∃ j, j < n ∧ f[s + j]? = some v := by
  obtain ⟨j, hj⟩ := List.mem_iff_getElem?.mp hv1
  rw [List.getElem?_take] at hj
  split at hj
  · rename_i q
    rw [List.getElem?_drop] at hj
    exact ⟨j, q, hj⟩
  · cases hj
theorem hg_cpI {x y t : Nat} {sp dp n : Int} {z1 z2 : Nat} {i : Nat} (hc : mt_code k pc = some (.invokestatic i, z1, z2, 1000)) (A : Abs h w) (ht : t < 2) (hst : hcat st ≤ 8) (e : cpI h x y (2 * t + 1) sp dp n = some h') (g : ∀ w', Abs h' w' → hK d k (pc + 3) ls st w' Q) : hK d k pc ls (vI n :: vI dp :: vR y :: vI sp :: vR x :: st) w Q := by
  obtain ⟨⟨⟨hx, hy, x8, y8⟩, q, q1, q2, q3⟩, e⟩ := cpI_e e
  cases e
  refine hg_cp (h' := sCI h x sp.toNat y dp.toNat n.toNat) (z := (z1, z2)) hc A hx hy x8 y8 q q1 q2 hst ?_ rfl ?_ ?_ ?_ A.2.2.2.2.2.2 g
  · intro f f2 f3
    match t, ht with
    | 0, _ => exact .inl rfl
    | 1, _ =>
      refine .inr (.inl ⟨rfl, List.all_eq_true.mpr fun v hv1 => ?_⟩)
      obtain ⟨j, j1, j2⟩ := take_in hv1
      have j3 := f3 (sp.toNat + j) (by omega)
      rw [j2] at j3
      have j3 : v = .int (Int32.ofInt (hI h x (sp.toNat + j))) := Option.some.inj j3
      rcases q3 with q3 | q3
      · exact absurd q3 (by decide)
      · rw [j3]
        exact fit_B (q3 j j1)
  · intro z j hz kk
    unfold hv
    split
    · rfl
    · rfl
    · show Value.int (Int32.ofInt (if z = y ∧ dp.toNat ≤ j ∧ j < dp.toNat + n.toNat then _ else hI h z j)) = _
      rw [if_neg (fun c => hz c.1)]
  · intro j
    rw [fty_i (by omega)]
    show Value.int (Int32.ofInt (if y = y ∧ dp.toNat ≤ j ∧ j < dp.toNat + n.toNat then hI h x (j - dp.toNat + sp.toNat) else hI h y j)) = _
    by_cases c : dp.toNat ≤ j ∧ j < dp.toNat + n.toNat
    · rw [if_pos ⟨rfl, c⟩, if_pos c, fty_i (by omega)]
      rfl
    · rw [if_neg (fun c' => c c'.2), if_neg c]
      rfl
  · intro z j
    show rg (if z = y ∧ dp.toNat ≤ j ∧ j < dp.toNat + n.toNat then hI h x (j - dp.toNat + sp.toNat) else hI h z j)
    split
    · exact A.2.2.1 _ _
    · exact A.2.2.1 _ _
theorem hg_cpR {x y t te : Nat} {sp dp n : Int} {z1 z2 : Nat} {i : Nat} (hc : mt_code k pc = some (.invokestatic i, z1, z2, 1000)) (A : Abs h w) (ht : 4 ≤ t) (hk : elk t te = true) (hst : hcat st ≤ 8) (e : cpR h x y (2 * t + 1) te sp dp n = some h') (g : ∀ w', Abs h' w' → hK d k (pc + 3) ls st w' Q) : hK d k pc ls (vI n :: vI dp :: vR y :: vI sp :: vR x :: st) w Q := by
  obtain ⟨⟨⟨hx, hy, x8, y8⟩, q, q1, q2, q3⟩, e⟩ := cpR_e e
  cases e
  refine hg_cp (h' := sCR h x sp.toNat y dp.toNat n.toNat) (z := (z1, z2)) hc A hx hy x8 y8 q q1 q2 hst ?_ rfl ?_ ?_ A.2.2.1 ?_ g
  · intro f f2 f3
    refine .inr (.inr ⟨ht, List.all_eq_true.mpr fun v hv1 => ?_⟩)
    obtain ⟨j, j1, j2⟩ := take_in hv1
    have j3 := f3 (sp.toNat + j) (by omega)
    rw [j2, fty_r ht] at j3
    have j3 : v = rv (hR h x (sp.toNat + j)) := Option.some.inj j3
    rw [j3]
    exact elok_ok A hk (q3 j j1)
  · intro z j hz kk
    unfold hv
    split
    · show rv (if z = y ∧ dp.toNat ≤ j ∧ j < dp.toNat + n.toNat then _ else hR h z j) = _
      rw [if_neg (fun c => hz c.1)]
    · rfl
    · rfl
  · intro j
    rw [fty_r ht]
    show rv (if y = y ∧ dp.toNat ≤ j ∧ j < dp.toNat + n.toNat then hR h x (j - dp.toNat + sp.toNat) else hR h y j) = _
    by_cases c : dp.toNat ≤ j ∧ j < dp.toNat + n.toNat
    · rw [if_pos ⟨rfl, c⟩, if_pos c, fty_r ht]
      rfl
    · rw [if_neg (fun c' => c c'.2), if_neg c]
      rfl
  · intro e' he
    show (if e'.1 = y ∧ dp.toNat ≤ e'.2.1 ∧ e'.2.1 < dp.toNat + n.toNat then _ else hR h e'.1 e'.2.1) = _
    rw [if_neg (fun c => kf_odd A hy he c.1)]
    exact A.2.2.2.2.2.2 e' he
/-! the same by what the reading says -/
theorem hg_aIs {e : mmE} {q : Nat → Bool} {x n : Nat} {i v : Int} (t : Nat) (hc : mt_code k pc = some e) (he : ∀ call ls st w, mm1 mt_P0 call e pc ls st w = mm_ald q mt_P0 pc ls st w) (A : Abs h w) (hs : hT h x = 2 * t + 1 ∧ hL h x = n) (hq : q t = true) (ht : t < 3) (e1 : aIs h x n i = some v) (g : rg v → hK d k (pc + 1) ls (vI v :: st) w Q) : hK d k pc ls (vI i :: vR x :: st) w Q :=
  hg_aI hc he A hs.1 hq ht (by rw [hs.2]; exact (aIs_e e1).1) (aIs_e e1).2 g
theorem hg_aId {e : mmE} {q : Nat → Bool} {x : Nat} {i v : Int} (t : Nat) (hc : mt_code k pc = some e) (he : ∀ call ls st w, mm1 mt_P0 call e pc ls st w = mm_ald q mt_P0 pc ls st w) (A : Abs h w) (hq : q t = true) (ht : t < 3) (e1 : aI h x (2 * t + 1) i = some v) (g : rg v → hK d k (pc + 1) ls (vI v :: st) w Q) : hK d k pc ls (vI i :: vR x :: st) w Q :=
  hg_aI hc he A (aI_e e1).1 hq ht (aI_e e1).2.1 (aI_e e1).2.2 g
theorem hg_aRs {e : mmE} {q : Nat → Bool} {x n v : Nat} {i : Int} (t : Nat) (hc : mt_code k pc = some e) (he : ∀ call ls st w, mm1 mt_P0 call e pc ls st w = mm_ald q mt_P0 pc ls st w) (A : Abs h w) (hs : hT h x = 2 * t + 1 ∧ hL h x = n) (hq : q t = true) (ht : 4 ≤ t) (e1 : aRs h x n i = some v) (g : hK d k (pc + 1) ls (vR v :: st) w Q) : hK d k pc ls (vI i :: vR x :: st) w Q :=
  hg_aR hc he A hs.1 hq ht (by rw [hs.2]; exact (aRs_e e1).1) (aRs_e e1).2 g
theorem hg_aRd {e : mmE} {q : Nat → Bool} {x v : Nat} {i : Int} (t : Nat) (hc : mt_code k pc = some e) (he : ∀ call ls st w, mm1 mt_P0 call e pc ls st w = mm_ald q mt_P0 pc ls st w) (A : Abs h w) (hq : q t = true) (ht : 4 ≤ t) (e1 : aR h x (2 * t + 1) i = some v) (g : hK d k (pc + 1) ls (vR v :: st) w Q) : hK d k pc ls (vI i :: vR x :: st) w Q :=
  hg_aR hc he A (aR_e e1).1 hq ht (aR_e e1).2.1 (aR_e e1).2.2 g
theorem hg_aJs {e : mmE} {q : Nat → Bool} {x n : Nat} {i : Int} {v : Int64} (hc : mt_code k pc = some e) (he : ∀ call ls st w, mm1 mt_P0 call e pc ls st w = mm_ald q mt_P0 pc ls st w) (A : Abs h w) (hs : hT h x = 7 ∧ hL h x = n) (hq : q 3 = true) (e1 : aJs h x n i = some v) (g : hK d k (pc + 1) ls (vJ v :: st) w Q) : hK d k pc ls (vI i :: vR x :: st) w Q :=
  hg_aJ hc he A hs.1 hq (by rw [hs.2]; exact (aJs_e e1).1) (aJs_e e1).2 g
theorem hg_wIs {x n : Nat} {i v : Int} {z : Nat × Nat × Nat} (hc : mt_code k pc = some (.iastore, z)) (A : Abs h w) (hs : hT h x = 1 ∧ hL h x = n) (h8 : 8 ≤ x) (rv1 : rg v) (e : wIs h x n i v = some h') (g : ∀ w', Abs h' w' → hK d k (pc + 1) ls st w' Q) : hK d k pc ls (vI v :: vI i :: vR x :: st) w Q :=
  hg_wI hc A hs.1 h8 (by rw [hs.2]; exact (wIs_e e).1) rv1 (wIs_e e).2 g
theorem hg_wId {x : Nat} {i v : Int} {z : Nat × Nat × Nat} (hc : mt_code k pc = some (.iastore, z)) (A : Abs h w) (rv1 : rg v) (e : wI h x 1 i v = some h') (g : ∀ w', Abs h' w' → hK d k (pc + 1) ls st w' Q) : hK d k pc ls (vI v :: vI i :: vR x :: st) w Q :=
  hg_wI hc A (wI_e e).1 (Abs_8 A (wI_e e).1 rfl) (wI_e e).2.1 rv1 (wI_e e).2.2 g
theorem hg_wBs {x n : Nat} {i v : Int} {z : Nat × Nat × Nat} (hc : mt_code k pc = some (.bastore, z)) (A : Abs h w) (hs : hT h x = 3 ∧ hL h x = n) (h8 : 8 ≤ x) (e : wIs h x n i (wbol v) = some h') (g : ∀ w', Abs h' w' → hK d k (pc + 1) ls st w' Q) : hK d k pc ls (vI v :: vI i :: vR x :: st) w Q :=
  hg_wB hc A hs.1 h8 (by rw [hs.2]; exact (wIs_e e).1) (wIs_e e).2 g
theorem hg_wBd {x : Nat} {i v : Int} {z : Nat × Nat × Nat} (hc : mt_code k pc = some (.bastore, z)) (A : Abs h w) (e : wI h x 3 i (wbol v) = some h') (g : ∀ w', Abs h' w' → hK d k (pc + 1) ls st w' Q) : hK d k pc ls (vI v :: vI i :: vR x :: st) w Q :=
  hg_wB hc A (wI_e e).1 (Abs_8 A (wI_e e).1 rfl) (wI_e e).2.1 (wI_e e).2.2 g
theorem hg_wJs {x n : Nat} {i : Int} {v : Int64} {z : Nat × Nat × Nat} (hc : mt_code k pc = some (.lastore, z)) (A : Abs h w) (hs : hT h x = 7 ∧ hL h x = n) (h8 : 8 ≤ x) (e : wJs h x n i v = some h') (g : ∀ w', Abs h' w' → hK d k (pc + 1) ls st w' Q) : hK d k pc ls (vJ v :: vI i :: vR x :: st) w Q :=
  hg_wJ hc A hs.1 h8 (by rw [hs.2]; exact (wJs_e e).1) (wJs_e e).2 g
theorem hg_wRs {x n v te : Nat} {i : Int} {z : Nat × Nat × Nat} (t : Nat) (hc : mt_code k pc = some (.aastore, z)) (A : Abs h w) (hs : hT h x = 2 * t + 1 ∧ hL h x = n) (h8 : 8 ≤ x) (ht : 4 ≤ t) (hk : elk t te = true) (e : wRs h x n te i v = some h') (g : ∀ w', Abs h' w' → hK d k (pc + 1) ls st w' Q) : hK d k pc ls (vR v :: vI i :: vR x :: st) w Q :=
  hg_wR hc A hs.1 h8 ht hk (wRs_e e).2.1 (by rw [hs.2]; exact (wRs_e e).1) (wRs_e e).2.2 g
theorem hg_wRd {x v te : Nat} {i : Int} {z : Nat × Nat × Nat} (t : Nat) (hc : mt_code k pc = some (.aastore, z)) (A : Abs h w) (ht : 4 ≤ t) (hk : elk t te = true) (e : wR h x (2 * t + 1) te i v = some h') (g : ∀ w', Abs h' w' → hK d k (pc + 1) ls st w' Q) : hK d k pc ls (vR v :: vI i :: vR x :: st) w Q :=
  hg_wR hc A (wR_e e).1 (wR_e e).2.1 ht hk (wR_e e).2.2.2.1 (wR_e e).2.2.1 (wR_e e).2.2.2.2 g
theorem rgl0 : ∀ z ∈ ([] : List Int), rg z := fun z hz => by cases hz
theorem rglc {a : Int} {r : List Int} (ra : rg a) (rr : ∀ z ∈ r, rg z) : ∀ z ∈ a :: r, rg z := fun z hz => by
  rcases List.mem_cons.mp hz with rfl | q
  · exact ra
  · exact rr z q
end HOP
/-- ends of loops that may return within -/
def xs {α β γ : Type} : α ⊕ β → (α → γ) → (β → γ) → γ
  | .inl x, f, _ => f x
  | .inr y, _, g => g y
theorem xs_l {α β γ : Type} {x : α} {f : α → γ} {g : β → γ} {o : γ} (e : xs (.inl x) f g = o) : f x = o := e
theorem xs_r {α β γ : Type} {y : β} {f : α → γ} {g : β → γ} {o : γ} (e : xs (.inr y) f g = o) : g y = o := e
theorem rgn (z : Int) (h : (decide (-2147483648 ≤ z) && decide (z < 2147483648)) = true) : rg z := by
  rw [Bool.and_eq_true] at h
  exact rg_of (of_decide_eq_true h.1) (of_decide_eq_true h.2)
theorem ebT {m : Option Bool} {b : Bool} (e : m = some b) (q : b = true) : m = some true := by rw [e, q]
theorem ebF {m : Option Bool} {b : Bool} (e : m = some b) (q : ¬ b = true) : m = some false := by rw [e, Bool.eq_false_iff.mpr q]
