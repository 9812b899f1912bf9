/-! runs with calls; worlds compared cheaply -/
def mm_runC (P : mmP) (N d k : Nat) : Nat → mmF → Option mmF
  | 0, f => some f
  | j + 1, (pc, ls, st, w) => match P.1 k pc with
    | none => none
    | some e => match mm1 P (mm_ev P N d) e pc ls st w with
      | some (.inr f) => mm_runC P N d k j f
      | _ => none
theorem mt_runsC {P : mmP} {k d N0 : Nat} {Q : mmO → Prop} : ∀ (j : Nat) {f f' : mmF}, mm_runC P N0 d k j f = some f' → mu_G P d k f' Q → mu_G P d k f Q
  | 0, _, _, h, g => by cases h; exact g
  | j + 1, (pc, ls, st, w), f', h, g => by
    unfold mm_runC at h
    split at h
    · cases h
    · rename_i e he
      split at h
      · rename_i f hf
        obtain ⟨N, n, o, h1, h2⟩ := mt_runsC j h g
        refine ⟨max N0 N, n + 1, o, ?_, h2⟩
        unfold mm_go
        simp only [he]
        rw [mm1_up (call' := mm_ev P (max N0 N) d) (fun _ _ _ _ q => mm_ev_up (by omega) q) hf]
        exact mm_go_up (fun _ _ _ _ q => mm_ev_up (by omega) q) (Nat.le_refl _) h1
      · cases h
theorem mm_runC_old {P : mmP} {old' : Nat → Option mmC} (h3 : ∀ j c, P.2.2.1 j = some c → old' j = some c) {k d N : Nat} : ∀ {j : Nat} {f f' : mmF}, mm_runC P N d k j f = some f' → mm_runC (mm_wo P old') N d k j f = some f'
  | 0, _, _, h => h
  | j + 1, (pc, ls, st, w), f', h => by
    unfold mm_runC at h ⊢
    split at h
    · cases h
    · rename_i e he
      have he' : (mm_wo P old').1 k pc = some e := he
      simp only [he']
      split at h
      · rename_i f hf
        rw [mm1_old (call' := mm_ev (mm_wo P old') N d) h3 (fun _ _ _ _ q => mm_ev_old h3 q) hf]
        exact mm_runC_old h3 h
      · cases h
def mv_eV : Value → Value → Bool
  | .int x, .int y => Nat.beq x.toUInt32.toNat y.toUInt32.toNat
  | .long x, .long y => Nat.beq x.toUInt64.toNat y.toUInt64.toNat
  | .null, .null => true
  | .ref x, .ref y => Nat.beq x y
  | .retAddr x, .retAddr y => Nat.beq x y
  | .float x, .float y => Nat.beq x.toNat y.toNat
  | _, _ => false
theorem mv_eV_ok : ∀ {a b : Value}, mv_eV a b = true → a = b
  | .int (.ofUInt32 u), .int (.ofUInt32 v), h => by
    have h : Nat.beq u.toNat v.toNat = true := h
    rw [UInt32.toNat_inj.mp (Nat.eq_of_beq_eq_true h)]
  | .long (.ofUInt64 u), .long (.ofUInt64 v), h => by
    have h : Nat.beq u.toNat v.toNat = true := h
    rw [UInt64.toNat_inj.mp (Nat.eq_of_beq_eq_true h)]
  | .null, .null, _ => rfl
  | .ref x, .ref y, h => by
    have h : Nat.beq x y = true := h
    exact congrArg Value.ref (Nat.eq_of_beq_eq_true h)
  | .retAddr x, .retAddr y, h => by
    have h : Nat.beq x y = true := h
    exact congrArg Value.retAddr (Nat.eq_of_beq_eq_true h)
  | .float x, .float y, h => by
    have h : Nat.beq x.toNat y.toNat = true := h
    exact congrArg Value.float (UInt32.toNat_inj.mp (Nat.eq_of_beq_eq_true h))
def mv_eL : List Value → List Value → Bool
  | [], [] => true
  | a :: r, b :: s => match mv_eV a b with
    | true => mv_eL r s
    | false => false
  | _, _ => false
theorem mv_eL_ok : ∀ {a b : List Value}, mv_eL a b = true → a = b
  | [], [], _ => rfl
  | a :: r, b :: s, h => by
    simp only [mv_eL] at h
    split at h
    · rename_i hq
      rw [mv_eV_ok hq, mv_eL_ok h]
    · cases h
  | [], _ :: _, h => by cases h
  | _ :: _, [], h => by cases h
def mv_eC : mmC → mmC → Bool
  | (.inl t, a), (.inl u, b) => match Nat.beq t u with
    | true => mv_eL a b
    | false => false
  | (.inr t, a), (.inr u, b) => match Nat.beq t u with
    | true => mv_eL a b
    | false => false
  | _, _ => false
theorem mv_eC_ok {a b : mmC} (h : mv_eC a b = true) : a = b := by
  obtain ⟨t | t, a⟩ := a <;> obtain ⟨u | u, b⟩ := b <;> simp only [mv_eC] at h
  · split at h
    · rename_i hq; rw [Nat.eq_of_beq_eq_true hq, mv_eL_ok h]
    · cases h
  · cases h
  · cases h
  · split at h
    · rename_i hq; rw [Nat.eq_of_beq_eq_true hq, mv_eL_ok h]
    · cases h
def mv_eW : List mmC → List mmC → Bool
  | [], [] => true
  | a :: r, b :: s => match mv_eC a b with
    | true => mv_eW r s
    | false => false
  | _, _ => false
theorem mv_eW_ok : ∀ {a b : List mmC}, mv_eW a b = true → a = b
  | [], [], _ => rfl
  | a :: r, b :: s, h => by
    simp only [mv_eW] at h
    split at h
    · rename_i hq
      rw [mv_eC_ok hq, mv_eW_ok h]
    · cases h
  | [], _ :: _, h => by cases h
  | _ :: _, [], h => by cases h
def mv_eO : Option Value → Option Value → Bool
  | none, none => true
  | some a, some b => mv_eV a b
  | _, _ => false
theorem mv_eO_ok {a b : Option Value} (h : mv_eO a b = true) : a = b := by
  cases a <;> cases b <;> simp only [mv_eO] at h
  · rfl
  · cases h
  · cases h
  · rw [mv_eV_ok h]
def mv_eLs : mmL → mmL → Bool
  | [], [] => true
  | a :: r, b :: s => match mv_eO a b with
    | true => mv_eLs r s
    | false => false
  | _, _ => false
theorem mv_eLs_ok : ∀ {a b : mmL}, mv_eLs a b = true → a = b
  | [], [], _ => rfl
  | a :: r, b :: s, h => by
    simp only [mv_eLs] at h
    split at h
    · rename_i hq
      rw [mv_eO_ok hq, mv_eLs_ok h]
    · cases h
  | [], _ :: _, h => by cases h
  | _ :: _, [], h => by cases h
def mv_eF : Option mmF → Option mmF → Bool
  | some (pc, ls, st, w, nc, ns), some (pc', ls', st', w', nc', ns') => match Nat.beq pc pc' with
    | true => match mv_eLs ls ls' with
      | true => match mv_eL st st' with
        | true => match Nat.beq nc nc' with
          | true => match Nat.beq ns ns' with
            | true => mv_eW w w'
            | false => false
          | false => false
        | false => false
      | false => false
    | false => false
  | _, _ => false
theorem mv_eF_ok {a b : Option mmF} (h : mv_eF a b = true) : a = b := by
  unfold mv_eF at h
  split at h
  · split at h
    · rename_i q1
      split at h
      · rename_i q2
        split at h
        · rename_i q3
          split at h
          · rename_i q4
            split at h
            · rename_i q5
              rw [Nat.eq_of_beq_eq_true q1, mv_eLs_ok q2, mv_eL_ok q3, Nat.eq_of_beq_eq_true q4, Nat.eq_of_beq_eq_true q5, mv_eW_ok h]
            · cases h
          · cases h
        · cases h
      · cases h
    · cases h
  · cases h
