/-! call 27: back: the class seeks whence the fields have come, and brings the values there -/
/-- what finding a source rests on -/
def BSq (h t : hS) (K : Nat → Int → Prop) (p P m m0 : Nat) (r r0 : Int → Nat) : Prop := PW h t K P 0 m r ∧ PW h t K p 1 m0 r0 ∧ CF t 0 m ∧ CF t 1 m0 ∧ FFq h t P 0 m ∧ (∀ j : Int, 0 ≤ j → j < m → KOg t 0 1 m0 j) ∧ (P = 213 ∨ 448 ≤ P) ∧ (p = 213 ∨ 448 ≤ p)
/-- the value that a field of the former kind gets -/
def bvq (g0 t : hS) (old : Int) (c n : Nat) : Int := if hI g0 52 n = -1 then (if hI g0 (217 + 4 * c) n = 0 then wg t 1 (fAt t 1 old n) (14 + fIx t 1 (fAt t 1 old n) n) else hI g0 (218 + 4 * c) n) else hI g0 (216 + 4 * c) (hI g0 52 n).toNat
def LVq (g0 t : hS) (old : Int) (c : Nat) (pr : Nat → Prop) (h : hS) : Prop := fp (fun x _ => x = 54 + 4 * c) g0 h ∧ ∀ n : Nat, n < 40 → (pr n → hI h (54 + 4 * c) n = bvq g0 t old c n) ∧ (¬ pr n → hI h (54 + 4 * c) n = hI g0 (54 + 4 * c) n)
section BK2
variable {h h0 g0 h' t : hS} {K : Nat → Int → Prop} {p P m m0 len c : Nat} {r r0 : Int → Nat} {k old u s : Int}
theorem BSq_f {S : Nat → Nat → Prop} (B : BSq h t K p P m m0 r r0) (f : fp S h h') (hS' : ∀ x j, (x = 213 ∨ x = 214 ∨ 448 ≤ x) → ¬ S x j) : BSq h' t K p P m m0 r r0 := by
  obtain ⟨Pb, Pa, Cb, Ca, F, Og, hP, hp⟩ := B
  refine ⟨PW_f Pb f (fun x j hx => hS' x j (by omega)), PW_f Pa f (fun x j hx => hS' x j (by omega)), Cb, Ca, fun j j0 j1 i hi => ?_, Og, hP, hp⟩
  have := kd_8 Pb j0 j1
  rw [kd_2 f.1, f.2 _ i (hS' _ i (by omega))]
  exact F j j0 j1 i hi
theorem GQ_im {pr pr' : Nat → Prop} (F : GQ h0 t m old k pr h) (e : ∀ n, (pr n ↔ pr' n)) : GQ h0 t m old k pr' h :=
  ⟨F.1, fun s hs => ⟨fun n hn pn => (F.2 s hs).1 n hn ((e n).2 pn), fun no => (F.2 s hs).2 (fun n hn pn => no n hn ((e n).1 pn))⟩⟩
theorem LV_im {pr pr' : Nat → Prop} (F : LVq h0 t old c pr h) (e : ∀ n, (pr n ↔ pr' n)) : LVq h0 t old c pr' h :=
  ⟨F.1, fun n hn => ⟨fun z => (F.2 n hn).1 ((e n).2 z), fun z => (F.2 n hn).2 (fun y => z ((e n).1 y))⟩⟩
/-- the fields of one kind -/
theorem gb_i {i : Nat} (B : BSq h0 t K p P m m0 r r0) (ho : 0 ≤ old ∧ old < m0) (hk : 0 ≤ k ∧ k < m) (hc : chq t 0 k m len) (hi : i < len) : ∀ (D fd N : Nat) (h : hS), fd + D = (wg t 0 (upn t 0 k i) 5).toNat → D < N → GQ h0 t m old k (prW t 0 k i fd) h → ∃ h', lp (fun s => c180_b32 (kd h0 p old) P (kd h0 P (upn t 0 k i)) s.1 s.2) N ((fd : Int), h) = some h' ∧ GQ h0 t m old k (prW t 0 k (i + 1) 0) h'
  | 0, fd, N, h, hd, hN, F => by
    obtain ⟨N, rfl⟩ : ∃ n, N = n + 1 := ⟨N - 1, by omega⟩
    obtain ⟨u0, u1⟩ := hc.2.1 i hi
    have B' := BSq_f B F.1 (fun x j hx => by omega)
    obtain ⟨Q, -, -, -, k5, -⟩ := B'.1.2.2.1 _ u0 u1
    obtain ⟨-, -, w3, -, -⟩ := B.1.1.2.2 _ u0 u1
    refine ⟨h, lp_d ?_, GQ_im F (fun x => prW_k (by omega) x)⟩
    show c180_b32 (kd h0 p old) P (kd h0 P (upn t 0 k i)) (fd : Int) h = _
    rw [← kd_2 (p := P) F.1.1 (upn t 0 k i)]
    unfold c180_b32
    refine bnd (gI_s Q.2.2.1) ?_
    rw [k5.1, if_pos (by omega)]
  | D + 1, fd, N, h, hd, hN, F => by
    obtain ⟨N, rfl⟩ : ∃ n, N = n + 1 := ⟨N - 1, by omega⟩
    obtain ⟨u0, u1⟩ := hc.2.1 i hi
    obtain ⟨Pb, Pa, Cb, Ca, FF, Og, hP, hp⟩ := BSq_f B F.1 (fun x j hx => by omega)
    have Wb := Pb.1
    obtain ⟨Q, -, -, -, k5, -⟩ := Pb.2.2.1 _ u0 u1
    obtain ⟨-, -, w3, -, -⟩ := Wb.2.2 _ u0 u1
    have hf : (fd : Int) < wg t 0 (upn t 0 k i) 5 := by omega
    obtain ⟨n1, -, n0, n40⟩ := k5.2 fd hf
    obtain ⟨n, hn⟩ : ∃ n : Nat, wg t 0 (upn t 0 k i) (6 + fd) = (n : Int) := ⟨(wg t 0 (upn t 0 k i) (6 + fd)).toNat, by omega⟩
    rw [hn] at n1 n40
    have ea : fAt t 0 k n = upn t 0 k i := by
      have := (fAt_c Wb Cb hc hi hf).2
      rw [hn] at this
      exact this
    have fn : fAt t 0 k n ≠ -1 := by rw [ea]; omega
    obtain ⟨s, hs⟩ : ∃ s, SRC t 0 1 m old (fAt t 0 k n) n = s := ⟨_, rfl⟩
    have e158 : c158 P (kd h P (upn t 0 k i)) (fd : Int) (kd h p old) h = some s := by
      rw [← hs, ea]
      exact c158_e (i := fd) Pb FF Pa Ca Cb Og u0 u1 hf ho hn
    have go : ∀ h1, GQ h0 t m old k (prW t 0 k i (fd + 1)) h1 → c180_b32 (kd h0 p old) P (kd h0 P (upn t 0 k i)) (fd : Int) h = some (.inl (((fd + 1 : Nat) : Int), h1)) → ∃ h', lp (fun s => c180_b32 (kd h0 p old) P (kd h0 P (upn t 0 k i)) s.1 s.2) (N + 1) ((fd : Int), h) = some h' ∧ GQ h0 t m old k (prW t 0 k (i + 1) 0) h' := fun h1 F1 e => by
      obtain ⟨h', x1, x2⟩ := gb_i B ho hk hc hi D (fd + 1) N h1 (by omega) (by omega) F1
      refine ⟨h', ?_, x2⟩
      refine (lp_n (s' := (((fd + 1 : Nat) : Int), h1)) ?_).trans x1
      exact e
    have pre : ∀ R, (if s = -1 then c180_j75 (fd : Int) h else (wIs h 52 40 s (n : Int)).bind (fun h14 => c180_j75 (fd : Int) h14)) = R → c180_b32 (kd h0 p old) P (kd h0 P (upn t 0 k i)) (fd : Int) h = R := fun R eR => by
      rw [← kd_2 (p := P) F.1.1 (upn t 0 k i), ← kd_2 (p := p) F.1.1 old]
      unfold c180_b32
      refine bnd (gI_s Q.2.2.1) ?_
      rw [k5.1, if_neg (by omega)]
      refine bnd (kT_s Pb.2.1.2.2.1) ?_
      refine bnd e158 ?_
      by_cases z : s = -1
      · rw [if_pos z] at eR ⊢
        exact eR
      · rw [if_neg z] at eR ⊢
        refine bnd (gR_s Q.2.2.1) ?_
        rw [(KD5 Q).1]
        refine bnd (aI_s (KD5 Q).2.1 (by omega) (by rw [(KD5 Q).2.2]; omega)) ?_
        rw [Int.toNat_natCast, n1]
        exact eR
    have st : ∀ x, prW t 0 k i (fd + 1) x ↔ (prW t 0 k i fd x ∨ x = n) := prW_s hn hf
    by_cases z : s = -1
    · refine go h ⟨F.1, fun y hy => ⟨fun x hx px ex => ?_, fun no => (F.2 y hy).2 (fun x hx px => no x hx ((st x).2 (.inl px)))⟩⟩ (pre _ ?_)
      · rcases (st x).1 px with q | q
        · exact (F.2 y hy).1 x hx q ex
        · rw [q, hs] at ex
          omega
      · rw [if_pos z]
        unfold c180_j75
        rw [wadd_n (by omega)]
    · have s40 : 0 ≤ s ∧ s < 40 := fAt_40 Pa ho (by rw [← hs] at z ⊢; exact SRC_f z)
      obtain ⟨hB, eB⟩ : ∃ hB, hB = sI h 52 s.toNat (n : Int) := ⟨_, rfl⟩
      have bG : ∀ j : Nat, hI hB 52 j = if s = (j : Int) then (n : Int) else hI h 52 j := fun j => by
        rw [eB, hI_sI]
        by_cases y : s = (j : Int)
        · rw [if_pos ⟨rfl, by omega⟩, if_pos y]
        · rw [if_neg (by omega), if_neg y]
      refine go hB ⟨fp_tr F.1 (by rw [eB]; exact fp_sI rfl), fun y hy => ⟨fun x hx px ex => ?_, fun no => ?_⟩⟩ (pre _ ?_)
      · rw [bG]
        by_cases q : s = (y : Int)
        · rw [if_pos q]
          have := SRC_u (old := old) (s := s) Wb Pb.2.2.2 Og hk fn (prW_f Wb Cb hc (.inl hi) px) hs (ex.trans q.symm) z
          exact this
        · rw [if_neg q]
          rcases (st x).1 px with w | w
          · exact (F.2 y hy).1 x hx w ex
          · rw [w, hs] at ex
            exact absurd ex q
      · have q : ¬ s = (y : Int) := fun q => no n (by omega) ((st n).2 (.inr rfl)) (hs.trans q)
        rw [bG, if_neg q]
        exact (F.2 y hy).2 (fun x hx px => no x hx ((st x).2 (.inl px)))
      · rw [if_neg z]
        refine bnd ((wIs_s s40.1 (by omega)).trans (congrArg some eB.symm)) ?_
        unfold c180_j75
        rw [wadd_n (by omega)]
/-- the chain of the kind -/
theorem gb_c (B : BSq h0 t K p P m m0 r r0) (ho : 0 ≤ old ∧ old < m0) (hk : 0 ≤ k ∧ k < m) (hc : chq t 0 k m len) : ∀ (D i N : Nat) (h : hS), i + D = len → D < N → GQ h0 t m old k (prW t 0 k i 0) h → ∃ h', lp (fun s => c180_b24 (kd h0 p old) P s.1 s.2) N (kd h0 P (upn t 0 k i), h) = some h' ∧ GQ h0 t m old k (prW t 0 k len 0) h'
  | 0, i, N, h, hi, hN, F => by
    obtain ⟨N, rfl⟩ : ∃ n, N = n + 1 := ⟨N - 1, by omega⟩
    obtain rfl : i = len := by omega
    refine ⟨h, lp_d ?_, F⟩
    show c180_b24 (kd h0 p old) P (kd h0 P (upn t 0 k i)) h = _
    unfold c180_b24
    rw [hc.2.2, kd_m]
    refine bnd hnul_0 ?_
    rw [if_pos rfl]
  | D + 1, i, N, h, hi, hN, F => by
    obtain ⟨N, rfl⟩ : ∃ n, N = n + 1 := ⟨N - 1, by omega⟩
    obtain ⟨u0, u1⟩ := hc.2.1 i (by omega)
    obtain ⟨Q, -, k4, -, k5, -⟩ := B.1.2.2.1 _ u0 u1
    have k8 := Q.1
    obtain ⟨-, -, w3, -, -⟩ := B.1.1.2.2 _ u0 u1
    obtain ⟨h1, x1, x2⟩ := gb_i B ho hk hc (show i < len by omega) (wg t 0 (upn t 0 k i) 5).toNat 0 hF0 h (by omega) (hF0_lt (by omega)) F
    obtain ⟨h', y1, y2⟩ := gb_c B ho hk hc D (i + 1) N h1 (by omega) (by omega) x2
    refine ⟨h', (lp_n (s' := (kd h0 P (upn t 0 k (i + 1)), h1)) ?_).trans y1, y2⟩
    show c180_b24 (kd h0 p old) P (kd h0 P (upn t 0 k i)) h = _
    unfold c180_b24
    refine bnd (hnul_8 (by omega)) ?_
    rw [if_neg (by decide)]
    refine bnd x1 ?_
    refine bnd (gR_s (by rw [h2_T x2.1.1]; exact Q.2.2.1)) ?_
    rw [h2_R x2.1.1, k4]
    rfl
theorem gb_e (B : BSq h0 t K p P m m0 r r0) (ho : 0 ≤ old ∧ old < m0) (hk : 0 ≤ k ∧ k < m) (f0 : ∀ s, s < 40 → hI h0 52 s = -1) : ∃ h', lp (fun s => c180_b24 (kd h0 p old) P s.1 s.2) hF0 (kd h0 P k, h0) = some h' ∧ fp (fun x _ => x = 52) h0 h' ∧ ∀ s : Nat, s < 40 → hI h' 52 s = goB t 1 m old k s 40 := by
  obtain ⟨len, hc⟩ := chq_i B.1.1 hk
  obtain ⟨h', a1, a2, a3⟩ := gb_c B ho hk hc len 0 hF0 h0 (by omega) (hF0_lt (by have := hc.1.2; omega)) ⟨fp_rf, fun s hs => ⟨fun n _ pn => by obtain ⟨j, g, z1, -⟩ := pn; omega, fun _ => f0 s hs⟩⟩
  refine ⟨h', a1, a2, fun s hs => ?_⟩
  rcases goB_c t 1 m old k s 40 with ⟨y1, y2⟩ | ⟨x, y1, y2, y3, y4⟩
  · rw [y1]
    exact (a3 s hs).2 (fun n hn pn => y2 n hn ((prW_e B.1.1 B.2.2.1 hc n).1 pn))
  · rw [y2]
    exact (a3 s hs).1 x y1 ((prW_e B.1.1 B.2.2.1 hc x).2 y3) y4
/-- the fields of one former kind -/
theorem lb_i {i : Nat} (Pa : PW g0 t K p 1 m0 r0) (Ca : CF t 1 m0) (SO : SHc g0 (215 + 4 * c) c) (SF : SHc g0 (53 + 4 * c) c) (c40 : c < 40) (g52 : ∀ s, s < 40 → hI g0 52 s = -1 ∨ (0 ≤ hI g0 52 s ∧ hI g0 52 s < 40)) (hc : chq t 1 old m0 len) (hi : i < len) : ∀ (D fd N : Nat) (h : hS), fd + D = (wg t 1 (upn t 1 old i) 5).toNat → D < N → LVq g0 t old c (prW t 1 old i fd) h → ∃ h', lp (fun s => c180_b102 (215 + 4 * c) (53 + 4 * c) (kd g0 p (upn t 1 old i)) s.1 s.2) N ((fd : Int), h) = some h' ∧ LVq g0 t old c (prW t 1 old (i + 1) 0) h'
  | 0, fd, N, h, hd, hN, F => by
    obtain ⟨N, rfl⟩ : ∃ n, N = n + 1 := ⟨N - 1, by omega⟩
    obtain ⟨u0, u1⟩ := hc.2.1 i hi
    obtain ⟨Q, -, -, -, k5, -⟩ := Pa.2.2.1 _ u0 u1
    have k8 := Q.1
    obtain ⟨-, -, w3, -, -⟩ := Pa.1.2.2 _ u0 u1
    refine ⟨h, lp_d ?_, LV_im F (fun x => prW_k (by omega) x)⟩
    show c180_b102 (215 + 4 * c) (53 + 4 * c) (kd g0 p (upn t 1 old i)) (fd : Int) h = _
    unfold c180_b102
    refine bnd (gI_s (by rw [h2_T F.1.1]; exact Q.2.2.1)) ?_
    rw [F.1.2 _ 4 (by omega), k5.1, if_pos (by omega)]
  | D + 1, fd, N, h, hd, hN, F => by
    obtain ⟨N, rfl⟩ : ∃ n, N = n + 1 := ⟨N - 1, by omega⟩
    obtain ⟨u0, u1⟩ := hc.2.1 i hi
    obtain ⟨Q, -, -, -, k5, -⟩ := Pa.2.2.1 _ u0 u1
    have k8 := Q.1
    obtain ⟨-, -, w3, -, -⟩ := Pa.1.2.2 _ u0 u1
    have hf : (fd : Int) < wg t 1 (upn t 1 old i) 5 := by omega
    obtain ⟨n1, nf, n0, n40⟩ := k5.2 fd hf
    obtain ⟨n, hn⟩ : ∃ n : Nat, wg t 1 (upn t 1 old i) (6 + fd) = (n : Int) := ⟨(wg t 1 (upn t 1 old i) (6 + fd)).toNat, by omega⟩
    rw [hn] at n1 n40
    obtain ⟨ei, ea⟩ := fAt_c Pa.1 Ca hc hi hf
    rw [hn] at ei ea
    obtain ⟨a1, a2, a3, a4, a5, a6, a7⟩ := id SO
    obtain ⟨b1, b2, b3, b4, b5, b6, b7⟩ := id SF
    have hT' := fun x => h2_T F.1.1 x
    have hL' := fun x => h2_L F.1.1 x
    have hR' := fun x j => h2_R F.1.1 x j
    have i52 : ∀ j, hI h 52 j = hI g0 52 j := fun j => F.1.2 52 j (by omega)
    obtain ⟨g, hg⟩ : ∃ g, hI g0 52 n = g := ⟨_, rfl⟩
    have g40 := g52 n (by omega)
    rw [hg] at g40
    obtain ⟨v, hv⟩ : ∃ v, bvq g0 t old c n = v := ⟨_, rfl⟩
    obtain ⟨hB, eB⟩ : ∃ hB, hB = sI h (54 + 4 * c) n v := ⟨_, rfl⟩
    have go : c180_b102 (215 + 4 * c) (53 + 4 * c) (kd g0 p (upn t 1 old i)) (fd : Int) h = some (.inl (((fd + 1 : Nat) : Int), hB)) → ∃ h', lp (fun s => c180_b102 (215 + 4 * c) (53 + 4 * c) (kd g0 p (upn t 1 old i)) s.1 s.2) (N + 1) ((fd : Int), h) = some h' ∧ LVq g0 t old c (prW t 1 old (i + 1) 0) h' := fun e => by
      have F1 : LVq g0 t old c (prW t 1 old i (fd + 1)) hB := by
        refine ⟨fp_tr F.1 (by rw [eB]; exact fp_sI rfl), fun x hx => ⟨fun z => ?_, fun z => ?_⟩⟩
        · rw [eB, hI_sI]
          by_cases q : x = n
          · rw [if_pos ⟨rfl, q⟩, q]
            exact hv.symm
          · rw [if_neg (fun y => q y.2)]
            exact (F.2 x hx).1 (((prW_s hn hf x).1 z).resolve_right q)
        · have q : ¬ x = n := fun q => z ((prW_s hn hf x).2 (.inr q))
          rw [eB, hI_sI, if_neg (fun y => q y.2)]
          exact (F.2 x hx).2 (fun y => z ((prW_s hn hf x).2 (.inl y)))
      obtain ⟨h', x1, x2⟩ := lb_i Pa Ca SO SF c40 g52 hc hi D (fd + 1) N hB (by omega) (by omega) F1
      refine ⟨h', ?_, x2⟩
      refine (lp_n (s' := (((fd + 1 : Nat) : Int), hB)) ?_).trans x1
      exact e
    refine go ?_
    have w54 : wI h (54 + 4 * c) 1 (n : Int) v = some hB := by
      have := b5.1
      rw [show 53 + 4 * c + 1 = 54 + 4 * c by omega] at this
      have l := b6.1
      rw [show 53 + 4 * c + 1 = 54 + 4 * c by omega] at l
      rw [wI_s (by rw [hT']; exact this) (by omega) (by rw [hL', l]; omega), Int.toNat_natCast, eB]
    have r3 : gR h (53 + 4 * c) 16 3 = some (54 + 4 * c) := by rw [gR_s (by rw [hT']; exact b1), hR', b2, show 53 + 4 * c + 1 = 54 + 4 * c by omega]
    have j189 : c180_j189 (54 + 4 * c) (n : Int) v (fd : Int) h = some (.inl (((fd + 1 : Nat) : Int), hB)) := by
      unfold c180_j189 c180_j190
      refine bnd w54 ?_
      rw [wadd_n (by omega)]
    have ek : ∀ x j, 448 ≤ x → hI h x j = hI g0 x j := fun x j hx => F.1.2 x j (by omega)
    unfold c180_b102
    refine bnd (gI_s (by rw [hT']; exact Q.2.2.1)) ?_
    rw [ek _ 4 k8, k5.1, if_neg (by omega)]
    refine bnd (gR_s (by rw [hT']; exact Q.2.2.1)) ?_
    rw [hR', (KD5 Q).1]
    refine bnd (aI_s (by rw [hT']; exact (KD5 Q).2.1) (by omega) (by rw [hL', (KD5 Q).2.2]; omega)) ?_
    rw [Int.toNat_natCast, ek _ _ (by omega), n1]
    refine bnd (aIs_s (by omega) (by omega)) ?_
    rw [Int.toNat_natCast, i52, hg]
    by_cases z : g = -1
    · rw [if_pos z]
      refine bnd r3 ?_
      refine bnd (gR_s (by rw [hT']; exact a1)) ?_
      rw [hR', a3]
      refine bnd (aI_s (by rw [hT']; exact a5.2.1) (by omega) (by rw [hL', a6.2.1]; omega)) ?_
      rw [Int.toNat_natCast, F.1.2 _ _ (by omega)]
      have v0 := hv
      unfold bvq at v0
      rw [hg, if_pos z, show 217 + 4 * c = 215 + 4 * c + 2 by omega, show 218 + 4 * c = 215 + 4 * c + 3 by omega] at v0
      by_cases y : hI g0 (215 + 4 * c + 2) n = 0
      · rw [if_pos y] at v0 ⊢
        refine bnd (gR_s (by rw [hT']; exact Q.2.2.1)) ?_
        rw [hR', (KD6 Q).1]
        refine bnd (aI_s (by rw [hT']; exact (KD6 Q).2.1) (by omega) (by rw [hL', (KD6 Q).2.2]; omega)) ?_
        rw [Int.toNat_natCast, ek _ _ (by omega), nf]
        rw [ea, ei] at v0
        rw [v0]
        exact j189
      · rw [if_neg y] at v0 ⊢
        refine bnd (gR_s (by rw [hT']; exact a1)) ?_
        rw [hR', a4]
        refine bnd (aI_s (by rw [hT']; exact a5.2.2) (by omega) (by rw [hL', a6.2.2]; omega)) ?_
        rw [Int.toNat_natCast, F.1.2 _ _ (by omega), v0]
        exact j189
    · rw [if_neg z]
      have gb : 0 ≤ g ∧ g < 40 := by omega
      have v0 := hv
      unfold bvq at v0
      rw [hg, if_neg z, show 216 + 4 * c = 215 + 4 * c + 1 by omega] at v0
      refine bnd r3 ?_
      refine bnd (gR_s (by rw [hT']; exact a1)) ?_
      rw [hR', a2]
      refine bnd (aIs_s (by omega) (by omega)) ?_
      rw [Int.toNat_natCast, i52, hg]
      refine bnd (aI_s (by rw [hT']; exact a5.1) gb.1 (by rw [hL', a6.1]; omega)) ?_
      rw [F.1.2 _ _ (by omega), v0]
      refine bnd w54 ?_
      unfold c180_j190
      rw [wadd_n (by omega)]
/-- the chain of the former kind -/
theorem lb_c (Pa : PW g0 t K p 1 m0 r0) (Ca : CF t 1 m0) (SO : SHc g0 (215 + 4 * c) c) (SF : SHc g0 (53 + 4 * c) c) (c40 : c < 40) (g52 : ∀ s, s < 40 → hI g0 52 s = -1 ∨ (0 ≤ hI g0 52 s ∧ hI g0 52 s < 40)) (hc : chq t 1 old m0 len) : ∀ (D i N : Nat) (h : hS), i + D = len → D < N → LVq g0 t old c (prW t 1 old i 0) h → ∃ h', lp (fun s => c180_b94 (215 + 4 * c) (53 + 4 * c) s.1 s.2) N (kd g0 p (upn t 1 old i), h) = some h' ∧ LVq g0 t old c (prW t 1 old len 0) h'
  | 0, i, N, h, hi, hN, F => by
    obtain ⟨N, rfl⟩ : ∃ n, N = n + 1 := ⟨N - 1, by omega⟩
    obtain rfl : i = len := by omega
    refine ⟨h, lp_d ?_, F⟩
    show c180_b94 (215 + 4 * c) (53 + 4 * c) (kd g0 p (upn t 1 old i)) h = _
    unfold c180_b94
    rw [hc.2.2, kd_m]
    refine bnd hnul_0 ?_
    rw [if_pos rfl]
  | D + 1, i, N, h, hi, hN, F => by
    obtain ⟨N, rfl⟩ : ∃ n, N = n + 1 := ⟨N - 1, by omega⟩
    obtain ⟨u0, u1⟩ := hc.2.1 i (by omega)
    obtain ⟨Q, -, k4, -, k5, -⟩ := Pa.2.2.1 _ u0 u1
    have k8 := Q.1
    obtain ⟨-, -, w3, -, -⟩ := Pa.1.2.2 _ u0 u1
    obtain ⟨h1, x1, x2⟩ := lb_i Pa Ca SO SF c40 g52 hc (show i < len by omega) (wg t 1 (upn t 1 old i) 5).toNat 0 hF0 h (by omega) (hF0_lt (by omega)) F
    obtain ⟨h', y1, y2⟩ := lb_c Pa Ca SO SF c40 g52 hc D (i + 1) N h1 (by omega) (by omega) x2
    refine ⟨h', (lp_n (s' := (kd g0 p (upn t 1 old (i + 1)), h1)) ?_).trans y1, y2⟩
    show c180_b94 (215 + 4 * c) (53 + 4 * c) (kd g0 p (upn t 1 old i)) h = _
    unfold c180_b94
    refine bnd (hnul_8 (by omega)) ?_
    rw [if_neg (by decide)]
    refine bnd x1 ?_
    refine bnd (gR_s (by rw [h2_T x2.1.1]; exact Q.2.2.1)) ?_
    rw [h2_R x2.1.1, k4]
    rfl
theorem lb_e (Pa : PW g0 t K p 1 m0 r0) (Ca : CF t 1 m0) (SO : SHc g0 (215 + 4 * c) c) (SF : SHc g0 (53 + 4 * c) c) (c40 : c < 40) (g52 : ∀ s, s < 40 → hI g0 52 s = -1 ∨ (0 ≤ hI g0 52 s ∧ hI g0 52 s < 40)) (ho : 0 ≤ old ∧ old < m0) : ∃ h', lp (fun s => c180_b94 (215 + 4 * c) (53 + 4 * c) s.1 s.2) hF0 (kd g0 p old, g0) = some h' ∧ LVq g0 t old c (fun x => fAt t 1 old x ≠ -1) h' := by
  obtain ⟨len, hc⟩ := chq_i Pa.1 ho
  obtain ⟨h', a1, a2⟩ := lb_c Pa Ca SO SF c40 g52 hc len 0 hF0 g0 (by omega) (hF0_lt (by have := hc.1.2; omega)) ⟨fp_rf, fun n hn => ⟨fun z => by obtain ⟨j, g, z1, -⟩ := z; omega, fun _ => rfl⟩⟩
  exact ⟨h', a1, LV_im a2 (fun n => prW_e Pa.1 Ca hc n)⟩
end BK2
