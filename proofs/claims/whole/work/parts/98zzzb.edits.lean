/-! a patch is made: an edit, a member, alike -/
def B1 (h t : hS) (K : Nat → Int → Prop) (P m : Nat) (r : Int → Nat) (m0 : Nat) (G : Int) : Prop := BW h t K P m r ∧ TZ h P m ∧ ∀ j : Int, 0 ≤ j → j < m → KO t m0 G j
def rfS (a b c : Int) (t : hS) : hS := sI (sI (sI t 395 82 a) 395 83 b) 395 84 c
section EDT
variable {h h' h0 h1 t t' : hS} {k m m0 P x cd tx i : Nat} {w G j n v ch s o c kn : Int} {r r0 : Int → Nat} {K : Nat → Int → Prop}
theorem c276_b {a b c : Int} : (c276 a b c t).bind (fun v => (kB v.1).bind (fun _ => some (v.1, v.2))) = some (0, rfS a b c t) := rfl
theorem kf_kd (B : BW h t K P m r) (j0 : 0 ≤ j) (j1 : j < m) (c : kf (kd h P j) h h') (u : Int) : kd h' P u = kd h P u := by
  unfold kd
  split
  · rfl
  · exact (c.2.2.2.2 (P + 1) (by have := B.2.1 j j0 j1; omega)).2.1 _
theorem B1_up (B : B1 h t K P m r m0 G) (W0 : WF t 0 m0 r0) (j0 : 0 ≤ j) (j1 : j < m) (B' : BW h' t' K P m r) (c : kf (kd h P j) h h') (f : fw t t') (O : KO t' m0 G j) (ew : ∀ v g : Int, 0 ≤ v → v < 12 → 0 ≤ g → g < 64 → v ≠ j → wg t' 1 v g = wg t 1 v g) : B1 h' t' K P m r m0 G := by
  obtain ⟨B0, T, Os⟩ := B
  have hk := kf_kd B0 j0 j1 c
  have hm := B0.1.1.2.1
  refine ⟨B', TZ_c T (fun u _ _ => hk u) (fun u u0 u1 o o8 o12 => ?_), fun u u0 u1 => ?_⟩
  · refine c.2.2.2.2 _ ?_
    by_cases z : u = j
    · subst z; omega
    · by_cases z2 : u < j
      · have := B0.2.2.1 u j u0 z2 j1; omega
      · have := B0.2.2.1 j u j0 (by omega) u1; omega
  · by_cases z : u = j
    · rw [z]; exact O
    · obtain ⟨-, -, w3, w4, -⟩ := B0.1.1.2.2 u u0 u1
      have O' := Os u u0 u1
      exact KO_row W0 f O' (fun g g0 g1 _ => ew u g u0 (by omega) g0 (by omega) z) w3.2 w4.2 (by rw [ew u 3 u0 (by omega) (by omega) (by omega) z]; exact O'.2.1)
theorem c76_no (B : BW h t K P m r) (j0 : 0 ≤ j) (j1 : j < m) (hs : hT h x = 22) (s3 : hI h x 3 = n) : (hOw t 1 j n = true → c76 (kd h P j) x h = some (3, h)) ∧ (hOw t 1 j n = false → wg t 1 j 5 = 8 → c76 (kd h P j) x h = some (7, h)) := by
  have Q := (B.1.2.2.1 j j0 j1)
  have T := Q.1.2.2.1
  have e61 := c61_w (n := n) B.1 j0 j1
  refine ⟨fun e => ?_, fun e e8 => ?_⟩
  · rw [e, if_pos rfl] at e61
    unfold c76
    refine bnd (gI_s hs) ?_
    refine bnd (kT_s T) ?_
    rw [s3]
    refine bnd e61 ?_
    rw [if_neg (by omega)]
  · rw [e, if_neg (by decide)] at e61
    unfold c76
    refine bnd (gI_s hs) ?_
    refine bnd (kT_s T) ?_
    rw [s3]
    refine bnd e61 ?_
    rw [if_pos rfl]
    refine bnd (gI_s T) ?_
    rw [Q.2.2.2.2.1.1, e8, if_neg (by omega)]
theorem c77_no (B : BW h t K P m r) (j0 : 0 ≤ j) (j1 : j < m) (hs : hT h x = 22) (s3 : hI h x 3 = n) : (hOw t 1 j n = true → c77 (kd h P j) x h = some (3, h)) ∧ (hOw t 1 j n = false → wg t 1 j 30 = 4 → c77 (kd h P j) x h = some (7, h)) := by
  have Q := (B.1.2.2.1 j j0 j1)
  have T := Q.1.2.2.1
  have e61 := c61_w (n := n) B.1 j0 j1
  refine ⟨fun e => ?_, fun e e8 => ?_⟩
  · rw [e, if_pos rfl] at e61
    unfold c77
    refine bnd (gI_s hs) ?_
    refine bnd (kT_s T) ?_
    rw [s3]
    refine bnd e61 ?_
    rw [if_neg (by omega)]
  · rw [e, if_neg (by decide)] at e61
    unfold c77
    refine bnd (gI_s hs) ?_
    refine bnd (kT_s T) ?_
    rw [s3]
    refine bnd e61 ?_
    rw [if_pos rfl]
    refine bnd (gI_s T) ?_
    rw [Q.2.2.2.2.2.1.1, e8, if_neg (by omega)]
theorem c78_no (B : BW h t K P m r) (j0 : 0 ≤ j) (j1 : j < m) (hs : hT h x = 22) (s3 : hI h x 3 = n) (e : aIx t 1 j n = -1) (e8 : wg t 1 j 39 = 8) : c78 (kd h P j) x h = some (7, h) := by
  have Q := (B.1.2.2.1 j j0 j1)
  have T := Q.1.2.2.1
  have e29 := c29_a (n := n) B.1 j0 j1
  unfold c78
  refine bnd (gR_s T) ?_
  refine bnd (gI_s T) ?_
  refine bnd (gI_s hs) ?_
  rw [s3, (KD12 Q.1).1]
  refine bnd e29 ?_
  rw [e, if_pos rfl]
  refine bnd (gI_s T) ?_
  rw [Q.2.2.2.2.2.2.1, e8, if_neg (by omega)]
/-- how a member or an edit comes out -/
def EDr (K : Nat → Int → Prop) (P m : Nat) (r : Int → Nat) (m0 : Nat) (G j ch : Int) (h t : hS) (a : Option (Int × hS)) (b : Option (Int × hS)) : Prop := (∃ h' t', a = some (0, h') ∧ b = some (1, t') ∧ B1 h' t' K P m r m0 G ∧ kf (kd h P j) h h' ∧ fw t t' ∧ ∀ v g : Int, 0 ≤ v → v < 12 → 0 ≤ g → g < 39 → v ≠ j ∨ g ≤ 4 → wg t' 1 v g = wg t 1 v g) ∨ (∃ why : Int, (why = 3 ∨ why = 4 ∨ why = 7) ∧ a = some (why, h) ∧ b = some (0, rfS why ch (-1) t))
theorem MEM_s (B : B1 h t K P m r m0 G) (W0 : WF t 0 m0 r0) (j0 : 0 ≤ j) (j1 : j < m) (ht : tx ≤ 6) (hi : i < 1200) (S : SPc h x s c kn (ntx t tx i 1) o cd) (nm : 0 ≤ ntx t tx i 1 ∧ ntx t tx i 1 < 40) (cs : (ntx t tx i 0 = 30 ∧ (s = 202 ∨ s = 203) ∧ o = ntx t tx i 2) ∨ (ntx t tx i 0 = 31 ∧ s = 204 ∧ o = ntx t tx i 2) ∨ (ntx t tx i 0 = 32 ∧ s = 205 ∧ K cd (gf tx (ntx t tx i 2)) ∧ hT h cd = 1 ∧ (ntx t tx i 2 = -1 ∨ ∃ a : Nat, ntx t tx i 2 = (a : Int) ∧ a < 1200))) : EDr K P m r m0 G j ch h t (c75 (kd h P j) x h) (c277 (gn tx i) j ch t) := by
  obtain ⟨q22, s0, s1, s2, s3, s4, s5⟩ := S
  obtain ⟨B0, Tz, Os⟩ := id B
  have hm := B0.1.1.2.1
  have Q := B0.1.2.2.1 j j0 j1
  have T := Q.1.2.2.1
  have O := Os j j0 j1
  obtain ⟨-, -, w3, w4, w5⟩ := B0.1.1.2.2 j j0 j1
  have n0 := c256_e (t := t) (f := 0) ht hi (by omega)
  have n1 := c256_e (t := t) (f := 1) ht hi (by omega)
  have n2 := c256_e (t := t) (f := 2) ht hi (by omega)
  generalize hN : ntx t tx i 1 = N at *
  have bs : ∀ o : Option (Int × hS), o.bind (fun v => some (v.1, v.2)) = o := fun o => by cases o <;> rfl
  rcases cs with ⟨c0, c1, c2⟩ | ⟨c0, c1, c2⟩ | ⟨c0, c1, c2, c3, c4⟩
  · have e75 : c75 (kd h P j) x h = c76 (kd h P j) x h := by
      unfold c75
      refine (bnd (gI_s q22) rfl).trans ?_
      rw [s0]
      have : c75_j64 (kd h P j) x h = c76 (kd h P j) x h := by
        unfold c75_j64
        refine (bnd (kT_s T) rfl).trans ?_
        exact bs _
      rcases c1 with e | e
      · rw [if_pos e.symm, this]
      · rw [if_neg (by omega), if_pos e.symm, this]
    have e277 : c277 (gn tx i) j ch t = if hOw t 1 j N = true then some (0, rfS 3 ch (-1) t) else if wg t 1 j 5 = 8 then some (0, rfS 7 ch (-1) t) else (c223 1 j N (ntx t tx i 2) t).bind (fun h11 => some (1, h11)) := by
      unfold c277
      refine (bnd n0 rfl).trans ?_
      refine (bnd n1 rfl).trans ?_
      rw [c0, if_neg (by omega)]
      refine (bnd (c206_h B0.1.1 (by omega) (by omega) j0 j1) rfl).trans ?_
      by_cases z : hOw t 1 j N = true
      · rw [if_pos z, if_neg (by omega), if_pos z]
        rfl
      · rw [if_neg z, if_pos rfl, if_neg z, if_neg (by omega)]
        refine (bnd (c199_e (by omega) (by omega) j0 (by omega) (by omega) (by omega)) rfl).trans ?_
        by_cases z2 : wg t 1 j 5 = 8
        · rw [if_pos z2, if_pos z2]
          rfl
        · rw [if_neg z2, if_neg z2]
          unfold c277_j135
          rw [if_neg (by omega)]
          exact (bnd n2 rfl)
    rw [e75, e277]
    by_cases z : hOw t 1 j N = true
    · rw [if_pos z]
      exact .inr ⟨3, .inl rfl, (c76_no B0 j0 j1 q22 s3).1 z, rfl⟩
    · have z' : hOw t 1 j N = false := by cases hh : hOw t 1 j N; rfl; exact absurd hh z
      rw [if_neg z]
      by_cases z2 : wg t 1 j 5 = 8
      · rw [if_pos z2]
        exact .inr ⟨7, .inr (.inr rfl), (c76_no B0 j0 j1 q22 s3).2 z' z2, rfl⟩
      · rw [if_neg z2]
        obtain ⟨h', t', g1, g2, g3, g4, g5⟩ := opF (v := ntx t tx i 2) B0 j0 j1 q22 s3 (by rw [s4]; exact c2) nm z' z2
        obtain ⟨F, hF⟩ : ∃ F : Nat, wg t 1 j 5 = (F : Int) := ⟨(wg t 1 j 5).toNat, by omega⟩
        obtain ⟨t2, y1, y2, y3⟩ := c223_x (nm := N) (v := ntx t tx i 2) j0 (by omega) hF (by omega)
        have et : t2 = t' := by rw [g2] at y1; exact (Option.some.inj y1).symm
        subst et
        refine .inl ⟨h', t2, g1, bnd g2 rfl, B1_up B W0 j0 j1 g3 g4 g5 (KO_addF W0 g5 O j0 (by omega) hF (by omega) w4.2 z' y3) (fun v g v0 v1 g0 g1 hv => ?_), g4, g5, fun v g v0 v1 g0 g1 hv => by rw [y3 v g v0 v1 g0 (by omega)]; repeat rw [if_neg (by omega)]⟩
        rw [y3 v g v0 v1 g0 g1, if_neg (by omega), if_neg (by omega), if_neg (by omega), if_neg (by omega)]
  · have e75 : c75 (kd h P j) x h = c77 (kd h P j) x h := by
      unfold c75
      refine (bnd (gI_s q22) rfl).trans ?_
      rw [s0, if_neg (by omega), if_neg (by omega), if_pos c1.symm]
      refine (bnd (kT_s T) rfl).trans ?_
      exact bs _
    have e277 : c277 (gn tx i) j ch t = if hOw t 1 j N = true then some (0, rfS 3 ch (-1) t) else if wg t 1 j 30 = 4 then some (0, rfS 7 ch (-1) t) else (c222 1 j N (ntx t tx i 2) t).bind (fun h11 => some (1, h11)) := by
      unfold c277
      refine (bnd n0 rfl).trans ?_
      refine (bnd n1 rfl).trans ?_
      rw [c0, if_neg (by omega)]
      refine (bnd (c206_h B0.1.1 (by omega) (by omega) j0 j1) rfl).trans ?_
      by_cases z : hOw t 1 j N = true
      · rw [if_pos z, if_neg (by omega), if_pos z]
        rfl
      · rw [if_neg z, if_pos rfl, if_neg z, if_pos rfl]
        refine (bnd (c199_e (by omega) (by omega) j0 (by omega) (by omega) (by omega)) rfl).trans ?_
        by_cases z2 : wg t 1 j 30 = 4
        · rw [if_pos z2, if_pos z2]
          rfl
        · rw [if_neg z2, if_neg z2]
          unfold c277_j135
          rw [if_pos rfl]
          exact (bnd n2 rfl)
    rw [e75, e277]
    by_cases z : hOw t 1 j N = true
    · rw [if_pos z]
      exact .inr ⟨3, .inl rfl, (c77_no B0 j0 j1 q22 s3).1 z, rfl⟩
    · have z' : hOw t 1 j N = false := by cases hh : hOw t 1 j N; rfl; exact absurd hh z
      rw [if_neg z]
      by_cases z2 : wg t 1 j 30 = 4
      · rw [if_pos z2]
        exact .inr ⟨7, .inr (.inr rfl), (c77_no B0 j0 j1 q22 s3).2 z' z2, rfl⟩
      · rw [if_neg z2]
        obtain ⟨h', t', g1, g2, g3, g4, g5⟩ := opS (v := ntx t tx i 2) B0 j0 j1 q22 s3 (by rw [s4]; exact c2) nm z' z2
        obtain ⟨F, hF⟩ : ∃ F : Nat, wg t 1 j 30 = (F : Int) := ⟨(wg t 1 j 30).toNat, by omega⟩
        obtain ⟨t2, y1, y2, y3⟩ := c222_x (nm := N) (v := ntx t tx i 2) j0 (by omega) hF (by omega)
        have et : t2 = t' := by rw [g2] at y1; exact (Option.some.inj y1).symm
        subst et
        refine .inl ⟨h', t2, g1, bnd g2 rfl, B1_up B W0 j0 j1 g3 g4 g5 (KO_addS W0 g5 O j0 (by omega) hF (by omega) w3.2 z' y3) (fun v g v0 v1 g0 g1 hv => ?_), g4, g5, fun v g v0 v1 g0 g1 hv => by rw [y3 v g v0 v1 g0 (by omega)]; repeat rw [if_neg (by omega)]⟩
        rw [y3 v g v0 v1 g0 g1, if_neg (by omega), if_neg (by omega), if_neg (by omega)]
  · have e75 : c75 (kd h P j) x h = c78 (kd h P j) x h := by
      unfold c75
      refine (bnd (gI_s q22) rfl).trans ?_
      rw [s0, if_neg (by omega), if_neg (by omega), if_neg (by omega), if_pos c1.symm]
      refine (bnd (kT_s T) rfl).trans ?_
      exact bs _
    have e2 : c257 (gn tx i) 2 t = some (gf tx (ntx t tx i 2)) := by
      rcases c4 with e | ⟨a, e, a12⟩
      · refine (c257_m (f := 2) ht hi (by omega) e).trans ?_
        rw [e]
        rfl
      · refine (c257_e (f := 2) ht hi (by omega) e a12).trans ?_
        rw [e]
        unfold gf
        rw [if_neg (by omega), Int.toNat_natCast]
    have e277 : c277 (gn tx i) j ch t = if aIx t 1 j N = -1 ∧ wg t 1 j 39 = 8 then some (0, rfS 7 ch (-1) t) else (c220 1 j N (gf tx (ntx t tx i 2)) t).bind (fun h23 => some (1, h23)) := by
      unfold c277
      refine (bnd n0 rfl).trans ?_
      refine (bnd n1 rfl).trans ?_
      rw [c0, if_pos rfl]
      refine (bnd (c205_w B0.1.1 (by omega) (by omega) j0 j1) rfl).trans ?_
      have ej : c277_j57 (gn tx i) j N t = (c220 1 j N (gf tx (ntx t tx i 2)) t).bind (fun h23 => some (1, h23)) := by
        unfold c277_j57
        exact bnd e2 rfl
      by_cases z : aIx t 1 j N = -1
      · rw [if_pos z]
        refine (bnd (c199_e (by omega) (by omega) j0 (by omega) (by omega) (by omega)) rfl).trans ?_
        by_cases z2 : wg t 1 j 39 = 8
        · rw [if_pos z2, if_pos ⟨z, z2⟩]
          rfl
        · rw [if_neg z2, if_neg (fun q => z2 q.2)]
          exact ej
      · rw [if_neg z, if_neg (fun q => z q.1)]
        exact ej
    rw [e75, e277]
    by_cases z : aIx t 1 j N = -1 ∧ wg t 1 j 39 = 8
    · rw [if_pos z]
      exact .inr ⟨7, .inr (.inr rfl), c78_no B0 j0 j1 q22 s3 z.1 z.2, rfl⟩
    · rw [if_neg z]
      obtain ⟨h', t', g1, g2, g3, g4, g5, g6⟩ := opA (v := gf tx (ntx t tx i 2)) B0 j0 j1 q22 s3 (by rw [s5]; exact c2) (by rw [s5]; exact c3) nm (by
        by_cases z1 : aIx t 1 j N = -1
        · exact .inr (fun z2 => z ⟨z1, z2⟩)
        · exact .inl z1)
      have O' : ∀ u : Int, 0 ≤ u → u < m → KO t' m0 G u := fun u u0 u1 => by
        obtain ⟨-, -, w3, w4, -⟩ := B0.1.1.2.2 u u0 u1
        exact KO_row W0 g5 (Os u u0 u1) (fun g a b _ => g6 u g u0 (by omega) a b) w3.2 w4.2 (by rw [g6 u 3 u0 (by omega) (by omega) (by omega)]; exact (Os u u0 u1).2.1)
      refine .inl ⟨h', t', g1, bnd g2 rfl, ⟨g3, TZ_c Tz (fun u _ _ => kf_kd B0 j0 j1 g4 u) (fun u u0 u1 o o8 o12 => g4.2.2.2.2 _ ?_), O'⟩, g4, g5, fun v g v0 v1 g0 g1 _ => g6 v g v0 v1 g0 g1⟩
      by_cases z : u = j
      · subst z; omega
      · by_cases z2 : u < j
        · have := B0.2.2.1 u j u0 z2 j1; omega
        · have := B0.2.2.1 j u j0 (by omega) u1; omega
theorem EDI_s (B : B1 h t K P m r m0 G) (W0 : WF t 0 m0 r0) (hK : ∀ x v, K x v → hT h x = 1) (j0 : 0 ≤ j) (j1 : j < m) (ht : tx ≤ 6) (hi : i < 1200) (S : SPc h x s c kn (ntx t tx i 1) o cd) (nm : 0 ≤ ntx t tx i 1 ∧ ntx t tx i 1 < 40) (cs : ((ntx t tx i 0 = 30 ∧ (s = 202 ∨ s = 203) ∧ o = ntx t tx i 2) ∨ (ntx t tx i 0 = 31 ∧ s = 204 ∧ o = ntx t tx i 2) ∨ (ntx t tx i 0 = 32 ∧ s = 205 ∧ K cd (gf tx (ntx t tx i 2)) ∧ hT h cd = 1 ∧ (ntx t tx i 2 = -1 ∨ ∃ a : Nat, ntx t tx i 2 = (a : Int) ∧ a < 1200))) ∨ (ntx t tx i 0 = 33 ∧ s = 251) ∨ (ntx t tx i 0 = 34 ∧ s = 219 ∧ o = ntx t tx i 2 ∧ 0 ≤ o ∧ o < 40) ∨ (ntx t tx i 0 = 35 ∧ s = 220)) : EDr K P m r m0 G j ch h t (c75 (kd h P j) x h) (c280 (gn tx i) j ch t) := by
  have n0 := c256_e (t := t) (f := 0) ht hi (by omega)
  have n1 := c256_e (t := t) (f := 1) ht hi (by omega)
  have n2 := c256_e (t := t) (f := 2) ht hi (by omega)
  obtain ⟨B0, Tz, Os⟩ := id B
  have hm := B0.1.1.2.1
  have Q := B0.1.2.2.1 j j0 j1
  have T := Q.1.2.2.1
  have O := Os j j0 j1
  have W := B0.1.1
  have bs : ∀ o : Option (Int × hS), o.bind (fun v => some (v.1, v.2)) = o := fun o => by cases o <;> rfl
  rcases cs with cs | ⟨c0, c1⟩ | ⟨c0, c1, c2, c3⟩ | ⟨c0, c1⟩
  · have M := MEM_s (ch := ch) B W0 j0 j1 ht hi S nm cs
    have e280 : c280 (gn tx i) j ch t = (c277 (gn tx i) j ch t).bind (fun v20 => (kB v20.1).bind (fun u21 => some (v20.1, v20.2))) := by
      unfold c280
      refine (bnd n0 rfl).trans ?_
      refine (bnd n1 rfl).trans ?_
      rw [if_neg (by omega), if_neg (by omega), if_neg (by omega)]
    rw [e280]
    rcases M with ⟨h', t', a1, a2, a3⟩ | ⟨why, a1, a2, a3⟩
    · exact .inl ⟨h', t', a1, by rw [a2]; rfl, a3⟩
    · exact .inr ⟨why, a1, a2, by rw [a3]; rfl⟩
  · obtain ⟨q22, s0, s1, s2, s3, s4, s5⟩ := S
    generalize hN : ntx t tx i 1 = N at *
    have e75 : c75 (kd h P j) x h = c79 (kd h P j) N h := by
      unfold c75
      refine (bnd (gI_s q22) rfl).trans ?_
      rw [s0, if_neg (by omega), if_neg (by omega), if_neg (by omega), if_neg (by omega), if_neg (by omega), if_pos c1.symm]
      refine (bnd (gI_s q22) rfl).trans ?_
      refine (bnd (kT_s T) rfl).trans ?_
      rw [s3]
      exact bs _
    have e280 : c280 (gn tx i) j ch t = if fIx t 1 j N = -1 then (if sIx t 1 j N = -1 then (if aIx t 1 j N = -1 then some (0, rfS 4 ch (-1) t) else (c281 j 40 (aIx t 1 j N) 39 2 t).bind (fun h15 => some (1, h15))) else (c281 j 31 (sIx t 1 j N) 30 2 t).bind (fun h17 => some (1, h17))) else (c281 j 6 (fIx t 1 j N) 5 3 t).bind (fun h19 => some (1, h19)) := by
      unfold c280
      refine (bnd n0 rfl).trans ?_
      refine (bnd n1 rfl).trans ?_
      rw [c0, if_neg (by omega), if_neg (by omega), if_pos rfl]
      refine (bnd (c207_w W (by omega) (by omega) j0 j1) rfl).trans ?_
      by_cases z : fIx t 1 j N = -1
      · rw [if_pos z, if_pos z]
        refine (bnd (c208_w W (by omega) (by omega) j0 j1) rfl).trans ?_
        by_cases z2 : sIx t 1 j N = -1
        · rw [if_pos z2, if_pos z2]
          refine (bnd (c205_w W (by omega) (by omega) j0 j1) rfl).trans ?_
          by_cases z3 : aIx t 1 j N = -1
          · rw [if_pos z3, if_pos z3]
            rfl
          · rw [if_neg z3, if_neg z3]
            exact bnd (c205_w W (by omega) (by omega) j0 j1) rfl
        · rw [if_neg z2, if_neg z2]
          exact bnd (c208_w W (by omega) (by omega) j0 j1) rfl
      · rw [if_neg z, if_neg z]
        exact bnd (c207_w W (by omega) (by omega) j0 j1) rfl
    rw [e75, e280]
    by_cases z : fIx t 1 j N = -1
    · rw [if_pos z]
      by_cases z2 : sIx t 1 j N = -1
      · rw [if_pos z2]
        by_cases z3 : aIx t 1 j N = -1
        · rw [if_pos z3]
          refine .inr ⟨4, .inr (.inl rfl), ?_, rfl⟩
          unfold c79
          refine bnd (kT_s T) ?_
          refine bnd (c80_w (n := N) B0.1 j0 j1) ?_
          refine bnd (kT_s T) ?_
          refine bnd (c81_w (n := N) B0.1 j0 j1) ?_
          refine bnd (gR_s T) ?_
          refine bnd (gI_s T) ?_
          rw [(KD12 Q.1).1]
          refine bnd (c29_a (n := N) B0.1 j0 j1) ?_
          rw [if_pos z, if_pos z2, if_pos z3]
        · rw [if_neg z3]
          obtain ⟨y1, y2, -⟩ := aIx_lt W j0 j1 z3
          obtain ⟨g, hg⟩ : ∃ g : Nat, aIx t 1 j N = (g : Int) := ⟨(aIx t 1 j N).toNat, by omega⟩
          obtain ⟨h', t', a1, a2, a3, a4, a5, a6, a7⟩ := drA B0 j0 j1 W0 O hK z z2 hg
          exact .inl ⟨h', t', a1, by rw [hg]; exact bnd a2 rfl, B1_up B W0 j0 j1 a3 a4 a5 a6 (fun v g v0 v1 g0 g1 hv => a7 v g v0 v1 g0 g1 (.inl hv)), a4, a5, fun v g v0 v1 g0 g1 hv => a7 v g v0 v1 g0 (by omega) hv⟩
      · rw [if_neg z2]
        obtain ⟨y1, y2, -⟩ := sIx_lt W j0 j1 z2
        obtain ⟨g, hg⟩ : ∃ g : Nat, sIx t 1 j N = (g : Int) := ⟨(sIx t 1 j N).toNat, by omega⟩
        obtain ⟨h', t', a1, a2, a3, a4, a5, a6, a7⟩ := drS B0 j0 j1 W0 O z hg
        exact .inl ⟨h', t', a1, by rw [hg]; exact bnd a2 rfl, B1_up B W0 j0 j1 a3 a4 a5 a6 (fun v g v0 v1 g0 g1 hv => a7 v g v0 v1 g0 g1 (.inl hv)), a4, a5, fun v g v0 v1 g0 g1 hv => a7 v g v0 v1 g0 (by omega) hv⟩
    · rw [if_neg z]
      obtain ⟨y1, y2, -⟩ := fIx_lt W j0 j1 z
      obtain ⟨g, hg⟩ : ∃ g : Nat, fIx t 1 j N = (g : Int) := ⟨(fIx t 1 j N).toNat, by omega⟩
      obtain ⟨h', t', a1, a2, a3, a4, a5, a6, a7⟩ := drF B0 j0 j1 W0 O hg
      exact .inl ⟨h', t', a1, by rw [hg]; exact bnd a2 rfl, B1_up B W0 j0 j1 a3 a4 a5 a6 (fun v g v0 v1 g0 g1 hv => a7 v g v0 v1 g0 g1 (.inl hv)), a4, a5, fun v g v0 v1 g0 g1 hv => a7 v g v0 v1 g0 (by omega) hv⟩
  · obtain ⟨q22, s0, s1, s2, s3, s4, s5⟩ := S
    generalize hN : ntx t tx i 1 = N at *
    have e61 := c61_w (n := o) B0.1 j0 j1
    have e75 : c75 (kd h P j) x h = c83 (kd h P j) x h := by
      unfold c75
      refine (bnd (gI_s q22) rfl).trans ?_
      rw [s0, if_neg (by omega), if_neg (by omega), if_neg (by omega), if_neg (by omega), if_pos c1.symm]
      refine (bnd (kT_s T) rfl).trans ?_
      exact bs _
    have e280 : c280 (gn tx i) j ch t = if fIx t 1 j N = -1 then some (0, rfS 4 ch (-1) t) else if hOw t 1 j o = true then some (0, rfS 3 ch (-1) t) else (c201 1 j (wadd 6 (fIx t 1 j N)) o t).bind (fun h28 => some (1, h28)) := by
      unfold c280
      refine (bnd n0 rfl).trans ?_
      refine (bnd n1 rfl).trans ?_
      rw [c0, if_neg (by omega), if_pos rfl]
      refine (bnd (c207_w W (by omega) (by omega) j0 j1) rfl).trans ?_
      by_cases z : fIx t 1 j N = -1
      · rw [if_pos z, if_pos z]
        rfl
      · rw [if_neg z, if_neg z]
        refine (bnd n2 rfl).trans ?_
        rw [← c2]
        refine (bnd (c206_h W (by omega) (by omega) j0 j1) rfl).trans ?_
        by_cases z2 : hOw t 1 j o = true
        · rw [if_pos z2, if_neg (by omega), if_pos z2]
          rfl
        · rw [if_neg z2, if_pos rfl, if_neg z2]
          refine (bnd n2 rfl).trans ?_
          rw [← c2]
    have e83 : c83 (kd h P j) x h = if fIx t 1 j N = -1 then some (4, h) else if hOw t 1 j o = true then some (3, h) else (wI h (kd h P j + 1) 1 (fIx t 1 j N) o).bind (fun h11 => some (0, h11)) := by
      unfold c83
      refine (bnd (gI_s q22) rfl).trans ?_
      refine (bnd (kT_s T) rfl).trans ?_
      rw [s3]
      refine (bnd (c80_w (n := N) B0.1 j0 j1) rfl).trans ?_
      by_cases z : fIx t 1 j N = -1
      · rw [if_pos z, if_pos z]
      · rw [if_neg z, if_neg z]
        refine (bnd (gI_s q22) rfl).trans ?_
        refine (bnd (kT_s T) rfl).trans ?_
        rw [s4]
        refine (bnd e61 rfl).trans ?_
        by_cases z2 : hOw t 1 j o = true
        · rw [if_pos z2, if_neg (by omega), if_pos z2]
        · rw [if_neg z2, if_pos rfl, if_neg z2]
          refine (bnd (gR_s T) rfl).trans ?_
          refine (bnd (gI_s q22) rfl).trans ?_
          rw [s4, (KD5 Q.1).1]
    rw [e75, e280, e83]
    by_cases z : fIx t 1 j N = -1
    · rw [if_pos z, if_pos z]
      exact .inr ⟨4, .inr (.inl rfl), rfl, rfl⟩
    · rw [if_neg z, if_neg z]
      by_cases z2 : hOw t 1 j o = true
      · rw [if_pos z2, if_pos z2]
        exact .inr ⟨3, .inl rfl, rfl, rfl⟩
      · rw [if_neg z2, if_neg z2]
        have z' : hOw t 1 j o = false := by cases hh : hOw t 1 j o; rfl; exact absurd hh z2
        obtain ⟨y1, y2, -⟩ := fIx_lt W j0 j1 z
        obtain ⟨g, hg⟩ : ∃ g : Nat, fIx t 1 j N = (g : Int) := ⟨(fIx t 1 j N).toNat, by omega⟩
        obtain ⟨h', t', a1, a2, a3, a4, a5, a6, a7⟩ := reN B0 j0 j1 W0 O c3 hg z' rfl
        exact .inl ⟨h', t', by rw [hg]; exact bnd a1 rfl, by rw [hg]; exact bnd a2 rfl, B1_up B W0 j0 j1 a3 a4 a5 a6 (fun v g v0 v1 g0 g1 hv => a7 v g v0 v1 g0 g1 (.inl hv)), a4, a5, fun v g v0 v1 g0 g1 hv => a7 v g v0 v1 g0 (by omega) hv⟩
  · obtain ⟨q22, s0, s1, s2, s3, s4, s5⟩ := S
    refine .inl ⟨h, t, ?_, ?_, B, kf_rf, fp_rf, fun _ _ _ _ _ _ _ => rfl⟩
    · unfold c75
      refine bnd (gI_s q22) ?_
      rw [s0, if_neg (by omega), if_neg (by omega), if_neg (by omega), if_neg (by omega), if_neg (by omega), if_neg (by omega)]
    · unfold c280
      refine bnd n0 ?_
      refine bnd n1 ?_
      rw [if_pos c0]
end EDT
