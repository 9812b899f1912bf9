/-! a patch is made: its changes, one by one -/
/-- how the steps us of one change come out, beside the change b -/
def GRo (K : Nat → Int → Prop) (P m m0 : Nat) (G ch : Int) (h0 h t : hS) (us : List Nat) (b : Option (Int × hS)) : Prop := ∃ (why : Int) (y : Nat) (h' t' : hS) (m' nk nd : Nat), tkR P us h (why, y, h') ∧ (hN h' = hN h + 13 * nk ∧ hM h' = hM h + 267 * nk ∧ m' + nd = m + nk ∧ m' ≤ 12 ∧ nk ≤ kc h0 200 us ∧ nd ≤ kc h0 217 us) ∧ (∀ x, x < P → sm h h' x) ∧ fw t t' ∧ ((why = 0 ∧ b = some (1, t') ∧ UTq t' m0 m' ∧ ∃ r', B1 h' t' K P m' r' m0 G) ∨ (why ≠ 0 ∧ y ∈ us ∧ b = some (0, rfS why ch (-1) t')))
section GRP
variable {h h' h0 h1 t t' t0 t1 : hS} {k m m0 P x cd tx i N0 lo : Nat} {w G j n v ch s o c kn u why : Int} {r r0 : Int → Nat} {K : Nat → Int → Prop} {us zs : List Nat}
theorem tkR_1 {o : Int × Nat × hS} (e : c147 P x h = some (0, h1)) (Sm : ∀ y, y < P → sm h h1 y) (T18 : hT h1 P = 18) (T : tkR P zs h1 o) : tkR P (x :: zs) h o := ⟨0, h1, e, Sm, T18, .inl ⟨rfl, T⟩⟩
/-- refused at once -/
theorem GRo_no (T18 : hT h P = 18) (m12 : m ≤ 12) (w0 : why ≠ 0) (e : c147 P x h = some (why, h)) (f : fw t t') {b : Option (Int × hS)} (eb : b = some (0, rfS why ch (-1) t')) : GRo K P m m0 G ch h0 h t (x :: zs) b :=
  ⟨why, x, h, t', m, 0, 0, ⟨why, h, e, fun _ _ => sm_rf, T18, .inr ⟨w0, rfl⟩⟩, ⟨rfl, rfl, rfl, m12, Nat.zero_le _, Nat.zero_le _⟩, fun _ _ => sm_rf, f, .inr ⟨w0, List.mem_cons_self, eb⟩⟩
/-- a kind that isn't there -/
theorem c147_n (B : BW h t K P m r) (S : SPc h x s c kn n o cd) (hs : s ≠ 200) (hn : nmx t m kn = -1) : c147 P x h = some (1, h) := by
  obtain ⟨q22, s0, s1, s2, s3, s4, s5⟩ := S
  have p3 := B.1.2.1.2.2.1
  unfold c147
  refine bnd (gI_s q22) ?_
  rw [s0, if_neg hs]
  refine bnd (gI_s q22) ?_
  rw [s2]
  refine bnd (kT_s p3) ?_
  refine bnd (nmx_k B.1 kn) ?_
  rw [hn, kd_m]
  refine bnd hnul_0 ?_
  rw [if_pos rfl]
theorem c147_k (B : BW h t K P m r) (S : SPc h x 200 c kn n o cd) : c147 P x h = c56 P x h := by
  obtain ⟨q22, s0, s1, s2, s3, s4, s5⟩ := S
  have p3 := B.1.2.1.2.2.1
  unfold c147
  refine (bnd (gI_s q22) rfl).trans ?_
  rw [s0, if_pos rfl]
  refine (bnd (kT_s p3) rfl).trans ?_
  exact bs_o
theorem c276_s {a b c : Int} {t : hS} : c276 a b c t = some (0, rfS a b c t) := rfl
theorem kc_0 : kc h s (x :: zs) = (if hI h x 0 = s then 1 else 0) + kc h s zs := rfl
/-- a kind has gone -/
theorem UT_g {J : Nat} (U : UTq t m0 m) (W : WF t 1 m r) (W0 : WF t 0 m0 r0) (f : fw t t') (jm : J < m) (no : ∀ u : Nat, u < m → wg t 1 (u : Int) 1 ≠ (J : Int)) (e : ∀ (v : Nat) (g : Int), v + 1 < m → 0 ≤ g → g < 64 → wg t' 1 (v : Int) g = if g = 1 then dr1 (J : Int) (wg t 1 ((phi J v : Nat) : Int) 1) else wg t 1 ((phi J v : Nat) : Int) g) : UTq t' m0 (m - 1) := fun v v0 v1 h3 => by
  have hm := W.2.1
  have hm0 := W0.2.1
  obtain ⟨a, rfl⟩ : ∃ a : Nat, v = (a : Int) := ⟨v.toNat, by omega⟩
  have ha : a + 1 < m := by omega
  have pm : phi J a < m := by unfold phi; split <;> omega
  have eo : ∀ g : Int, 0 ≤ g → g < 64 → g ≠ 1 → wg t' 1 (a : Int) g = wg t 1 ((phi J a : Nat) : Int) g := fun g g0 g1 hg => by rw [e a g ha g0 g1, if_neg hg]
  rw [eo 3 (by omega) (by omega) (by omega)] at h3
  obtain ⟨u1, ⟨u2, u3⟩, u4⟩ := U ((phi J a : Nat) : Int) (by omega) (by omega) h3
  obtain ⟨-, w2, w3, -, -⟩ := W.2.2 ((phi J a : Nat) : Int) (by omega) (by omega)
  rw [eo 4 (by omega) (by omega) (by omega), eo 5 (by omega) (by omega) (by omega), e a 1 ha (by omega) (by omega), if_pos rfl, fw_w f (.inl rfl) u1.1 (by omega) (by omega) (by omega), fw_w f (.inl rfl) u1.1 (by omega) (by omega) (by omega)]
  refine ⟨u1, ⟨u2, fun i hi => ?_⟩, ?_⟩
  · rw [eo _ (by omega) (by omega) (by omega), fw_w f (.inl rfl) u1.1 (by omega) (by omega) (by omega)]
    exact u3 i hi
  · rcases u4 with ⟨z1, z2⟩ | ⟨z1, z2⟩
    · refine .inl ⟨?_, z2⟩
      rw [z1]
      unfold dr1
      rw [if_neg (by omega)]
    · have w : 0 ≤ wg t 1 ((phi J a : Nat) : Int) 1 ∧ wg t 1 ((phi J a : Nat) : Int) 1 < m := by
        rcases w2 with y | y
        · exact absurd y z1
        · exact ⟨y.1, y.2.1⟩
      have nj := no (phi J a) pm
      generalize hA : wg t 1 ((phi J a : Nat) : Int) 1 = A at *
      have d0 : 0 ≤ dr1 (J : Int) A := by unfold dr1; split <;> omega
      have key : ((phi J (dr1 (J : Int) A).toNat : Nat) : Int) = A := by
        unfold dr1 phi
        by_cases c : (J : Int) < A
        · rw [if_pos c, if_pos (by omega)]; omega
        · rw [if_neg c, if_neg (by omega)]; omega
      have dl : (dr1 (J : Int) A).toNat + 1 < m := by
        unfold phi at key
        split at key <;> omega
      refine .inr ⟨by omega, ?_⟩
      have := e (dr1 (J : Int) A).toNat 4 dl (by omega) (by omega)
      rw [if_neg (by omega), key, show ((dr1 (J : Int) A).toNat : Int) = dr1 (J : Int) A by omega] at this
      rw [this]
      exact z2
/-- drop, move, check -/
theorem GR_s (B : B1 h t K P m r m0 G) (UT : UTq t m0 m) (h448 : 448 ≤ P) (W0 : WF t 0 m0 r0) (ht : tx ≤ 6) (hi : i < 1200) (Sm : ∀ x, x < P → sm h0 h x) (f : fw t0 t) (xP : x < P) (cs : (ntx t0 tx i 0 = 42 ∧ SPc h0 x 217 ch (ntx t0 tx i 1) (-1) (-1) 0) ∨ (ntx t0 tx i 0 = 43 ∧ nmo (ntx t0 tx i 2) ∧ SPc h0 x 218 ch (ntx t0 tx i 1) (-1) (ntx t0 tx i 2) 0) ∨ (ntx t0 tx i 0 = 44 ∧ ∃ cd : Nat, SPc h0 x 221 ch (ntx t0 tx i 1) (-1) (-1) cd)) : GRo K P m m0 G ch h0 h t [x] (c275 (gn tx i) ch t) := by
  have eN : ∀ a b, ntx t tx a b = ntx t0 tx a b := fun a b => ntx_f f
  have n0 := c256_e (t := t) (f := 0) ht hi (by omega)
  have n1 := c256_e (t := t) (f := 1) ht hi (by omega)
  have n2 := c256_e (t := t) (f := 2) ht hi (by omega)
  rw [eN] at n0 n1 n2
  obtain ⟨B0, Tz, Os⟩ := id B
  have W := B0.1.1
  have hm := W.2.1
  have sx := Sm x xP
  generalize hNm : ntx t0 tx i 1 = N at *
  have p3 := B0.1.2.1.2.2.1
  have e275 : c275 (gn tx i) ch t = if nmx t m N = -1 then some (0, rfS 1 ch (-1) t) else if ntx t0 tx i 0 = 44 then some (1, t) else if ntx t0 tx i 0 = 42 then (lp (fun s => c275_b221 ch (nmx t m N) s.1 s.2) hF0 (0, t)).bind (fun r37 => xs r37 (fun x37 => (c278 (nmx t m N) x37).bind (fun h38 => some (1, h38))) (fun o37 => some o37)) else (c201 1 (nmx t m N) 3 1 t).bind (fun h8 => (c256 (gn tx i) 2 h8).bind (fun v16 => if v16 = (-1) then c275_j307 (-1) (gn tx i) ch (nmx t m N) h8 else (c256 (gn tx i) 2 h8).bind (fun v18 => (c197 1 v18 h8).bind (fun v19 => c275_j307 v19 (gn tx i) ch (nmx t m N) h8)))) := by
    unfold c275
    refine (bnd n0 rfl).trans ?_
    refine (bnd n1 rfl).trans ?_
    refine (bnd (c197_w W N) rfl).trans ?_
    rw [if_neg (by rcases cs with ⟨e, -⟩ | ⟨e, -⟩ | ⟨e, -⟩ <;> omega)]
    by_cases z : nmx t m N = -1
    · rw [if_pos z, if_pos z]
      rfl
    · rw [if_neg z, if_neg z]
      by_cases z2 : ntx t0 tx i 0 = 44
      · rw [if_pos z2, if_pos z2]
      · rw [if_neg z2, if_neg z2]
        by_cases z3 : ntx t0 tx i 0 = 42
        · rw [if_pos z3, if_pos z3]
        · rw [if_neg z3, if_neg z3]
          congr 1
          funext h8
          rw [if_pos (by rcases cs with ⟨e, -⟩ | ⟨e, -⟩ | ⟨e, -⟩ <;> omega)]
  rw [e275]
  by_cases z : nmx t m N = -1
  · rw [if_pos z]
    refine GRo_no p3 hm (why := 1) (by omega) ?_ fp_rf rfl
    rcases cs with ⟨e, S⟩ | ⟨e, -, S⟩ | ⟨e, cd, S⟩
    · exact c147_n B0 (SPc_s S sx) (by omega) z
    · exact c147_n B0 (SPc_s S sx) (by omega) z
    · exact c147_n B0 (SPc_s S sx) (by omega) z
  · rw [if_neg z]
    obtain ⟨j0, j1, jn⟩ : 0 ≤ nmx t m N ∧ nmx t m N < m ∧ wg t 1 (nmx t m N) 0 = N := by
      rcases nmx_b (hr := t) (m := m) N with y | y
      · exact absurd y z
      · exact y
    generalize hj : nmx t m N = j at *
    have k8 := kd_8 B0.1 j0 j1
    have KRj := B0.1.2.2.1 j j0 j1
    have T := KRj.1.2.2.1
    have e147 : ∀ {s o : Int} {cd : Nat}, SPc h0 x s ch N (-1) o cd → s ≠ 200 → c147 P x h = if s < 216 ∨ 221 < s then c147_j97 x (kd h P j) h else if s = 216 then (pI h (kd h P j) 24 3 1).bind (fun h12 => some (0, h12)) else if s = 217 then c148 P (kd h P j) h else if s = 218 then c149 P (kd h P j) o h else if s = 219 then c147_j97 x (kd h P j) h else if s = 220 then c147_j97 x (kd h P j) h else if s = 221 then some (0, h) else none := fun {s o cd} S hs => by
      obtain ⟨q22, s0, s1, s2, s3, s4, s5⟩ := SPc_s S sx
      unfold c147
      refine (bnd (gI_s q22) rfl).trans ?_
      rw [s0, if_neg hs]
      refine (bnd (gI_s q22) rfl).trans ?_
      rw [s2]
      refine (bnd (kT_s p3) rfl).trans ?_
      refine (bnd (nmx_k B0.1 N) rfl).trans ?_
      rw [hj]
      refine (bnd (hnul_8 (by omega)) rfl).trans ?_
      rw [if_neg (by decide)]
      refine (bnd (gI_s q22) rfl).trans ?_
      rw [s0]
      by_cases c1 : s < 216 ∨ 221 < s
      · rw [if_pos c1, if_pos c1]
      · rw [if_neg c1, if_neg c1]
        by_cases c2 : s = 216
        · rw [if_pos c2, if_pos c2]
        · rw [if_neg c2, if_neg c2]
          by_cases c3 : s = 217
          · rw [if_pos c3, if_pos c3]
            refine (bnd (kT_s p3) rfl).trans ?_
            exact bs_o
          · rw [if_neg c3, if_neg c3]
            by_cases c4 : s = 218
            · rw [if_pos c4, if_pos c4]
              refine (bnd (gI_s q22) rfl).trans ?_
              refine (bnd (kT_s p3) rfl).trans ?_
              rw [s4]
              exact bs_o
            · rw [if_neg c4, if_neg c4]
    rcases cs with ⟨e, S⟩ | ⟨e, no, S⟩ | ⟨e, cd, S⟩
    · -- drop
      rw [if_neg (by omega), if_pos e]
      have e1 := e147 S (by omega)
      rw [if_neg (by omega), if_neg (by omega), if_pos rfl] at e1
      have k217 : kc h0 217 [x] = 1 := by rw [kc_0, if_pos S.2.1]; rfl
      by_cases ex : ∃ v : Nat, v < m ∧ wg t 1 (v : Int) 1 = j
      · obtain ⟨v, v1, v2⟩ := ex
        have a := (c148_l B0 h448 j0 j1 m 0 hF0 (-1) (by omega) (hF0_lt (by omega)) (by rw [if_neg (by omega)])).1 ⟨v, Nat.zero_le _, v1, v2⟩
        have b := (c275_l (ch := ch) W j0 m 0 hF0 (by omega) (hF0_lt (by omega))).1 ⟨v, Nat.zero_le _, v1, v2⟩
        refine GRo_no p3 hm (why := 6) (by omega) ?_ fp_rf ?_
        · rw [e1]
          unfold c148
          exact (bnd a rfl).trans rfl
        · exact (bnd b rfl).trans rfl
      · have no' : ∀ v : Nat, v < m → wg t 1 (v : Int) 1 ≠ j := fun v v1 v2 => ex ⟨v, v1, v2⟩
        obtain ⟨J, rfl⟩ : ∃ J : Nat, j = (J : Int) := ⟨j.toNat, by omega⟩
        obtain ⟨h', t', r', a1, a2, a3, a4, a5, a6, a7⟩ := goN B W0 h448 (by omega) no'
        have b := (c275_l (ch := ch) W j0 m 0 hF0 (by omega) (hF0_lt (by omega))).2 (fun v _ v1 => no' v v1)
        refine ⟨0, 0, h', t', m - 1, 0, 1, ?_, ⟨by rw [a4.1]; rfl, by rw [a4.2]; rfl, by omega, by omega, Nat.zero_le _, by omega⟩, a5, a6, .inl ⟨rfl, ?_, UT_g UT W W0 a6 (by omega) no' a7, r', a3⟩⟩
        · exact tkR_1 (e1.trans a1) a5 a3.1.1.2.1.2.2.1 rfl
        · refine (bnd b rfl).trans ?_
          show (c278 (J : Int) t).bind _ = _
          rw [a2]
          rfl
    · -- move
      rw [if_neg (by omega), if_neg (by omega)]
      have e1 := e147 S (by omega)
      rw [if_neg (by omega), if_neg (by omega), if_neg (by omega), if_pos rfl] at e1
      obtain ⟨hT1, tT1, d1, d2, d3, d4, d5, d6, d7⟩ := toU B0 j0 j1 W0 (Os j j0 j1) rfl
      have BT := B1_up B W0 j0 j1 d3 d4 d5 d6 (fun v g v0 v1 g0 g1 hv => by rw [d7 v g v0 v1 g0 g1, if_neg (by omega)])
      have eNT : ∀ a b, ntx tT1 tx a b = ntx t0 tx a b := fun a b => (ntx_f d5).trans (eN a b)
      have n2T := c256_e (t := tT1) (f := 2) ht hi (by omega)
      rw [eNT] at n2T
      have nmT : ∀ v : Int, nmx tT1 m v = nmx t m v := fun v => by
        unfold nmx
        exact ix_congr (fun u hu => by rw [d7 _ _ (by omega) (by omega) (by omega) (by omega), if_neg (by omega)])
      generalize hA : ntx t0 tx i 2 = A at *
      -- what stands above it then
      have fin : ∀ u : Int, (u = -1 ∨ (0 ≤ u ∧ u < m)) → (∀ hh : hS, c149_j17 (kd h P j) (kd h P u) h = (if u = -1 then c149_j34 (kd h P j) (kd h P u) h else if iU t 1 j u = -1 then c149_j34 (kd h P j) (kd h P u) h else some (5, h))) ∧ c275_j333 ch j u tT1 = (if u = -1 then c275_j359 j u tT1 else if iU t 1 j u = -1 then c275_j359 j u tT1 else some (0, rfS 5 ch (-1) tT1)) ∧ (iU t 1 j u = -1 → ∃ h' t', c149_j34 (kd h P j) (kd h P u) h = some (0, h') ∧ c275_j359 j u tT1 = some (1, t') ∧ (UTq t' m0 m ∧ ∃ r', B1 h' t' K P m r' m0 G) ∧ fw t t' ∧ (hN h' = hN h ∧ hM h' = hM h) ∧ ∀ x, x < P → sm h h' x) := fun u hu => by
        have iT : iU tT1 1 j u = iU t 1 j u := iU_cg W (fun v v0 v1 => by rw [d7 v 1 v0 (by omega) (by omega) (by omega), if_neg (by omega)]) hu
        refine ⟨fun _ => ?_, ?_, fun q => ?_⟩
        · unfold c149_j17
          by_cases c : u = -1
          · rw [if_pos c, c, kd_m]
            exact bnd hnul_0 rfl
          · rw [if_neg c]
            have hu' : 0 ≤ u ∧ u < m := by omega
            have ku := kd_8 B0.1 hu'.1 hu'.2
            refine (bnd (hnul_8 (by omega)) rfl).trans ?_
            rw [if_neg (by decide)]
            refine (bnd (gI_s T) rfl).trans ?_
            rw [KRj.2.1.1]
            refine (bnd (kT_s (B0.1.2.2.1 u hu'.1 hu'.2).1.2.2.1) rfl).trans ?_
            refine (bnd (c150_w B0.1 hu) rfl).trans ?_
            rw [iU_n B0.1 j0 j1 rfl hu]
            by_cases c2 : iU t 1 j u = -1
            · rw [if_pos c2, if_pos c2, if_pos rfl]
            · rw [if_neg c2, if_neg c2, if_neg (by omega)]
        · unfold c275_j333
          by_cases c : u = -1
          · rw [if_pos c, if_pos c]
          · rw [if_neg c, if_neg c]
            refine (bnd (c279_w d3.1.1 (by omega) (by omega) j0 hu) rfl).trans ?_
            rw [iT]
            by_cases c2 : iU t 1 j u = -1
            · rw [if_pos c2, if_pos c2, if_pos rfl]
            · rw [if_neg c2, if_neg c2, if_neg (by omega)]
              rfl
        · obtain ⟨t', r', g1, g2, g3⟩ := moV BT (WF0_f W0 d5) j0 j1 hu (by rw [iT]; exact q)
          have hk1 : ∀ v, kd hT1 P v = kd h P v := fun v => kf_kd B0 j0 j1 d4 v
          rw [hk1, hk1] at g2
          have pk : P + 2 ≤ kd h P j := B0.2.1 j j0 j1
          have eh : hT1 = sI h (kd h P j) 3 1 := by
            rw [pI_s T] at d1
            exact (Option.some.inj d1).symm
          refine ⟨sR hT1 (kd h P j) 1 (kd h P u), t', ?_, ?_, ⟨UT_e UT W W0 (fp_tr d5 g3) (j := j) ?_ ?_, r', g2⟩, fp_tr d5 g3, ⟨by rw [eh]; try rfl, by rw [eh]; try rfl⟩, fun x hx => ⟨fun q => ?_, fun q => ?_, ?_, ?_⟩⟩
          · unfold c149_j34
            refine bnd (pR_s T) ?_
            refine bnd (pI_s T) ?_
            rw [eh]
            rfl
          · unfold c275_j359
            exact bnd g1 rfl
          · have et : t' = wset tT1 1 j 1 u := by
              rw [c201_e (by omega) (by omega) j0 (by omega) (by omega) (by omega)] at g1
              exact (Option.some.inj g1).symm
            rw [et, wgs j0 (by omega) (by omega) (by omega) j0 (by omega) (by omega) (by omega), if_neg (by omega), d7 j 3 j0 (by omega) (by omega) (by omega), if_pos ⟨rfl, rfl⟩]
          · intro v g v0 v1 g0 g1' hv
            have et : t' = wset tT1 1 j 1 u := by
              rw [c201_e (by omega) (by omega) j0 (by omega) (by omega) (by omega)] at g1
              exact (Option.some.inj g1).symm
            rw [et, wgs j0 (by omega) (by omega) (by omega) v0 v1 g0 (by omega), if_neg (by omega), d7 v g v0 v1 g0 (by omega), if_neg (by omega)]
          · rw [hI_sR, eh, hI_sI, if_neg (by omega)]
          · rw [hR_sR, if_neg (by omega), eh, hR_sI]
          · rw [eh]; rfl
          · rw [eh]; rfl
      have out : ∀ u : Int, (u = -1 ∨ (0 ≤ u ∧ u < m)) → c149 P (kd h P j) A h = c149_j17 (kd h P j) (kd h P u) h → ((c201 1 j 3 1 t).bind (fun h8 => (c256 (gn tx i) 2 h8).bind (fun v16 => if v16 = (-1) then c275_j307 (-1) (gn tx i) ch j h8 else (c256 (gn tx i) 2 h8).bind (fun v18 => (c197 1 v18 h8).bind (fun v19 => c275_j307 v19 (gn tx i) ch j h8)))) = c275_j333 ch j u tT1) → GRo K P m m0 G ch h0 h t [x] ((c201 1 j 3 1 t).bind (fun h8 => (c256 (gn tx i) 2 h8).bind (fun v16 => if v16 = (-1) then c275_j307 (-1) (gn tx i) ch j h8 else (c256 (gn tx i) 2 h8).bind (fun v18 => (c197 1 v18 h8).bind (fun v19 => c275_j307 v19 (gn tx i) ch j h8))))) := fun u hu ea eb => by
        obtain ⟨f1, f2, f3⟩ := fin u hu
        rw [eb, f2]
        have e2 := e1.trans (ea.trans (f1 h))
        have go : iU t 1 j u = -1 → c147 P x h = c149_j34 (kd h P j) (kd h P u) h → GRo K P m m0 G ch h0 h t [x] (c275_j359 j u tT1) := fun q e3 => by
          obtain ⟨h', t', g1, g2, g3, g4, g5, g6⟩ := f3 q
          refine ⟨0, 0, h', t', m, 0, 0, ?_, ⟨by have := g5.1; omega, by have := g5.2; omega, rfl, hm, Nat.zero_le _, Nat.zero_le _⟩, g6, g4, .inl ⟨rfl, g2, g3⟩⟩
          exact tkR_1 (e3.trans g1) g6 (by obtain ⟨-, _, g3⟩ := g3; exact g3.1.1.2.1.2.2.1) rfl
        by_cases c : u = -1
        · rw [if_pos c] at e2
          rw [if_pos c]
          exact go (by rw [c]; exact iU_m) e2
        · rw [if_neg c] at e2
          rw [if_neg c]
          by_cases c2 : iU t 1 j u = -1
          · rw [if_pos c2] at e2
            rw [if_pos c2]
            exact go c2 e2
          · rw [if_neg c2] at e2
            rw [if_neg c2]
            exact GRo_no p3 hm (why := 5) (by omega) e2 d5 rfl
      by_cases c : A = -1
      · refine out (-1) (.inl rfl) ?_ ?_
        · unfold c149
          refine (bnd (kT_s p3) rfl).trans ?_
          refine (bnd (nmx_k B0.1 A) rfl).trans ?_
          rw [if_pos c, c, nmx_m B0.1]
        · refine (bnd d2 rfl).trans ?_
          refine (bnd n2T rfl).trans ?_
          rw [if_pos c]
          unfold c275_j307
          refine (bnd n2T rfl).trans ?_
          rw [if_pos c]
      · have eA : ((c201 1 j 3 1 t).bind (fun h8 => (c256 (gn tx i) 2 h8).bind (fun v16 => if v16 = (-1) then c275_j307 (-1) (gn tx i) ch j h8 else (c256 (gn tx i) 2 h8).bind (fun v18 => (c197 1 v18 h8).bind (fun v19 => c275_j307 v19 (gn tx i) ch j h8))))) = if nmx t m A = -1 then some (0, rfS 1 ch (-1) tT1) else c275_j333 ch j (nmx t m A) tT1 := by
          refine (bnd d2 rfl).trans ?_
          refine (bnd n2T rfl).trans ?_
          rw [if_neg c]
          refine (bnd n2T rfl).trans ?_
          refine (bnd (c197_w d3.1.1 A) rfl).trans ?_
          rw [nmT]
          unfold c275_j307
          refine (bnd n2T rfl).trans ?_
          rw [if_neg c]
          rfl
        have eC : c149 P (kd h P j) A h = if nmx t m A = -1 then some (1, h) else c149_j17 (kd h P j) (kd h P (nmx t m A)) h := by
          unfold c149
          refine (bnd (kT_s p3) rfl).trans ?_
          refine (bnd (nmx_k B0.1 A) rfl).trans ?_
          rw [if_neg c]
          by_cases c2 : nmx t m A = -1
          · rw [if_pos c2, c2, kd_m]
            exact bnd hnul_0 rfl
          · rw [if_neg c2]
            obtain ⟨u0, u1⟩ : 0 ≤ nmx t m A ∧ nmx t m A < m := by
              rcases nmx_b (hr := t) (m := m) A with y | y
              · exact absurd y c2
              · exact ⟨y.1, y.2.1⟩
            have ku := kd_8 B0.1 u0 u1
            refine (bnd (hnul_8 (by omega)) rfl).trans ?_
            rw [if_neg (by decide)]
        by_cases c2 : nmx t m A = -1
        · rw [if_pos c2] at eA eC
          rw [eA]
          exact GRo_no p3 hm (why := 1) (by omega) (e1.trans eC) d5 rfl
        · rw [if_neg c2] at eA eC
          refine out (nmx t m A) ?_ eC eA
          rcases nmx_b (hr := t) (m := m) A with y | y
          · exact .inl y
          · exact .inr ⟨y.1, y.2.1⟩
    · -- check
      rw [if_pos e]
      have e1 := e147 S (by omega)
      rw [if_neg (by omega), if_neg (by omega), if_neg (by omega), if_neg (by omega), if_neg (by omega), if_neg (by omega), if_pos rfl] at e1
      refine ⟨0, 0, h, t, m, 0, 0, ?_, ⟨rfl, rfl, rfl, hm, Nat.zero_le _, Nat.zero_le _⟩, fun _ _ => sm_rf, fp_rf, .inl ⟨rfl, rfl, UT, r, B⟩⟩
      exact tkR_1 e1 (fun _ _ => sm_rf) p3 rfl
end GRP
