/-! a patch is made: all its steps, one behind the other -/
/-- the class's steps: stopped (X) or made (Y) -/
def mkX {α : Type} (p pt : Nat) (X : hS → Option α) (Y : Nat → hS → Option α) (h : hS) : Option α := (c140 p h).bind (fun v4 => (c142 pt p v4.1 v4.2).bind (fun v6 => if v6.1 = 0 then X v6.2 else (c153 pt v4.1 v6.2).bind (fun v9 => if v9.1 = 0 then X v9.2 else (c164 pt v9.2).bind (fun v11 => if v11.1 = 0 then X v11.2 else Y v4.1 v11.2))))
/-- the other side behind the checks -/
def mkT (k : Int) (t : hS) : Option (Int × hS) := (some (sI t 395 27 (wadd (hI t 395 27) 1))).bind (fun h59 => (some (sI h59 395 29 k)).bind (fun h60 => (lp (fun s => c283_b515 s.1 s.2) hF0 (0, h60)).bind (fun r67 => some (1, r67))))
section MK2
variable {h h' h0 hX hZ hY t t' tX tZ tY t5 : hS} {K : Nat → Int → Prop} {p m0 m q k pt S A qq N0 : Nat} {r0 r : Int → Nat} {G : Int} {us Lc : List Nat} {f : Nat} {P tx pk : Nat} {fi : Int}
theorem fw_sc (a : fw t t') : scT t t' := ⟨a.1, fun x j z => a.2 x j (by omega)⟩
theorem cyT_sc (a : cyM t t') : scT t t' := ⟨a.1, fun x j z => a.2 x j (by omega)⟩
theorem ckT_sc (a : ckM t t') : scT t t' := ⟨a.1, fun x j z => a.2 x j (by omega)⟩
theorem ntx_c {tx : Nat} (e : ∀ j, hI t' 399 j = hI t 399 j) : ntx t' tx = ntx t tx := by
  funext a b
  exact e _
theorem PR_us (Q : PRq h t K p m0 q r0 G k pt S A qq N0 us Lc f) : ∀ y ∈ us, 448 ≤ y ∧ y < hN h := fun y hy => by
  obtain ⟨-, -, ⟨-, -, LL, N8, -⟩, -⟩ := Q
  obtain ⟨i, hi⟩ := List.getElem?_of_mem hy
  obtain ⟨-, x2, x3, -⟩ := LL.2.2.2 i y hi
  exact ⟨by omega, x3⟩
theorem CAB_m (Q : PRq h t K p m0 q r0 G k pt S A qq N0 us Lc f) (NW : NWq hZ tZ K (hN h) m r m0 (G + 1)) (Sm : ∀ x, x < hN h → sm h hZ x) (fz : fw t tZ) (rN : hN h ≤ hN hZ ∧ hM h ≤ hM hZ) : CAB hZ tZ h K p (hN h) m0 m q r0 r (G + 1) pt S A qq N0 (k + 1) k us Lc (f : Int) := by
  obtain ⟨RT0, C0, ⟨⟨x1, x2⟩, ⟨x3, x4⟩, LL, N8, A8, l5, bnd1⟩, ⟨k6, e401, hl, h12, CH, HY⟩, ⟨G0, G1, eG, eG2, gens⟩, e54, T24, T52, BL, h448, -⟩ := Q
  have lc := CHS_n CH
  have nx : ntx tZ (k + 1) = ntx t (k + 1) := ntx_c (fun j => fz.2 399 j (by omega))
  have s24 := Sm 24 (by omega)
  have s52 := Sm 52 (by omega)
  have s48 := Sm 48 (by omega)
  refine ⟨RT_sc RT0 (scH_sm Sm rN) (fw_sc fz) rfl h448, NW, ⟨CF_x (fw_x RT0.2.1.1 fz) RT0.2.1.1 C0, h448, rfl⟩, ⟨⟨x1, x2, x4⟩, LL, N8, A8, by omega, x3⟩, Sm, ⟨by omega, k6, ?_, by rw [nx]; exact hl, h12, by omega, by rw [nx]; exact CH⟩, by rw [fz.2 395 54 (by omega)]; exact e54, by rw [s24.2.2.1]; exact T24, ⟨by rw [s52.2.2.1]; exact T52.1, by rw [s52.2.2.2]; exact T52.2⟩, fun c n c40 n40 => by rw [(Sm (217 + 4 * c) (by omega)).1]; exact BL c n c40 n40, by omega, by omega, by rw [s48.1, eG]; omega⟩
  · rw [fz.2 401 k (by omega), e401]
    unfold gf
    rw [if_neg (by omega), Int.toNat_natCast]
    unfold gn
    omega
/-- the moves may begin -/
theorem CY_HK (B : CAB hZ tZ h0 K p P m0 m q r0 r G pt S A qq N0 tx pk us Lc fi) (C : CYq hZ tZ P m q 40 hY tY) : WF tY 1 m r ∧ WF tY 0 m0 r0 ∧ hI tY 395 33 = (q : Int) ∧ q ≤ 40 ∧ ∀ c, c < q → hI tY 446 c ≠ -1 → (0 ≤ hI tY 446 c ∧ hI tY 446 c < m) ∧ 0 ≤ hI tY 404 c ∧ hI tY 404 c < m0 := by
  obtain ⟨RT0, ⟨Pw1, -⟩, -⟩ := id B
  obtain ⟨SH0, Pw0, TB0', CR0, hp, KD0⟩ := RT0
  obtain ⟨⟨cH, cT⟩, -, D, -⟩ := C
  have q40 := CR0.2.2.1
  refine ⟨WF_cy Pw1.1 cT, WF_cy Pw0.1 cT, by rw [cT.2 395 33 (by omega)]; exact CR0.2.1, q40, fun c cq hc => ?_⟩
  obtain ⟨d1, d2, -⟩ := D c (by omega)
  obtain ⟨r1, r2, r3, r4⟩ := CR0.2.2.2 c (by omega)
  rcases r1 with z | z
  · exact absurd ((d1 z).2 cq) hc
  · have x1 := (d2 z).1
    obtain ⟨⟨o0, o1, -⟩, -⟩ := r4 z
    rw [cT.2 404 c (by omega)]
    refine ⟨?_, o0, o1⟩
    rw [x1] at hc ⊢
    rcases nmx_b (hr := tZ) (m := m) (wg tZ 0 (hI tZ 404 c) 0) with v | v
    · exact absurd v hc
    · exact ⟨v.1, v.2.1⟩
/-- making a patch: both stop alike, or both have made it -/
theorem MK_2 (Q : PRq h t K p m0 q r0 G k pt S A qq N0 us Lc f) : (∃ h' t', (∀ (X : hS → Option (Nat × hS)) Y, mkX p pt X Y h = X h') ∧ c274 (k : Int) t = some (0, t') ∧ scH (hN h) h h' ∧ scT t t' ∧ hI t' 395 54 = 0 ∧ (hI h' 48 10 = hI t' 395 82 ∧ hI h' 48 11 = hI t' 395 83 ∧ hI h' 48 12 = hI t' 395 84) ∧ (hN h' ≤ hN h + 1224 ∧ hM h' ≤ hM h + 25112) ∧ JQr h h') ∨ (∃ hZ tZ hY tY t5 h6 t6 m r, (∀ (X : hS → Option (Nat × hS)) Y, mkX p pt X Y h = Y (hN h) h6) ∧ (∀ t7, mkT (k : Int) t6 = some (1, t7) → c274 (k : Int) t = some (1, t7)) ∧ CAB hZ tZ h K p (hN h) m0 m q r0 r (G + 1) pt S A qq N0 (k + 1) k us Lc (f : Int) ∧ fw t tZ ∧ CYq hZ tZ (hN h) m q 40 hY tY ∧ MVq tY t5 m q ∧ CKB hY t5 K (hN h) m q r ∧ (ckH hY h6 ∧ ckT t5 t6) ∧ hI t6 395 54 = 0 ∧ (hN h ≤ hN hZ ∧ hM h ≤ hM hZ) ∧ hN h6 ≤ hN h + 1224 ∧ hM h6 ≤ hM h + 25112 ∧ JQr h h6) := by
  obtain ⟨hX, ta, tb, e1, e2, e3, fb, cs⟩ := MK_1 Q
  have us8 := PR_us Q
  have jX : JQr h hX := j_c140 JQ_rf _ e1
  obtain ⟨RT0, C0, ⟨⟨x1, x2⟩, ⟨x3, x4⟩, LL, N8, A8, l5, bnd1⟩, ⟨k6, e401, hl, h12, CH, HY⟩, -, -, -, -, -, h448, b7⟩ := id Q
  have gt : gn (k + 1) f = hI t 401 k := by
    rw [e401]
    unfold gn
    omega
  have r1 : hI tb 401 k = gn (k + 1) f := by rw [fb.2 401 k (by omega), gt]
  have top : ∀ R, ((lp (fun s => c274_b82 s.1 s.2.1 s.2.2) hF0 (0, gn (k + 1) f, tb)).bind (fun r16 => xs r16 (fun x16 => (c282 x16).bind (fun v17 => if v17.1 = 0 then some (0, v17.2) else (lp (fun s => c274_b122 s.1 s.2) hF0 (0, v17.2)).bind (fun r29 => (lp (fun s => c274_b194 s.1 s.2) hF0 (0, r29)).bind (fun r45 => (c283 (k : Int) r45).bind (fun v46 => (kB v46.1).bind (fun u47 => some (v46.1, v46.2))))))) (fun o16 => some o16))) = R → c274 (k : Int) t = R := fun R eR => by
    unfold c274
    refine bnd e2 ?_
    refine bnd e3 ?_
    refine bnd (aIs_s (by omega) (by omega)) ?_
    rw [Int.toNat_natCast, r1]
    exact eR
  rcases cs with ⟨hZ, tc, td, te, tZ, m, r, d1, d2, d3, d4, d5, -, NW, Sm, fz, rN, n1, n2⟩ | ⟨h', t', d1, d2, d3, d4, d5, ⟨n1, n2⟩, d6⟩
  · have B := CAB_m Q NW Sm fz rN
    have jZ : JQr h hZ := j_c142 jX _ d1
    have scZ : scH (hN h) h hZ := scH_sm Sm rN
    have top2 : ∀ R, (c283 (k : Int) tZ).bind (fun v46 => (kB v46.1).bind (fun u47 => some (v46.1, v46.2))) = R → c274 (k : Int) t = R := fun R eR => top R (by
      refine bnd d2 ?_
      rw [xs_il]
      refine bnd d3 ?_
      rw [if_neg (by omega)]
      refine bnd d4 ?_
      refine bnd d5 ?_
      exact eR)
    rcases CY_e B (fun y hy => by have := us8 y hy; omega) with ⟨hY, tY, a1, ⟨ti, a2, a3⟩, C⟩ | ⟨h', t', a1, ⟨ti, a2, a3⟩, RF⟩
    · obtain ⟨W1, W0, e33, q40, HK⟩ := CY_HK B C
      obtain ⟨va, vb, vc, vd, t5, v1, v2, v3, v4, v5, M⟩ := MV_e W1 W0 e33 q40 HK
      have BB := CKB_e B C M
      obtain ⟨⟨cH, cT⟩, e54, -, -⟩ := id C
      have nx : ntx t5 (k + 1) = ntx t (k + 1) := ntx_c (fun j => by rw [M.1.2 399 j (by omega), cT.2 399 j (by omega), fz.2 399 j (by omega)])
      have smY : ∀ x, 448 ≤ x → x < hN h → sm h hY x := fun x x8 xP => sm_tr (Sm x xP) ⟨fun j => cH.2.2 x j (by omega), fun j => cH.2.1 x j (by omega), by rw [cH.1.2.1], by rw [cH.1.2.2.1]⟩
      have ef : gf (k + 1) (f : Int) = gn (k + 1) f := by unfold gf; rw [if_neg (by omega), Int.toNat_natCast]
      have lc := CHS_n CH
      obtain ⟨o, t6, k1, k2⟩ := CKA (tx := k + 1) BB smY rfl (by omega) N8 Lc us 0 (f : Int) hF0 hY t5 (hF0_lt (by omega)) (by omega) (by rw [nx]; exact hl) h12 (by rw [nx]; exact CH) us8 ckH_rf fp_rf BB.2.2.2.2.2.2.1
      rw [ef] at k2
      have l4 : lp (fun s => c164_b2 pt s.1 s.2) hF0 (0, hY) = some (if o.1 = 0 then .inr (0, o.2) else .inl o.2) := c164_l (h0 := h) (pt := pt) (S := S) (A := A) (us := us) (N0 := N0) ⟨x1, x2, x3, x4⟩ LL N8 rfl A8 (by omega) us [] 0 hF0 hY o rfl rfl (hF0_lt (by omega)) smY k1
      have e5 : hI t5 401 k = gn (k + 1) f := by rw [M.1.2 401 k (by omega), cT.2 401 k (by omega), fz.2 401 k (by omega), ← gt]
      have top3 : ∀ R, ((c289 (k : Int) t5).bind (fun v57 => if v57.1 = 0 then (c226 2 0 v57.2).bind (fun h68 => (lp (fun s => c283_b388 s.1 s.2) hF0 (0, h68)).bind (fun r72 => (lp (fun s => c283_b419 s.1 s.2) hF0 (0, r72)).bind (fun r80 => (lp (fun s => c283_b470 s.1 s.2) hF0 (0, r80)).bind (fun r84 => some (0, r84))))) else mkT (k : Int) v57.2)) = R → c283 (k : Int) tZ = R := fun R eR => by
        unfold c283
        refine bnd a2 ?_
        refine bnd rfl ?_
        refine bnd a3 ?_
        rw [xs_il]
        refine bnd v1 ?_
        refine bnd v2 ?_
        refine bnd v3 ?_
        refine bnd v4 ?_
        refine bnd v5 ?_
        exact eR
      have cl : ∀ (X : hS → Option (Nat × hS)) Y, mkX p pt X Y h = if o.1 = 0 then X o.2 else Y (hN h) o.2 := fun X Y => by
        unfold mkX
        refine bnd e1 ?_
        refine bnd d1 ?_
        rw [if_neg (by omega)]
        refine bnd a1 ?_
        rw [if_neg (by omega)]
        by_cases z : o.1 = 0
        · rw [if_pos z] at l4 ⊢
          refine bnd (show c164 pt hY = some (0, o.2) from ?_) ?_
          · unfold c164
            refine bnd l4 ?_
            rw [xs_ir]
          · rw [if_pos rfl]
        · rw [if_neg z] at l4 ⊢
          refine bnd (show c164 pt hY = some (1, o.2) from ?_) ?_
          · unfold c164
            refine bnd l4 ?_
            rw [xs_il]
          · rw [if_neg (show ¬ (1 : Int) = 0 by omega)]
      rcases k2 with ⟨o1, o2, o3, o4, o5⟩ | ⟨o1, o2, o3⟩
      · refine .inr ⟨hZ, tZ, hY, tY, t5, o.2, t6, m, r, fun X Y => by rw [cl, if_neg (by omega)], fun t7 eo => ?_, B, fz, C, M, BB, ⟨o3, o4⟩, o5, rN, by rw [o3.1.2.2.2.1, cH.1.2.2.2.1]; exact n1, by rw [o3.1.2.2.2.2, cH.1.2.2.2.2]; exact n2, JQ_tr jZ (JQ_eq (o3.1.1.trans cH.1.1) (by rw [o3.1.2.2.2.1, cH.1.2.2.2.1]; exact Nat.le_refl _))⟩
        refine top2 _ ?_
        refine bnd (top3 (some (1, t7)) ?_) ?_
        · unfold c289
          refine bnd (show _ = some (1, t6) from ?_) ?_
          · refine bnd (aIs_s (by omega) (by omega)) ?_
            rw [Int.toNat_natCast, e5]
            refine bnd o2 ?_
            rw [xs_il]
          · rw [if_neg (show ¬ (1 : Int) = 0 by omega)]
            exact eo
        · rfl
      · obtain ⟨q1, q2, q3, q4, q5, q6⟩ := o3
        obtain ⟨wa, wb, wc, wd, w1, w2, w3, w4, w5, w6, w7, w8, w9⟩ := RS_all M q2 e33 q40 (fun j hj => by rw [cT.2 407 j (by omega), fz.2 407 j (by omega)]; exact b7 j hj)
        refine .inl ⟨o.2, wd, fun X Y => by rw [cl, if_pos o1], ?_, scH_tr scZ (scH_tr (scH_cy (cyL_o cH)) (scH_cy (ckL_cy q1))), fp_tr (fw_sc fz) (fp_tr (cyT_sc (cyM_o cT)) w5), by rw [w9]; exact q3, ⟨by rw [w6]; exact q4, by rw [w7]; exact q5, by rw [w8]; exact q6⟩, ⟨by rw [q1.1.2.2.2.1, cH.1.2.2.2.1]; exact n1, by rw [q1.1.2.2.2.2, cH.1.2.2.2.2]; exact n2⟩, JQ_tr jZ (JQ_eq (q1.1.1.trans cH.1.1) (by rw [q1.1.2.2.2.1, cH.1.2.2.2.1]; exact Nat.le_refl _))⟩
        refine top2 _ ?_
        refine bnd (top3 (some (0, wd)) ?_) ?_
        · unfold c289
          refine bnd (show _ = some (0, t6) from ?_) ?_
          · refine bnd (aIs_s (by omega) (by omega)) ?_
            rw [Int.toNat_natCast, e5]
            refine bnd o2 ?_
            rw [xs_ir]
          · rw [if_pos rfl]
            refine bnd w1 ?_
            refine bnd w2 ?_
            refine bnd w3 ?_
            refine bnd w4 ?_
            rfl
        · rfl
    · obtain ⟨q1, q2, q3, q4, q5, q6⟩ := RF
      refine .inl ⟨h', t', fun X Y => ?_, ?_, scH_tr scZ (scH_cy q1), fp_tr (fw_sc fz) (cyT_sc q2), q3, ⟨q4, q5, q6⟩, ⟨by rw [q1.1.2.2.2.1]; exact n1, by rw [q1.1.2.2.2.2]; exact n2⟩, JQ_tr jZ (JQ_eq q1.1.1 (by rw [q1.1.2.2.2.1]; exact Nat.le_refl _))⟩
      · unfold mkX
        refine bnd e1 ?_
        refine bnd d1 ?_
        rw [if_neg (by omega)]
        refine bnd a1 ?_
        rw [if_pos rfl]
      · refine top2 _ ?_
        refine bnd (show c283 (k : Int) tZ = some (0, t') from ?_) ?_
        · unfold c283
          refine bnd a2 ?_
          refine bnd rfl ?_
          refine bnd a3 ?_
          rw [xs_ir]
        · rfl
  · refine .inl ⟨h', t', fun X Y => ?_, ?_, d2, d3, d4, d5, ⟨n1, n2⟩, j_c142 jX _ d1⟩
    · unfold mkX
      refine bnd e1 ?_
      refine bnd d1 ?_
      rw [if_pos rfl]
    · rcases d6 with d6 | ⟨tc, d6, d7⟩
      · refine top _ ?_
        refine bnd d6 ?_
        rw [xs_ir]
      · refine top _ ?_
        refine bnd d6 ?_
        rw [xs_il]
        refine bnd d7 ?_
        rw [if_pos rfl]
end MK2
