/-! a step is made; a member's place is looked at -/
section STP
variable {n l p m d mk : Nat} {b : Nat → Int} {hc hr hc' hr' : hS} {K : Nat → Int → Prop} {r : Int → Nat}
/-- a step told: its sort, the change, the kind, the name, the other number, the code -/
def SPc (h : hS) (x : Nat) (s c k nm o : Int) (cd : Nat) : Prop := hT h x = 22 ∧ hI h x 0 = s ∧ hI h x 1 = c ∧ hI h x 2 = k ∧ hI h x 3 = nm ∧ hI h x 4 = o ∧ hR h x 5 = cd
theorem c48_e {s c k nm o : Int} {cd : Nat} (h8 : 8 ≤ hN hc) : ∃ h, c48 (hN hc) s c k nm o cd (mkH hc 22 6) = some h ∧ (hN h = hN hc + 1 ∧ hM h = hM hc + 6) ∧ FZ (hN hc) hc h ∧ SPc h (hN hc) s c k nm o cd := by
  have t0 : hT (mkH hc 22 6) (hN hc) = 22 := by rw [hT_mk, if_pos rfl]
  have e : c48 (hN hc) s c k nm o cd (mkH hc 22 6) = some (sR (sI (sI (sI (sI (sI (mkH hc 22 6) (hN hc) 0 s) (hN hc) 1 c) (hN hc) 2 k) (hN hc) 3 nm) (hN hc) 4 o) (hN hc) 5 cd) := by
    unfold c48
    rw [k8_s h8]
    simp only [bsome]
    rw [pI_s (h := mkH hc 22 6) (x := hN hc) (t := 22) t0]
    simp only [bsome]
    rw [pI_s (h := sI (mkH hc 22 6) (hN hc) 0 s) (x := hN hc) (t := 22) t0]
    simp only [bsome]
    rw [pI_s (h := sI (sI (mkH hc 22 6) (hN hc) 0 s) (hN hc) 1 c) (x := hN hc) (t := 22) t0]
    simp only [bsome]
    rw [pI_s (h := sI (sI (sI (mkH hc 22 6) (hN hc) 0 s) (hN hc) 1 c) (hN hc) 2 k) (x := hN hc) (t := 22) t0]
    simp only [bsome]
    rw [pI_s (h := sI (sI (sI (sI (mkH hc 22 6) (hN hc) 0 s) (hN hc) 1 c) (hN hc) 2 k) (hN hc) 3 nm) (x := hN hc) (t := 22) t0]
    simp only [bsome]
    rw [pR_s (h := sI (sI (sI (sI (sI (mkH hc 22 6) (hN hc) 0 s) (hN hc) 1 c) (hN hc) 2 k) (hN hc) 3 nm) (hN hc) 4 o) (x := hN hc) (t := 22) t0]
    rfl
  refine ⟨_, e, ⟨rfl, rfl⟩, ⟨⟨Nat.le_succ _, Nat.le_add_right _ _⟩, fun x hx => ⟨fun j => ?_, fun j => ?_, ?_, ?_⟩⟩, t0, ?_, ?_, ?_, ?_, ?_, ?_⟩
  · rw [hI_sR, hI_sI, if_neg (by omega), hI_sI, if_neg (by omega), hI_sI, if_neg (by omega), hI_sI, if_neg (by omega), hI_sI, if_neg (by omega), hI_mk, if_neg (by omega)]
  · rw [hR_sR, if_neg (by omega)]
    show hR (mkH hc 22 6) x j = _
    rw [hR_mk, if_neg (by omega)]
  · show hT (mkH hc 22 6) x = _
    rw [hT_mk, if_neg (by omega)]
  · show hL (mkH hc 22 6) x = _
    rw [hL_mk, if_neg (by omega)]
  · rw [hI_sR, hI_sI, if_neg (by omega), hI_sI, if_neg (by omega), hI_sI, if_neg (by omega), hI_sI, if_neg (by omega), hI_sI, if_pos ⟨rfl, rfl⟩]
  · rw [hI_sR, hI_sI, if_neg (by omega), hI_sI, if_neg (by omega), hI_sI, if_neg (by omega), hI_sI, if_pos ⟨rfl, rfl⟩]
  · rw [hI_sR, hI_sI, if_neg (by omega), hI_sI, if_neg (by omega), hI_sI, if_pos ⟨rfl, rfl⟩]
  · rw [hI_sR, hI_sI, if_neg (by omega), hI_sI, if_pos ⟨rfl, rfl⟩]
  · rw [hI_sR, hI_sI, if_pos ⟨rfl, rfl⟩]
  · rw [hR_sR, if_pos ⟨rfl, rfl⟩]
theorem nwF_3 {w j s nm : Int} : nwF hr w j s nm = 0 ∨ nwF hr w j s nm = 4 ∨ nwF hr w j s nm = 5 := by
  unfold nwF
  repeat' split
  all_goals first | exact .inl rfl | exact .inr (.inl rfl) | exact .inr (.inr rfl)
/-- the other side's look at a member told anew -/
theorem c204_t {j s nm : Int} (W : WF hr 1 mk r) (j0 : 0 ≤ j) (j1 : j < mk) (hs : 202 ≤ s ∧ s ≤ 205) (pl : Int) : (if j = -1 then c204_j180 j (s - 100) nm hr else if s - 100 = 105 then (c205 1 j nm hr).bind (fun v51 => if v51 = -1 then c204_j104 0 j (s - 100) pl nm hr else c204_j104 1 j (s - 100) pl nm hr) else (c206 1 j nm hr).bind (fun v34 => if v34 = 0 then (c209 1 j nm hr).bind (fun v49 => if v49 = 0 then c204_j104 0 j (s - 100) pl nm hr else c204_j99 j (s - 100) pl nm hr) else c204_j99 j (s - 100) pl nm hr)) = (if nwF hr 1 j s nm = 0 then c204_j180 j (s - 100) nm hr else (c195 (nwF hr 1 j s nm) pl hr).bind (fun v => (kB v.1).bind (fun _ => some (v.1, v.2)))) := by
  have hm := W.2.1
  obtain ⟨w1, w2, w3, w4, w5⟩ := W.2.2 j j0 j1
  have e104 : ∀ f : Int, c204_j104 1 j (s - 100) pl nm hr = (c195 4 pl hr).bind (fun v => (kB v.1).bind (fun _ => some (v.1, v.2))) := fun f => by
    unfold c204_j104
    rw [if_neg (by omega)]
  have e4 := e104 0
  rw [if_neg (show ¬ j = -1 by omega)]
  by_cases c : s = 205
  · rw [if_pos (show s - 100 = 105 by omega), c205_w W (by omega) (by omega) j0 j1]
    simp only [bsome]
    have eF : nwF hr 1 j s nm = if aIx hr 1 j nm = -1 then (if wg hr 1 j 39 = 8 then 5 else 0) else 4 := by unfold nwF; rw [if_pos c]
    rw [eF]
    by_cases q : aIx hr 1 j nm = -1
    · rw [if_pos q, if_pos q]
      unfold c204_j104 c204_j173
      rw [if_pos rfl, if_pos (show s - 100 = 105 by omega), c199_e (by omega) (by omega) j0 (by omega) (by omega) (by omega)]
      simp only [bsome]
      by_cases q8 : wg hr 1 j 39 = 8
      · rw [if_pos q8, if_pos q8, if_neg (by omega)]
      · rw [if_neg q8, if_neg q8, if_pos rfl]
    · rw [if_neg q, if_neg q, e4, if_neg (by omega)]
  · have eH := hAt_st (n := nm) W j0 j1
    have eF : nwF hr 1 j s nm = if hAt hr 1 j nm = -1 then (if s = 204 then (if wg hr 1 j 30 = 4 then 5 else 0) else (if wg hr 1 j 5 = 8 then 5 else 0)) else 4 := by unfold nwF; rw [if_neg c]
    rw [if_neg (show ¬ s - 100 = 105 by omega), c206_h W (by omega) (by omega) j0 j1]
    simp only [bsome]
    by_cases q : hOw hr 1 j nm = true
    · rw [if_pos q] at eH
      rw [if_pos q, if_neg (show ¬ (1 : Int) = 0 by omega), eF, eH, if_neg (show ¬ j = -1 by omega), if_neg (show ¬ (4 : Int) = 0 by omega)]
      unfold c204_j99
      exact e4
    · rw [if_neg q] at eH
      rw [if_neg q, if_pos rfl, c209_w W (by omega) (by omega) j0 j1, ← eH]
      simp only [bsome]
      rw [eF]
      by_cases q2 : hAt hr 1 j nm = -1
      · rw [if_pos q2, if_pos q2, if_pos rfl]
        unfold c204_j104 c204_j173
        rw [if_pos rfl, if_neg (show ¬ s - 100 = 105 by omega)]
        by_cases c4 : s = 204
        · rw [if_pos (show s - 100 = 104 by omega), if_pos c4, c199_e (by omega) (by omega) j0 (by omega) (by omega) (by omega)]
          simp only [bsome]
          by_cases q8 : wg hr 1 j 30 = 4
          · rw [if_pos q8, if_pos q8, if_neg (by omega)]
          · rw [if_neg q8, if_neg q8, if_pos rfl]
        · rw [if_neg (show ¬ s - 100 = 104 by omega), if_neg c4, c199_e (by omega) (by omega) j0 (by omega) (by omega) (by omega)]
          simp only [bsome]
          by_cases q8 : wg hr 1 j 5 = 8
          · rw [if_pos q8, if_pos q8, if_neg (by omega)]
          · rw [if_neg q8, if_neg q8, if_pos rfl]
      · rw [if_neg q2, if_neg q2, if_neg (show ¬ (1 : Int) = 0 by omega), if_neg (show ¬ (4 : Int) = 0 by omega)]
        unfold c204_j99
        exact e4
/-- the other side's way to a value -/
theorem c204_v {j sr nm : Int} (hs : sr ≠ 105) : c204_j180 j sr nm hr = (RV sr hr).bind (fun v => if v.1 = 0 then some (0, v.2) else c204_j271 j sr nm v.2) := by
  unfold c204_j180 RV
  rw [if_neg hs]
  simp only [bsome]
  by_cases c : sr = 103
  · rw [if_pos c, if_pos c]
    rfl
  · rw [if_neg c, if_neg c]
    cases h1 : c202 61 (sI hr 395 24 (-1)) with
    | none => rfl
    | some v =>
      simp only [bsome]
      by_cases z : v.1 = 0
      · rw [if_pos z, if_pos z]
        rfl
      · rw [if_neg z, if_neg z]
/-- the other side's tables of fields, of statics, of acts grow -/
theorem c223_x {j nm v : Int} {F : Nat} (j0 : 0 ≤ j) (j1 : j < 12) (hF : wg hr 1 j 5 = (F : Int)) (hF8 : F < 8) : ∃ hr', c223 1 j nm v hr = some hr' ∧ fw hr hr' ∧ ∀ u g : Int, 0 ≤ u → u < 12 → 0 ≤ g → g < 64 → wg hr' 1 u g = if u = j ∧ g = 22 + F then -1 else if u = j ∧ g = 14 + F then v else if u = j ∧ g = 6 + F then nm else if u = j ∧ g = 5 then ((F + 1 : Nat) : Int) else wg hr 1 u g := by
  refine ⟨wset (wset (wset (wset hr 1 j 5 ((F + 1 : Nat) : Int)) 1 j (6 + F) nm) 1 j (14 + F) v) 1 j (22 + F) (-1), ?_, fp_tr (fp_tr (fp_tr (fw_set j0 (by omega) (by omega) (by omega)) (fw_set j0 (by omega) (by omega) (by omega))) (fw_set j0 (by omega) (by omega) (by omega))) (fw_set j0 (by omega) (by omega) (by omega)), fun u g u0 u1 g0 g1 => by rw [wgs j0 (by omega) (by omega) (by omega) u0 u1 g0 g1, wgs j0 (by omega) (by omega) (by omega) u0 u1 g0 g1, wgs j0 (by omega) (by omega) (by omega) u0 u1 g0 g1, wgs j0 (by omega) (by omega) (by omega) u0 u1 g0 g1]⟩
  unfold c223
  rw [c199_e (by omega) (by omega) j0 (by omega) (by omega) (by omega), hF]
  simp only [bsome]
  rw [wadd_n (by omega), c201_e (by omega) (by omega) j0 (by omega) (by omega) (by omega)]
  simp only [bsome]
  rw [wadd_e (x := 6) (by omega) (by omega), c201_e (by omega) (by omega) j0 (by omega) (by omega) (by omega)]
  simp only [bsome]
  rw [wadd_e (x := 14) (by omega) (by omega), c201_e (by omega) (by omega) j0 (by omega) (by omega) (by omega)]
  simp only [bsome]
  rw [wadd_e (x := 22) (by omega) (by omega), c201_e (by omega) (by omega) j0 (by omega) (by omega) (by omega)]
  rfl
theorem c222_x {j nm v : Int} {F : Nat} (j0 : 0 ≤ j) (j1 : j < 12) (hF : wg hr 1 j 30 = (F : Int)) (hF8 : F < 4) : ∃ hr', c222 1 j nm v hr = some hr' ∧ fw hr hr' ∧ ∀ u g : Int, 0 ≤ u → u < 12 → 0 ≤ g → g < 64 → wg hr' 1 u g = if u = j ∧ g = 35 + F then v else if u = j ∧ g = 31 + F then nm else if u = j ∧ g = 30 then ((F + 1 : Nat) : Int) else wg hr 1 u g := by
  refine ⟨wset (wset (wset hr 1 j 30 ((F + 1 : Nat) : Int)) 1 j (31 + F) nm) 1 j (35 + F) v, ?_, fp_tr (fp_tr (fw_set j0 (by omega) (by omega) (by omega)) (fw_set j0 (by omega) (by omega) (by omega))) (fw_set j0 (by omega) (by omega) (by omega)), fun u g u0 u1 g0 g1 => by rw [wgs j0 (by omega) (by omega) (by omega) u0 u1 g0 g1, wgs j0 (by omega) (by omega) (by omega) u0 u1 g0 g1, wgs j0 (by omega) (by omega) (by omega) u0 u1 g0 g1]⟩
  unfold c222
  rw [c199_e (by omega) (by omega) j0 (by omega) (by omega) (by omega), hF]
  simp only [bsome]
  rw [wadd_n (by omega), c201_e (by omega) (by omega) j0 (by omega) (by omega) (by omega)]
  simp only [bsome]
  rw [wadd_e (x := 31) (by omega) (by omega), c201_e (by omega) (by omega) j0 (by omega) (by omega) (by omega)]
  simp only [bsome]
  rw [wadd_e (x := 35) (by omega) (by omega), c201_e (by omega) (by omega) j0 (by omega) (by omega) (by omega)]
  rfl
end STP
