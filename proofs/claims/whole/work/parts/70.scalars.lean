/-! the calls that read and write single numbers -/
section SCL
variable {hc hr : hS} {q : Nat}
def fltR (hc hr : hS) : Prop := hI hc 15 4 = hI hr 395 13 ∧ hI hc 15 5 = hI hr 395 14
def tldR (hc hr : hS) : Prop := hI hc 8 11 = hI hr 395 56 ∧ hI hc 8 12 = hI hr 395 57 ∧ hI hc 8 13 = hI hr 395 58
def rfsR (hc hr : hS) : Prop := hI hc 48 10 = hI hr 395 82 ∧ hI hc 48 11 = hI hr 395 83 ∧ hI hc 48 12 = hI hr 395 84
def nmcR (hc hr : hS) : Prop := hI hc 15 2 = hI hr 395 7 ∧ 0 ≤ hI hc 15 2 ∧ hI hc 15 2 ≤ 40
def outR (hc hr : hS) (q : Nat) : Prop := hI hc 8 9 = hI hr 395 59 ∧ ∀ c : Nat, c < q → hI hc 20 c = hI hr 418 c
def rnnR (hc hr : hS) : Prop := hI hc 22 13 = hI hr 395 66 ∧ (0 ≤ hI hc 22 13 ∧ hI hc 22 13 ≤ 50) ∧ ∀ i : Nat, (i : Int) < hI hc 22 13 → hI hc 26 (4 * i) = hI hr 419 i ∧ hI hc 26 (4 * i + 1) = hI hr 420 i ∧ hI hc 26 (4 * i + 2) = hI hr 421 i ∧ hI hc 26 (4 * i + 3) = hI hr 422 i
theorem api5 (F : fltR hc hr) (n : Int) : ∃ v, c97 n hc = some v ∧ c232 n hr = some v := by
  unfold c97 c232
  by_cases a : n = 0
  · rw [if_pos a.symm, if_pos a]
    exact ⟨_, rfl, by rw [F.1]⟩
  · rw [if_neg (fun c => a c.symm), if_neg a]
    by_cases b : n = 1
    · rw [if_pos b.symm, if_pos b]
      exact ⟨_, rfl, by rw [F.2]⟩
    · rw [if_neg (fun c => b c.symm), if_neg b]
      exact ⟨_, rfl, rfl⟩
theorem api16 (F : tldR hc hr) (n : Int) : ∃ v, c134 n hc = some v ∧ c269 n hr = some v := by
  unfold c134 c269
  by_cases a : n = 0
  · rw [if_neg (by omega), if_pos a, if_pos a]
    exact ⟨_, rfl, by rw [F.1]⟩
  · by_cases b : n = 1
    · rw [if_neg (by omega), if_neg a, if_neg a, if_pos b, if_pos b]
      exact ⟨_, rfl, by rw [F.2.1]⟩
    · by_cases c : n = 2
      · rw [if_neg (by omega), if_neg a, if_neg a, if_neg b, if_neg b, if_pos c, if_pos c]
        exact ⟨_, rfl, by rw [F.2.2]⟩
      · rw [if_pos (by omega), if_neg a, if_neg b, if_neg c]
        exact ⟨_, rfl, rfl⟩
theorem api26 (F : rfsR hc hr) (n : Int) : ∃ v, c176 n hc = some v ∧ c298 n hr = some v := by
  unfold c176 c298
  by_cases a : n = 0
  · rw [if_neg (by omega), if_pos a, if_pos a]
    exact ⟨_, rfl, by rw [F.1]⟩
  · by_cases b : n = 1
    · rw [if_neg (by omega), if_neg a, if_neg a, if_pos b, if_pos b]
      exact ⟨_, rfl, by rw [F.2.1]⟩
    · by_cases c : n = 2
      · rw [if_neg (by omega), if_neg a, if_neg a, if_neg b, if_neg b, if_pos c, if_pos c]
        exact ⟨_, rfl, by rw [F.2.2]⟩
      · rw [if_pos (by omega), if_neg a, if_neg b, if_neg c]
        exact ⟨_, rfl, rfl⟩
/-- wake -/
theorem api17 (N : nmcR hc hr) (n : Int) : ∃ v hc' hr', c135 n hc = some (v, hc') ∧ c270 n hr = some (v, hr') ∧ ((v = 0 ∧ hc' = hc ∧ hr' = hr) ∨ (v = 1 ∧ (n = -1 ∨ (0 ≤ n ∧ n < hI hc 15 2)) ∧ hc' = sI hc 8 10 n ∧ hr' = sI hr 395 30 n)) := by
  obtain ⟨n1, n2, n3⟩ := N
  unfold c135 c270
  by_cases a : n = -1
  · rw [if_pos a, if_pos a]
    exact ⟨_, _, _, rfl, rfl, .inr ⟨rfl, .inl a, rfl, rfl⟩⟩
  · rw [if_neg a, if_neg a, wsub_e (by omega) (by omega), c191_e]
    simp only [bsome]
    by_cases b : n < 0
    · rw [if_pos b, if_neg (show ¬ (0 ≤ n ∧ n ≤ hI hr 395 7 - 1) by omega), if_pos rfl]
      exact ⟨_, _, _, rfl, rfl, .inl ⟨rfl, rfl, rfl⟩⟩
    · rw [if_neg b]
      by_cases c : n < hI hc 15 2
      · rw [if_pos c, if_pos (show 0 ≤ n ∧ n ≤ hI hr 395 7 - 1 by omega), if_neg (show ¬ (1 : Int) = 0 by omega)]
        exact ⟨_, _, _, rfl, rfl, .inr ⟨rfl, .inr ⟨by omega, c⟩, rfl, rfl⟩⟩
      · rw [if_neg c, if_neg (show ¬ (0 ≤ n ∧ n ≤ hI hr 395 7 - 1) by omega), if_pos rfl]
        exact ⟨_, _, _, rfl, rfl, .inl ⟨rfl, rfl, rfl⟩⟩
/-- outcome -/
theorem api19 (O : outR hc hr q) (h8 : hI hc 8 8 = q) (h3 : hI hr 395 33 = q) (q40 : q ≤ 40) (n : Int) : ∃ v, c166 n hc = some v ∧ c291 n hr = some v := by
  obtain ⟨o1, o2⟩ := O
  unfold c166 c291
  rw [← o1]
  by_cases a : hI hc 8 9 = 0
  · rw [if_pos a, if_pos a]
    exact ⟨_, rfl, rfl⟩
  · rw [if_neg a, if_neg a, h8, h3, wsub_e (by omega) (by omega), c191_e]
    simp only [bsome]
    by_cases b : n < 0
    · rw [if_pos b, if_neg (show ¬ (0 ≤ n ∧ n ≤ (q : Int) - 1) by omega), if_pos rfl]
      exact ⟨_, rfl, rfl⟩
    · rw [if_neg b]
      by_cases c : n < (q : Int)
      · rw [if_pos c, if_pos (show 0 ≤ n ∧ n ≤ (q : Int) - 1 by omega), if_neg (show ¬ (1 : Int) = 0 by omega), aIs_s (by omega) (by omega), aIs_s (by omega) (by omega)]
        simp only [bsome]
        exact ⟨_, rfl, by rw [o2 n.toNat (by omega)]⟩
      · rw [if_neg c, if_neg (show ¬ (0 ≤ n ∧ n ≤ (q : Int) - 1) by omega), if_pos rfl]
        exact ⟨_, rfl, rfl⟩
/-- ran -/
theorem api20 (R : rnnR hc hr) (n f : Int) : ∃ v, c167 n f hc = some v ∧ c292 n f hr = some v := by
  obtain ⟨r1, ⟨r2, r3⟩, r4⟩ := R
  unfold c167 c292
  rw [wsub_e (by omega) (by omega), c191_e]
  simp only [bsome]
  by_cases b : n < 0
  · rw [if_pos b, if_neg (show ¬ (0 ≤ n ∧ n ≤ hI hr 395 66 - 1) by omega), if_pos rfl]
    exact ⟨_, rfl, rfl⟩
  · rw [if_neg b]
    by_cases c : hI hc 22 13 ≤ n
    · rw [if_pos c, if_neg (show ¬ (0 ≤ n ∧ n ≤ hI hr 395 66 - 1) by omega), if_pos rfl]
      exact ⟨_, rfl, rfl⟩
    · obtain ⟨x0, x1, x2, x3⟩ := r4 n.toNat (by omega)
      rw [if_neg c, if_pos (show 0 ≤ n ∧ n ≤ hI hr 395 66 - 1 by omega), if_neg (show ¬ (1 : Int) = 0 by omega)]
      by_cases f0 : f = 0
      · subst f0
        rw [if_neg (by omega), if_pos (by omega), wmul_e (by omega) (by omega), wadd_e (by omega) (by omega), aIs_s (by omega) (by omega), if_pos rfl, aIs_s (by omega) (by omega)]
        simp only [bsome]
        exact ⟨_, rfl, by rw [← x0]; congr 2; omega⟩
      by_cases f1 : f = 1
      · subst f1
        rw [if_neg (by omega), if_pos (by omega), wmul_e (by omega) (by omega), wadd_e (by omega) (by omega), aIs_s (by omega) (by omega), if_neg f0, if_pos rfl, aIs_s (by omega) (by omega)]
        simp only [bsome]
        exact ⟨_, rfl, by rw [← x1]; congr 2; omega⟩
      by_cases f2 : f = 2
      · subst f2
        rw [if_neg (by omega), if_pos (by omega), wmul_e (by omega) (by omega), wadd_e (by omega) (by omega), aIs_s (by omega) (by omega), if_neg f0, if_neg f1, if_pos rfl, aIs_s (by omega) (by omega)]
        simp only [bsome]
        exact ⟨_, rfl, by rw [← x2]; congr 2; omega⟩
      by_cases f3 : f = 3
      · subst f3
        rw [if_neg (by omega), if_pos (by omega), wmul_e (by omega) (by omega), wadd_e (by omega) (by omega), aIs_s (by omega) (by omega), if_neg f0, if_neg f1, if_neg f2, if_pos rfl, aIs_s (by omega) (by omega)]
        simp only [bsome]
        exact ⟨_, rfl, by rw [← x3]; congr 2; omega⟩
      · rw [if_neg f0, if_neg f1, if_neg f2, if_neg f3]
        by_cases d : f < 0
        · rw [if_pos d]
          exact ⟨_, rfl, rfl⟩
        · rw [if_neg d, if_neg (by omega)]
          exact ⟨_, rfl, rfl⟩
end SCL
