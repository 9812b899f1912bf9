/-! the program is borne -/
set_option maxRecDepth 100000 in
set_option maxHeartbeats 4000000 in
theorem mt_okP (xs : List Int32) (oA : Nat → Nat) (dA : Nat → ClassId) : mm_okP mt_Ts (mt_P xs) (mt_G oA dA) mt_cl mt_X mt_Mt := by
  intro k
  have h0 : ∀ i, i < 16 → mt_Good xs oA dA (16 * 0 + i) := by
    intro i hi
    match i, hi with
    | 0, _ => exact mt_g0 xs oA dA
    | 1, _ => exact mt_g1 xs oA dA
    | 2, _ => exact mt_g2 xs oA dA
    | 3, _ => exact mt_g3 xs oA dA
    | 4, _ => exact mt_g4 xs oA dA
    | 5, _ => exact mt_g5 xs oA dA
    | 6, _ => exact mt_g6 xs oA dA
    | 7, _ => exact mt_g7 xs oA dA
    | 8, _ => exact mt_g8 xs oA dA
    | 9, _ => exact mt_g9 xs oA dA
    | 10, _ => exact mt_g10 xs oA dA
    | 11, _ => exact mt_g11 xs oA dA
    | 12, _ => exact mt_g12 xs oA dA
    | 13, _ => exact mt_g13 xs oA dA
    | 14, _ => exact mt_g14 xs oA dA
    | 15, _ => exact mt_g15 xs oA dA
    | i + 16, hi => exact absurd hi (by omega)
  have h1 : ∀ i, i < 16 → mt_Good xs oA dA (16 * 1 + i) := by
    intro i hi
    match i, hi with
    | 0, _ => exact mt_g16 xs oA dA
    | 1, _ => exact mt_g17 xs oA dA
    | 2, _ => exact mt_g18 xs oA dA
    | 3, _ => exact mt_g19 xs oA dA
    | 4, _ => exact mt_g20 xs oA dA
    | 5, _ => exact mt_g21 xs oA dA
    | 6, _ => exact mt_g22 xs oA dA
    | 7, _ => exact mt_g23 xs oA dA
    | 8, _ => exact mt_g24 xs oA dA
    | 9, _ => exact mt_g25 xs oA dA
    | 10, _ => exact mt_g26 xs oA dA
    | 11, _ => exact mt_g27 xs oA dA
    | 12, _ => exact mt_g28 xs oA dA
    | 13, _ => exact mt_g29 xs oA dA
    | 14, _ => exact mt_g30 xs oA dA
    | 15, _ => exact mt_g31 xs oA dA
    | i + 16, hi => exact absurd hi (by omega)
  have h2 : ∀ i, i < 16 → mt_Good xs oA dA (16 * 2 + i) := by
    intro i hi
    match i, hi with
    | 0, _ => exact mt_g32 xs oA dA
    | 1, _ => exact mt_g33 xs oA dA
    | 2, _ => exact mt_g34 xs oA dA
    | 3, _ => exact mt_g35 xs oA dA
    | 4, _ => exact mt_g36 xs oA dA
    | 5, _ => exact mt_g37 xs oA dA
    | 6, _ => exact mt_g38 xs oA dA
    | 7, _ => exact mt_g39 xs oA dA
    | 8, _ => exact mt_g40 xs oA dA
    | 9, _ => exact mt_g41 xs oA dA
    | 10, _ => exact mt_g42 xs oA dA
    | 11, _ => exact mt_g43 xs oA dA
    | 12, _ => exact mt_g44 xs oA dA
    | 13, _ => exact mt_g45 xs oA dA
    | 14, _ => exact mt_g46 xs oA dA
    | 15, _ => exact mt_g47 xs oA dA
    | i + 16, hi => exact absurd hi (by omega)
  have h3 : ∀ i, i < 16 → mt_Good xs oA dA (16 * 3 + i) := by
    intro i hi
    match i, hi with
    | 0, _ => exact mt_g48 xs oA dA
    | 1, _ => exact mt_g49 xs oA dA
    | 2, _ => exact mt_g50 xs oA dA
    | 3, _ => exact mt_g51 xs oA dA
    | 4, _ => exact mt_g52 xs oA dA
    | 5, _ => exact mt_g53 xs oA dA
    | 6, _ => exact mt_g54 xs oA dA
    | 7, _ => exact mt_g55 xs oA dA
    | 8, _ => exact mt_g56 xs oA dA
    | 9, _ => exact mt_g57 xs oA dA
    | 10, _ => exact mt_g58 xs oA dA
    | 11, _ => exact mt_g59 xs oA dA
    | 12, _ => exact mt_g60 xs oA dA
    | 13, _ => exact mt_g61 xs oA dA
    | 14, _ => exact mt_g62 xs oA dA
    | 15, _ => exact mt_g63 xs oA dA
    | i + 16, hi => exact absurd hi (by omega)
  have h4 : ∀ i, i < 16 → mt_Good xs oA dA (16 * 4 + i) := by
    intro i hi
    match i, hi with
    | 0, _ => exact mt_g64 xs oA dA
    | 1, _ => exact mt_g65 xs oA dA
    | 2, _ => exact mt_g66 xs oA dA
    | 3, _ => exact mt_g67 xs oA dA
    | 4, _ => exact mt_g68 xs oA dA
    | 5, _ => exact mt_g69 xs oA dA
    | 6, _ => exact mt_g70 xs oA dA
    | 7, _ => exact mt_g71 xs oA dA
    | 8, _ => exact mt_g72 xs oA dA
    | 9, _ => exact mt_g73 xs oA dA
    | 10, _ => exact mt_g74 xs oA dA
    | 11, _ => exact mt_g75 xs oA dA
    | 12, _ => exact mt_g76 xs oA dA
    | 13, _ => exact mt_g77 xs oA dA
    | 14, _ => exact mt_g78 xs oA dA
    | 15, _ => exact mt_g79 xs oA dA
    | i + 16, hi => exact absurd hi (by omega)
  have h5 : ∀ i, i < 16 → mt_Good xs oA dA (16 * 5 + i) := by
    intro i hi
    match i, hi with
    | 0, _ => exact mt_g80 xs oA dA
    | 1, _ => exact mt_g81 xs oA dA
    | 2, _ => exact mt_g82 xs oA dA
    | 3, _ => exact mt_g83 xs oA dA
    | 4, _ => exact mt_g84 xs oA dA
    | 5, _ => exact mt_g85 xs oA dA
    | 6, _ => exact mt_g86 xs oA dA
    | 7, _ => exact mt_g87 xs oA dA
    | 8, _ => exact mt_g88 xs oA dA
    | 9, _ => exact mt_g89 xs oA dA
    | 10, _ => exact mt_g90 xs oA dA
    | 11, _ => exact mt_g91 xs oA dA
    | 12, _ => exact mt_g92 xs oA dA
    | 13, _ => exact mt_g93 xs oA dA
    | 14, _ => exact mt_g94 xs oA dA
    | 15, _ => exact mt_g95 xs oA dA
    | i + 16, hi => exact absurd hi (by omega)
  have h6 : ∀ i, i < 16 → mt_Good xs oA dA (16 * 6 + i) := by
    intro i hi
    match i, hi with
    | 0, _ => exact mt_g96 xs oA dA
    | 1, _ => exact mt_g97 xs oA dA
    | 2, _ => exact mt_g98 xs oA dA
    | 3, _ => exact mt_g99 xs oA dA
    | 4, _ => exact mt_g100 xs oA dA
    | 5, _ => exact mt_g101 xs oA dA
    | 6, _ => exact mt_g102 xs oA dA
    | 7, _ => exact mt_g103 xs oA dA
    | 8, _ => exact mt_g104 xs oA dA
    | 9, _ => exact mt_g105 xs oA dA
    | 10, _ => exact mt_g106 xs oA dA
    | 11, _ => exact mt_g107 xs oA dA
    | 12, _ => exact mt_g108 xs oA dA
    | 13, _ => exact mt_g109 xs oA dA
    | 14, _ => exact mt_g110 xs oA dA
    | 15, _ => exact mt_g111 xs oA dA
    | i + 16, hi => exact absurd hi (by omega)
  have h7 : ∀ i, i < 16 → mt_Good xs oA dA (16 * 7 + i) := by
    intro i hi
    match i, hi with
    | 0, _ => exact mt_g112 xs oA dA
    | 1, _ => exact mt_g113 xs oA dA
    | 2, _ => exact mt_g114 xs oA dA
    | 3, _ => exact mt_g115 xs oA dA
    | 4, _ => exact mt_g116 xs oA dA
    | 5, _ => exact mt_g117 xs oA dA
    | 6, _ => exact mt_g118 xs oA dA
    | 7, _ => exact mt_g119 xs oA dA
    | 8, _ => exact mt_g120 xs oA dA
    | 9, _ => exact mt_g121 xs oA dA
    | 10, _ => exact mt_g122 xs oA dA
    | 11, _ => exact mt_g123 xs oA dA
    | 12, _ => exact mt_g124 xs oA dA
    | 13, _ => exact mt_g125 xs oA dA
    | 14, _ => exact mt_g126 xs oA dA
    | 15, _ => exact mt_g127 xs oA dA
    | i + 16, hi => exact absurd hi (by omega)
  have h8 : ∀ i, i < 16 → mt_Good xs oA dA (16 * 8 + i) := by
    intro i hi
    match i, hi with
    | 0, _ => exact mt_g128 xs oA dA
    | 1, _ => exact mt_g129 xs oA dA
    | 2, _ => exact mt_g130 xs oA dA
    | 3, _ => exact mt_g131 xs oA dA
    | 4, _ => exact mt_g132 xs oA dA
    | 5, _ => exact mt_g133 xs oA dA
    | 6, _ => exact mt_g134 xs oA dA
    | 7, _ => exact mt_g135 xs oA dA
    | 8, _ => exact mt_g136 xs oA dA
    | 9, _ => exact mt_g137 xs oA dA
    | 10, _ => exact mt_g138 xs oA dA
    | 11, _ => exact mt_g139 xs oA dA
    | 12, _ => exact mt_g140 xs oA dA
    | 13, _ => exact mt_g141 xs oA dA
    | 14, _ => exact mt_g142 xs oA dA
    | 15, _ => exact mt_g143 xs oA dA
    | i + 16, hi => exact absurd hi (by omega)
  have h9 : ∀ i, i < 16 → mt_Good xs oA dA (16 * 9 + i) := by
    intro i hi
    match i, hi with
    | 0, _ => exact mt_g144 xs oA dA
    | 1, _ => exact mt_g145 xs oA dA
    | 2, _ => exact mt_g146 xs oA dA
    | 3, _ => exact mt_g147 xs oA dA
    | 4, _ => exact mt_g148 xs oA dA
    | 5, _ => exact mt_g149 xs oA dA
    | 6, _ => exact mt_g150 xs oA dA
    | 7, _ => exact mt_g151 xs oA dA
    | 8, _ => exact mt_g152 xs oA dA
    | 9, _ => exact mt_g153 xs oA dA
    | 10, _ => exact mt_g154 xs oA dA
    | 11, _ => exact mt_g155 xs oA dA
    | 12, _ => exact mt_g156 xs oA dA
    | 13, _ => exact mt_g157 xs oA dA
    | 14, _ => exact mt_g158 xs oA dA
    | 15, _ => exact mt_g159 xs oA dA
    | i + 16, hi => exact absurd hi (by omega)
  have h10 : ∀ i, i < 16 → mt_Good xs oA dA (16 * 10 + i) := by
    intro i hi
    match i, hi with
    | 0, _ => exact mt_g160 xs oA dA
    | 1, _ => exact mt_g161 xs oA dA
    | 2, _ => exact mt_g162 xs oA dA
    | 3, _ => exact mt_g163 xs oA dA
    | 4, _ => exact mt_g164 xs oA dA
    | 5, _ => exact mt_g165 xs oA dA
    | 6, _ => exact mt_g166 xs oA dA
    | 7, _ => exact mt_g167 xs oA dA
    | 8, _ => exact mt_g168 xs oA dA
    | 9, _ => exact mt_g169 xs oA dA
    | 10, _ => exact mt_g170 xs oA dA
    | 11, _ => exact mt_g171 xs oA dA
    | 12, _ => exact mt_g172 xs oA dA
    | 13, _ => exact mt_g173 xs oA dA
    | 14, _ => exact mt_g174 xs oA dA
    | 15, _ => exact mt_g175 xs oA dA
    | i + 16, hi => exact absurd hi (by omega)
  have h11 : ∀ i, i < 16 → mt_Good xs oA dA (16 * 11 + i) := by
    intro i hi
    match i, hi with
    | 0, _ => exact mt_g176 xs oA dA
    | 1, _ => exact mt_g177 xs oA dA
    | 2, _ => exact mt_g178 xs oA dA
    | 3, _ => exact mt_g179 xs oA dA
    | 4, _ => exact mt_g180 xs oA dA
    | 5, _ => exact mt_g181 xs oA dA
    | 6, _ => exact mt_g182 xs oA dA
    | 7, _ => exact mt_g183 xs oA dA
    | 8, _ => exact mt_g184 xs oA dA
    | 9, _ => exact mt_g185 xs oA dA
    | 10, _ => exact mt_g186 xs oA dA
    | 11, _ => exact mt_g187 xs oA dA
    | 12, _ => exact mt_g188 xs oA dA
    | 13, _ => exact mt_g189 xs oA dA
    | 14, _ => exact mt_g190 xs oA dA
    | 15, _ => exact mt_g191 xs oA dA
    | i + 16, hi => exact absurd hi (by omega)
  have h12 : ∀ i, i < 16 → mt_Good xs oA dA (16 * 12 + i) := by
    intro i hi
    match i, hi with
    | 0, _ => exact mt_g192 xs oA dA
    | 1, _ => exact mt_g193 xs oA dA
    | 2, _ => exact mt_g194 xs oA dA
    | 3, _ => exact mt_g195 xs oA dA
    | 4, _ => exact mt_g196 xs oA dA
    | 5, _ => exact mt_g197 xs oA dA
    | 6, _ => exact mt_g198 xs oA dA
    | 7, _ => exact mt_g199 xs oA dA
    | 8, _ => exact mt_g200 xs oA dA
    | 9, _ => exact mt_g201 xs oA dA
    | 10, _ => exact mt_g202 xs oA dA
    | 11, _ => exact mt_g203 xs oA dA
    | 12, _ => exact mt_g204 xs oA dA
    | 13, _ => exact mt_g205 xs oA dA
    | 14, _ => exact mt_g206 xs oA dA
    | 15, _ => exact mt_g207 xs oA dA
    | i + 16, hi => exact absurd hi (by omega)
  have h13 : ∀ i, i < 16 → mt_Good xs oA dA (16 * 13 + i) := by
    intro i hi
    match i, hi with
    | 0, _ => exact mt_g208 xs oA dA
    | 1, _ => exact mt_g209 xs oA dA
    | 2, _ => exact mt_g210 xs oA dA
    | 3, _ => exact mt_g211 xs oA dA
    | 4, _ => exact mt_g212 xs oA dA
    | 5, _ => exact mt_g213 xs oA dA
    | 6, _ => exact mt_g214 xs oA dA
    | 7, _ => exact mt_g215 xs oA dA
    | 8, _ => exact mt_g216 xs oA dA
    | 9, _ => exact mt_g217 xs oA dA
    | 10, _ => exact mt_g218 xs oA dA
    | 11, _ => exact mt_g219 xs oA dA
    | 12, _ => exact mt_g220 xs oA dA
    | 13, _ => exact mt_g221 xs oA dA
    | 14, _ => exact mt_g222 xs oA dA
    | 15, _ => exact mt_g223 xs oA dA
    | i + 16, hi => exact absurd hi (by omega)
  have h14 : ∀ i, i < 16 → mt_Good xs oA dA (16 * 14 + i) := by
    intro i hi
    match i, hi with
    | 0, _ => exact mt_g224 xs oA dA
    | 1, _ => exact mt_g225 xs oA dA
    | 2, _ => exact mt_g226 xs oA dA
    | 3, _ => exact mt_g227 xs oA dA
    | 4, _ => exact mt_g228 xs oA dA
    | 5, _ => exact mt_g229 xs oA dA
    | 6, _ => exact mt_g230 xs oA dA
    | 7, _ => exact mt_g231 xs oA dA
    | 8, _ => exact mt_g232 xs oA dA
    | 9, _ => exact mt_g233 xs oA dA
    | 10, _ => exact mt_g234 xs oA dA
    | 11, _ => exact mt_g235 xs oA dA
    | 12, _ => exact mt_g236 xs oA dA
    | 13, _ => exact mt_g237 xs oA dA
    | 14, _ => exact mt_g238 xs oA dA
    | 15, _ => exact mt_g239 xs oA dA
    | i + 16, hi => exact absurd hi (by omega)
  have h15 : ∀ i, i < 16 → mt_Good xs oA dA (16 * 15 + i) := by
    intro i hi
    match i, hi with
    | 0, _ => exact mt_g240 xs oA dA
    | 1, _ => exact mt_g241 xs oA dA
    | 2, _ => exact mt_g242 xs oA dA
    | 3, _ => exact mt_g243 xs oA dA
    | 4, _ => exact mt_g244 xs oA dA
    | 5, _ => exact mt_g245 xs oA dA
    | 6, _ => exact mt_g246 xs oA dA
    | 7, _ => exact mt_g247 xs oA dA
    | 8, _ => exact mt_g248 xs oA dA
    | 9, _ => exact mt_g249 xs oA dA
    | 10, _ => exact mt_g250 xs oA dA
    | 11, _ => exact mt_g251 xs oA dA
    | 12, _ => exact mt_g252 xs oA dA
    | 13, _ => exact mt_g253 xs oA dA
    | 14, _ => exact mt_g254 xs oA dA
    | 15, _ => exact mt_g255 xs oA dA
    | i + 16, hi => exact absurd hi (by omega)
  have h16 : ∀ i, i < 16 → mt_Good xs oA dA (16 * 16 + i) := by
    intro i hi
    match i, hi with
    | 0, _ => exact mt_g256 xs oA dA
    | 1, _ => exact mt_g257 xs oA dA
    | 2, _ => exact mt_g258 xs oA dA
    | 3, _ => exact mt_g259 xs oA dA
    | 4, _ => exact mt_g260 xs oA dA
    | 5, _ => exact mt_g261 xs oA dA
    | 6, _ => exact mt_g262 xs oA dA
    | 7, _ => exact mt_g263 xs oA dA
    | 8, _ => exact mt_g264 xs oA dA
    | 9, _ => exact mt_g265 xs oA dA
    | 10, _ => exact mt_g266 xs oA dA
    | 11, _ => exact mt_g267 xs oA dA
    | 12, _ => exact mt_g268 xs oA dA
    | 13, _ => exact mt_g269 xs oA dA
    | 14, _ => exact mt_g270 xs oA dA
    | 15, _ => exact mt_g271 xs oA dA
    | i + 16, hi => exact absurd hi (by omega)
  have h17 : ∀ i, i < 16 → mt_Good xs oA dA (16 * 17 + i) := by
    intro i hi
    match i, hi with
    | 0, _ => exact mt_g272 xs oA dA
    | 1, _ => exact mt_g273 xs oA dA
    | 2, _ => exact mt_g274 xs oA dA
    | 3, _ => exact mt_g275 xs oA dA
    | 4, _ => exact mt_g276 xs oA dA
    | 5, _ => exact mt_g277 xs oA dA
    | 6, _ => exact mt_g278 xs oA dA
    | 7, _ => exact mt_g279 xs oA dA
    | 8, _ => exact mt_g280 xs oA dA
    | 9, _ => exact mt_g281 xs oA dA
    | 10, _ => exact mt_g282 xs oA dA
    | 11, _ => exact mt_g283 xs oA dA
    | 12, _ => exact mt_g284 xs oA dA
    | 13, _ => exact mt_g285 xs oA dA
    | 14, _ => exact mt_g286 xs oA dA
    | 15, _ => exact mt_g287 xs oA dA
    | i + 16, hi => exact absurd hi (by omega)
  have h18 : ∀ i, i < 16 → mt_Good xs oA dA (16 * 18 + i) := by
    intro i hi
    match i, hi with
    | 0, _ => exact mt_g288 xs oA dA
    | 1, _ => exact mt_g289 xs oA dA
    | 2, _ => exact mt_g290 xs oA dA
    | 3, _ => exact mt_g291 xs oA dA
    | 4, _ => exact mt_g292 xs oA dA
    | 5, _ => exact mt_g293 xs oA dA
    | 6, _ => exact mt_g294 xs oA dA
    | 7, _ => exact mt_g295 xs oA dA
    | 8, _ => exact mt_g296 xs oA dA
    | 9, _ => exact mt_g297 xs oA dA
    | 10, _ => exact mt_g298 xs oA dA
    | 11, _ => exact mt_g299 xs oA dA
    | 12, _ => exact mt_g300 xs oA dA
    | 13, _ => exact fun y bytes ret h => absurd (show none = some (y, bytes, ret) from h) (by simp)
    | 14, _ => exact fun y bytes ret h => absurd (show none = some (y, bytes, ret) from h) (by simp)
    | 15, _ => exact fun y bytes ret h => absurd (show none = some (y, bytes, ret) from h) (by simp)
    | i + 16, hi => exact absurd hi (by omega)
  by_cases hk : k < 304
  · have e : k = 16 * (k / 16) + k % 16 := by omega
    have hm : k % 16 < 16 := by omega
    have hd : k / 16 < 19 := by omega
    have key : mt_Good xs oA dA (16 * (k / 16) + k % 16) := by
      generalize k % 16 = i at hm
      generalize k / 16 = q at hd
      match q, hd with
      | 0, _ => exact h0 i hm
      | 1, _ => exact h1 i hm
      | 2, _ => exact h2 i hm
      | 3, _ => exact h3 i hm
      | 4, _ => exact h4 i hm
      | 5, _ => exact h5 i hm
      | 6, _ => exact h6 i hm
      | 7, _ => exact h7 i hm
      | 8, _ => exact h8 i hm
      | 9, _ => exact h9 i hm
      | 10, _ => exact h10 i hm
      | 11, _ => exact h11 i hm
      | 12, _ => exact h12 i hm
      | 13, _ => exact h13 i hm
      | 14, _ => exact h14 i hm
      | 15, _ => exact h15 i hm
      | 16, _ => exact h16 i hm
      | 17, _ => exact h17 i hm
      | 18, _ => exact h18 i hm
      | q + 19, hd => exact absurd hd (by omega)
    rw [← e] at key
    exact key
  · intro y bytes ret h
    have h0 : mt_Mt k = none := by
      unfold mt_Mt
      have : mt_Ms.getD (k / 16) [] = [] := by
        rw [List.getD_eq_getElem?_getD, List.getElem?_eq_none (show mt_Ms.length ≤ k / 16 by rw [show mt_Ms.length = 19 from rfl]; omega)]
        rfl
      rw [this]
      rfl
    rw [h0] at h
    cases h
