/-! shelves: what is held; copy -/
theorem zK3 {S : zM} (h : zInv S) {d : Nat} (hd : d < 8) : (zi S 439 d = 0 ∧ zi S (420 + 2 * d) 4 = 0 ∧ zr S (420 + 2 * d) 1 = 0) ∨ (zi S 439 d = 1 ∧ zi S (420 + 2 * d) 4 = 0 ∧ ¬ zr S (420 + 2 * d) 1 = 0) ∨ (zi S 439 d = 2 ∧ zi S (420 + 2 * d) 4 = 1 ∧ zr S (420 + 2 * d) 1 = 0) := by
  rcases h.2.2.2.2.2.1 d hd with h1 | ⟨h1, h2, h3, -⟩ | ⟨h1, h2, h3, -⟩
  · exact Or.inl h1
  · exact Or.inr (Or.inl ⟨h1, h2, by omega⟩)
  · exact Or.inr (Or.inr ⟨h1, h2, h3⟩)
theorem x_nothing {S : zM} (h : zInv S) {d : Nat} (hd : d < 8) : f_X8_holdsNothing S (420 + 2 * d) = some (if zi S 439 d = 0 then 1 else 0) := by
  unfold f_X8_holdsNothing
  rcases zK3 h hd with ⟨h1, h2, h3⟩ | ⟨h1, h2, h3⟩ | ⟨h1, h2, h3⟩
  · rw [if_pos h3, if_pos h2, if_pos h1]
  · rw [if_neg h3, h1, if_neg (by decide)]
  · rw [if_pos h3, h2, h1, if_neg (by decide), if_neg (by decide)]
theorem x_refRow {S : zM} (h : zInv S) {d : Nat} (hd : d < 8) : f_X8_refusalAsRow S (420 + 2 * d) = some (if zi S 439 d = 0 then -11 else if zi S 439 d = 2 then 0 else -12) := by
  unfold f_X8_refusalAsRow
  rcases zK3 h hd with ⟨h1, h2, h3⟩ | ⟨h1, h2, h3⟩ | ⟨h1, h2, h3⟩
  · rw [if_pos h3, if_pos h2, if_pos h1]
  · rw [if_neg h3, h1, if_pos h2, if_neg (by decide), if_neg (by decide)]
  · rw [h2, h1, if_neg (by decide), if_neg (by decide), if_pos rfl]
theorem zKrow {S : zM} (h : zInv S) {d : Nat} (hd : d < 8) (hk : zi S 439 d = 2) : zi S (420 + 2 * d) 4 = 1 ∧ zr S (420 + 2 * d) 1 = 0 ∧ zi S (420 + 2 * d) 2 = zi S 440 d ∧ zU (zi S 440 d) 3 ∧ zi S (420 + 2 * d) 3 = zi S 441 d ∧ zU (zi S 441 d) 121 ∧ ∀ k : Nat, k < 120 → zi S (421 + 2 * d) k = zi S 442 (120 * d + k) ∧ (zi S 440 d = 0 → -128 ≤ zi S 442 (120 * d + k) ∧ zi S 442 (120 * d + k) ≤ 127) := by
  rcases h.2.2.2.2.2.1 d hd with ⟨h1, -⟩ | ⟨h1, -⟩ | ⟨h1, h2⟩
  · rw [h1] at hk; exact absurd hk (by decide)
  · rw [h1] at hk; exact absurd hk (by decide)
  · exact h2
theorem x_refText {S : zM} (h : zInv S) {d : Nat} (hd : d < 8) : f_X8_refusalAsText S (420 + 2 * d) = some (if zi S 439 d = 0 then -11 else if zi S 439 d = 2 then (if zi S 440 d = 0 then 0 else -12) else -12) := by
  unfold f_X8_refusalAsText
  rw [x_refRow h hd, zB1_s, zLet_d]
  rcases zK3 h hd with ⟨h1, h2, h3⟩ | ⟨h1, h2, h3⟩ | ⟨h1, h2, h3⟩
  · rw [if_pos h2, if_pos h1, if_pos h1]
  · rw [if_pos h2, h1, if_neg (by decide), if_neg (by decide), if_neg (by decide), if_neg (by decide)]
  · rw [h2, if_neg (show ¬ (1 : Int32) = 0 by decide), (zKrow h hd h1).2.2.1, h1, if_neg (show ¬ (2 : Int32) = 0 by decide), if_pos (show (2 : Int32) = 2 from rfl), if_neg (show ¬ (2 : Int32) = 0 by decide), if_pos (show (2 : Int32) = 2 from rfl)]
    split <;> rfl
theorem zI0 : (0 : Int32).toInt = 0 := rfl
theorem x_places {S : zM} {q s : Nat} (hs : s ≤ 120) (e : zi S q 3 = nI s) {v n : Int32} : f_X8_hasPlaces S q v n = if 0 ≤ n.toInt ∧ 0 ≤ v.toInt ∧ v.toInt + n.toInt ≤ s then 1 else 0 := by
  unfold f_X8_hasPlaces
  rw [e]
  by_cases h1 : n < 0
  · rw [if_pos h1, if_neg (by rw [Int32.lt_iff_toInt_lt, zI0] at h1; omega)]
  · rw [if_neg h1]
    rw [Int32.lt_iff_toInt_lt, zI0] at h1
    by_cases h2 : v < 0
    · rw [if_pos h2, if_neg (by rw [Int32.lt_iff_toInt_lt, zI0] at h2; omega)]
    · rw [if_neg h2]
      rw [Int32.lt_iff_toInt_lt, zI0] at h2
      by_cases h3 : nI s < v
      · rw [if_pos h3, if_neg (by rw [Int32.lt_iff_toInt_lt, nI_toInt (by omega)] at h3; omega)]
      · rw [if_neg h3]
        rw [Int32.lt_iff_toInt_lt, nI_toInt (by omega)] at h3
        have e2 : (nI s - v).toInt = s - v.toInt := by
          rw [Int32.toInt_sub, nI_toInt (by omega)]
          exact Int.bmod_eq_of_le (by omega) (by omega)
        by_cases h4 : nI s - v < n
        · rw [if_pos h4, if_neg (by rw [Int32.lt_iff_toInt_lt, e2] at h4; omega)]
        · rw [if_neg h4, if_pos (by rw [Int32.lt_iff_toInt_lt, e2] at h4; omega)]
theorem m_span {s : Nat} (hs : s ≤ 120) {v n : Int32} (hv : ¬ v < 0) (hn : ¬ n < 0) : nI s - v < n ↔ ¬ v.toInt + n.toInt ≤ s := by
  rw [Int32.lt_iff_toInt_lt, zI0] at hv hn
  have h := Int32.toInt_lt v
  rw [Int32.lt_iff_toInt_lt, Int32.toInt_sub, nI_toInt (by omega), Int.bmod_eq_of_le (by omega) (by omega)]
  omega
/-- n elements from the place A on come to the place C on, within one row: from the last on, or from the first on -/
theorem m_copyB {S0 : zM} {d e i j n : Nat} {K : zM → Option (Int32 × zM)} (hr : zr S0 436 5 = 442) (hl : zln S0 442 = 960) (hd : d < 8) (he : e < 8) (hi : i + n ≤ 120) (hj : j + n ≤ 120) (hij : i ≤ j) : ∀ f : Nat, n < f → ∃ S1 : zM, f_X12_copy_L122 436 (nI d) (nI i) (nI e) (nI j) (nI n) K f 0 S0 = K S1 ∧ zF (fun a k => a = 442 ∧ 120 * e + j ≤ k ∧ k < 120 * e + j + n) S0 S1 ∧ ∀ k : Nat, k < n → zi S1 442 (120 * e + j + k) = zi S0 442 (120 * d + i + k) := by
  intro f hf
  refine zloopR (fun f (s : Int32 × zM) => f_X12_copy_L122 436 (nI d) (nI i) (nI e) (nI j) (nI n) K f s.1 s.2) (fun k s => s.1 = nI k ∧ zF (fun a p => a = 442 ∧ 120 * e + j + (n - k) ≤ p ∧ p < 120 * e + j + n) S0 s.2 ∧ ∀ p : Nat, n - k ≤ p → p < n → zi s.2 442 (120 * e + j + p) = zi S0 442 (120 * d + i + p)) n (fun o => ∃ S1 : zM, o = K S1 ∧ zF (fun a k => a = 442 ∧ 120 * e + j ≤ k ∧ k < 120 * e + j + n) S0 S1 ∧ ∀ k : Nat, k < n → zi S1 442 (120 * e + j + k) = zi S0 442 (120 * d + i + k)) ?_ ?_ f (0, S0) hf ⟨rfl, zF.rf, fun p hp hp2 => by omega⟩
  · rintro k f ⟨x, S⟩ hk ⟨h1, h2, h3⟩
    dsimp only at h1 h2 h3 ⊢
    subst h1
    refine ⟨(nI (k + 1), zpI S 442 (120 * e + j + (n - 1 - k)) (zi S0 442 (120 * d + i + (n - 1 - k)))), ⟨rfl, zF.pI (h2.mo (fun a p q => ⟨q.1, by omega, q.2.2⟩)) ⟨rfl, by omega, by omega⟩, fun p hp hp2 => ?_⟩, ?_⟩
    · dsimp only
      by_cases hpk : p = n - 1 - k
      · subst hpk; exact mi_eq _ _ _ _
      · rw [mi_ne _ _ (by omega)]; exact h3 p (by omega) hp2
    · show f_X12_copy_L122b 436 (nI d) (nI i) (nI e) (nI j) (nI n) K (f_X12_copy_L122 436 (nI d) (nI i) (nI e) (nI j) (nI n) K f) (nI k) S = _
      unfold f_X12_copy_L122b
      rw [if_neg (nI_ge hk (by omega)), zLet_d, if_pos (nI_le hij (by omega))]
      dsimp only
      rw [h2.r, h2.n, hr, hl, zChk_t (by decide), zq120, show (1 : Int32) = nI 1 from rfl, nI_mul, nI_mul, nI_sub (show 1 ≤ n by omega), nI_sub (show k ≤ n - 1 by omega), nI_add, nI_add, nI_add, nI_add, nI_add, zChk_t (zix (by omega) (by omega)), zChk_t (zix (by omega) (by omega)), zLet_d, nI_clamp (by omega), nI_clamp (by omega), h2.i (by omega)]
  · rintro f ⟨x, S⟩ ⟨h1, h2, h3⟩
    dsimp only at h1 h2 h3 ⊢
    subst h1
    refine ⟨S, ?_, h2.mo (fun a p q => ⟨q.1, by omega, q.2.2⟩), fun k hk => h3 k (by omega) hk⟩
    show f_X12_copy_L122b 436 (nI d) (nI i) (nI e) (nI j) (nI n) K (f_X12_copy_L122 436 (nI d) (nI i) (nI e) (nI j) (nI n) K f) (nI n) S = _
    unfold f_X12_copy_L122b
    rw [if_pos (Int32.le_refl _)]
theorem m_copyF {S0 : zM} {d e i j n : Nat} {K : zM → Option (Int32 × zM)} (hr : zr S0 436 5 = 442) (hl : zln S0 442 = 960) (hd : d < 8) (he : e < 8) (hi : i + n ≤ 120) (hj : j + n ≤ 120) (hij : j < i) : ∀ f : Nat, n < f → ∃ S1 : zM, f_X12_copy_L122 436 (nI d) (nI i) (nI e) (nI j) (nI n) K f 0 S0 = K S1 ∧ zF (fun a k => a = 442 ∧ 120 * e + j ≤ k ∧ k < 120 * e + j + n) S0 S1 ∧ ∀ k : Nat, k < n → zi S1 442 (120 * e + j + k) = zi S0 442 (120 * d + i + k) := by
  intro f hf
  refine zloopR (fun f (s : Int32 × zM) => f_X12_copy_L122 436 (nI d) (nI i) (nI e) (nI j) (nI n) K f s.1 s.2) (fun k s => s.1 = nI k ∧ zF (fun a p => a = 442 ∧ 120 * e + j ≤ p ∧ p < 120 * e + j + k) S0 s.2 ∧ ∀ p : Nat, p < k → zi s.2 442 (120 * e + j + p) = zi S0 442 (120 * d + i + p)) n (fun o => ∃ S1 : zM, o = K S1 ∧ zF (fun a k => a = 442 ∧ 120 * e + j ≤ k ∧ k < 120 * e + j + n) S0 S1 ∧ ∀ k : Nat, k < n → zi S1 442 (120 * e + j + k) = zi S0 442 (120 * d + i + k)) ?_ ?_ f (0, S0) hf ⟨rfl, zF.rf, fun p hp => by omega⟩
  · rintro k f ⟨x, S⟩ hk ⟨h1, h2, h3⟩
    dsimp only at h1 h2 h3 ⊢
    subst h1
    refine ⟨(nI (k + 1), zpI S 442 (120 * e + j + k) (zi S0 442 (120 * d + i + k))), ⟨rfl, zF.pI (h2.mo (fun a p q => ⟨q.1, q.2.1, by omega⟩)) ⟨rfl, by omega, by omega⟩, fun p hp => ?_⟩, ?_⟩
    · dsimp only
      by_cases hpk : p = k
      · subst hpk; exact mi_eq _ _ _ _
      · rw [mi_ne _ _ (by omega)]; exact h3 p (by omega)
    · show f_X12_copy_L122b 436 (nI d) (nI i) (nI e) (nI j) (nI n) K (f_X12_copy_L122 436 (nI d) (nI i) (nI e) (nI j) (nI n) K f) (nI k) S = _
      unfold f_X12_copy_L122b
      rw [if_neg (nI_ge hk (by omega)), zLet_d, if_neg (nI_ge hij (by omega))]
      dsimp only
      rw [h2.r, h2.n, hr, hl, zChk_t (by decide), zq120, show (1 : Int32) = nI 1 from rfl, nI_mul, nI_mul, nI_add, nI_add, nI_add, nI_add, nI_add, zChk_t (zix (by omega) (by omega)), zChk_t (zix (by omega) (by omega)), zLet_d, nI_clamp (by omega), nI_clamp (by omega), h2.i (by omega)]
  · rintro f ⟨x, S⟩ ⟨h1, h2, h3⟩
    dsimp only at h1 h2 h3 ⊢
    subst h1
    refine ⟨S, ?_, h2, h3⟩
    show f_X12_copy_L122b 436 (nI d) (nI i) (nI e) (nI j) (nI n) K (f_X12_copy_L122 436 (nI d) (nI i) (nI e) (nI j) (nI n) K f) (nI n) S = _
    unfold f_X12_copy_L122b
    rw [if_pos (Int32.le_refl _)]
theorem m_copyA {S0 : zM} {d e i j n : Nat} {K : zM → Option (Int32 × zM)} (hr : zr S0 436 5 = 442) (hl : zln S0 442 = 960) (hd : d < 8) (he : e < 8) (hi : i + n ≤ 120) (hj : j + n ≤ 120) : ∀ f : Nat, n < f → ∃ S1 : zM, f_X12_copy_L122 436 (nI d) (nI i) (nI e) (nI j) (nI n) K f 0 S0 = K S1 ∧ zF (fun a k => a = 442 ∧ 120 * e + j ≤ k ∧ k < 120 * e + j + n) S0 S1 ∧ ∀ k : Nat, k < n → zi S1 442 (120 * e + j + k) = zi S0 442 (120 * d + i + k) := by
  by_cases hij : i ≤ j
  · exact m_copyB hr hl hd he hi hj hij
  · exact m_copyF hr hl hd he hi hj (by omega)
theorem s_copy {S : zM} (h : zInv S) (v1 v2 v3 v4 v5 : Int32) : ∃ S' : zM, zs_35 1 436 v1 v2 v3 v4 v5 S S' ∧ zInv S' := by
  suffices hh : ∃ (S' : zM) (r : Int32) (S1 : zM), f_X11_copy S 1 v1 v2 v3 v4 v5 = some (r, S1) ∧ f_X12_copy 200 S1 436 v1 v2 v3 v4 v5 = some (r, S') ∧ zInv S' by
    obtain ⟨S', r, S1, q1, q2, q3⟩ := hh
    exact ⟨S', ⟨r, 200, S1, q1, q2⟩, q3⟩
  have hL := h.1
  have w2 : zr S 436 2 = 439 := hL.2.2.2.2.2.1.2.2.1
  have w3 : zr S 436 3 = 440 := hL.2.2.2.2.2.1.2.2.2.1
  have w4 : zr S 436 4 = 441 := hL.2.2.2.2.2.1.2.2.2.2.1
  have w5 : zr S 436 5 = 442 := hL.2.2.2.2.2.1.2.2.2.2.2.1
  have n2 : zln S 439 = 8 := hL.2.2.2.2.2.2.2.2.1
  have n3 : zln S 440 = 8 := hL.2.2.2.2.2.2.2.2.2.1
  have n4 : zln S 441 = 8 := hL.2.2.2.2.2.2.2.2.2.2.1
  have n5 : zln S 442 = 960 := hL.2.2.2.2.2.2.2.2.2.2.2.1
  by_cases h1 : zU v1 8
  · obtain ⟨d, hd, rfl⟩ := h1.k
    by_cases h3 : zU v3 8
    · obtain ⟨e, he, rfl⟩ := h3.k
      unfold f_X11_copy
      rw [x_shelfAt hL hd, zB1_s, x_shelfAt hL he, zB1_s, if_neg (show ¬ 420 + 2 * d = 0 by omega), if_neg (show ¬ 420 + 2 * e = 0 by omega), x_nothing h hd, zB1_s, x_nothing h he, x_refRow h hd, x_refRow h he]
      have hm : ∀ S1 : zM, zLay S1 → zi S1 439 = zi S 439 → zi S1 440 = zi S 440 → zi S1 441 = zi S 441 → f_X12_copy 200 S1 436 (nI d) v2 (nI e) v4 v5 = if zi S 439 d = 0 then some (-11, S1) else if zi S 439 e = 0 then some (-11, S1) else if zi S 439 d = 2 then (if zi S 439 e = 2 then (if zi S 440 d = zi S 440 e then (if v5 < 0 then some (-13, S1) else if v2 < 0 then some (-13, S1) else if v4 < 0 then some (-13, S1) else if zi S 441 d - v2 < v5 then some (-13, S1) else if v5 ≤ zi S 441 e - v4 then f_X12_copy_L122 436 (nI d) v2 (nI e) v4 v5 (fun S40 => some (v5, S40)) 200 0 S1 else some (-13, S1)) else some (-12, S1)) else some (-12, S1)) else some (-12, S1) := by
        intro S1 hL1 e9 e0 e1
        obtain ⟨-, -, -, -, -, ⟨-, -, w2, w3, w4, w5, -⟩, ⟨-, -, n2, n3, n4, n5, -⟩⟩ := hL1
        unfold f_X12_copy
        rw [m_isShelf, if_pos h1, zB1_s, if_neg (by decide), m_isShelf, if_pos h3, zB1_s, if_neg (by decide), w2, w3, w4, zChk_t (by decide), n2, n3, n4, zChk_t (zix hd (by omega)), nI_clamp (show d < 2 ^ 31 by omega), zChk_t (zix he (by omega)), nI_clamp (show e < 2 ^ 31 by omega), zChk_t (zixc hd (by omega)), zChk_t (zixc he (by omega)), zChk_t (by decide), zChk_t (zixc hd (by omega)), zChk_t (zixc he (by omega)), zChk_t (by decide), zChk_t (zixc hd (by omega)), zChk_t (zixc he (by omega)), e9, e0, e1, zLet_d]
      by_cases k1 : zi S 439 d = 0
      · rw [if_pos k1, if_neg (show ¬ (1 : Int32) = 0 by decide)]
        exact ⟨S, -11, S, rfl, by rw [hm S hL rfl rfl rfl, if_pos k1], h⟩
      · rw [if_neg k1, if_pos (show (0 : Int32) = 0 from rfl), zB1_s]
        by_cases k2 : zi S 439 e = 0
        · rw [if_pos k2, if_neg (show ¬ (1 : Int32) = 0 by decide)]
          exact ⟨S, -11, S, rfl, by rw [hm S hL rfl rfl rfl, if_neg k1, if_pos k2], h⟩
        · rw [if_neg k2, if_pos (show (0 : Int32) = 0 from rfl), if_neg k1, if_neg k2, zB1_s]
          by_cases k3 : zi S 439 d = 2
          · rw [if_pos k3, if_pos (show (0 : Int32) = 0 from rfl), zB1_s]
            by_cases k4 : zi S 439 e = 2
            · rw [if_pos k4, if_pos (show (0 : Int32) = 0 from rfl)]
              obtain ⟨-, -, d2, d3, d4, d5, d6⟩ := zKrow h hd k3
              obtain ⟨g4, g1, g2, g3, g5, g6, g7⟩ := zKrow h he k4
              rw [d2, g2]
              by_cases k5 : zi S 440 d = zi S 440 e
              · rw [if_pos k5]
                obtain ⟨s, hs, es⟩ := d5.k
                obtain ⟨u, hu, eu⟩ := g6.k
                rw [x_places (show s ≤ 120 by omega) (by rw [d4]; exact es), x_places (show u ≤ 120 by omega) (by rw [g5]; exact eu)]
                by_cases k6 : 0 ≤ v5.toInt ∧ 0 ≤ v2.toInt ∧ v2.toInt + v5.toInt ≤ s
                · by_cases k7 : 0 ≤ v5.toInt ∧ 0 ≤ v4.toInt ∧ v4.toInt + v5.toInt ≤ u
                  · obtain ⟨n, hn, rfl⟩ := (show zU v5 121 from ⟨k6.1, by omega⟩).k
                    obtain ⟨i, hi, rfl⟩ := (show zU v2 121 from ⟨k6.2.1, by omega⟩).k
                    obtain ⟨j, hj, rfl⟩ := (show zU v4 121 from ⟨k7.2.1, by omega⟩).k
                    rw [nI_toInt (by omega), nI_toInt (by omega)] at k6
                    rw [nI_toInt (by omega), nI_toInt (by omega)] at k7
                    have d7 : zr S (420 + 2 * d) 0 = 421 + 2 * d := (hL.2.2.2.2.1.2.2.2 d hd).2.1
                    have d8 : zln S (421 + 2 * d) = 120 := (hL.2.2.2.2.1.2.2.2 d hd).2.2
                    have g8 : zr S (420 + 2 * e) 0 = 421 + 2 * e := (hL.2.2.2.2.1.2.2.2 e he).2.1
                    have g9 : zln S (421 + 2 * e) = 120 := (hL.2.2.2.2.1.2.2.2 e he).2.2
                    rw [nI_toInt (by omega), nI_toInt (by omega), nI_toInt (by omega), if_pos k6, if_pos k7, zLet_d, if_neg (show ¬ (1 : Int32) = 0 by decide), zLet_d, if_neg (show ¬ (1 : Int32) = 0 by decide), d7, g8, zChk_t (by omega), zChk_t (by omega), d8, g9, nI_clamp (by omega), nI_clamp (by omega), nI_clamp (by omega), zChk_t ⟨nI_pos (by omega), nI_pos (by omega), nI_pos (by omega), by omega, by omega⟩, zLet_d]
                    have hXf : zF (fun a k => a = 421 + 2 * e ∧ j ≤ k ∧ k < j + n) S (zcp S (421 + 2 * d) i (421 + 2 * e) j n) := zF.cp zF.rf (fun k h1 h2 => ⟨rfl, h1, h2⟩)
                    have hXc : ∀ k : Nat, j ≤ k → k < j + n → zi (zcp S (421 + 2 * d) i (421 + 2 * e) j n) (421 + 2 * e) k = zi S (421 + 2 * d) (i + (k - j)) := fun k h1 h2 => ni_cp' S ⟨rfl, h1, h2⟩
                    generalize zcp S (421 + 2 * d) i (421 + 2 * e) j n = X at hXf hXc
                    have hLX : zLay X := hL.fr hXf
                    have hmX := hm X hLX (funext fun k => hXf.i (by omega)) (funext fun k => hXf.i (by omega)) (funext fun k => hXf.i (by omega))
                    rw [if_neg k1, if_neg k2, if_pos k3, if_pos k4, if_pos k5, if_neg (nI_pos (by omega)), if_neg (nI_pos (by omega)), if_neg (nI_pos (by omega)), es, eu, if_neg (show ¬ nI s - nI i < nI n by rw [nI_sub (by omega)]; exact nI_nlt (by omega) (by omega)), if_pos (show nI n ≤ nI u - nI j by rw [nI_sub (by omega)]; exact nI_le (by omega) (by omega))] at hmX
                    obtain ⟨Y, hY, hYf, hYc⟩ := m_copyA (S0 := X) (d := d) (e := e) (i := i) (j := j) (n := n) (K := fun S40 => some (nI n, S40)) (by rw [hXf.r]; exact w5) (by rw [hXf.n]; exact n5) hd he (by omega) (by omega) 200 (by omega)
                    rw [hY] at hmX
                    refine ⟨Y, nI n, X, rfl, hmX, ?_⟩
                    have yo : ∀ a k : Nat, ¬ (a = 421 + 2 * e ∧ j ≤ k ∧ k < j + n) → ¬ (a = 442 ∧ 120 * e + j ≤ k ∧ k < 120 * e + j + n) → zi Y a k = zi S a k := fun a k h1 h2 => by rw [hYf.i h2, hXf.i h1]
                    have yr : zr Y = zr S := by rw [hYf.r, hXf.r]
                    have ys : zsz Y = zsz S := by rw [hYf.s, hXf.s]
                    have hYn : zln Y = zln S := by rw [hYf.n, hXf.n]
                    have y1 : ∀ k : Nat, k < n → zi Y (421 + 2 * e) (j + k) = zi S (421 + 2 * d) (i + k) := fun k hk => by
                      rw [hYf.i (by omega), hXc _ (by omega) (by omega), show i + (j + k - j) = i + k by omega]
                    have y2 : ∀ k : Nat, k < n → zi Y 442 (120 * e + (j + k)) = zi S 442 (120 * d + (i + k)) := fun k hk => by
                      rw [show 120 * e + (j + k) = 120 * e + j + k by omega, hYc k hk, hXf.i (by omega), show 120 * d + (i + k) = 120 * d + i + k by omega]
                    clear hm hmX hY hYf hYc hXf hXc d7 d8 g8 g9 w2 w3 w4 w5 n2 n3 n4 n5
                    refine h.sh (hL.c (by omega) (fun a k _ _ _ _ _ => by rw [yr]) (fun a _ => by rw [hYn])) (by omega) (fun a k _ => by rw [yr]) (fun a k ha => yo a k (by omega) (by omega)) (fun d1 hd1 => ?_)
                    by_cases hde : d1 = e
                    · subst hde
                      refine Or.inr (Or.inr ⟨by rw [yo _ _ (by omega) (by omega)]; exact k4, by rw [yo _ _ (by omega) (by omega)]; exact g4, by rw [yr]; exact g1, by rw [yo (420 + 2 * d1) _ (by omega) (by omega), yo 440 _ (by omega) (by omega)]; exact g2, by rw [yo _ _ (by omega) (by omega)]; exact g3, by rw [yo (420 + 2 * d1) _ (by omega) (by omega), yo 441 _ (by omega) (by omega)]; exact g5, by rw [yo _ _ (by omega) (by omega)]; exact g6, fun k hk => ?_⟩)
                      rw [yo 440 _ (by omega) (by omega)]
                      by_cases hkj : j ≤ k ∧ k < j + n
                      · obtain ⟨p, rfl⟩ : ∃ p, k = j + p := ⟨k - j, by omega⟩
                        rw [y1 p (by omega), y2 p (by omega), ← k5]
                        exact d6 (i + p) (by omega)
                      · rw [yo (421 + 2 * d1) k (by omega) (by omega), yo 442 _ (by omega) (by omega)]
                        exact g7 k hk
                    · refine (h.2.2.2.2.2.1 d1 hd1).o (by omega) (by rw [yr]) (fun a k ha => yo a k (by have := hL.1; omega) (by have := hL.1; omega)) ?_ ?_ ?_ (fun k hk => ?_) ?_ ?_
                      all_goals exact yo _ _ (by omega) (by omega)
                  · rw [if_pos k6, if_neg k7, zLet_d, if_neg (show ¬ (1 : Int32) = 0 by decide), zLet_d, if_pos (show (0 : Int32) = 0 from rfl)]
                    refine ⟨S, -13, S, rfl, ?_, h⟩
                    have p1 : ¬ v5 < 0 := by rw [Int32.lt_iff_toInt_lt, zI0]; omega
                    have p2 : ¬ v2 < 0 := by rw [Int32.lt_iff_toInt_lt, zI0]; omega
                    rw [hm S hL rfl rfl rfl, if_neg k1, if_neg k2, if_pos k3, if_pos k4, if_pos k5, if_neg p1, if_neg p2, es, eu, if_neg (show ¬ nI s - v2 < v5 from fun q => (m_span (by omega) p2 p1).mp q k6.2.2)]
                    by_cases p3 : v4 < 0
                    · rw [if_pos p3]
                    · have p4 : ¬ v5 ≤ nI u - v4 := by
                        rw [Int32.not_le, m_span (by omega) p3 p1]
                        intro q
                        rw [Int32.lt_iff_toInt_lt, zI0] at p3
                        omega
                      rw [if_neg p3, if_neg p4]
                · rw [if_neg k6, zLet_d, if_pos (show (0 : Int32) = 0 from rfl)]
                  refine ⟨S, -13, S, rfl, ?_, h⟩
                  rw [hm S hL rfl rfl rfl, if_neg k1, if_neg k2, if_pos k3, if_pos k4, if_pos k5, es]
                  by_cases p1 : v5 < 0
                  · rw [if_pos p1]
                  · by_cases p2 : v2 < 0
                    · rw [if_neg p1, if_pos p2]
                    · have p3 : nI s - v2 < v5 := by
                        rw [m_span (by omega) p2 p1]
                        rw [Int32.lt_iff_toInt_lt, zI0] at p1 p2
                        omega
                      rw [if_neg p1, if_neg p2, if_pos p3]
                      split <;> rfl
              · rw [if_neg k5]
                exact ⟨S, -12, S, rfl, by rw [hm S hL rfl rfl rfl, if_neg k1, if_neg k2, if_pos k3, if_pos k4, if_neg k5], h⟩
            · rw [if_neg k4, if_neg (show ¬ (-12 : Int32) = 0 by decide)]
              exact ⟨S, -12, S, rfl, by rw [hm S hL rfl rfl rfl, if_neg k1, if_neg k2, if_pos k3, if_neg k4], h⟩
          · rw [if_neg k3, if_neg (show ¬ (-12 : Int32) = 0 by decide)]
            exact ⟨S, -12, S, rfl, by rw [hm S hL rfl rfl rfl, if_neg k1, if_neg k2, if_neg k3], h⟩
    · refine ⟨S, -1, S, ?_, ?_, h⟩
      · unfold f_X11_copy
        rw [x_shelfAt hL hd, zB1_s, x_shelfAt0 h3, zB1_s, if_neg (show ¬ 420 + 2 * d = 0 by omega), if_pos rfl]
      · unfold f_X12_copy
        rw [m_isShelf, if_pos h1, zB1_s, if_neg (by decide), m_isShelf, if_neg h3]; rfl
  · refine ⟨S, -1, S, ?_, ?_, h⟩
    · unfold f_X11_copy
      rw [x_shelfAt0 h1, zB1_s]
      by_cases h3 : zU v3 8
      · obtain ⟨e, he, rfl⟩ := h3.k
        rw [x_shelfAt hL he]; rfl
      · rw [x_shelfAt0 h3]; rfl
    · unfold f_X12_copy
      rw [m_isShelf, if_neg h1]; rfl
