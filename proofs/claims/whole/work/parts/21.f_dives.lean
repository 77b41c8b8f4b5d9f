/-! a dive's place: diveAt, isDive, get; mark -/
theorem zBd.n3 {g : Nat → Int32} (h : zBd g) : ∃ nv : Nat, nv ≤ 40 ∧ g 1003 = nI nv := by
  obtain ⟨nd, nj, nv, ⟨_, _, h3, _, _, h6⟩, _⟩ := h
  exact ⟨nv, h3, h6⟩
theorem m_get {S : zM} (h : zLay S) {v k : Nat} (hv : v < 40) (hk : k < 19) : f_X12_get S 436 (nI v) (nI k) = some (zi S 437 (112 + 19 * v + k)) := by
  obtain ⟨-, -, -, -, -, ⟨r0, -⟩, ⟨l0, -⟩⟩ := h
  unfold f_X12_get
  rw [r0, zChk_t (by decide), l0, show (112 : Int32) = nI 112 from rfl, show (19 : Int32) = nI 19 from rfl, nI_mul, nI_add, nI_add, zChk_t (zix (by omega) (by omega)), nI_clamp (by omega)]
theorem m_isDive {S : zM} (h : zLay S) {nv : Nat} (hn : nv ≤ 40) (e : zi S 437 1003 = nI nv) {v : Int32} : f_X12_isDive S 436 v = some (if zU v nv then 1 else 0) := by
  obtain ⟨-, -, -, -, -, ⟨r0, -⟩, ⟨l0, -⟩⟩ := h
  unfold f_X12_isDive
  rw [r0, zChk_t (by decide), l0, show (1003 : Int32) = nI 1003 from rfl, zChk_t (zix (by omega) (by omega)), nI_clamp (by omega), e, zisN (by omega), zLet_d]
  by_cases hu : zU v nv
  · rw [if_pos hu]; rfl
  · rw [if_neg hu]; rfl
theorem m_isDiver {S : zM} (h : zLay S) {nv : Nat} (hn : nv ≤ 40) (e : zi S 437 1001 = nI nv) {v : Int32} : f_X12_isDiver S 436 v = some (if zU v nv then 1 else 0) := by
  obtain ⟨-, -, -, -, -, ⟨r0, -⟩, ⟨l0, -⟩⟩ := h
  unfold f_X12_isDiver
  rw [r0, zChk_t (by decide), l0, show (1001 : Int32) = nI 1001 from rfl, zChk_t (zix (by omega) (by omega)), nI_clamp (by omega), e, zisN (by omega), zLet_d]
  by_cases hu : zU v nv
  · rw [if_pos hu]; rfl
  · rw [if_neg hu]; rfl
theorem m_isJudge {S : zM} (h : zLay S) {nv : Nat} (hn : nv ≤ 40) (e : zi S 437 1002 = nI nv) {v : Int32} : f_X12_isJudge S 436 v = some (if zU v nv then 1 else 0) := by
  obtain ⟨-, -, -, -, -, ⟨r0, -⟩, ⟨l0, -⟩⟩ := h
  unfold f_X12_isJudge
  rw [r0, zChk_t (by decide), l0, show (1002 : Int32) = nI 1002 from rfl, zChk_t (zix (by omega) (by omega)), nI_clamp (by omega), e, zisN (by omega), zLet_d]
  by_cases hu : zU v nv
  · rw [if_pos hu]; rfl
  · rw [if_neg hu]; rfl
theorem x_diveAt {S : zM} {b nv : Nat} (h : zLayS (zr S) (zln S) b) (hn : nv ≤ 40) (e : zi S b 7 = nI nv) {v : Nat} (hv : v < nv) : f_X9_diveAt S b (nI v) = some (b + 14 + 3 * v) := by
  obtain ⟨⟨-, -, -, -, -, -, r9, -⟩, -, ⟨-, -, -, -, -, -, -, -, l10, -⟩, hd⟩ := h
  unfold f_X9_diveAt
  rw [e, zwN (by omega), if_pos (zU_n hv (by omega)), zLet_d, if_neg (by decide), r9, zChk_t (by omega), l10, zChk_t (zix (by omega) (by omega)), nI_clamp (by omega), (hd v (by omega)).1]
theorem x_diveAt0 {S : zM} {b nv : Nat} (hn : nv ≤ 40) (e : zi S b 7 = nI nv) {v : Int32} (hv : ¬ zU v nv) : f_X9_diveAt S b v = some 0 := by
  unfold f_X9_diveAt
  rw [e, zwN (by omega), if_neg hv]; rfl
theorem x_judgeAt {S : zM} {b nj : Nat} (h : zLayS (zr S) (zln S) b) (hn : nj ≤ 12) (e : zi S b 6 = nI nj) {j : Nat} (hj : j < nj) : f_X9_judgeAt S b (nI j) = some (zr S (b + 9) j) := by
  obtain ⟨⟨-, -, -, -, -, r8, -⟩, -, ⟨-, -, -, -, -, -, -, l9, -⟩, -⟩ := h
  unfold f_X9_judgeAt
  rw [e, zwN (by omega), if_pos (zU_n hj (by omega)), zLet_d, if_neg (by decide), r8, zChk_t (by omega), l9, zChk_t (zix (by omega) (by omega)), nI_clamp (by omega)]
theorem x_judgeAt0 {S : zM} {b nj : Nat} (hn : nj ≤ 12) (e : zi S b 6 = nI nj) {v : Int32} (hv : ¬ zU v nj) : f_X9_judgeAt S b v = some 0 := by
  unfold f_X9_judgeAt
  rw [e, zwN (by omega), if_neg hv]; rfl
theorem x_hasMark {S : zM} {q q1 c : Nat} (hr : zr S q 0 = q1) (h0 : q1 ≠ 0) (hn : zln S q1 = 7) (hc : c < 7) : f_X1_hasMark S q (nI c) = some (if zi S q1 c = -128 then 0 else 1) := by
  unfold f_X1_hasMark
  rw [zwi (n := 7) rfl, if_pos (zU_n hc (by omega)), zLet_d, if_neg (by decide), hr, zChk_t (by omega), hn, zChk_t (zix hc (by omega)), nI_clamp (by omega)]
  split <;> rfl
/-- a mark as the row has it, told as the class has it -/
theorem zmk {x : Int32} (h : zU x 22) : ((if x = 0 then (-128 : Int32) else x - 1) = -128 ↔ x = 0) ∧ (0 ≤ x - 1 ↔ ¬ x = 0) := by
  obtain ⟨k, hk, rfl⟩ := h.k
  rcases Nat.eq_zero_or_pos k with rfl | hp
  · decide +kernel
  · obtain ⟨j, rfl⟩ : ∃ j, k = j + 1 := ⟨k - 1, by omega⟩
    have h0 : ¬ nI (j + 1) = 0 := nI_ne0 (by omega) (by omega)
    rw [if_neg h0, nI_pred]
    refine ⟨⟨fun h => ?_, fun h => absurd h h0⟩, ⟨fun _ => h0, fun _ => nI_pos' (by omega)⟩⟩
    exfalso
    have h1 := congrArg Int32.toInt h
    rw [nI_toInt (by omega)] at h1
    have h2 : (-128 : Int32).toInt = -128 := by decide +kernel
    omega
theorem s_mark {S : zM} (h : zInv S) (v1 v2 v3 v4 v5 : Int32) : ∃ S' : zM, zs_10 1 436 v1 v2 v3 v4 v5 S S' ∧ zInv S' := by
  refine ⟨S, ?_, h⟩
  have hL := h.1
  obtain ⟨nv, hn, e⟩ := h.2.2.1.n3
  have hr := h.2.1
  have e7 : zi S 2 7 = nI nv := by rw [← e]; exact hr.2.2.2.1.2.2
  have hl2 := hL.2.1
  have r0 : zr S 1 0 = 2 := hL.2.2.2.2.1.1.1
  unfold zs_10 f_X11_mark f_X12_mark
  rw [r0, zChk_t (by decide), m_isDive hL hn e]
  by_cases hv : zU v1 nv
  · obtain ⟨v, hv1, rfl⟩ := hv.k
    rw [x_diveAt hl2 hn e7 hv1, if_pos hv, zB1_s, zB1_s, if_neg (by omega), if_neg (by decide), zwi (n := 7) rfl, m_isChair, zLet_d, zB1_s]
    by_cases hc : zU v2 7
    · obtain ⟨c, hc1, rfl⟩ := hc.k
      have hd := hl2.2.2.2 v (by omega)
      have hm := (hr.2.2.2.2.2.2 v (by rw [e]; exact nI_lt hv1 (by omega)) (by omega)).2.2.2.2.2 c hc1
      obtain ⟨nd, nj, nv1, ⟨_, _, _, _, _, e6⟩, _, _, _, _, _, _, _, _, h9⟩ := h.2.2.1
      have hnv : nv1 = nv := by
        have h1 := e6.symm.trans e
        have h2 := congrArg Int32.toInt h1
        rw [nI_toInt (by omega), nI_toInt (by omega)] at h2
        omega
      subst hnv
      have hb := ((h9 v hv1).2.2.2.2.2.1 c hc1).1
      have hz := zmk hb
      have hm1 := hm.1
      rw [show 2 + 14 + 3 * v + 1 = 2 + 15 + 3 * v by omega] at hm1
      rw [if_pos hc, if_neg (by decide), if_neg (by decide), x_hasMark hd.2.1 (by omega) hd.2.2.2.1 hc1]
      unfold f_X12_markOf
      rw [show (5 : Int32) = nI 5 from rfl, nI_add, m_get hL (by omega) (by omega), zB1_s, zB1_s, zB1_s, zB1_s, show 112 + 19 * v + (5 + c) = 112 + 19 * v + 5 + c by omega, hd.2.1, zChk_t (by omega), hd.2.2.2.1, zChk_t (zix hc1 (by omega)), nI_clamp (by omega), hm1]
      by_cases h0 : zi S 437 (112 + 19 * v + 5 + c) = 0
      · rw [if_pos (hz.1.mpr h0), if_pos rfl, if_neg (fun hh => hz.2.mp hh h0)]
        exact ⟨-4, rfl, rfl, rfl⟩
      · rw [if_neg (fun hh => h0 (hz.1.mp hh)), if_neg (by decide), if_pos (hz.2.mpr h0), if_neg h0]
        exact ⟨_, rfl, rfl, rfl⟩
    · rw [if_neg hc, if_pos rfl, if_pos rfl]
      exact ⟨-1, rfl, rfl, rfl⟩
  · rw [x_diveAt0 hn e7 hv, if_neg hv, zB1_s, zB1_s, if_pos rfl, if_pos rfl]
    exact ⟨-1, rfl, rfl, rfl⟩
