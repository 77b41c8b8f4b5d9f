/-! chair -/
theorem x_seatOf {S : zM} {b a c : Nat} (h : zLayS (zr S) (zln S) b) (ha : a < 6) (hc : c < 7) : f_X9_seatOf S b (nI a) (nI c) = some (zi S (b + 4) (a * 7 + c)) := by
  obtain ⟨⟨-, -, -, r3, -⟩, -, ⟨-, -, -, l4, -⟩, -⟩ := h
  unfold f_X9_seatOf
  rw [zwi (n := 6) rfl, if_pos (zU_n ha (by omega)), zLet_d, if_neg (by decide), zwi (n := 7) rfl, if_pos (zU_n hc (by omega)), zLet_d, if_neg (by decide), r3, zChk_t (by omega), l4, show (7 : Int32) = nI 7 from rfl, nI_mul, nI_add, zChk_t (zix (by omega) (by omega)), nI_clamp (by omega)]
theorem m_onChair {S : zM} {a c : Nat} (h : zLay S) (ha : a < 6) (hc : c < 7) : f_X12_onChair S 436 (nI a) (nI c) = some (zi S 437 (70 + 7 * a + c) - 1) := by
  obtain ⟨-, -, -, -, -, ⟨r0, -⟩, ⟨l0, -⟩⟩ := h
  unfold f_X12_onChair
  rw [r0, zChk_t (by decide), l0, show (70 : Int32) = nI 70 from rfl, show (7 : Int32) = nI 7 from rfl, nI_mul, nI_add, nI_add, zChk_t (zix (by omega) (by omega)), nI_clamp (by omega)]
/-- somebody sits on another chair of the hall: d chairs from k on -/
def zOt (f : Nat → Int32) (c : Nat) (j : Int32) : Nat → Nat → Bool
  | 0, _ => false
  | d + 1, k => if k = c then zOt f c j d (k + 1) else if f k = j then true else zOt f c j d (k + 1)
theorem zOt_c {f g : Nat → Int32} {c : Nat} {j : Int32} {d k : Nat} (h : ∀ i : Nat, i < k + d → f i = g i) : zOt f c j d k = zOt g c j d k := by
  induction d generalizing k with
  | zero => rfl
  | succ d ih =>
    show (if k = c then zOt f c j d (k + 1) else if f k = j then true else zOt f c j d (k + 1)) = (if k = c then zOt g c j d (k + 1) else if g k = j then true else zOt g c j d (k + 1))
    rw [ih (fun i hi => h i (by omega)), h k (by omega)]
theorem zOt_f {f : Nat → Int32} {c : Nat} {j : Int32} {d k : Nat} (h : zOt f c j d k = false) : ∀ i : Nat, k ≤ i → i < k + d → i ≠ c → ¬ f i = j := by
  induction d generalizing k with
  | zero => intro i h1 h2; omega
  | succ d ih =>
    intro i h1 h2 h3 h4
    have h' : (if k = c then zOt f c j d (k + 1) else if f k = j then true else zOt f c j d (k + 1)) = false := h
    by_cases hk : k = c
    · rw [if_pos hk] at h'
      exact ih h' i (by omega) (by omega) h3 h4
    · rw [if_neg hk] at h'
      by_cases hf : f k = j
      · rw [if_pos hf] at h'
        cases h'
      · rw [if_neg hf] at h'
        by_cases hik : i = k
        · subst hik; exact hf h4
        · exact ih h' i (by omega) (by omega) h3 h4
theorem x_other {S : zM} {b a c : Nat} (h : zLayS (zr S) (zln S) b) (ha : a < 6) (hc : c < 7) {j : Int32} (hj : ¬ j = -1) {n : Nat} (hn : 7 < n) : f_X9_isOnOtherChair n S b (nI a) (nI c) j = some (if zOt (fun k => zi S (b + 4) (a * 7 + k)) c j 7 0 = true then 1 else 0) := by
  unfold f_X9_isOnOtherChair
  have key : ∀ d k n : Nat, k + d = 7 → d < n → f_X9_isOnOtherChair_L3 S b (nI a) (nI c) j n (nI k) = some (if zOt (fun k => zi S (b + 4) (a * 7 + k)) c j d k = true then 1 else 0) := by
    intro d
    induction d with
    | zero =>
      intro k n hk hn
      obtain ⟨f, rfl⟩ : ∃ f, n = f + 1 := ⟨n - 1, by omega⟩
      have : k = 7 := by omega
      subst this
      show f_X9_isOnOtherChair_L3b S b (nI a) (nI c) j (f_X9_isOnOtherChair_L3 S b (nI a) (nI c) j f) (nI 7) = _
      unfold f_X9_isOnOtherChair_L3b
      rw [if_pos (show (7 : Int32) ≤ nI 7 from Int32.le_refl _)]
      rfl
    | succ d ih =>
      intro k n hk hn
      obtain ⟨f, rfl⟩ : ∃ f, n = f + 1 := ⟨n - 1, by omega⟩
      show f_X9_isOnOtherChair_L3b S b (nI a) (nI c) j (f_X9_isOnOtherChair_L3 S b (nI a) (nI c) j f) (nI k) = some (if (if k = c then zOt (fun k => zi S (b + 4) (a * 7 + k)) c j d (k + 1) else if zi S (b + 4) (a * 7 + k) = j then true else zOt (fun k => zi S (b + 4) (a * 7 + k)) c j d (k + 1)) = true then 1 else 0)
      unfold f_X9_isOnOtherChair_L3b
      have h7 : k < 7 := by omega
      rw [if_neg (show ¬ (7 : Int32) ≤ nI k from nI_ge h7 (by decide)), if_neg hj, nI_1, ih (k + 1) f (by omega) (by omega)]
      by_cases hkc : k = c
      · subst hkc
        rw [if_pos rfl, if_pos rfl]
      · rw [if_neg (fun hh => hkc (nI_inj hh (by omega) (by omega))), x_seatOf h ha h7, zB1_s, if_neg hkc]
        by_cases hs : zi S (b + 4) (a * 7 + k) = j
        · rw [if_pos hs, if_pos hs, if_pos rfl]
        · rw [if_neg hs, if_neg hs]
  exact key 7 0 n (by omega) hn
theorem m_other {S : zM} (h : zLay S) {a c : Nat} (ha : a < 6) (hc : c < 7) {j : Int32} (hj : ¬ j < 0) {K : Option (Int32 × zM)} {n : Nat} (hn : 7 < n) : f_X12_chair_L32 S 436 (nI a) (nI c) j K n 0 = if zOt (fun k => zi S 437 (70 + 7 * a + k) - 1) c j 7 0 = true then some (-3, S) else K := by
  have key : ∀ d k n : Nat, k + d = 7 → d < n → f_X12_chair_L32 S 436 (nI a) (nI c) j K n (nI k) = if zOt (fun k => zi S 437 (70 + 7 * a + k) - 1) c j d k = true then some (-3, S) else K := by
    intro d
    induction d with
    | zero =>
      intro k n hk hn
      obtain ⟨f, rfl⟩ : ∃ f, n = f + 1 := ⟨n - 1, by omega⟩
      have : k = 7 := by omega
      subst this
      show f_X12_chair_L32b S 436 (nI a) (nI c) j K (f_X12_chair_L32 S 436 (nI a) (nI c) j K f) (nI 7) = _
      unfold f_X12_chair_L32b
      rw [if_pos (show (7 : Int32) ≤ nI 7 from Int32.le_refl _)]
      rfl
    | succ d ih =>
      intro k n hk hn
      obtain ⟨f, rfl⟩ : ∃ f, n = f + 1 := ⟨n - 1, by omega⟩
      show f_X12_chair_L32b S 436 (nI a) (nI c) j K (f_X12_chair_L32 S 436 (nI a) (nI c) j K f) (nI k) = if (if k = c then zOt (fun k => zi S 437 (70 + 7 * a + k) - 1) c j d (k + 1) else if zi S 437 (70 + 7 * a + k) - 1 = j then true else zOt (fun k => zi S 437 (70 + 7 * a + k) - 1) c j d (k + 1)) = true then some (-3, S) else K
      unfold f_X12_chair_L32b
      have h7 : k < 7 := by omega
      rw [if_neg (show ¬ (7 : Int32) ≤ nI k from nI_ge h7 (by decide)), if_neg hj, nI_1, ih (k + 1) f (by omega) (by omega)]
      by_cases hkc : k = c
      · subst hkc
        rw [if_pos rfl, if_pos rfl]
      · rw [if_neg (fun hh => hkc (nI_inj hh (by omega) (by omega))), m_onChair h ha h7, zB1_s, if_neg hkc]
        by_cases hs : zi S 437 (70 + 7 * a + k) - 1 = j
        · rw [if_pos hs, if_pos hs, if_pos rfl]
        · rw [if_neg hs, if_neg hs]
  exact key 7 0 n (by omega) hn
