/-! chair -/
theorem x_seatOf {S : zM} {b a c : Nat} (h : zLayS (zr S) (zln S) b) (ha : a < 6) (hc : c < 7) : f_X9_seatOf S b (nI a) (nI c) = some (zi S (b + 4) (a * 7 + c)) := by
  obtain ⟨⟨-, -, -, r3, -⟩, -, ⟨-, -, -, l4, -⟩, -⟩ := h
  unfold f_X9_seatOf
  rw [zwi (n := 6) rfl, if_pos (zU_n ha (by omega)), zLet_d, if_neg (by decide), zwi (n := 7) rfl, if_pos (zU_n hc (by omega)), zLet_d, if_neg (by decide), r3, zChk_t (by omega), l4, show (7 : Int32) = nI 7 from rfl, nI_mul, nI_add, zChk_t (zix (by omega) (by omega)), nI_clamp (by omega)]
theorem m_onChair {S : zM} {a c : Nat} (h : zLay S) (ha : a < 6) (hc : c < 7) : f_X12_onChair S 436 (nI a) (nI c) = some (zi S 437 (70 + 7 * a + c) - 1) := by
  obtain ⟨-, -, -, -, -, ⟨r0, -⟩, ⟨l0, -⟩⟩ := h
  unfold f_X12_onChair
  rw [r0, zChk_t (by decide), l0, show (70 : Int32) = nI 70 from rfl, show (7 : Int32) = nI 7 from rfl, nI_mul, nI_add, nI_add, zChk_t (zix (by omega) (by omega)), nI_clamp (by omega)]
/-- somebody sits on another chair of the hall: d chairs from k on -/
def zOt (f : Nat → Int32) (c : Nat) (j : Int32) : Nat → Nat → Bool
  | 0, _ => false
  | d + 1, k => if k = c then zOt f c j d (k + 1) else if f k = j then true else zOt f c j d (k + 1)
theorem zOt_c {f g : Nat → Int32} {c : Nat} {j : Int32} {d k : Nat} (h : ∀ i : Nat, i < k + d → f i = g i) : zOt f c j d k = zOt g c j d k := by
  induction d generalizing k with
  | zero => rfl
  | succ d ih =>
    show (if k = c then zOt f c j d (k + 1) else if f k = j then true else zOt f c j d (k + 1)) = (if k = c then zOt g c j d (k + 1) else if g k = j then true else zOt g c j d (k + 1))
    rw [ih (fun i hi => h i (by omega)), h k (by omega)]
theorem zOt_f {f : Nat → Int32} {c : Nat} {j : Int32} {d k : Nat} (h : zOt f c j d k = false) : ∀ i : Nat, k ≤ i → i < k + d → i ≠ c → ¬ f i = j := by
  induction d generalizing k with
  | zero => intro i h1 h2; omega
  | succ d ih =>
    intro i h1 h2 h3 h4
    have h' : (if k = c then zOt f c j d (k + 1) else if f k = j then true else zOt f c j d (k + 1)) = false := h
    by_cases hk : k = c
    · rw [if_pos hk] at h'
      exact ih h' i (by omega) (by omega) h3 h4
    · rw [if_neg hk] at h'
      by_cases hf : f k = j
      · rw [if_pos hf] at h'
        cases h'
      · rw [if_neg hf] at h'
        by_cases hik : i = k
        · subst hik; exact hf h4
        · exact ih h' i (by omega) (by omega) h3 h4
theorem x_other {S : zM} {b a c : Nat} (h : zLayS (zr S) (zln S) b) (ha : a < 6) (hc : c < 7) {j : Int32} (hj : ¬ j = -1) {n : Nat} (hn : 7 < n) : f_X9_isOnOtherChair n S b (nI a) (nI c) j = some (if zOt (fun k => zi S (b + 4) (a * 7 + k)) c j 7 0 = true then 1 else 0) := by
  unfold f_X9_isOnOtherChair
  have key : ∀ d k n : Nat, k + d = 7 → d < n → f_X9_isOnOtherChair_L3 S b (nI a) (nI c) j n (nI k) = some (if zOt (fun k => zi S (b + 4) (a * 7 + k)) c j d k = true then 1 else 0) := by
    intro d
    induction d with
    | zero =>
      intro k n hk hn
      obtain ⟨f, rfl⟩ : ∃ f, n = f + 1 := ⟨n - 1, by omega⟩
      have : k = 7 := by omega
      subst this
      show f_X9_isOnOtherChair_L3b S b (nI a) (nI c) j (f_X9_isOnOtherChair_L3 S b (nI a) (nI c) j f) (nI 7) = _
      unfold f_X9_isOnOtherChair_L3b
      rw [if_pos (show (7 : Int32) ≤ nI 7 from Int32.le_refl _)]
      rfl
    | succ d ih =>
      intro k n hk hn
      obtain ⟨f, rfl⟩ : ∃ f, n = f + 1 := ⟨n - 1, by omega⟩
      show f_X9_isOnOtherChair_L3b S b (nI a) (nI c) j (f_X9_isOnOtherChair_L3 S b (nI a) (nI c) j f) (nI k) = some (if (if k = c then zOt (fun k => zi S (b + 4) (a * 7 + k)) c j d (k + 1) else if zi S (b + 4) (a * 7 + k) = j then true else zOt (fun k => zi S (b + 4) (a * 7 + k)) c j d (k + 1)) = true then 1 else 0)
      unfold f_X9_isOnOtherChair_L3b
      have h7 : k < 7 := by omega
      rw [if_neg (show ¬ (7 : Int32) ≤ nI k from nI_ge h7 (by decide)), if_neg hj, nI_1, ih (k + 1) f (by omega) (by omega)]
      by_cases hkc : k = c
      · subst hkc
        rw [if_pos rfl, if_pos rfl]
      · rw [if_neg (fun hh => hkc (nI_inj hh (by omega) (by omega))), x_seatOf h ha h7, zB1_s, if_neg hkc]
        by_cases hs : zi S (b + 4) (a * 7 + k) = j
        · rw [if_pos hs, if_pos hs, if_pos rfl]
        · rw [if_neg hs, if_neg hs]
  exact key 7 0 n (by omega) hn
theorem m_other {S : zM} (h : zLay S) {a c : Nat} (ha : a < 6) (hc : c < 7) {j : Int32} (hj : ¬ j < 0) {K : Option (Int32 × zM)} {n : Nat} (hn : 7 < n) : f_X12_chair_L32 S 436 (nI a) (nI c) j K n 0 = if zOt (fun k => zi S 437 (70 + 7 * a + k) - 1) c j 7 0 = true then some (-3, S) else K := by
  have key : ∀ d k n : Nat, k + d = 7 → d < n → f_X12_chair_L32 S 436 (nI a) (nI c) j K n (nI k) = if zOt (fun k => zi S 437 (70 + 7 * a + k) - 1) c j d k = true then some (-3, S) else K := by
    intro d
    induction d with
    | zero =>
      intro k n hk hn
      obtain ⟨f, rfl⟩ : ∃ f, n = f + 1 := ⟨n - 1, by omega⟩
      have : k = 7 := by omega
      subst this
      show f_X12_chair_L32b S 436 (nI a) (nI c) j K (f_X12_chair_L32 S 436 (nI a) (nI c) j K f) (nI 7) = _
      unfold f_X12_chair_L32b
      rw [if_pos (show (7 : Int32) ≤ nI 7 from Int32.le_refl _)]
      rfl
    | succ d ih =>
      intro k n hk hn
      obtain ⟨f, rfl⟩ : ∃ f, n = f + 1 := ⟨n - 1, by omega⟩
      show f_X12_chair_L32b S 436 (nI a) (nI c) j K (f_X12_chair_L32 S 436 (nI a) (nI c) j K f) (nI k) = if (if k = c then zOt (fun k => zi S 437 (70 + 7 * a + k) - 1) c j d (k + 1) else if zi S 437 (70 + 7 * a + k) - 1 = j then true else zOt (fun k => zi S 437 (70 + 7 * a + k) - 1) c j d (k + 1)) = true then some (-3, S) else K
      unfold f_X12_chair_L32b
      have h7 : k < 7 := by omega
      rw [if_neg (show ¬ (7 : Int32) ≤ nI k from nI_ge h7 (by decide)), if_neg hj, nI_1, ih (k + 1) f (by omega) (by omega)]
      by_cases hkc : k = c
      · subst hkc
        rw [if_pos rfl, if_pos rfl]
      · rw [if_neg (fun hh => hkc (nI_inj hh (by omega) (by omega))), m_onChair h ha h7, zB1_s, if_neg hkc]
        by_cases hs : zi S 437 (70 + 7 * a + k) - 1 = j
        · rw [if_pos hs, if_pos hs, if_pos rfl]
        · rw [if_neg hs, if_neg hs]
  exact key 7 0 n (by omega) hn
theorem x_other0 {S : zM} {b : Nat} {v1 v2 : Int32} {n : Nat} (hn : 7 < n) : f_X9_isOnOtherChair n S b v1 v2 (-1) = some 0 := by
  unfold f_X9_isOnOtherChair
  refine zloop (fun n (s : Int32) => f_X9_isOnOtherChair_L3 S b v1 v2 (-1) n s) (fun k => nI k) 7 (fun k f hk => ?_) (fun f => ?_) n hn
  · show f_X9_isOnOtherChair_L3b S b v1 v2 (-1) (f_X9_isOnOtherChair_L3 S b v1 v2 (-1) f) (nI k) = _
    unfold f_X9_isOnOtherChair_L3b
    rw [if_neg (show ¬ (7 : Int32) ≤ nI k from nI_ge hk (by decide)), if_pos rfl, nI_1]
  · show f_X9_isOnOtherChair_L3b S b v1 v2 (-1) (f_X9_isOnOtherChair_L3 S b v1 v2 (-1) f) (nI 7) = _
    unfold f_X9_isOnOtherChair_L3b
    rw [if_pos (show (7 : Int32) ≤ nI 7 from Int32.le_refl _)]
theorem m_other0 {S : zM} {v1 v2 : Int32} {K : Option (Int32 × zM)} {n : Nat} (hn : 0 < n) : f_X12_chair_L32 S 436 v1 v2 (-1) K n 0 = K := by
  obtain ⟨f, rfl⟩ : ∃ f, n = f + 1 := ⟨n - 1, by omega⟩
  show f_X12_chair_L32b S 436 v1 v2 (-1) K (f_X12_chair_L32 S 436 v1 v2 (-1) K f) 0 = _
  unfold f_X12_chair_L32b
  rw [if_neg (by decide), if_pos (by decide)]
theorem zm1 {x : Int32} : x - 1 = -1 ↔ x = 0 := by
  constructor
  · intro h
    have h1 : x - 1 + 1 = -1 + 1 := by rw [h]
    rw [Int32.sub_add_cancel] at h1
    rw [h1]; decide +kernel
  · intro h
    rw [h]; decide +kernel
/-- somebody known, or nobody, takes the chair c of the hall a -/
theorem chair_set {S : zM} (h : zInv S) {a c nj : Nat} (ha : a < 6) (hc : c < 7) (hj : nj ≤ 12) (ej : zi S 437 1002 = nI nj) {v : Int32} (hv : zU (v + 1) (nj + 1)) (hne : ∀ i : Nat, i < 7 → i ≠ c → zi S 437 (70 + 7 * a + i) = v + 1 → v + 1 = 0) :
    zInv (zpI (zpI S 6 (a * 7 + c) v) 437 (70 + 7 * a + c) (v + 1)) := by
  have h2 := h.2.1
  obtain ⟨nd, nj1, nv, ⟨b1, b2, b3, b4, b5, b6⟩, c1, c2, c3, c4, c5, c6⟩ := zBd_iff.mp h.2.2.1
  have := nI_inj (b5.symm.trans ej) (by omega) (by omega)
  subst this
  have hLY := (h.1.pI (a := 6) (k := a * 7 + c) (v := v)).pI (a := 437) (k := 70 + 7 * a + c) (v := v + 1)
  have eo : ∀ x k : Nat, x ≠ 6 → x ≠ 437 → zi (zpI (zpI S 6 (a * 7 + c) v) 437 (70 + 7 * a + c) (v + 1)) x k = zi S x k := fun x k h1 h2 => by
    rw [mi_ne _ _ (by omega), mi_ne _ _ (by omega)]
  have en : ∀ k : Nat, k ≠ 70 + 7 * a + c → zi (zpI (zpI S 6 (a * 7 + c) v) 437 (70 + 7 * a + c) (v + 1)) 437 k = zi S 437 k := fun k hk => by
    rw [mi_ne _ _ (by omega), mi_ne _ _ (by omega)]
  have eg : zi (zpI (zpI S 6 (a * 7 + c) v) 437 (70 + 7 * a + c) (v + 1)) 437 (70 + 7 * a + c) = v + 1 := mi_eq _ _ _ _
  have e6 : ∀ k : Nat, zi (zpI (zpI S 6 (a * 7 + c) v) 437 (70 + 7 * a + c) (v + 1)) 6 k = if k = a * 7 + c then v else zi S 6 k := fun k => by
    rw [mi_ne _ _ (by omega), mi_pI]
    simp
  have hr : zr (zpI (zpI S 6 (a * 7 + c) v) 437 (70 + 7 * a + c) (v + 1)) = zr S := by rw [mr_pI, mr_pI]
  have hs : zsz (zpI (zpI S 6 (a * 7 + c) v) 437 (70 + 7 * a + c) (v + 1)) = zsz S := by rw [msz_pI, msz_pI]
  generalize zpI (zpI S 6 (a * 7 + c) v) 437 (70 + 7 * a + c) (v + 1) = Y at *
  refine h.now hLY (by omega) (fun x k _ _ => by rw [hr]) (fun x k hx => eo x k (by omega) (by omega)) ?_ ?_
  · refine zRep.lay (zg1 h2 (fun x k hx => eo x k (by omega) (by omega)) (fun k hk => en k (by omega))) (zg2 h2 (fun x k hx => eo x k (by omega) (by omega)) (fun k hk _ => en k (by omega))) (fun q hq => ?_) (zg4 h2 (fun x k hx => eo x k (by omega) (by omega)) (fun k hk _ => en k (by omega))) (zg5 h2 (fun x k hx => eo x k (by omega) (by omega)) (fun k hk _ => en k (by omega))) (zg6 h2 (by omega) (fun j => by rw [hr]) (fun x k hx => eo x k (by omega) (by omega)) (fun k hk _ => en k (by omega)) (en _ (by omega))) (zg7 h2 (fun x k hx => eo x k (by omega) (by omega)) (fun k hk _ => en k (by omega)) (en _ (by omega)))
    show zi Y 6 q = _
    rw [e6]
    by_cases hqa : q = a * 7 + c
    · rw [if_pos hqa, show 70 + q = 70 + 7 * a + c by omega, eg, Int32.add_sub_cancel]
    · rw [if_neg hqa, en _ (by omega)]; exact h2.2.2.1 q hq
  · refine zBd_iff.mpr ⟨nd, nj1, nv, ⟨b1, b2, b3, by rw [en 1001 (by omega)]; exact b4, by rw [en 1002 (by omega)]; exact b5, by rw [en 1003 (by omega)]; exact b6⟩, c1.g b1 (fun k _ => en k (by omega)), c2.g b2 (fun k _ _ => en k (by omega)), c3.g (fun k _ _ => en k (by omega)), ⟨fun q hq => ?_, fun x i i1 hx hi hi1 hne1 heq => ?_⟩, c5.g (fun k _ _ => en k (by omega)), fun v hv => (c6 v hv).g (fun k _ _ => en k (by omega))⟩
    · by_cases hqa : q = 7 * a + c
      · rw [show 70 + q = 70 + 7 * a + c by omega, eg]; exact hv
      · rw [en _ (by omega)]; exact c4.1 q hq
    · by_cases hi2 : x = a ∧ i = c
      · obtain ⟨rfl, rfl⟩ := hi2
        rw [eg] at heq ⊢
        rw [en _ (by omega)] at heq
        exact hne i1 hi1 (by omega) heq.symm
      · by_cases hi3 : x = a ∧ i1 = c
        · obtain ⟨rfl, rfl⟩ := hi3
          rw [eg] at heq
          rw [en _ (by omega)] at heq ⊢
          rw [heq]
          exact hne i hi (by omega) heq
        · rw [en _ (by omega)] at heq ⊢
          rw [en _ (by omega)] at heq
          exact c4.2 x i i1 hx hi hi1 hne1 heq
theorem x_chair {S : zM} (h : zLay S) {a c nj : Nat} (ha : a < 6) (hc : c < 7) (hj : nj ≤ 12) (ej : zi S 2 6 = nI nj) {v : Int32} (hv : v = -1 ∨ zU v nj) {r : Int32} (ho : f_X9_isOnOtherChair 20 S 2 (nI a) (nI c) v = some r) : f_X11_chair 20 S 1 (nI a) (nI c) v = if r = 0 then some (if zi S 6 (a * 7 + c) = -1 then (-4, zpI S 6 (a * 7 + c) v) else (zi S 6 (a * 7 + c), zpI S 6 (a * 7 + c) v)) else some (-3, S) := by
  have r0 : zr S 1 0 = 2 := h.2.2.2.2.1.1.1
  have r3 : zr S 2 3 = 6 := h.2.1.1.2.2.2.1
  have l3 : zln S 6 = 42 := h.2.1.2.2.1.2.2.2.1
  have body : (if f_X11_within (nI a) 6 = 0 then some ((-1 : Int32), S) else if f_X11_within (nI c) 7 = 0 then some (-1, S) else if (1 : Int32) = 0 then some (-1, S) else zChk (¬ (zr S 1 0) = 0) (zB1 (f_X9_isOnOtherChair 20 S (zr S 1 0) (nI a) (nI c) v) (fun r19 => if r19 = 0 then zB1 (f_X9_seatOf S (zr S 1 0) (nI a) (nI c)) (fun r25 => zChk (¬ (zr S (zr S 1 0) 3) = 0) (zChk (¬ (((nI a * (7 : Int32)) + nI c) < 0 ∨ zln S (zr S (zr S 1 0) 3) ≤ (((nI a * (7 : Int32)) + nI c)).toNatClampNeg)) (if r25 = (-1 : Int32) then some (((-4 : Int32), zpI S (zr S (zr S 1 0) 3) (Int32.toNatClampNeg ((nI a * (7 : Int32)) + nI c)) v)) else some ((r25, zpI S (zr S (zr S 1 0) 3) (Int32.toNatClampNeg ((nI a * (7 : Int32)) + nI c)) v))))) else some (((-3 : Int32), S))))) = if r = 0 then some (if zi S 6 (a * 7 + c) = -1 then (-4, zpI S 6 (a * 7 + c) v) else (zi S 6 (a * 7 + c), zpI S 6 (a * 7 + c) v)) else some (-3, S) := by
    rw [zwi (n := 6) rfl, if_pos (zU_n ha (by omega)), zwi (n := 7) rfl, if_pos (zU_n hc (by omega)), if_neg (by decide), if_neg (by decide), if_neg (by decide), r0, zChk_t (by decide), ho, zB1_s, x_seatOf h.2.1 ha hc, zB1_s, r3, zChk_t (by decide), l3, show (7 : Int32) = nI 7 from rfl, nI_mul, nI_add, zChk_t (zix (by omega) (by omega)), nI_clamp (by omega)]
    show (if r = 0 then (if zi S 6 (a * 7 + c) = -1 then _ else _) else _) = _
    split
    · split <;> rfl
    · rfl
  unfold f_X11_chair
  simp only [zLet_d]
  rcases hv with rfl | hv
  · rw [if_pos rfl]
    exact body
  · have hne : ¬ v = -1 := by
      intro hh
      have h1 := hv.1
      rw [hh] at h1
      exact absurd h1 (by decide +kernel)
    rw [if_neg hne, zChk_t (by rw [r0]; decide), show zi S (zr S 1 0) 6 = nI nj by rw [r0]; exact ej, zwN (by omega), if_pos hv, if_neg (show ¬ (1 : Int32) = 0 by decide)]
    exact body
theorem m_chair {S : zM} (h : zLay S) {a c nj : Nat} (ha : a < 6) (hc : c < 7) (hj : nj ≤ 12) (ej : zi S 437 1002 = nI nj) {v : Int32} (hv : v = -1 ∨ zU v nj) {p : Prop} [Decidable p] (ho : ∀ K : Option (Int32 × zM), f_X12_chair_L32 S 436 (nI a) (nI c) v K 20 0 = if p then some (-3, S) else K) : f_X12_chair 20 S 436 (nI a) (nI c) v = if p then some (-3, S) else some (if zi S 437 (70 + 7 * a + c) = 0 then (-4, zpI S 437 (70 + 7 * a + c) (v + 1)) else (zi S 437 (70 + 7 * a + c) - 1, zpI S 437 (70 + 7 * a + c) (v + 1))) := by
  have r0 : zr S 436 0 = 437 := h.2.2.2.2.2.1.1
  have l0 : zln S 437 = 1004 := h.2.2.2.2.2.2.1
  have hb : f_X12_becomes S 436 (((70 : Int32) + ((7 : Int32) * nI a)) + nI c) (v + 1) = some (zi S 437 (70 + 7 * a + c), zpI S 437 (70 + 7 * a + c) (v + 1)) := by
    unfold f_X12_becomes
    rw [r0, zChk_t (by decide), l0, show (70 : Int32) = nI 70 from rfl, show (7 : Int32) = nI 7 from rfl, nI_mul, nI_add, nI_add, zChk_t (zix (by omega) (by omega)), zChk_t (zix (by omega) (by omega)), zLet_d, nI_clamp (by omega)]
  unfold f_X12_chair
  rw [m_isHall, if_pos (zU_n ha (by omega)), zB1_s, if_neg (by decide), m_isChair, if_pos (zU_n hc (by omega)), zB1_s, if_neg (by decide), hb, zB2_s]
  simp only [zLet_d]
  rw [ho]
  have e : (if zi S 437 (70 + 7 * a + c) = 0 then some ((-4 : Int32), zpI S 437 (70 + 7 * a + c) (v + 1)) else some (zi S 437 (70 + 7 * a + c) - 1, zpI S 437 (70 + 7 * a + c) (v + 1))) = some (if zi S 437 (70 + 7 * a + c) = 0 then (-4, zpI S 437 (70 + 7 * a + c) (v + 1)) else (zi S 437 (70 + 7 * a + c) - 1, zpI S 437 (70 + 7 * a + c) (v + 1))) := by split <;> rfl
  rw [e]
  rcases hv with rfl | hv
  · rw [if_pos rfl]
  · have hne : ¬ v = -1 := by
      intro hh
      have h1 := hv.1
      rw [hh] at h1
      exact absurd h1 (by decide +kernel)
    rw [if_neg hne, m_isJudge h (by omega) ej, if_pos hv, zB1_s, if_neg (by decide)]
theorem s_chair {S : zM} (h : zInv S) (v1 v2 v3 v4 v5 : Int32) : ∃ S' : zM, zs_3 1 436 v1 v2 v3 v4 v5 S S' ∧ zInv S' := by
  have hL := h.1
  have h2 := h.2.1
  obtain ⟨nd, nj, nv, ⟨b1, b2, b3, b4, b5, b6⟩, c1, c2, c3, c4, c5, c6⟩ := zBd_iff.mp h.2.2.1
  have ej : zi S 2 6 = nI nj := by rw [← b5]; exact h2.2.2.2.1.2.1
  suffices hh : ∃ (S' : zM) (r : Int32) (S1 : zM), f_X11_chair 20 S 1 v1 v2 v3 = some (r, S1) ∧ f_X12_chair 20 S1 436 v1 v2 v3 = some (r, S') ∧ zInv S' by
    obtain ⟨S', r, S1, q1, q2, q3⟩ := hh
    exact ⟨S', ⟨r, 20, S1, q1, q2⟩, q3⟩
  by_cases hv : zU v1 6 ∧ zU v2 7 ∧ (v3 = -1 ∨ zU v3 nj)
  · obtain ⟨hv1, hv2, hv3⟩ := hv
    obtain ⟨a, ha, rfl⟩ := hv1.k
    obtain ⟨c, hc, rfl⟩ := hv2.k
    have hseat : ∀ i : Nat, i < 7 → zi S 6 (a * 7 + i) = zi S 437 (70 + 7 * a + i) - 1 := fun i hi => by
      have := h2.2.2.1 (a * 7 + i) (by omega)
      rw [show 70 + (a * 7 + i) = 70 + 7 * a + i by omega] at this
      exact this
    have hset : ∀ S1 : zM, S1 = zpI S 6 (a * 7 + c) v3 → zLay S1 ∧ zi S1 437 = zi S 437 := fun S1 e => by
      subst e
      exact ⟨hL.pI, funext fun k => mi_ne _ _ (by omega)⟩
    have hend : ∀ (S1 : zM), S1 = zpI S 6 (a * 7 + c) v3 → (if zi S 6 (a * 7 + c) = -1 then ((-4 : Int32), S1) else (zi S 6 (a * 7 + c), S1)).1 = (if zi S1 437 (70 + 7 * a + c) = 0 then ((-4 : Int32), zpI S1 437 (70 + 7 * a + c) (v3 + 1)) else (zi S1 437 (70 + 7 * a + c) - 1, zpI S1 437 (70 + 7 * a + c) (v3 + 1))).1 := fun S1 e => by
      rw [(hset S1 e).2, hseat c hc]
      by_cases h0 : zi S 437 (70 + 7 * a + c) = 0
      · rw [if_pos (zm1.mpr h0), if_pos h0]
      · rw [if_neg (fun hh => h0 (zm1.mp hh)), if_neg h0]
    rcases hv3 with rfl | hv3
    · have hx := x_chair hL ha hc b2 ej (v := -1) (Or.inl rfl) (x_other0 (by omega))
      rw [if_pos rfl] at hx
      generalize hS1 : zpI S 6 (a * 7 + c) (-1) = S1 at hx
      obtain ⟨hL1, e1⟩ := hset S1 hS1.symm
      have hm := m_chair hL1 ha hc b2 (by rw [e1]; exact b5) (v := -1) (Or.inl rfl) (p := False) (fun K => by rw [m_other0 (by omega), if_neg (by simp)])
      rw [if_neg (by simp)] at hm
      have he := hend S1 hS1.symm
      refine ⟨zpI S1 437 (70 + 7 * a + c) (-1 + 1), (if zi S 6 (a * 7 + c) = -1 then ((-4 : Int32), S1) else (zi S 6 (a * 7 + c), S1)).1, S1, ?_, ?_, ?_⟩
      · rw [hx]; split <;> rfl
      · rw [hm, he]; split <;> rfl
      · rw [← hS1]
        exact chair_set h ha hc b2 b5 (by rw [show (-1 : Int32) + 1 = nI 0 from by decide +kernel]; exact zU_n (by omega) (by omega)) (fun _ _ _ _ => by decide +kernel)
    · obtain ⟨j, hj, rfl⟩ := hv3.k
      have hne : ¬ nI j = -1 := by
        intro hh
        have h1 := hv3.1
        rw [hh] at h1
        exact absurd h1 (by decide +kernel)
      have hx := x_chair hL ha hc b2 ej (v := nI j) (Or.inr hv3) (x_other hL.2.1 ha hc hne (by omega))
      by_cases ho : zOt (fun k => zi S (2 + 4) (a * 7 + k)) c (nI j) 7 0 = true
      · rw [if_pos ho, if_neg (show ¬ (1 : Int32) = 0 by decide)] at hx
        have ho2 : zOt (fun k => zi S 437 (70 + 7 * a + k) - 1) c (nI j) 7 0 = true := by
          rw [← ho]
          exact (zOt_c (fun i hi => hseat i (by omega))).symm
        have hm := m_chair hL ha hc b2 b5 (v := nI j) (Or.inr hv3) (p := zOt (fun k => zi S 437 (70 + 7 * a + k) - 1) c (nI j) 7 0 = true) (fun K => m_other hL ha hc (nI_pos (by omega)) (by omega))
        rw [if_pos ho2] at hm
        exact ⟨S, -3, S, hx, hm, h⟩
      · rw [if_neg ho, if_pos rfl] at hx
        generalize hS1 : zpI S 6 (a * 7 + c) (nI j) = S1 at hx
        obtain ⟨hL1, e1⟩ := hset S1 hS1.symm
        have ho2 : ¬ zOt (fun k => zi S1 437 (70 + 7 * a + k) - 1) c (nI j) 7 0 = true := by
          rw [e1]
          intro hh
          exact ho ((zOt_c (fun i hi => hseat i (by omega))).trans hh)
        have hm := m_chair hL1 ha hc b2 (by rw [e1]; exact b5) (v := nI j) (Or.inr hv3) (p := zOt (fun k => zi S1 437 (70 + 7 * a + k) - 1) c (nI j) 7 0 = true) (fun K => m_other hL1 ha hc (nI_pos (by omega)) (by omega))
        rw [if_neg ho2] at hm
        have he := hend S1 hS1.symm
        refine ⟨zpI S1 437 (70 + 7 * a + c) (nI j + 1), (if zi S 6 (a * 7 + c) = -1 then ((-4 : Int32), S1) else (zi S 6 (a * 7 + c), S1)).1, S1, ?_, ?_, ?_⟩
        · rw [hx]; split <;> rfl
        · rw [hm, he]; split <;> rfl
        · rw [← hS1]
          refine chair_set h ha hc b2 b5 (by rw [nI_1]; exact zU_n (by omega) (by omega)) (fun i hi hic heq => ?_)
          exfalso
          have hf : zOt (fun k => zi S (2 + 4) (a * 7 + k)) c (nI j) 7 0 = false := by
            cases hq : zOt (fun k => zi S (2 + 4) (a * 7 + k)) c (nI j) 7 0
            · rfl
            · exact absurd hq ho
          refine zOt_f hf i (by omega) (by omega) hic ?_
          show zi S 6 (a * 7 + i) = nI j
          rw [hseat i hi, heq, Int32.add_sub_cancel]
  · refine ⟨S, -1, S, ?_, ?_, h⟩
    · unfold f_X11_chair
      simp only [zLet_d]
      have r0 : zr S 1 0 = 2 := hL.2.2.2.2.1.1.1
      rw [zwi (v := v1) (n := 6) rfl, zwi (v := v2) (n := 7) rfl, show zi S (zr S 1 0) 6 = nI nj by rw [r0]; exact ej, zwN (by omega)]
      by_cases g1 : zU v1 6
      · by_cases g2 : zU v2 7
        · have g3 : ¬ v3 = -1 := fun e => hv ⟨g1, g2, Or.inl e⟩
          have g4 : ¬ zU v3 nj := fun e => hv ⟨g1, g2, Or.inr e⟩
          rw [if_neg g3, if_neg g4, zChk_t (by rw [r0]; decide), if_pos g1, if_pos g2]
          simp
        · rw [if_neg g2, if_pos g1]
          simp [zChk, r0]
      · rw [if_neg g1]
        simp [zChk, r0]
    · unfold f_X12_chair
      rw [m_isHall, m_isChair, zB1_s]
      by_cases g1 : zU v1 6
      · rw [if_pos g1, if_neg (by decide), zB1_s]
        by_cases g2 : zU v2 7
        · have g3 : ¬ v3 = -1 := fun e => hv ⟨g1, g2, Or.inl e⟩
          have g4 : ¬ zU v3 nj := fun e => hv ⟨g1, g2, Or.inr e⟩
          rw [if_pos g2, if_neg (by decide), zLet_d, if_neg g3, m_isJudge hL (by omega) b5, if_neg g4, zB1_s, if_pos rfl]
        · rw [if_neg g2, if_pos rfl]
      · rw [if_neg g1, if_pos rfl]
