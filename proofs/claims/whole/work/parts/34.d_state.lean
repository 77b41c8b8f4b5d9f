/-! the start: a State, all of it -/
def zQ9 (S : zM) (b : Nat) : Prop := zLayS (zr S) (zln S) b ∧ (∀ i : Nat, i < 8 → zi S (b + 1) i = 0 ∧ zi S (b + 2) i = 0) ∧ (∀ h : Nat, h < 6 → zi S (b + 3) h = 0) ∧ (∀ q : Nat, q < 42 → zi S (b + 4) q = -1) ∧ (zi S b 5 = 0 ∧ zi S b 6 = 0 ∧ zi S b 7 = 0) ∧ zQ6 S (b + 5)
def zP9 (S : zM) (b : Nat) (o : Option zM) : Prop := ∃ S1 : zM, o = some S1 ∧ zsz S1 = b + 134 ∧ zGw b 0 S S1 ∧ zQ9 S1 b
def zHr (J : zM) (b : Nat) : Prop := zr J b 0 = b + 1 ∧ zr J b 1 = b + 2 ∧ zr J b 2 = b + 3 ∧ zr J b 3 = b + 4 ∧ zr J b 4 = b + 5 ∧ zr J b 8 = b + 9 ∧ zr J b 9 = b + 10 ∧ zr J b 10 = b + 11 ∧ zr J b 11 = b + 12
def zHl (J : zM) (b : Nat) : Prop := zln J (b + 1) = 8 ∧ zln J (b + 2) = 8 ∧ zln J (b + 3) = 6 ∧ zln J (b + 4) = 42 ∧ zln J (b + 9) = 12 ∧ zln J (b + 10) = 40 ∧ zln J (b + 11) = 8 ∧ zln J (b + 13) = 7
def zH0 (J : zM) (b : Nat) : Prop := (∀ i : Nat, zi J (b + 1) i = 0 ∧ zi J (b + 2) i = 0) ∧ (∀ h : Nat, zi J (b + 3) h = 0) ∧ ∀ k : Nat, zi J b k = 0
/-- the tail of the constructor: seats and dives -/
theorem x9_tail {S J : zM} {b n : Nat} (hn : 42 < n) (hS : zsz S = b + 1) (e : zsz J = b + 14) (g : zGw b 0 S J) (hr : zHr J b) (hp : zr J (b + 12) 0 = b + 13) (hl : zHl J b) (h0 : zH0 J b) (h6 : zQ6 J (b + 5)) : zP9 S b (f_X9_init_L86 b (fun S115 => f_X9_init_L107 b (fun S118 => some S118) n (0 : Int32) S115) n (0 : Int32) J) := by
  have ltb : b < b + 14 := by clear hS e hp; omega
  have lt : ∀ i : Nat, i < 14 → b + i < b + 14 := fun i h => Nat.add_lt_add_left h b
  have ne : ∀ i j : Nat, ¬ i = j → ¬ b + i = b + j := fun i j h q => h (Nat.add_left_cancel q)
  have neb : ∀ j : Nat, 0 < j → ¬ b = b + j := fun j h q => by clear hS e hp ltb lt ne; omega
  have hSb : ∀ a : Nat, zsz S ≤ b + 1 := fun _ => Nat.le_of_eq hS
  obtain ⟨Y, y1, y2, y3⟩ := x9_seatL (S0 := J) (K := fun S115 => f_X9_init_L107 b (fun S118 => some S118) n (0 : Int32) S115) hr.2.2.2.1 hl.2.2.2.1 hn
  have sY : zsz Y = b + 14 := y2.s.trans e
  obtain ⟨Z, w1, w2, w3, w4⟩ := x9_diveL (S0 := Y) (K := fun S118 => some S118) sY (by rw [y2.r]; exact hr.2.2.2.2.2.2.1) (by rw [y2.n]; exact hl.2.2.2.2.2.1) hn
  have rZ : ∀ a k : Nat, a < b + 14 → ¬ a = b + 10 → zr Z a k = zr J a k := fun a k h1 h2 => (w3.r (by rw [sY]; exact h1) (fun z => h2 z.1)).trans (by rw [y2.r])
  have lZ : ∀ a : Nat, a < b + 14 → zln Z a = zln J a := fun a h1 => (w3.n (by rw [sY]; exact h1)).trans (by rw [y2.n])
  have iY : ∀ a k : Nat, a < b + 14 → ¬ a = b + 10 → zi Z a k = zi Y a k := fun a k h1 h2 => w3.i (by rw [sY]; exact h1) (fun z => h2 z.1)
  have iZ : ∀ a k : Nat, a < b + 14 → ¬ a = b + 10 → ¬ a = b + 4 → zi Z a k = zi J a k := fun a k h1 h2 h3 => (iY a k h1 h2).trans (y2.i h3)
  have gY : zGw b 0 S Y := g.f y2 (fun a k h => by rw [show a = b + 4 from h, hS]; exact Nat.add_le_add_left (by decide) b)
  have gZ : zGw b 0 S Z := gY.nx w3 (by rw [hS]; exact Nat.add_le_add_left (by decide) b)
  have h6Y : zQ6 Y (b + 5) := h6.zf y2 (fun a k h z => by
    rw [show a = b + 4 from h] at z
    have := z.1
    clear y1 y3 sY w1 w2 w3 w4 rZ lZ iY iZ gY gZ hS e hp h ltb lt ne neb hSb
    omega)
  have h6Z : zQ6 Z (b + 5) := h6Y.fr w3 (by rw [sY]; clear y1 y3 sY w1 w2 w3 w4 rZ lZ iY iZ gY gZ hS e hp ltb lt ne neb hSb; omega) (by clear y1 y3 sY w1 w2 w3 w4 rZ lZ iY iZ gY gZ hS e hp ltb lt ne neb hSb; omega)
  have hq := h6Z
  refine ⟨Z, y1.trans w1, w2, gZ, ⟨⟨?_, ?_, ?_, ?_, ?_, ?_, ?_, ?_, ?_⟩, ⟨hq.1.1, hq.1.2.1, hq.1.2.2, ?_⟩, ⟨?_, ?_, ?_, ?_, hq.2.1.1, hq.2.1.2.1, hq.2.1.2.2, ?_, ?_, ?_, ?_⟩, w4⟩, fun i hi => ⟨?_, ?_⟩, fun h hh => ?_, fun q hq => ?_, ⟨?_, ?_, ?_⟩, h6Z⟩
  · exact (rZ b 0 ltb (neb 10 (by decide))).trans hr.1
  · exact (rZ b 1 ltb (neb 10 (by decide))).trans hr.2.1
  · exact (rZ b 2 ltb (neb 10 (by decide))).trans hr.2.2.1
  · exact (rZ b 3 ltb (neb 10 (by decide))).trans hr.2.2.2.1
  · exact (rZ b 4 ltb (neb 10 (by decide))).trans hr.2.2.2.2.1
  · exact (rZ b 8 ltb (neb 10 (by decide))).trans hr.2.2.2.2.2.1
  · exact (rZ b 9 ltb (neb 10 (by decide))).trans hr.2.2.2.2.2.2.1
  · exact (rZ b 10 ltb (neb 10 (by decide))).trans hr.2.2.2.2.2.2.2.1
  · exact (rZ b 11 ltb (neb 10 (by decide))).trans hr.2.2.2.2.2.2.2.2
  · exact (rZ (b + 12) 0 (lt 12 (by decide)) (ne 12 10 (by decide))).trans hp
  · exact (lZ _ (lt 1 (by decide))).trans hl.1
  · exact (lZ _ (lt 2 (by decide))).trans hl.2.1
  · exact (lZ _ (lt 3 (by decide))).trans hl.2.2.1
  · exact (lZ _ (lt 4 (by decide))).trans hl.2.2.2.1
  · exact (lZ _ (lt 9 (by decide))).trans hl.2.2.2.2.1
  · exact (lZ _ (lt 10 (by decide))).trans hl.2.2.2.2.2.1
  · exact (lZ _ (lt 11 (by decide))).trans hl.2.2.2.2.2.2.1
  · exact (lZ _ (lt 13 (by decide))).trans hl.2.2.2.2.2.2.2
  · exact (iZ _ _ (lt 1 (by decide)) (ne 1 10 (by decide)) (ne 1 4 (by decide))).trans (h0.1 i).1
  · exact (iZ _ _ (lt 2 (by decide)) (ne 2 10 (by decide)) (ne 2 4 (by decide))).trans (h0.1 i).2
  · exact (iZ _ _ (lt 3 (by decide)) (ne 3 10 (by decide)) (ne 3 4 (by decide))).trans (h0.2.1 h)
  · exact (iY _ _ (lt 4 (by decide)) (ne 4 10 (by decide))).trans (y3 q hq)
  · exact (iZ _ _ ltb (neb 10 (by decide)) (neb 4 (by decide))).trans (h0.2.2 5)
  · exact (iZ _ _ ltb (neb 10 (by decide)) (neb 4 (by decide))).trans (h0.2.2 6)
  · exact (iZ _ _ ltb (neb 10 (by decide)) (neb 4 (by decide))).trans (h0.2.2 7)
