section
def bt (x : Int32) (i : Nat) : Bool := x.toBitVec.getLsbD i
theorem b_ext {x y : Int32} (h : ∀ i, i < 32 → bt x i = bt y i) : x = y := Int32.toBitVec_inj.mp (BitVec.eq_of_getLsbD_eq (fun i hi => h i hi))
theorem b_or (x y : Int32) (i : Nat) : bt (x ||| y) i = (bt x i || bt y i) := by unfold bt; rw [Int32.toBitVec_or, BitVec.getLsbD_or]
theorem b_and (x y : Int32) (i : Nat) : bt (x &&& y) i = (bt x i && bt y i) := by unfold bt; rw [Int32.toBitVec_and, BitVec.getLsbD_and]
theorem b_xor (x y : Int32) (i : Nat) : bt (x ^^^ y) i = (bt x i ^^ bt y i) := by unfold bt; rw [Int32.toBitVec_xor, BitVec.getLsbD_xor]
theorem b_big {x : Int32} {i : Nat} (h : 32 ≤ i) : bt x i = false := BitVec.getLsbD_of_ge _ _ h
theorem b_255 (i : Nat) : bt 255 i = decide (i < 8) := by
  rcases Nat.lt_or_ge i 32 with h | h
  · exact (by decide +kernel : ∀ i, i < 32 → bt 255 i = decide (i < 8)) i h
  · rw [b_big h, decide_eq_false (by omega)]
theorem b_65535 (i : Nat) : bt 65535 i = decide (i < 16) := by
  rcases Nat.lt_or_ge i 32 with h | h
  · exact (by decide +kernel : ∀ i, i < 32 → bt 65535 i = decide (i < 16)) i h
  · rw [b_big h, decide_eq_false (by omega)]
theorem b_m1 : ∀ i, i < 32 → bt (-1) i = true := by decide +kernel
theorem b_0 (i : Nat) : bt 0 i = false := BitVec.getLsbD_zero
theorem s_l : ∀ n, n < 32 → ((nI n &&& 31).toBitVec.smod 32).toNat = n := by decide +kernel
theorem s_u : ∀ n, n < 32 → (((nI n).toUInt32 &&& Int32.toUInt32 31).toBitVec % 32).toNat = n := by decide +kernel
theorem b_shl (n : Nat) (hn : n < 32) (x : Int32) {i : Nat} (hi : i < 32) : bt (x <<< (nI n &&& 31)) i = (decide (n ≤ i) && bt x (i - n)) := by
  unfold bt
  rw [Int32.toBitVec_shiftLeft]
  show (x.toBitVec <<< ((nI n &&& 31).toBitVec.smod 32).toNat).getLsbD i = _
  rw [s_l n hn, BitVec.getLsbD_shiftLeft]
  rcases Nat.lt_or_ge i n with h | h
  · simp [h, Nat.not_le.mpr h]
  · simp [hi, h, Nat.not_lt.mpr h]
theorem b_sshr (n : Nat) (hn : n < 32) (x : Int32) {i : Nat} (hi : i < 32) : bt (x >>> (nI n &&& 31)) i = if n + i < 32 then bt x (n + i) else bt x 31 := by
  unfold bt
  rw [Int32.toBitVec_shiftRight]
  show (x.toBitVec.sshiftRight ((nI n &&& 31).toBitVec.smod 32).toNat).getLsbD i = _
  rw [s_l n hn, BitVec.getLsbD_sshiftRight, BitVec.msb_eq_getLsbD_last]
  simp [hi]
theorem b_shl8 (x : Int32) {i : Nat} (hi : i < 32) : bt (x <<< ((8 : Int32) &&& 31)) i = (decide (8 ≤ i) && bt x (i - 8)) := b_shl 8 (by omega) x hi
theorem b_sshr8 (x : Int32) {i : Nat} (hi : i < 32) : bt (x >>> ((8 : Int32) &&& 31)) i = if 8 + i < 32 then bt x (8 + i) else bt x 31 := b_sshr 8 (by omega) x hi
end
section
/-! ===== literals and sets of literals: places 0..16 of the reference's rows, bits 0..15 of the class's sets ===== -/
def tc_bi (b : Bool) : Int32 := if b = true then 1 else 0
/-- the literal with the place a (8 is no literal) -/
def tc_w (a : Nat) : Int32 := nI a - 8
/-- its bit -/
def tc_b (a : Nat) : Nat := if 8 < a then a - 9 else 15 - a
/-- the set of one literal, as the class makes it -/
def tc_lb (w : Int32) : Int32 := if w = 0 then 0 else if w ≤ 0 then (1 : Int32) <<< ((8 - w - 1) &&& 31) else (1 : Int32) <<< ((w - 1) &&& 31)
def tc_sl (w0 w1 w2 w3 : Int32) : Int32 := tc_lb w0 ||| tc_lb w1 ||| tc_lb w2 ||| tc_lb w3
def tc_ng (x : Int32) : Int32 := ((x &&& 255) <<< ((8 : Int32) &&& 31)) ||| ((x >>> ((8 : Int32) &&& 31)) &&& 255)
theorem tc_w1 : ∀ a, a < 17 → (8 : Int32) + tc_w a = nI a ∧ (8 : Int32) - tc_w a = nI (16 - a) ∧ (tc_w a = 0 ↔ a = 8) ∧ - tc_w a = tc_w (16 - a) := by decide +kernel
theorem tc_winj {a b : Nat} (ha : a < 17) (hb : b < 17) : tc_w a = tc_w b ↔ a = b := by
  constructor
  · intro e
    have h1 := (tc_w1 a ha).1
    rw [e, (tc_w1 b hb).1] at h1
    exact ((nI_eq (by omega) (by omega)).mp h1).symm
  · intro e
    rw [e]
theorem tc_lbb : ∀ a, a < 17 → ∀ i, i < 32 → bt (tc_lb (tc_w a)) i = decide (a ≠ 8 ∧ i = tc_b a) := by decide +kernel
theorem tc_blt {a : Nat} (h : a < 17) : tc_b a < 16 := by
  unfold tc_b
  split <;> omega
theorem tc_binj {a b : Nat} (ha : a < 17) (hb : b < 17) (h8 : a ≠ 8) (h8' : b ≠ 8) (h : tc_b a = tc_b b) : a = b := by
  unfold tc_b at h
  split at h <;> split at h <;> omega
theorem tc_ngb (x : Int32) {i : Nat} (hi : i < 32) : bt (tc_ng x) i = if i < 8 then bt x (i + 8) else if i < 16 then bt x (i - 8) else false := by
  unfold tc_ng
  rw [b_or, b_shl8 _ hi, b_and, b_and, b_sshr8 _ hi, b_255, b_255]
  by_cases h8 : i < 8
  · have h1 : 8 + i < 32 := by omega
    have h2 : ¬ 8 ≤ i := by omega
    rw [if_pos h8, if_pos h1, decide_eq_false h2, decide_eq_true h8, Nat.add_comm]
    simp
  · have h2 : 8 ≤ i := by omega
    rw [if_neg h8, decide_eq_true h2, decide_eq_false h8]
    by_cases h16 : i < 16
    · rw [if_pos h16, decide_eq_true (by omega : i - 8 < 8)]
      simp
    · rw [if_neg h16, decide_eq_false (by omega : ¬ i - 8 < 8)]
      simp
theorem tc_ngl (x : Int32) {a : Nat} (ha : a < 17) (h8 : a ≠ 8) : bt (tc_ng x) (tc_b a) = bt x (tc_b (16 - a)) := by
  have h := tc_blt ha
  rw [tc_ngb x (by omega)]
  unfold tc_b
  by_cases hp : 8 < a
  · rw [if_pos hp, if_neg (by omega : ¬ 8 < 16 - a), if_pos (by omega : a - 9 < 8)]
    exact congrArg (bt x) (by omega)
  · rw [if_neg hp, if_pos (by omega : 8 < 16 - a), if_neg (by omega : ¬ 15 - a < 8), if_pos (by omega : 15 - a < 16)]
    exact congrArg (bt x) (by omega)
theorem tc_ngor (x y : Int32) : tc_ng (x ||| y) = tc_ng x ||| tc_ng y := by
  apply b_ext
  intro i hi
  rw [b_or, tc_ngb _ hi, tc_ngb _ hi, tc_ngb _ hi]
  by_cases h8 : i < 8
  · rw [if_pos h8, if_pos h8, if_pos h8, b_or]
  · rw [if_neg h8, if_neg h8, if_neg h8]
    by_cases h16 : i < 16
    · rw [if_pos h16, if_pos h16, if_pos h16, b_or]
    · rw [if_neg h16, if_neg h16, if_neg h16]; rfl
/-- no bit beyond the sixteenth -/
def tc_lo (x : Int32) : Prop := ∀ i, 16 ≤ i → bt x i = false
theorem tc_lo0 : tc_lo 0 := fun i _ => b_0 i
theorem tc_loor {x y : Int32} (h : tc_lo x) (g : tc_lo y) : tc_lo (x ||| y) := fun i hi => by rw [b_or, h i hi, g i hi]; rfl
theorem tc_loand {x y : Int32} (h : tc_lo x) : tc_lo (x &&& y) := fun i hi => by rw [b_and, h i hi]; rfl
theorem tc_long (x : Int32) : tc_lo (tc_ng x) := fun i hi => by
  by_cases h : i < 32
  · rw [tc_ngb x h, if_neg (by omega), if_neg (by omega)]
  · exact b_big (by omega)
theorem tc_ngng {x : Int32} (h : tc_lo x) : tc_ng (tc_ng x) = x := by
  apply b_ext
  intro i hi
  rw [tc_ngb _ hi]
  by_cases h8 : i < 8
  · rw [if_pos h8, tc_ngb _ (by omega), if_neg (by omega), if_pos (by omega), Nat.add_sub_cancel]
  · rw [if_neg h8]
    by_cases h16 : i < 16
    · rw [if_pos h16, tc_ngb _ (by omega), if_pos (by omega), Nat.sub_add_cancel (by omega)]
    · rw [if_neg h16, h i (by omega)]
theorem tc_lolb {a : Nat} (ha : a < 17) : tc_lo (tc_lb (tc_w a)) := fun i hi => by
  by_cases h : i < 32
  · rw [tc_lbb a ha i h, decide_eq_false]
    have := tc_blt ha
    omega
  · exact b_big (by omega)
theorem tc_losl {a : Nat → Nat} (h : ∀ s, s < 4 → a s < 17) : tc_lo (tc_sl (tc_w (a 0)) (tc_w (a 1)) (tc_w (a 2)) (tc_w (a 3))) :=
  tc_loor (tc_loor (tc_loor (tc_lolb (h 0 (by omega))) (tc_lolb (h 1 (by omega)))) (tc_lolb (h 2 (by omega)))) (tc_lolb (h 3 (by omega)))
theorem tc_slb {a : Nat → Nat} (h : ∀ s, s < 4 → a s < 17) {j : Nat} (hj : j < 32) : bt (tc_sl (tc_w (a 0)) (tc_w (a 1)) (tc_w (a 2)) (tc_w (a 3))) j = true ↔ ∃ s, s < 4 ∧ a s ≠ 8 ∧ j = tc_b (a s) := by
  unfold tc_sl
  rw [b_or, b_or, b_or, tc_lbb _ (h 0 (by omega)) _ hj, tc_lbb _ (h 1 (by omega)) _ hj, tc_lbb _ (h 2 (by omega)) _ hj, tc_lbb _ (h 3 (by omega)) _ hj]
  simp only [Bool.or_eq_true, decide_eq_true_eq]
  constructor
  · rintro (((e | e) | e) | e)
    · exact ⟨0, by omega, e⟩
    · exact ⟨1, by omega, e⟩
    · exact ⟨2, by omega, e⟩
    · exact ⟨3, by omega, e⟩
  · rintro ⟨s, hs, e⟩
    have hs4 : s = 0 ∨ s = 1 ∨ s = 2 ∨ s = 3 := by omega
    rcases hs4 with rfl | rfl | rfl | rfl
    · exact Or.inl (Or.inl (Or.inl e))
    · exact Or.inl (Or.inl (Or.inr e))
    · exact Or.inl (Or.inr e)
    · exact Or.inr e
theorem tc_andn (x y : Int32) {i : Nat} (hi : i < 32) : bt (x &&& (y ^^^ (-1))) i = (bt x i && !bt y i) := by
  rw [b_and, b_xor, b_m1 i hi, Bool.xor_true]
theorem tc_z (x : Int32) : x = 0 ↔ ∀ i, i < 32 → bt x i = false :=
  ⟨fun h i _ => by rw [h]; exact b_0 i, fun h => b_ext fun i hi => by rw [h i hi, b_0]⟩
theorem tc_zand (x y : Int32) : x &&& y = 0 ↔ ∀ i, i < 32 → bt x i = true → bt y i = true → False := by
  rw [tc_z]
  constructor
  · intro h i hi a b
    have := h i hi
    rw [b_and, a, b] at this
    exact absurd this (by decide)
  · intro h i hi
    rw [b_and]
    cases a : bt x i
    · rfl
    · cases b : bt y i
      · rfl
      · exact absurd (h i hi a b) id
theorem tc_nat2 : ∀ m : Nat, m &&& (m - 1) = 0 → ∀ i j, m.testBit i = true → m.testBit j = true → i = j := by
  intro m
  induction m using Nat.strongRecOn with
  | ind m ih =>
    intro h i j hi hj
    have hd : (m &&& (m - 1)) / 2 = m / 2 &&& (m - 1) / 2 := Nat.and_div_two
    rw [h] at hd
    by_cases h0 : m = 0
    · subst h0
      rw [Nat.zero_testBit] at hi
      exact absurd hi (by decide)
    by_cases hp : m % 2 = 0
    · have e : (m - 1) / 2 = m / 2 - 1 := by omega
      rw [e] at hd
      have hz : (m / 2) &&& (m / 2 - 1) = 0 := hd.symm
      cases i with
      | zero =>
        rw [Nat.testBit_zero, decide_eq_false (by omega)] at hi
        exact absurd hi (by decide)
      | succ i =>
        cases j with
        | zero =>
          rw [Nat.testBit_zero, decide_eq_false (by omega)] at hj
          exact absurd hj (by decide)
        | succ j =>
          rw [Nat.testBit_succ] at hi hj
          rw [ih (m / 2) (by omega) hz i j hi hj]
    · have e : (m - 1) / 2 = m / 2 := by omega
      rw [e, Nat.and_self] at hd
      have hm : m / 2 = 0 := hd.symm
      cases i with
      | zero =>
        cases j with
        | zero => rfl
        | succ j =>
          rw [Nat.testBit_succ, hm, Nat.zero_testBit] at hj
          exact absurd hj (by decide)
      | succ i =>
        rw [Nat.testBit_succ, hm, Nat.zero_testBit] at hi
        exact absurd hi (by decide)
theorem tc_pw {x : Int32} (h : x ≠ 0) (h1 : x &&& (x - 1) = 0) {i j : Nat} (hi : bt x i = true) (hj : bt x j = true) : i = j := by
  have hx : x.toBitVec.toNat ≠ 0 := by
    intro e
    apply h
    apply Int32.toBitVec_inj.mp
    exact BitVec.eq_of_toNat_eq e
  have hl := x.toBitVec.isLt
  have e1 : (x - 1).toBitVec.toNat = x.toBitVec.toNat - 1 := by
    show (x.toBitVec - 1#32).toNat = _
    rw [BitVec.toNat_sub]
    simp only [BitVec.toNat_ofNat]
    omega
  have e2 : x.toBitVec.toNat &&& (x.toBitVec.toNat - 1) = 0 := by
    rw [← e1, ← BitVec.toNat_and, ← Int32.toBitVec_and, h1]
    rfl
  exact tc_nat2 _ e2 i j hi hj
theorem tc_one : ∀ a, a < 17 → a ≠ 8 → tc_lb (tc_w a) ≠ 0 ∧ tc_lb (tc_w a) &&& (tc_lb (tc_w a) - 1) = 0 := by decide +kernel
/-! ===== the refutation, as the class goes through it ===== -/
/-- one clause looked at: none, a conflict; else the new set of false literals -/
def tc_st (F S : Int32) : Option Int32 :=
  if (S &&& (F ^^^ (-1))) &&& tc_ng F = 0 then
    (if S &&& (F ^^^ (-1)) = 0 then none
     else if (S &&& (F ^^^ (-1))) &&& ((S &&& (F ^^^ (-1))) - 1) = 0 then some (F ||| tc_ng (S &&& (F ^^^ (-1)))) else some F)
  else some F
def tc_fl (S : Nat → Int32) (cs : Int32) : Nat → Nat → Int32 → Option Int32
  | 0, _, F => some F
  | d + 1, i, F => if bt cs i = true then (match tc_st F (S i) with | none => none | some F' => tc_fl S cs d (i + 1) F') else tc_fl S cs d (i + 1) F
def tc_rd (S : Nat → Int32) (cs : Int32) : Nat → Int32 → Bool
  | 0, _ => false
  | r + 1, F => match tc_fl S cs 24 0 F with | none => true | some F' => tc_rd S cs r F'
def tc_rf (S : Nat → Int32) (cs T : Int32) : Bool := if T &&& tc_ng T = 0 then tc_rd S cs 9 T else true
theorem tc_fl0 {S : Nat → Int32} {cs : Int32} {d i : Nat} {F : Int32} (h : bt cs i = false) : tc_fl S cs (d + 1) i F = tc_fl S cs d (i + 1) F := by
  rw [tc_fl, h, if_neg (by decide)]
theorem tc_fln {S : Nat → Int32} {cs : Int32} {d i : Nat} {F : Int32} (h : bt cs i = true) (e : tc_st F (S i) = none) : tc_fl S cs (d + 1) i F = none := by
  rw [tc_fl, if_pos h, e]
theorem tc_fls {S : Nat → Int32} {cs : Int32} {d i : Nat} {F F' : Int32} (h : bt cs i = true) (e : tc_st F (S i) = some F') : tc_fl S cs (d + 1) i F = tc_fl S cs d (i + 1) F' := by
  rw [tc_fl, if_pos h, e]
theorem tc_flout {S : Nat → Int32} {cs : Int32} : ∀ (d i : Nat) (F : Int32), (∀ j, i ≤ j → j < i + d → bt cs j = false) → tc_fl S cs d i F = some F := by
  intro d
  induction d with
  | zero => intro i F _; rfl
  | succ d ih =>
    intro i F h
    rw [tc_fl0 (h i (by omega) (by omega))]
    exact ih (i + 1) F (fun j a b => h j (by omega) (by omega))
theorem tc_rdn {S : Nat → Int32} {cs : Int32} {r : Nat} {F : Int32} (e : tc_fl S cs 24 0 F = none) : tc_rd S cs (r + 1) F = true := by rw [tc_rd, e]
theorem tc_rds {S : Nat → Int32} {cs : Int32} {r : Nat} {F F' : Int32} (e : tc_fl S cs 24 0 F = some F') : tc_rd S cs (r + 1) F = tc_rd S cs r F' := by rw [tc_rd, e]
theorem tc_rdfix {S : Nat → Int32} {cs : Int32} {F : Int32} (e : tc_fl S cs 24 0 F = some F) : ∀ r, tc_rd S cs r F = false := by
  intro r
  induction r with
  | zero => rfl
  | succ r ih => rw [tc_rds e]; exact ih
/-! ===== one clause by its four places ===== -/
section
variable {a : Nat → Nat} {F S : Int32}
theorem tc_ob (h : ∀ s, s < 4 → a s < 17) (hS : S = tc_sl (tc_w (a 0)) (tc_w (a 1)) (tc_w (a 2)) (tc_w (a 3))) {j : Nat} (hj : j < 32) : bt (S &&& (F ^^^ (-1))) j = true ↔ ∃ s, s < 4 ∧ a s ≠ 8 ∧ j = tc_b (a s) ∧ bt F (tc_b (a s)) = false := by
  rw [tc_andn _ _ hj, Bool.and_eq_true, hS, tc_slb h hj, Bool.not_eq_true']
  constructor
  · rintro ⟨⟨s, h1, h2, h3⟩, h4⟩
    exact ⟨s, h1, h2, h3, by rw [← h3]; exact h4⟩
  · rintro ⟨s, h1, h2, h3, h4⟩
    exact ⟨⟨s, h1, h2, h3⟩, by rw [h3]; exact h4⟩
theorem tc_sat (h : ∀ s, s < 4 → a s < 17) (hS : S = tc_sl (tc_w (a 0)) (tc_w (a 1)) (tc_w (a 2)) (tc_w (a 3))) : (S &&& (F ^^^ (-1))) &&& tc_ng F = 0 ↔ ∀ s, s < 4 → a s ≠ 8 → bt F (tc_b (a s)) = false → bt F (tc_b (16 - a s)) = true → False := by
  rw [tc_zand]
  constructor
  · intro g s h1 h2 h3 h4
    have hb := tc_blt (h s h1)
    refine g (tc_b (a s)) (by omega) ((tc_ob h hS (by omega)).mpr ⟨s, h1, h2, rfl, h3⟩) ?_
    rw [tc_ngl F (h s h1) h2]
    exact h4
  · intro g i hi h1 h2
    obtain ⟨s, h3, h4, h5, h6⟩ := (tc_ob h hS hi).mp h1
    rw [h5, tc_ngl F (h s h3) h4] at h2
    exact g s h3 h4 h6 h2
theorem tc_stS (h : ∀ s, s < 4 → a s < 17) (hS : S = tc_sl (tc_w (a 0)) (tc_w (a 1)) (tc_w (a 2)) (tc_w (a 3))) {s : Nat} (h1 : s < 4) (h2 : a s ≠ 8) (h3 : bt F (tc_b (a s)) = false) (h4 : bt F (tc_b (16 - a s)) = true) : tc_st F S = some F := by
  unfold tc_st
  rw [if_neg]
  intro e
  exact (tc_sat h hS).mp e s h1 h2 h3 h4
theorem tc_stN (h : ∀ s, s < 4 → a s < 17) (hS : S = tc_sl (tc_w (a 0)) (tc_w (a 1)) (tc_w (a 2)) (tc_w (a 3))) (g : ∀ s, s < 4 → a s ≠ 8 → bt F (tc_b (a s)) = true) : tc_st F S = none := by
  unfold tc_st
  have e : S &&& (F ^^^ (-1)) = 0 := by
    rw [tc_z]
    intro i hi
    cases e : bt (S &&& (F ^^^ (-1))) i
    · rfl
    · obtain ⟨s, h3, h4, h5, h6⟩ := (tc_ob h hS hi).mp e
      rw [g s h3 h4] at h6
      exact absurd h6 (by decide)
  rw [if_pos, if_pos e]
  rw [e]
  exact (tc_zand 0 _).mpr (fun i _ z => by rw [b_0] at z; exact absurd z (by decide))
theorem tc_st1 (h : ∀ s, s < 4 → a s < 17) (hS : S = tc_sl (tc_w (a 0)) (tc_w (a 1)) (tc_w (a 2)) (tc_w (a 3))) {x : Nat} (hx : x < 17) (hx8 : x ≠ 8)
    (g : ∀ s, s < 4 → a s ≠ 8 → bt F (tc_b (a s)) = false → bt F (tc_b (16 - a s)) = false) (g1 : ∃ s, s < 4 ∧ a s = x ∧ bt F (tc_b x) = false) (g2 : ∀ s, s < 4 → a s ≠ 8 → bt F (tc_b (a s)) = false → a s = x) : tc_st F S = some (F ||| tc_ng (tc_lb (tc_w x))) := by
  have e : S &&& (F ^^^ (-1)) = tc_lb (tc_w x) := by
    apply b_ext
    intro i hi
    apply Bool.eq_iff_iff.mpr
    rw [tc_ob h hS hi, tc_lbb x hx i hi, decide_eq_true_eq]
    constructor
    · rintro ⟨s, h3, h4, h5, h6⟩
      rw [h5, g2 s h3 h4 h6]
      exact ⟨hx8, rfl⟩
    · rintro ⟨_, e⟩
      obtain ⟨s, h1, h2, h3⟩ := g1
      exact ⟨s, h1, by rw [h2]; exact hx8, by rw [h2]; exact e, by rw [h2]; exact h3⟩
  unfold tc_st
  have hs : (S &&& (F ^^^ (-1))) &&& tc_ng F = 0 := (tc_sat h hS).mpr (fun s h1 h2 h3 h4 => by rw [g s h1 h2 h3] at h4; exact absurd h4 (by decide))
  rw [if_pos hs, e, if_neg (tc_one x hx hx8).1, if_pos (tc_one x hx hx8).2]
theorem tc_st2 (h : ∀ s, s < 4 → a s < 17) (hS : S = tc_sl (tc_w (a 0)) (tc_w (a 1)) (tc_w (a 2)) (tc_w (a 3))) {s t : Nat} (hs : s < 4) (ht : t < 4) (hs8 : a s ≠ 8) (ht8 : a t ≠ 8) (hsF : bt F (tc_b (a s)) = false) (htF : bt F (tc_b (a t)) = false) (hne : a s ≠ a t) : tc_st F S = some F := by
  have b1 := tc_blt (h s hs)
  have b2 := tc_blt (h t ht)
  have o1 := (tc_ob (F := F) h hS (j := tc_b (a s)) (by omega)).mpr ⟨s, hs, hs8, rfl, hsF⟩
  have o2 := (tc_ob (F := F) h hS (j := tc_b (a t)) (by omega)).mpr ⟨t, ht, ht8, rfl, htF⟩
  have z : S &&& (F ^^^ (-1)) ≠ 0 := by
    intro e
    rw [e, b_0] at o1
    exact absurd o1 (by decide)
  unfold tc_st
  by_cases c : (S &&& (F ^^^ (-1))) &&& tc_ng F = 0
  · rw [if_pos c, if_neg z, if_neg]
    intro e
    exact hne (tc_binj (h s hs) (h t ht) hs8 ht8 (tc_pw z e o1 o2))
  · rw [if_neg c]
end
end
section
/-! ===== rows of the reference's against sets of literals ===== -/
def tc_FR (F : Int32) (f : Nat → Int32) : Prop := ∀ a, a < 17 → a ≠ 8 → f a = tc_bi (bt F (tc_b a))
theorem tc_bi0 {b : Bool} : tc_bi b = 0 ↔ b = false := by cases b <;> decide
theorem tc_bi1 {b : Bool} : tc_bi b = 1 ↔ b = true := by cases b <;> decide
theorem tc_bin0 {b : Bool} : ¬ tc_bi b = 0 ↔ b = true := by cases b <;> decide
theorem tc_nglb : ∀ x, x < 17 → tc_ng (tc_lb (tc_w x)) = tc_lb (tc_w (16 - x)) := by decide +kernel
theorem tc_FR0 {f : Nat → Int32} (h : ∀ i, i < 17 → f i = 0) : tc_FR 0 f := fun a ha _ => by rw [h a ha, b_0]; rfl
theorem tc_FRset {F : Int32} {f : Nat → Int32} (h : tc_FR F f) {x : Nat} (hx : x < 17) (h8 : x ≠ 8) : tc_FR (F ||| tc_lb (tc_w x)) (upd f x 1) := by
  intro a ha ha8
  have hb := tc_blt ha
  rw [b_or, tc_lbb x hx _ (by omega)]
  by_cases e : a = x
  · subst e
    rw [pk_us, decide_eq_true ⟨h8, rfl⟩, Bool.or_true]
    rfl
  · rw [pk_un e, decide_eq_false, Bool.or_false]
    · exact h a ha ha8
    · rintro ⟨_, e2⟩
      exact e (tc_binj ha hx ha8 h8 e2)
theorem tc_both {T : Int32} {f : Nat → Int32} (h : tc_FR T f) (hl : tc_lo T) : T &&& tc_ng T = 0 ↔ ∀ v, 1 ≤ v → v ≤ 8 → ¬ f (8 + v) = 0 → ¬ f (8 - v) = 0 → False := by
  rw [tc_zand]
  have hp : ∀ v, 1 ≤ v → v ≤ 8 → f (8 + v) = tc_bi (bt T (v - 1)) ∧ f (8 - v) = tc_bi (bt T (v + 7)) := by
    intro v h1 h2
    rw [h (8 + v) (by omega) (by omega), h (8 - v) (by omega) (by omega)]
    unfold tc_b
    rw [if_pos (by omega), if_neg (by omega)]
    exact ⟨congrArg (fun z => tc_bi (bt T z)) (by omega), congrArg (fun z => tc_bi (bt T z)) (by omega)⟩
  constructor
  · intro g v h1 h2 h3 h4
    rw [(hp v h1 h2).1, tc_bin0] at h3
    rw [(hp v h1 h2).2, tc_bin0] at h4
    refine g (v - 1) (by omega) h3 ?_
    rw [tc_ngb _ (by omega), if_pos (by omega)]
    rw [show v - 1 + 8 = v + 7 from by omega]
    exact h4
  · intro g i hi h1 h2
    rw [tc_ngb _ hi] at h2
    by_cases h8 : i < 8
    · rw [if_pos h8] at h2
      refine g (i + 1) (by omega) (by omega) ?_ ?_
      · rw [(hp (i + 1) (by omega) (by omega)).1, tc_bin0]; exact h1
      · rw [(hp (i + 1) (by omega) (by omega)).2, tc_bin0]; exact h2
    · rw [if_neg h8] at h2
      by_cases h16 : i < 16
      · rw [if_pos h16] at h2
        refine g (i - 7) (by omega) (by omega) ?_ ?_
        · rw [(hp (i - 7) (by omega) (by omega)).1, tc_bin0, show i - 7 - 1 = i - 8 from by omega]; exact h2
        · rw [(hp (i - 7) (by omega) (by omega)).2, tc_bin0, show i - 7 + 7 = i from by omega]; exact h1
      · rw [if_neg h16] at h2
        exact absurd h2 (by decide)
/-! ===== obligations, keeping, passing: as the class goes through them ===== -/
def tc_1 (i : Nat) : Int32 := (1 : Int32) <<< (nI i &&& 31)
theorem tc_1b : ∀ i, i < 32 → ∀ j, j < 32 → bt (tc_1 i) j = decide (j = i) := by decide +kernel
theorem tc_hm {x : Int32} {i : Nat} (hi : i < 32) : x &&& tc_1 i = 0 ↔ bt x i = false := by
  rw [tc_zand]
  constructor
  · intro h
    cases e : bt x i
    · rfl
    · exact absurd (h i hi e (by rw [tc_1b i hi i hi]; exact decide_eq_true rfl)) id
  · intro h j hj h1 h2
    rw [tc_1b i hi j hj, decide_eq_true_eq] at h2
    rw [h2, h] at h1
    exact absurd h1 (by decide)
theorem tc_del {x : Int32} {i : Nat} (hi : i < 32) {j : Nat} (hj : j < 32) : bt (x &&& (tc_1 i ^^^ (-1))) j = (bt x j && !decide (j = i)) := by
  rw [tc_andn _ _ hj, tc_1b i hi j hj]
theorem tc_add {x : Int32} {i : Nat} (hi : i < 32) {j : Nat} (hj : j < 32) : bt (x ||| tc_1 i) j = (bt x j || decide (j = i)) := by
  rw [b_or, tc_1b i hi j hj]
def tc_al (S : Nat → Int32) (cs : Int32) (ob : Nat → Int32) : Nat → Nat → Bool
  | 0, _ => true
  | d + 1, i => if tc_rf S cs (ob i) = true then tc_al S cs ob d (i + 1) else false
def tc_kp (S : Nat → Int32) (cs M : Int32) (ob : Nat → Int32) (q : Nat) : Nat → Int32 → Int32
  | 0, k => k
  | i + 1, k => if bt cs i = true ∧ bt M i = false then
      (if tc_al S (k &&& (tc_1 i ^^^ (-1))) ob q 0 = true then tc_kp S cs M ob q i (k &&& (tc_1 i ^^^ (-1))) else tc_kp S cs M ob q i k)
      else tc_kp S cs M ob q i k
def tc_pp (S : Nat → Int32) (cs L P : Int32) : Nat → Nat → (Nat → Int32) → Nat → (Nat → Int32) × Nat
  | 0, _, ob, q => (ob, q)
  | d + 1, i, ob, q => if bt cs i = true ∧ ¬ S i &&& P = 0 then tc_pp S cs L P d (i + 1) (upd ob q (L ||| (S i &&& (P ^^^ (-1))))) (q + 1) else tc_pp S cs L P d (i + 1) ob q
/-- the way of passing, with the obligations it leaves -/
def tc_way (S : Nat → Int32) (cs L P : Int32) (ob : Nat → Int32) : Int32 × (Nat → Int32) × Nat :=
  if tc_al S cs (upd ob 0 L) 1 0 = true then (3, upd ob 0 L, 1) else if L = 0 then (5, upd ob 0 L, 1) else
    (if tc_al S cs (tc_pp S cs L P 24 0 (upd ob 0 L) 0).1 (tc_pp S cs L P 24 0 (upd ob 0 L) 0).2 0 = true then 4 else 5, tc_pp S cs L P 24 0 (upd ob 0 L) 0)
theorem tc_ppq (S : Nat → Int32) (cs L P : Int32) : ∀ (d i : Nat) (ob : Nat → Int32) (q : Nat), (tc_pp S cs L P d i ob q).2 ≤ q + d := by
  intro d
  induction d with
  | zero => intro i ob q; exact Nat.le_refl _
  | succ d ih =>
    intro i ob q
    rw [tc_pp]
    split
    · have := ih (i + 1) (upd ob q (L ||| (S i &&& (P ^^^ (-1))))) (q + 1)
      omega
    · have := ih (i + 1) ob q
      omega
/-! ===== alive after k lines ===== -/
def tc_ax (n : Nat) : Int32 := ((1 : Int32) <<< (nI n &&& 31)) - 1
theorem tc_axb : ∀ n, n < 13 → ∀ i, i < 32 → bt (tc_ax n) i = decide (i < n) := by decide +kernel
def tc_av (K W : Nat → Int32) (n : Nat) : Nat → Int32
  | 0 => tc_ax n
  | k + 1 => if K (n + k) = 3 then tc_av K W n k &&& (((1 : Int32) <<< (W ((n + k) * 4) &&& 31)) ^^^ (-1)) else tc_av K W n k ||| tc_1 (n + k)
/-! ===== the text ===== -/
def tc_Cl (V : Nat) (W S : Nat → Int32) (i : Nat) : Prop := ∃ a : Nat → Nat, (∀ s, s < 4 → 8 ≤ a s + V ∧ a s ≤ 8 + V ∧ W (i * 4 + s) = tc_w (a s)) ∧ S i = tc_sl (tc_w (a 0)) (tc_w (a 1)) (tc_w (a 2)) (tc_w (a 3))
def tc_Tx (V n m : Nat) (W K S : Nat → Int32) : Prop := (1 ≤ V ∧ V ≤ 8) ∧ (n ≤ 12 ∧ m ≤ 12) ∧ (∀ i, i < n → K i = 1) ∧ (∀ i, n ≤ i → i < n + m → K i = 2 ∨ K i = 3) ∧ (∀ i, i < n + m → ¬ K i = 3 → tc_Cl V W S i) ∧ (∀ i, n ≤ i → i < n + m → K i = 3 → ∃ t, t < i ∧ W (i * 4) = nI t)
def tc_De (K D : Nat → Int32) : Prop := ∀ i, i < 24 → D i = tc_bi (decide (K i = 3))
def tc_In (cs : Int32) (f : Nat → Int32) : Prop := ∀ i, i < 24 → f i = tc_bi (bt cs i)
theorem tc_avb {V n m : Nat} {W K S : Nat → Int32} (h : tc_Tx V n m W K S) : ∀ k, k ≤ m → ∀ i, i < 24 → (bt (tc_av K W n k) i = true ↔ i < n + k ∧ ¬ K i = 3 ∧ ∀ j, j < k → K (n + j) = 3 → ¬ W ((n + j) * 4) = nI i) := by
  obtain ⟨⟨hV1, hV8⟩, ⟨hn, hm⟩, hA, hL, hC, hD⟩ := h
  intro k
  induction k with
  | zero =>
    intro _ i hi
    rw [tc_av, tc_axb n (by omega) i (by omega), decide_eq_true_eq]
    constructor
    · intro h
      refine ⟨h, ?_, fun j hj => absurd hj (by omega)⟩
      rw [hA i h]; decide
    · intro h; exact h.1
  | succ k ih =>
    intro hk i hi
    have ih := ih (by omega) i hi
    rw [tc_av]
    by_cases e : K (n + k) = 3
    · rw [if_pos e]
      obtain ⟨t, ht, hw⟩ := hD (n + k) (by omega) (by omega) e
      rw [hw]
      show bt (tc_av K W n k &&& (tc_1 t ^^^ (-1))) i = true ↔ _
      rw [tc_del (by omega) (by omega), Bool.and_eq_true, ih, Bool.not_eq_true', decide_eq_false_iff_not]
      constructor
      · rintro ⟨⟨h1, h2, h3⟩, h4⟩
        refine ⟨by omega, h2, fun j hj hK => ?_⟩
        by_cases ej : j = k
        · rw [ej, hw, nI_eq (by omega) (by omega)]
          exact fun z => h4 z.symm
        · exact h3 j (by omega) hK
      · rintro ⟨h1, h2, h3⟩
        have hik : i ≠ n + k := by
          intro z
          rw [z] at h2
          exact h2 e
        refine ⟨⟨by omega, h2, fun j hj hK => h3 j (by omega) hK⟩, ?_⟩
        have := h3 k (by omega) e
        rw [hw, nI_eq (by omega) (by omega)] at this
        exact fun z => this z.symm
    · rw [if_neg e, tc_add (by omega) (by omega), Bool.or_eq_true, ih, decide_eq_true_eq]
      constructor
      · rintro (⟨h1, h2, h3⟩ | h1)
        · refine ⟨by omega, h2, fun j hj hK => ?_⟩
          by_cases ej : j = k
          · rw [ej] at hK; exact absurd hK e
          · exact h3 j (by omega) hK
        · refine ⟨by omega, by rw [h1]; exact e, fun j hj hK => ?_⟩
          have hjk : j ≠ k := by
            intro z
            rw [z] at hK
            exact e hK
          obtain ⟨t, ht, hw⟩ := hD (n + j) (by omega) (by omega) hK
          rw [hw, nI_eq (by omega) (by omega)]
          omega
      · rintro ⟨h1, h2, h3⟩
        by_cases z : i = n + k
        · exact Or.inr z
        · exact Or.inl ⟨by omega, h2, fun j hj hK => h3 j (by omega) hK⟩
end
section
/-! ===== uniting a clause with a row ===== -/
/-- what the word at place a gives: nothing if there is no literal or it is the one left out -/
def tc_g (e a : Nat) : Int32 := if a = 8 ∨ a = e then 0 else tc_lb (tc_w a)
theorem tc_gb {e a : Nat} (ha : a < 17) {i : Nat} (hi : i < 32) : bt (tc_g e a) i = true ↔ a ≠ 8 ∧ a ≠ e ∧ i = tc_b a := by
  unfold tc_g
  by_cases h : a = 8 ∨ a = e
  · rw [if_pos h, b_0]
    constructor
    · intro z; exact absurd z (by decide)
    · rintro ⟨h1, h2, _⟩
      rcases h with h | h
      · exact absurd h h1
      · exact absurd h h2
  · rw [if_neg h, tc_lbb a ha i hi, decide_eq_true_eq]
    constructor
    · rintro ⟨h1, h2⟩
      exact ⟨h1, fun z => h (Or.inr z), h2⟩
    · rintro ⟨h1, _, h3⟩
      exact ⟨h1, h3⟩
theorem tc_log {e a : Nat} (ha : a < 17) : tc_lo (tc_g e a) := by
  unfold tc_g
  split
  · exact tc_lo0
  · exact tc_lolb ha
theorem tc_g4 {a : Nat → Nat} (h : ∀ s, s < 4 → a s < 17) {e : Nat} (he : e < 17) (F : Int32) : F ||| tc_g e (a 0) ||| tc_g e (a 1) ||| tc_g e (a 2) ||| tc_g e (a 3) = F ||| (tc_sl (tc_w (a 0)) (tc_w (a 1)) (tc_w (a 2)) (tc_w (a 3)) &&& (tc_lb (tc_w e) ^^^ (-1))) := by
  apply b_ext
  intro i hi
  apply Bool.eq_iff_iff.mpr
  rw [b_or, b_or, b_or, b_or, b_or, Bool.or_eq_true, Bool.or_eq_true, Bool.or_eq_true, Bool.or_eq_true, Bool.or_eq_true, tc_andn _ _ hi, Bool.and_eq_true, tc_slb h hi, tc_lbb e he i hi, Bool.not_eq_true', decide_eq_false_iff_not, tc_gb (h 0 (by omega)) hi, tc_gb (h 1 (by omega)) hi, tc_gb (h 2 (by omega)) hi, tc_gb (h 3 (by omega)) hi]
  have key : ∀ s, s < 4 → a s ≠ 8 → a s ≠ e → i = tc_b (a s) → (∃ s, s < 4 ∧ a s ≠ 8 ∧ i = tc_b (a s)) ∧ ¬ (e ≠ 8 ∧ i = tc_b e) := by
    intro s hs h1 h2 h3
    refine ⟨⟨s, hs, h1, h3⟩, ?_⟩
    rintro ⟨h4, h5⟩
    exact h2 (tc_binj (h s hs) he h1 h4 (by rw [← h3, ← h5]))
  constructor
  · rintro ((((z | z) | z) | z) | z)
    · exact Or.inl z
    · exact Or.inr (key 0 (by omega) z.1 z.2.1 z.2.2)
    · exact Or.inr (key 1 (by omega) z.1 z.2.1 z.2.2)
    · exact Or.inr (key 2 (by omega) z.1 z.2.1 z.2.2)
    · exact Or.inr (key 3 (by omega) z.1 z.2.1 z.2.2)
  · rintro (z | ⟨⟨s, hs, h1, h2⟩, h3⟩)
    · exact Or.inl (Or.inl (Or.inl (Or.inl z)))
    · have h4 : a s ≠ e := by
        intro z
        rw [z] at h1 h2
        exact h3 ⟨h1, h2⟩
      have hs4 : s = 0 ∨ s = 1 ∨ s = 2 ∨ s = 3 := by omega
      rcases hs4 with rfl | rfl | rfl | rfl
      · exact Or.inl (Or.inl (Or.inl (Or.inr ⟨h1, h4, h2⟩)))
      · exact Or.inl (Or.inl (Or.inr ⟨h1, h4, h2⟩))
      · exact Or.inl (Or.inr ⟨h1, h4, h2⟩)
      · exact Or.inr ⟨h1, h4, h2⟩
theorem tc_lb8 : tc_lb (tc_w 8) = 0 := by decide +kernel
theorem tc_w8 : tc_w 8 = 0 := by decide +kernel
theorem tc_not0 (x : Int32) : x &&& (0 ^^^ (-1)) = x := by
  apply b_ext
  intro i hi
  rw [tc_andn _ _ hi, b_0]
  simp
theorem tc_0or (x : Int32) : 0 ||| x = x := by
  apply b_ext
  intro i hi
  rw [b_or, b_0]
  simp
theorem tc_or0 (x : Int32) : x ||| 0 = x := by
  apply b_ext
  intro i hi
  rw [b_or, b_0]
  simp
/-- the row o of the reference's table -/
def tc_row (obl : Nat → Int32) (o : Nat) : Nat → Int32 := fun i => obl (o * 17 + i)
theorem tc_rowS {obl : Nat → Int32} {o a : Nat} {x : Int32} : tc_row (upd obl (o * 17 + a) x) o = upd (tc_row obl o) a x := by
  funext i
  unfold tc_row upd
  by_cases h : i = a
  · rw [if_pos h, if_pos (by omega)]
  · rw [if_neg h, if_neg (by omega)]
theorem tc_rowN {obl : Nat → Int32} {o o' a : Nat} {x : Int32} (h : o ≠ o') (ha : a < 17) {i : Nat} (hi : i < 17) : tc_row (upd obl (o * 17 + a) x) o' i = tc_row obl o' i := by
  unfold tc_row upd
  rw [if_neg (by omega)]
/-- the obligations of both sides -/
def tc_OR (ob : Nat → Int32) (q : Nat) (obl : Nat → Int32) : Prop := ∀ o, o < q → tc_lo (ob o) ∧ tc_FR (ob o) (tc_row obl o)
theorem tc_FRc {F : Int32} {f g : Nat → Int32} (h : tc_FR F f) (e : ∀ i, i < 17 → g i = f i) : tc_FR F g := fun a ha h8 => by rw [e a ha, h a ha h8]
/-! ===== a word that is met: the pivot, the pivot's partner ===== -/
theorem tc_hasz {a : Nat → Nat} (h : ∀ s, s < 4 → a s < 17) {y : Nat} (hy : y < 17) (h8 : y ≠ 8) : tc_sl (tc_w (a 0)) (tc_w (a 1)) (tc_w (a 2)) (tc_w (a 3)) &&& tc_lb (tc_w y) = 0 ↔ ∀ s, s < 4 → a s ≠ y := by
  rw [tc_zand]
  have hb := tc_blt hy
  constructor
  · intro g s hs e
    refine g (tc_b y) (by omega) ((tc_slb h (by omega)).mpr ⟨s, hs, by omega, by rw [e]⟩) ?_
    rw [tc_lbb y hy _ (by omega)]
    exact decide_eq_true ⟨h8, rfl⟩
  · intro g i hi h1 h2
    obtain ⟨s, hs, h3, h4⟩ := (tc_slb h hi).mp h1
    rw [tc_lbb y hy i hi, decide_eq_true_eq] at h2
    exact g s hs (tc_binj (h s hs) hy h3 h8 (by rw [← h4, ← h2.2]))
theorem tc_slz {a : Nat → Nat} (h : ∀ s, s < 4 → a s < 17) : tc_sl (tc_w (a 0)) (tc_w (a 1)) (tc_w (a 2)) (tc_w (a 3)) = 0 ↔ ∀ s, s < 4 → a s = 8 := by
  rw [tc_z]
  constructor
  · intro g s hs
    by_cases e : a s = 8
    · exact e
    · have hb := tc_blt (h s hs)
      have h1 := g (tc_b (a s)) (by omega)
      rw [(tc_slb h (by omega)).mpr ⟨s, hs, e, rfl⟩] at h1
      exact absurd h1 (by decide)
  · intro g i hi
    cases e : bt (tc_sl (tc_w (a 0)) (tc_w (a 1)) (tc_w (a 2)) (tc_w (a 3))) i
    · rfl
    · obtain ⟨s, hs, h3, _⟩ := (tc_slb h hi).mp e
      exact absurd (g s hs) h3
/-! ===== an assignment ===== -/
def tc_tl (V : Nat) (as : Int32) : Int32 := (as &&& tc_ax V) ||| (((as ^^^ (-1)) &&& tc_ax V) <<< ((8 : Int32) &&& 31))
theorem tc_tlb {V : Nat} (hV : V ≤ 8) (as : Int32) {i : Nat} (hi : i < 32) : bt (tc_tl V as) i = if i < 8 then (bt as i && decide (i < V)) else (!bt as (i - 8) && decide (i - 8 < V)) := by
  unfold tc_tl
  rw [b_or, b_shl8 _ hi, b_and, b_and, b_xor, b_m1 (i - 8) (by omega), tc_axb V (by omega) i hi, tc_axb V (by omega) (i - 8) (by omega), Bool.xor_true]
  by_cases h : i < 8
  · rw [if_pos h, decide_eq_false (by omega : ¬ 8 ≤ i), Bool.false_and, Bool.or_false]
  · rw [if_neg h, decide_eq_true (by omega : 8 ≤ i), decide_eq_false (by omega : ¬ i < V), Bool.and_false, Bool.false_or, Bool.true_and]
theorem tc_tll {V x : Nat} (hV : V ≤ 8) (as : Int32) (h1 : 8 ≤ x + V) (h2 : x ≤ 8 + V) (h8 : x ≠ 8) : bt (tc_tl V as) (tc_b x) = if 8 < x then bt as (x - 9) else !bt as (7 - x) := by
  have hb : tc_b x < 16 := tc_blt (by omega)
  rw [tc_tlb hV as (by omega)]
  unfold tc_b
  by_cases h : 8 < x
  · rw [if_pos h, if_pos h, if_pos (by omega : x - 9 < 8), decide_eq_true (by omega : x - 9 < V), Bool.and_true]
  · rw [if_neg h, if_neg h, if_neg (by omega : ¬ 15 - x < 8), decide_eq_true (by omega : 15 - x - 8 < V), Bool.and_true, show 15 - x - 8 = 7 - x from by omega]
theorem tc_and1 (x : Int32) : x &&& 1 = tc_bi (bt x 0) := by
  have h1 : ∀ i, i < 32 → bt 1 i = decide (i = 0) := by decide +kernel
  have h0 : ∀ b : Bool, ∀ i, i < 32 → bt (tc_bi b) i = (b && decide (i = 0)) := by decide +kernel
  apply b_ext
  intro i hi
  rw [b_and, h1 i hi, h0 _ i hi]
  by_cases e : i = 0
  · rw [e]
  · rw [decide_eq_false e, Bool.and_false, Bool.and_false]
theorem tc_shr1 (x : Int32) {k : Nat} (hk : k < 32) : (x >>> (nI k &&& 31)) &&& 1 = tc_bi (bt x k) := by
  rw [tc_and1, b_sshr k hk x (by omega), if_pos (by omega), Nat.add_zero]
/-! ===== the text grows ===== -/
def tc_put (W : Nat → Int32) (i : Nat) (a b c d : Int32) : Nat → Int32 := upd (upd (upd (upd W (i * 4) a) (i * 4 + 1) b) (i * 4 + 2) c) (i * 4 + 3) d
theorem tc_putN {W : Nat → Int32} {i : Nat} {a b c d : Int32} {j s : Nat} (h : j ≠ i) (hs : s < 4) : tc_put W i a b c d (j * 4 + s) = W (j * 4 + s) := by
  unfold tc_put upd
  rw [if_neg (by omega), if_neg (by omega), if_neg (by omega), if_neg (by omega)]
theorem tc_put0 {W : Nat → Int32} {i : Nat} {a b c d : Int32} : tc_put W i a b c d (i * 4) = a := by
  unfold tc_put upd
  rw [if_neg (by omega), if_neg (by omega), if_neg (by omega), if_pos rfl]
theorem tc_put1 {W : Nat → Int32} {i : Nat} {a b c d : Int32} : tc_put W i a b c d (i * 4 + 1) = b := by
  unfold tc_put upd
  rw [if_neg (by omega), if_neg (by omega), if_pos rfl]
theorem tc_put2 {W : Nat → Int32} {i : Nat} {a b c d : Int32} : tc_put W i a b c d (i * 4 + 2) = c := by
  unfold tc_put upd
  rw [if_neg (by omega), if_pos rfl]
theorem tc_put3 {W : Nat → Int32} {i : Nat} {a b c d : Int32} : tc_put W i a b c d (i * 4 + 3) = d := by
  unfold tc_put upd
  rw [if_pos rfl]
theorem tc_ClN {V : Nat} {W S : Nat → Int32} {i : Nat} {a b c d x : Int32} {j : Nat} (h : j ≠ i) (g : tc_Cl V W S j) : tc_Cl V (tc_put W i a b c d) (upd S i x) j := by
  obtain ⟨p, h1, h2⟩ := g
  refine ⟨p, fun s hs => ?_, by rw [pk_un h, h2]⟩
  obtain ⟨z1, z2, z3⟩ := h1 s hs
  exact ⟨z1, z2, by rw [tc_putN h hs, z3]⟩
theorem tc_ClN' {V : Nat} {W S : Nat → Int32} {i : Nat} {a b c d : Int32} {j : Nat} (h : j ≠ i) (g : tc_Cl V W S j) : tc_Cl V (tc_put W i a b c d) S j := by
  obtain ⟨p, h1, h2⟩ := g
  refine ⟨p, fun s hs => ?_, h2⟩
  obtain ⟨z1, z2, z3⟩ := h1 s hs
  exact ⟨z1, z2, by rw [tc_putN h hs, z3]⟩
/-- an argument within -V..V -/
def tc_ok (V : Nat) (w : Int32) : Prop := ∃ a, 8 ≤ a + V ∧ a ≤ 8 + V ∧ w = tc_w a
theorem tc_ClS {V : Nat} {W S : Nat → Int32} {i : Nat} {a b c d : Int32} (ha : tc_ok V a) (hb : tc_ok V b) (hc : tc_ok V c) (hd : tc_ok V d) : tc_Cl V (tc_put W i a b c d) (upd S i (tc_sl a b c d)) i := by
  obtain ⟨p0, h0, g0, e0⟩ := ha
  obtain ⟨p1, h1, g1, e1⟩ := hb
  obtain ⟨p2, h2, g2, e2⟩ := hc
  obtain ⟨p3, h3, g3, e3⟩ := hd
  refine ⟨fun s => if s = 0 then p0 else if s = 1 then p1 else if s = 2 then p2 else p3, fun s hs => ?_, ?_⟩
  · have hs4 : s = 0 ∨ s = 1 ∨ s = 2 ∨ s = 3 := by omega
    rcases hs4 with rfl | rfl | rfl | rfl
    · exact ⟨h0, g0, (tc_put0 (W := W) (i := i)).trans e0⟩
    · exact ⟨h1, g1, (tc_put1 (W := W) (i := i)).trans e1⟩
    · exact ⟨h2, g2, (tc_put2 (W := W) (i := i)).trans e2⟩
    · exact ⟨h3, g3, (tc_put3 (W := W) (i := i)).trans e3⟩
  · rw [pk_us, e0, e1, e2, e3]
    rfl
theorem tc_TxA {V n : Nat} {W K S : Nat → Int32} {a b c d : Int32} (h : tc_Tx V n 0 W K S) (hn : n < 12) (ha : tc_ok V a) (hb : tc_ok V b) (hc : tc_ok V c) (hd : tc_ok V d) : tc_Tx V (n + 1) 0 (tc_put W n a b c d) (upd K n 1) (upd S n (tc_sl a b c d)) := by
  obtain ⟨hV, hnm, hA, hL, hC, hD⟩ := h
  refine ⟨hV, ⟨by omega, by omega⟩, fun i hi => ?_, fun i h1 h2 => absurd h2 (by omega), fun i hi hk => ?_, fun i h1 h2 => absurd h2 (by omega)⟩
  · by_cases e : i = n
    · rw [e, pk_us]
    · rw [pk_un e]; exact hA i (by omega)
  · by_cases e : i = n
    · rw [e]; exact tc_ClS ha hb hc hd
    · rw [pk_un e] at hk
      exact tc_ClN e (hC i (by omega) hk)
theorem tc_TxL {V n m : Nat} {W K S : Nat → Int32} {a b c d : Int32} (h : tc_Tx V n m W K S) (hm : m < 12) (ha : tc_ok V a) (hb : tc_ok V b) (hc : tc_ok V c) (hd : tc_ok V d) : tc_Tx V n (m + 1) (tc_put W (n + m) a b c d) (upd K (n + m) 2) (upd S (n + m) (tc_sl a b c d)) := by
  obtain ⟨hV, hnm, hA, hL, hC, hD⟩ := h
  refine ⟨hV, ⟨by omega, by omega⟩, fun i hi => ?_, fun i h1 h2 => ?_, fun i hi hk => ?_, fun i h1 h2 hk => ?_⟩
  · rw [pk_un (by omega)]; exact hA i hi
  · by_cases e : i = n + m
    · rw [e, pk_us]; exact Or.inl rfl
    · rw [pk_un e]; exact hL i h1 (by omega)
  · by_cases e : i = n + m
    · rw [e]; exact tc_ClS ha hb hc hd
    · rw [pk_un e] at hk
      exact tc_ClN e (hC i (by omega) hk)
  · by_cases e : i = n + m
    · rw [e, pk_us] at hk
      exact absurd hk (by decide)
    · rw [pk_un e] at hk
      obtain ⟨t, ht, hw⟩ := hD i h1 (by omega) hk
      exact ⟨t, ht, (tc_putN (s := 0) e (by omega)).trans hw⟩
theorem tc_TxD {V n m t : Nat} {W K S : Nat → Int32} {b c d : Int32} (h : tc_Tx V n m W K S) (hm : m < 12) (ht : t < n + m) : tc_Tx V n (m + 1) (tc_put W (n + m) (nI t) b c d) (upd K (n + m) 3) S := by
  obtain ⟨hV, hnm, hA, hL, hC, hD⟩ := h
  refine ⟨hV, ⟨by omega, by omega⟩, fun i hi => ?_, fun i h1 h2 => ?_, fun i hi hk => ?_, fun i h1 h2 hk => ?_⟩
  · rw [pk_un (by omega)]; exact hA i hi
  · by_cases e : i = n + m
    · rw [e, pk_us]; exact Or.inr rfl
    · rw [pk_un e]; exact hL i h1 (by omega)
  · by_cases e : i = n + m
    · rw [e, pk_us] at hk
      exact absurd rfl hk
    · rw [pk_un e] at hk
      exact tc_ClN' e (hC i (by omega) hk)
  · by_cases e : i = n + m
    · rw [e]; exact ⟨t, ht, tc_put0⟩
    · rw [pk_un e] at hk
      obtain ⟨t, ht, hw⟩ := hD i h1 (by omega) hk
      exact ⟨t, ht, (tc_putN (s := 0) e (by omega)).trans hw⟩
theorem tc_TxR {V n m m' : Nat} {W K S : Nat → Int32} (h : tc_Tx V n m W K S) (hm : m' ≤ m) : tc_Tx V n m' W K S := by
  obtain ⟨hV, hnm, hA, hL, hC, hD⟩ := h
  exact ⟨hV, ⟨by omega, by omega⟩, hA, fun i h1 h2 => hL i h1 (by omega), fun i hi => hC i (by omega), fun i h1 h2 => hD i h1 (by omega)⟩
theorem tc_Tx0 {V n m : Nat} {W K S : Nat → Int32} (h : tc_Tx V n m W K S) : tc_Tx V 0 0 W K S := by
  obtain ⟨hV, hnm, hA, hL, hC, hD⟩ := h
  exact ⟨hV, ⟨by omega, by omega⟩, fun i hi => absurd hi (by omega), fun i h1 h2 => absurd h2 (by omega), fun i hi => absurd hi (by omega), fun i h1 h2 => absurd h2 (by omega)⟩
theorem tc_DeS {K D : Nat → Int32} {i : Nat} {x : Int32} (h : tc_De K D) : tc_De (upd K i x) (upd D i (tc_bi (decide (x = 3)))) := by
  intro j hj
  by_cases e : j = i
  · rw [e, pk_us, pk_us]
  · rw [pk_un e, pk_un e]; exact h j hj
/-- within -V..V, as both sides look at it -/
theorem tc_rng {V : Nat} (hV : V ≤ 8) {w : Int32} (h1 : ¬ w < -nI V) (h2 : ¬ nI V < w) : tc_ok V w := by
  have hV31 : V < 2 ^ 31 := by omega
  have e1 : (-nI V).toInt = -(V : Int) := by
    have hh : ∀ z, z < 9 → (-nI z).toInt = -(z : Int) := by decide +kernel
    exact hh V (by omega)
  rw [Int32.lt_iff_toInt_lt, e1] at h1
  rw [Int32.lt_iff_toInt_lt, nI_toInt hV31] at h2
  refine ⟨(w.toInt + 8).toNat, by omega, by omega, ?_⟩
  apply Int32.toInt_inj.mp
  have h3 : ∀ z, z < 17 → (tc_w z).toInt = (z : Int) - 8 := by decide +kernel
  rw [h3 _ (by omega)]
  omega
end
section
/-! ===== the class: sets, refuting ===== -/
theorem tc_m4 (i : Nat) : nI i * 4 = nI (i * 4) := pk_mul i 4
theorem tc_m41 (i : Nat) : nI i * 4 + 1 = nI (i * 4 + 1) := by rw [tc_m4, nI_1]
theorem tc_m42 (i : Nat) : nI i * 4 + 2 = nI (i * 4 + 2) := by rw [tc_m4]; exact nI_add _ 2
theorem tc_m43 (i : Nat) : nI i * 4 + 3 = nI (i * 4 + 3) := by rw [tc_m4]; exact nI_add _ 3
theorem tc_m4s (i s : Nat) : nI i * 4 + nI s = nI (i * 4 + s) := by rw [tc_m4, nI_add]
theorem tc_bif : tc_bi false = 0 := rfl
theorem tc_bit : ¬ tc_bi true = 0 := by decide
theorem tx_neg {post : Int32 → Prop} {x : Int32} (h : post (tc_ng x)) : wpX_negated post () x := nm_e (nm_e h)
theorem tx_hm {post : Int32 → Prop} {cs : Int32} {i : Nat} (hi : i < 24) (h : post (tc_bi (bt cs i))) : wpX_hasMember post () cs (nI i) := by
  refine br_f (nI_pos (by omega)) (br_f (nI_ge (b := 24) hi (by decide)) ?_)
  have e : cs &&& tc_1 i = 0 ↔ bt cs i = false := tc_hm (by omega)
  cases hb : bt cs i
  · rw [hb] at h
    exact br_t (e.mpr hb) h
  · rw [hb] at h
    exact br_f (fun z => by rw [e.mp z] at hb; exact absurd hb (by decide)) h
theorem tx_lb {post : Int32 → Prop} {w : Int32} (h : post (tc_lb w)) : wpX_literalBit post () w := by
  unfold tc_lb at h
  refine br_c (fun c => ?_) (fun c => br_c (fun d => ?_) (fun d => ?_))
  · rw [if_pos c] at h; exact h
  · rw [if_neg c, if_pos d] at h; exact h
  · rw [if_neg c, if_neg d] at h; exact h
theorem tx_sl {post : Int32 → Prop} {a b c d : Int32} (h : post (tc_sl a b c d)) : wpX_setOfLiterals post () a b c d := by
  unfold wpX_setOfLiterals
  exact tx_lb (tx_lb (tx_lb (tx_lb h)))
section
variable {vc al ll ac lc ph cu cf M oc : Int32} {W K S ob : Nat → Int32}
theorem tx_r33 {post : Int32 → Prop} {J : Int32 → Int32 → Int32 → Prop} {cs x5 F0 : Int32} (hS : ∀ i, i < 24 → bt cs i = true → tc_lo (S i)) : ∀ (d i : Nat) (F g : Int32) (n : Nat), i + d = 24 → d < n → (g = 0 → F = F0) → (tc_fl S cs d i F = none → post 1) → (∀ F', tc_fl S cs d i F = some F' → (F' = F0 → post 0) ∧ J F' (tc_ng F') (x5 + 1)) → wX_refutes_33 post J cs x5 vc al ll ac lc ph cu cf M oc W K S ob n F (tc_ng F) g (nI i) := by
  intro d
  induction d with
  | zero =>
    intro i F g n hi hn hg h0 h1
    obtain ⟨n, rfl⟩ : ∃ k, n = k + 1 := ⟨n - 1, by omega⟩
    have e : i = 24 := by omega
    subst e
    obtain ⟨p1, p2⟩ := h1 F rfl
    exact br_t (nI_le (a := 24) (b := 24) (by omega) (by omega)) (br_c (fun c => p1 (hg c)) (fun _ => nm_e p2))
  | succ d ih =>
    intro i F g n hi hn hg h0 h1
    obtain ⟨n, rfl⟩ : ∃ k, n = k + 1 := ⟨n - 1, by omega⟩
    refine br_f (nI_ge (b := 24) (by omega) (by decide)) ⟨vp_in_nI (by omega) (by omega), ?_⟩
    refine nm_r (e' := S i &&& (F ^^^ (-1))) (by rw [nI_clamp (by omega)]) ?_
    refine tx_hm (by omega) ?_
    cases hb : bt cs i
    · refine br_t tc_bif (nm_r (nI_1 i) ?_)
      rw [tc_fl0 hb] at h0 h1
      exact ih (i + 1) F g n (by omega) (by omega) hg h0 h1
    · refine br_f tc_bit ?_
      have hl := hS i (by omega) hb
      by_cases c1 : (S i &&& (F ^^^ (-1))) &&& tc_ng F = 0
      · refine br_t c1 ?_
        by_cases c2 : S i &&& (F ^^^ (-1)) = 0
        · refine br_t c2 (h0 (tc_fln hb ?_))
          unfold tc_st
          rw [if_pos c1, if_pos c2]
        · refine br_f c2 ?_
          by_cases c3 : (S i &&& (F ^^^ (-1))) &&& ((S i &&& (F ^^^ (-1))) - 1) = 0
          · refine br_t c3 (nm_e (tx_neg (nm_e (nm_r (nI_1 i) ?_))))
            have es : tc_st F (S i) = some (F ||| tc_ng (S i &&& (F ^^^ (-1)))) := by
              unfold tc_st
              rw [if_pos c1, if_neg c2, if_pos c3]
            rw [tc_fls hb es] at h0 h1
            have e : tc_ng F ||| (S i &&& (F ^^^ (-1))) = tc_ng (F ||| tc_ng (S i &&& (F ^^^ (-1)))) := by
              rw [tc_ngor, tc_ngng (tc_loand hl)]
            rw [e]
            exact ih (i + 1) _ 1 n (by omega) (by omega) (fun z => absurd z (by decide)) h0 h1
          · refine br_f c3 (nm_r (nI_1 i) ?_)
            have es : tc_st F (S i) = some F := by
              unfold tc_st
              rw [if_pos c1, if_neg c2, if_neg c3]
            rw [tc_fls hb es] at h0 h1
            exact ih (i + 1) F g n (by omega) (by omega) hg h0 h1
      · refine br_f c1 (nm_r (nI_1 i) ?_)
        have es : tc_st F (S i) = some F := by
          unfold tc_st
          rw [if_neg c1]
        rw [tc_fls hb es] at h0 h1
        exact ih (i + 1) F g n (by omega) (by omega) hg h0 h1
theorem tx_r20 {post : Int32 → Prop} {cs : Int32} (hS : ∀ i, i < 24 → bt cs i = true → tc_lo (S i)) : ∀ (r : Nat) (F : Int32) (n : Nat), r ≤ 9 → r < n → post (tc_bi (tc_rd S cs r F)) → wX_refutes_20 post cs vc al ll ac lc ph cu cf M oc W K S ob n F (tc_ng F) (nI (9 - r)) := by
  intro r
  induction r with
  | zero =>
    intro F n _ hn h
    obtain ⟨n, rfl⟩ : ∃ k, n = k + 1 := ⟨n - 1, by omega⟩
    exact br_t (nI_lt (a := 8) (b := 9) (by omega) (by omega)) h
  | succ r ih =>
    intro F n hr hn h
    obtain ⟨n, rfl⟩ : ∃ k, n = k + 1 := ⟨n - 1, by omega⟩
    refine br_f (nI_nlt (a := 8) (b := 9 - (r + 1)) (by omega) (by omega)) ⟨25, ?_⟩
    refine tx_r33 (F0 := F) hS 24 0 F 0 25 (by omega) (by omega) (fun _ => rfl) (fun e => ?_) (fun F' e => ⟨fun z => ?_, ?_⟩)
    · rw [tc_rdn e] at h
      exact h
    · rw [z] at e
      rw [tc_rds e, tc_rdfix e] at h
      exact h
    · rw [tc_rds e] at h
      rw [nI_1, show 9 - (r + 1) + 1 = 9 - r from by omega]
      exact ih F' n (by omega) (by omega) h
theorem tx_ref {post : Int32 → Prop} {cs T : Int32} (hS : ∀ i, i < 24 → bt cs i = true → tc_lo (S i)) (h : post (tc_bi (tc_rf S cs T))) : wpX_refutes post (vc, al, ll, ac, lc, ph, cu, cf, M, oc, W, K, S, ob) cs T := by
  unfold wpX_refutes
  refine tx_neg ?_
  unfold tc_rf at h
  by_cases c : T &&& tc_ng T = 0
  · rw [if_pos c] at h
    exact br_t c ⟨10, tx_r20 hS 9 T 10 (by omega) (by omega) h⟩
  · rw [if_neg c] at h
    exact br_f c h
theorem tx_al2 {post : Int32 → Prop} {cs : Int32} {q : Nat} (hq : q ≤ 24) (hS : ∀ i, i < 24 → bt cs i = true → tc_lo (S i)) : ∀ (d i n : Nat), i + d = q → d < n → post (tc_bi (tc_al S cs ob d i)) → wX_refutesAllObligations_2 post cs vc al ll ac lc ph cu cf M (nI q) W K S ob n (nI i) := by
  intro d
  induction d with
  | zero =>
    intro i n hi hn h
    obtain ⟨n, rfl⟩ : ∃ k, n = k + 1 := ⟨n - 1, by omega⟩
    exact br_t (nI_le (by omega) (by omega)) h
  | succ d ih =>
    intro i n hi hn h
    obtain ⟨n, rfl⟩ : ∃ k, n = k + 1 := ⟨n - 1, by omega⟩
    refine br_f (nI_ge (by omega) (by omega)) ⟨vp_in_nI (by omega) (by omega), ?_⟩
    rw [nI_clamp (by omega)]
    refine tx_ref hS ?_
    rw [tc_al] at h
    cases e : tc_rf S cs (ob i)
    · rw [e, if_neg (by decide)] at h
      exact br_t tc_bif h
    · rw [if_pos e] at h
      exact br_f tc_bit (nm_r (nI_1 i) (ih (i + 1) n (by omega) (by omega) h))
theorem tx_al {post : Int32 → Prop} {cs : Int32} {q : Nat} (hq : q ≤ 24) (hS : ∀ i, i < 24 → bt cs i = true → tc_lo (S i)) (h : post (tc_bi (tc_al S cs ob q 0))) : wpX_refutesAllObligations post (vc, al, ll, ac, lc, ph, cu, cf, M, nI q, W, K, S, ob) cs :=
  ⟨q + 1, tx_al2 hq hS q 0 (q + 1) (by omega) (by omega) h⟩
theorem tx_keep5 {post : St2 → Prop} {cs : Int32} {q : Nat} (hq : q ≤ 24) (hS : ∀ i, i < 24 → bt cs i = true → tc_lo (S i)) : ∀ (i : Nat) (k : Int32) (n : Nat), i ≤ 24 → i < n → (∀ j, j < 24 → bt k j = true → bt cs j = true) → post (vc, al, ll, ac, lc, ph, cu, cf, M ||| tc_kp S cs M ob q i k, nI q, W, K, S, ob) → wX_keep_5 post cs vc al ll ac lc ph cu cf M (nI q) W K S ob n k (nI i + (-1)) := by
  intro i
  induction i with
  | zero =>
    intro k n hi hn hk h
    obtain ⟨n, rfl⟩ : ∃ k, n = k + 1 := ⟨n - 1, by omega⟩
    exact br_t (by decide) (nm_e h)
  | succ i ih =>
    intro k n hi hn hk h
    obtain ⟨n, rfl⟩ : ∃ k, n = k + 1 := ⟨n - 1, by omega⟩
    rw [pk_m1]
    refine br_f (nI_pos (by omega)) (tx_hm (by omega) ?_)
    rw [tc_kp] at h
    cases hb : bt cs i
    · rw [if_neg (fun z => by rw [hb] at z; exact absurd z.1 (by decide))] at h
      exact br_t tc_bif (nm_e (ih k n (by omega) (by omega) hk h))
    · refine br_f tc_bit (tx_hm (by omega) ?_)
      cases hm : bt M i
      · rw [if_pos ⟨hb, hm⟩] at h
        refine br_t tc_bif (nm_e ?_)
        have hk' : ∀ j, j < 24 → bt (k &&& (tc_1 i ^^^ (-1))) j = true → bt cs j = true := by
          intro j hj e
          rw [b_and, Bool.and_eq_true] at e
          exact hk j hj e.1
        refine tx_al (cs := k &&& (tc_1 i ^^^ (-1))) hq (fun j hj e => hS j hj (hk' j hj e)) ?_
        cases ea : tc_al S (k &&& (tc_1 i ^^^ (-1))) ob q 0
        · rw [ea, if_neg (by decide)] at h
          exact br_t tc_bif (nm_e (ih k n (by omega) (by omega) hk h))
        · rw [if_pos ea] at h
          exact br_f tc_bit (nm_e (ih _ n (by omega) (by omega) hk' h))
      · rw [if_neg (fun z => by rw [hm] at z; exact absurd z.2 (by decide))] at h
        exact br_f tc_bit (nm_e (ih k n (by omega) (by omega) hk h))
theorem tx_keep {post : St2 → Prop} {cs : Int32} {q : Nat} (hq : q ≤ 24) (hS : ∀ i, i < 24 → bt cs i = true → tc_lo (S i)) (h : post (vc, al, ll, ac, lc, ph, cu, cf, M ||| tc_kp S cs M ob q 24 cs, nI q, W, K, S, ob)) : wpX_keep post (vc, al, ll, ac, lc, ph, cu, cf, M, nI q, W, K, S, ob) cs :=
  ⟨25, tx_keep5 hq hS 24 cs 25 (by omega) (by omega) (fun _ _ e => e) h⟩
theorem tx_tgt {post : Int32 → Prop} {i : Nat} (hi : i < 24) (h : post (W (i * 4))) : wpX_targetOf post (vc, al, ll, ac, lc, ph, cu, cf, M, oc, W, K, S, ob) (nI i) := by
  refine ⟨?_, ?_⟩
  · rw [tc_m4]
    exact vp_in_nI (by omega) (by omega)
  · rw [tc_m4, nI_clamp (by omega)]
    exact h
theorem tx_av7 {post : Int32 → Prop} {an k : Nat} (hk : an + k ≤ 24) : ∀ (d j n : Nat), j + d = k → d < n → post (tc_av K W an k) → wX_aliveAfter_7 post (nI k) vc al ll (nI an) lc ph cu cf M oc W K S ob n (tc_av K W an j) (nI j) := by
  intro d
  induction d with
  | zero =>
    intro j n hj hn h
    obtain ⟨n, rfl⟩ : ∃ k, n = k + 1 := ⟨n - 1, by omega⟩
    have e : j = k := by omega
    subst e
    exact br_t (nI_le (by omega) (by omega)) h
  | succ d ih =>
    intro j n hj hn h
    obtain ⟨n, rfl⟩ : ∃ k, n = k + 1 := ⟨n - 1, by omega⟩
    refine br_f (nI_ge (by omega) (by omega)) (nm_r (nI_add an j) ⟨vp_in_nI (by omega) (by omega), ?_⟩)
    rw [nI_clamp (by omega)]
    by_cases c : K (an + j) = 3
    · refine br_t c (tx_tgt (by omega) (nm_r (e' := tc_av K W an (j + 1)) ?_ (nm_r (nI_1 j) (ih (j + 1) n (by omega) (by omega) h))))
      rw [tc_av, if_pos c]
    · refine br_f c (nm_r (e' := tc_av K W an (j + 1)) ?_ (nm_r (nI_1 j) (ih (j + 1) n (by omega) (by omega) h)))
      rw [tc_av, if_neg c]
      rfl
theorem tx_av {post : Int32 → Prop} {an k : Nat} (hk : an + k ≤ 24) (h : post (tc_av K W an k)) : wpX_aliveAfter post (vc, al, ll, nI an, lc, ph, cu, cf, M, oc, W, K, S, ob) (nI k) :=
  ⟨k + 1, tx_av7 hk k 0 (k + 1) (by omega) (by omega) h⟩
end
end
section
/-! ===== the class: passing ===== -/
/-- the place of the pivot (8: there is none) -/
def tc_pv (a : Nat → Nat) : Nat := if a 0 = 8 then (if a 1 = 8 then (if a 2 = 8 then a 3 else a 2) else a 1) else a 0
section
variable {vc al ll ac lc ph cu cf M oc : Int32} {W K S ob : Nat → Int32}
theorem tx_pv2 {post : Int32 → Prop} {i s x n : Nat} (hi : i < 24) (hs : s < 4) (hx : x < 17) (hw : W (i * 4 + s) = tc_w x) (h1 : x = 8 → wX_pivotBit_2 post (nI i) vc al ll ac lc ph cu cf M oc W K S ob n (nI (s + 1))) (h2 : x ≠ 8 → post (tc_lb (tc_w x))) : wX_pivotBit_2 post (nI i) vc al ll ac lc ph cu cf M oc W K S ob (n + 1) (nI s) := by
  refine br_f (nI_ge (b := 4) hs (by decide)) ⟨by rw [tc_m4s]; exact vp_in_nI (by omega) (by omega), ?_⟩
  refine nm_r (e' := tc_w x) (by rw [tc_m4s, nI_clamp (by omega)]; exact hw) ?_
  by_cases c : x = 8
  · exact br_t ((tc_w1 x hx).2.2.1.mpr c) (nm_r (nI_1 s) (h1 c))
  · exact br_f (fun z => c ((tc_w1 x hx).2.2.1.mp z)) (tx_lb (h2 c))
theorem tx_pv {post : Int32 → Prop} {i : Nat} {a : Nat → Nat} (hi : i < 24) (ha : ∀ s, s < 4 → a s < 17) (hw : ∀ s, s < 4 → W (i * 4 + s) = tc_w (a s)) (h : post (tc_lb (tc_w (tc_pv a)))) : wpX_pivotBit post (vc, al, ll, ac, lc, ph, cu, cf, M, oc, W, K, S, ob) (nI i) := by
  refine ⟨5, tx_pv2 hi (s := 0) (by omega) (ha 0 (by omega)) (hw 0 (by omega)) (fun c0 => tx_pv2 hi (s := 1) (by omega) (ha 1 (by omega)) (hw 1 (by omega)) (fun c1 => tx_pv2 hi (s := 2) (by omega) (ha 2 (by omega)) (hw 2 (by omega)) (fun c2 => tx_pv2 hi (s := 3) (by omega) (ha 3 (by omega)) (hw 3 (by omega)) (fun c3 => ?_) (fun c3 => ?_)) (fun c2 => ?_)) (fun c1 => ?_)) (fun c0 => ?_)⟩
  · unfold tc_pv at h
    rw [if_pos c0, if_pos c1, if_pos c2, c3, tc_lb8] at h
    exact br_t (nI_le (a := 4) (b := 4) (by omega) (by omega)) h
  · unfold tc_pv at h
    rw [if_pos c0, if_pos c1, if_pos c2] at h
    exact h
  · unfold tc_pv at h
    rw [if_pos c0, if_pos c1, if_neg c2] at h
    exact h
  · unfold tc_pv at h
    rw [if_pos c0, if_neg c1] at h
    exact h
  · unfold tc_pv at h
    rw [if_neg c0] at h
    exact h
theorem tx_pp20 {post : St2 → Prop} {cs P : Int32} {l : Nat} (hl : l < 24) : ∀ (d i : Nat) (ob : Nat → Int32) (q n : Nat), i + d = 24 → d < n → q ≤ i → post (vc, al, ll, ac, lc, ph, cu, cf, M, nI (tc_pp S cs (S l) P d i ob q).2, W, K, S, (tc_pp S cs (S l) P d i ob q).1) → wX_obligePivotPartners_20 post (nI l) cs P vc al ll ac lc ph cu cf M n (nI i) (nI q) W K S ob := by
  intro d
  induction d with
  | zero =>
    intro i ob q n hi hn hq h
    obtain ⟨n, rfl⟩ : ∃ k, n = k + 1 := ⟨n - 1, by omega⟩
    have e : i = 24 := by omega
    subst e
    exact br_t (nI_le (a := 24) (b := 24) (by omega) (by omega)) h
  | succ d ih =>
    intro i ob q n hi hn hq h
    obtain ⟨n, rfl⟩ : ∃ k, n = k + 1 := ⟨n - 1, by omega⟩
    refine br_f (nI_ge (b := 24) (by omega) (by decide)) (tx_hm (by omega) ?_)
    rw [tc_pp] at h
    cases hb : bt cs i
    · rw [if_neg (fun z => by rw [hb] at z; exact absurd z.1 (by decide))] at h
      exact br_t tc_bif (nm_r (nI_1 i) (ih (i + 1) ob q n (by omega) (by omega) (by omega) h))
    · refine br_f tc_bit ⟨vp_in_nI (by omega) (by omega), ?_⟩
      rw [nI_clamp (by omega : i < 2 ^ 31), nI_clamp (by omega : l < 2 ^ 31), nI_clamp (by omega : q < 2 ^ 31)]
      by_cases c : S i &&& P = 0
      · rw [if_neg (fun z => z.2 c)] at h
        exact br_t c (nm_r (nI_1 i) (ih (i + 1) ob q n (by omega) (by omega) (by omega) h))
      · rw [if_pos ⟨hb, c⟩] at h
        exact br_f c ⟨vp_in_nI hl (by omega), vp_in_nI (by omega) (by omega), vp_in_nI (by omega) (by omega), nm_e (nm_r (nI_1 q) (nm_r (nI_1 i) (ih (i + 1) _ (q + 1) n (by omega) (by omega) (by omega) h)))⟩
theorem tx_pp {post : St2 → Prop} {cs : Int32} {l : Nat} {a : Nat → Nat} (hl : l < 24) (ha : ∀ s, s < 4 → a s < 17) (hw : ∀ s, s < 4 → W (l * 4 + s) = tc_w (a s)) (h : post (vc, al, ll, ac, lc, ph, cu, cf, M, nI (tc_pp S cs (S l) (tc_ng (tc_lb (tc_w (tc_pv a)))) 24 0 ob 0).2, W, K, S, (tc_pp S cs (S l) (tc_ng (tc_lb (tc_w (tc_pv a)))) 24 0 ob 0).1)) : wpX_obligePivotPartners post (vc, al, ll, ac, lc, ph, cu, cf, M, oc, W, K, S, ob) (nI l) cs := by
  unfold wpX_obligePivotPartners
  refine tx_pv hl ha hw (tx_neg ⟨25, ?_⟩)
  exact tx_pp20 hl 24 0 ob 0 25 (by omega) (by omega) (by omega) h
theorem tx_way {post : Int32 → St2 → Prop} {cs : Int32} {l : Nat} {a : Nat → Nat} (hl : l < 24) (ha : ∀ s, s < 4 → a s < 17) (hw : ∀ s, s < 4 → W (l * 4 + s) = tc_w (a s)) (hS : ∀ i, i < 24 → bt cs i = true → tc_lo (S i)) (h : post (tc_way S cs (S l) (tc_ng (tc_lb (tc_w (tc_pv a)))) ob).1 (vc, al, ll, ac, lc, ph, cu, cf, M, nI (tc_way S cs (S l) (tc_ng (tc_lb (tc_w (tc_pv a)))) ob).2.2, W, K, S, (tc_way S cs (S l) (tc_ng (tc_lb (tc_w (tc_pv a)))) ob).2.1)) : wpX_wayOfPassing post (vc, al, ll, ac, lc, ph, cu, cf, M, oc, W, K, S, ob) (nI l) cs := by
  unfold wpX_wayOfPassing
  refine ⟨vp_in_nI hl (by omega), nm_r (e' := S l) (by rw [nI_clamp (by omega)]) ?_⟩
  unfold wpX_obligeOnly
  refine nm_e ?_
  refine tx_al (q := 1) (by omega) hS ?_
  unfold tc_way at h
  cases e : tc_al S cs (upd ob 0 (S l)) 1 0
  · rw [e, if_neg (by decide)] at h
    refine br_t tc_bif ?_
    by_cases c : S l = 0
    · rw [if_pos c] at h
      exact br_t c h
    · rw [if_neg c] at h
      refine br_f c (tx_pp hl ha hw ?_)
      have hq := tc_ppq S cs (S l) (tc_ng (tc_lb (tc_w (tc_pv a)))) 24 0 (upd ob 0 (S l)) 0
      refine tx_al (by omega) hS ?_
      cases e2 : tc_al S cs (tc_pp S cs (S l) (tc_ng (tc_lb (tc_w (tc_pv a)))) 24 0 (upd ob 0 (S l)) 0).1 (tc_pp S cs (S l) (tc_ng (tc_lb (tc_w (tc_pv a)))) 24 0 (upd ob 0 (S l)) 0).2 0
      · rw [e2, if_neg (by decide)] at h
        exact br_t tc_bif h
      · rw [if_pos e2] at h
        exact br_f tc_bit h
  · rw [if_pos e] at h
    exact br_f tc_bit h
end
end
section
/-! ===== what is not refuted has a closed set without conflict; so refuting grows with the clauses ===== -/
def tc_fp (i : Nat) : Nat := if i < 8 then i + 8 else i - 8
theorem tc_fplt {i : Nat} (h : i < 16) : tc_fp i < 16 := by
  unfold tc_fp
  split <;> omega
theorem tc_fpfp {i : Nat} (h : i < 16) : tc_fp (tc_fp i) = i := by
  unfold tc_fp
  split <;> split <;> omega
theorem tc_ngf (x : Int32) {i : Nat} (hi : i < 16) : bt (tc_ng x) i = bt x (tc_fp i) := by
  rw [tc_ngb x (by omega)]
  unfold tc_fp
  by_cases h : i < 8
  · rw [if_pos h, if_pos h]
  · rw [if_neg h, if_neg h, if_pos hi]
def tc_sub (x y : Int32) : Prop := ∀ i, i < 16 → bt x i = true → bt y i = true
theorem tc_subr (x : Int32) : tc_sub x x := fun _ _ h => h
theorem tc_subt {x y z : Int32} (h : tc_sub x y) (g : tc_sub y z) : tc_sub x z := fun i hi e => g i hi (h i hi e)
theorem tc_suba {x y : Int32} (hx : tc_lo x) (hy : tc_lo y) (h : tc_sub x y) (g : tc_sub y x) : x = y := by
  apply b_ext
  intro i _
  by_cases hi : i < 16
  · exact Bool.eq_iff_iff.mpr ⟨h i hi, g i hi⟩
  · rw [hx i (by omega), hy i (by omega)]
/-- no literal together with its negation -/
def tc_con (x : Int32) : Prop := ∀ i, i < 16 → bt x i = true → bt x (tc_fp i) = true → False
theorem tc_conz {x : Int32} (h : tc_lo x) : x &&& tc_ng x = 0 ↔ tc_con x := by
  rw [tc_zand]
  constructor
  · intro g i hi h1 h2
    exact g i (by omega) h1 (by rw [tc_ngf x hi]; exact h2)
  · intro g i hi h1 h2
    by_cases h16 : i < 16
    · rw [tc_ngf x h16] at h2
      exact g i h16 h1 h2
    · rw [h i (by omega)] at h1
      exact absurd h1 (by decide)
theorem tc_opb {F S : Int32} {i : Nat} (hi : i < 32) : bt (S &&& (F ^^^ (-1))) i = true ↔ bt S i = true ∧ bt F i = false := by
  rw [tc_andn _ _ hi, Bool.and_eq_true, Bool.not_eq_true']
theorem tc_opn {F S : Int32} (hS : tc_lo S) : ¬ (S &&& (F ^^^ (-1))) &&& tc_ng F = 0 ↔ ∃ i, i < 16 ∧ bt S i = true ∧ bt F i = false ∧ bt F (tc_fp i) = true := by
  rw [tc_zand]
  constructor
  · intro h
    by_cases g : ∃ i, i < 16 ∧ bt S i = true ∧ bt F i = false ∧ bt F (tc_fp i) = true
    · exact g
    · exfalso
      apply h
      intro i hi h1 h2
      by_cases h16 : i < 16
      · rw [tc_opb hi] at h1
        rw [tc_ngf F h16] at h2
        exact g ⟨i, h16, h1.1, h1.2, h2⟩
      · rw [tc_opb hi, hS i (by omega)] at h1
        exact absurd h1.1 (by decide)
  · rintro ⟨i, hi, h1, h2, h3⟩ g
    exact g i (by omega) ((tc_opb (by omega)).mpr ⟨h1, h2⟩) (by rw [tc_ngf F hi]; exact h3)
theorem tc_op0 {F S : Int32} (hS : tc_lo S) : ¬ S &&& (F ^^^ (-1)) = 0 ↔ ∃ i, i < 16 ∧ bt S i = true ∧ bt F i = false := by
  rw [tc_z]
  constructor
  · intro h
    by_cases g : ∃ i, i < 16 ∧ bt S i = true ∧ bt F i = false
    · exact g
    · exfalso
      apply h
      intro i hi
      cases e : bt (S &&& (F ^^^ (-1))) i
      · rfl
      · rw [tc_opb hi] at e
        by_cases h16 : i < 16
        · exact absurd ⟨i, h16, e.1, e.2⟩ g
        · rw [hS i (by omega)] at e
          exact absurd e.1 (by decide)
  · rintro ⟨i, hi, h1, h2⟩ g
    have := g i (by omega)
    rw [(tc_opb (by omega)).mpr ⟨h1, h2⟩] at this
    exact absurd this (by decide)
/-- a clause under a set that it leaves as it is: a true literal, or two free ones -/
theorem tc_stfix {G S : Int32} (hS : tc_lo S) (h : tc_st G S = some G) : (∃ i, i < 16 ∧ bt S i = true ∧ bt G i = false ∧ bt G (tc_fp i) = true) ∨ ((∃ i, i < 16 ∧ bt S i = true ∧ bt G i = false) ∧ ∀ x, x < 16 → ∃ i, i < 16 ∧ i ≠ x ∧ bt S i = true ∧ bt G i = false) := by
  unfold tc_st at h
  by_cases h1 : (S &&& (G ^^^ (-1))) &&& tc_ng G = 0
  · rw [if_pos h1] at h
    by_cases h2 : S &&& (G ^^^ (-1)) = 0
    · rw [if_pos h2] at h
      exact absurd h (by simp)
    · rw [if_neg h2] at h
      obtain ⟨i, hi, h3, h4⟩ := (tc_op0 hS).mp h2
      refine Or.inr ⟨⟨i, hi, h3, h4⟩, ?_⟩
      intro x hx
      by_cases g : ∃ i, i < 16 ∧ i ≠ x ∧ bt S i = true ∧ bt G i = false
      · exact g
      · exfalso
        have hix : i = x := by
          by_cases e : i = x
          · exact e
          · exact absurd ⟨i, hi, e, h3, h4⟩ g
        by_cases h5 : (S &&& (G ^^^ (-1))) &&& ((S &&& (G ^^^ (-1))) - 1) = 0
        · rw [if_pos h5] at h
          have e := Option.some.inj h
          have b : bt G (tc_fp i) = true := by
            rw [← e, b_or, tc_ngf _ (tc_fplt hi), tc_fpfp hi, (tc_opb (by omega)).mpr ⟨h3, h4⟩, Bool.or_true]
          exact absurd h1 ((tc_opn hS).mpr ⟨i, hi, h3, h4, b⟩)
        · apply h5
          have eo : S &&& (G ^^^ (-1)) = tc_1 i := by
            apply b_ext
            intro j hj
            apply Bool.eq_iff_iff.mpr
            rw [tc_opb hj, tc_1b i (by omega) j hj, decide_eq_true_eq]
            constructor
            · rintro ⟨a, b⟩
              by_cases h16 : j < 16
              · by_cases e : j = x
                · rw [e, hix]
                · exact absurd ⟨j, h16, e, a, b⟩ g
              · rw [hS j (by omega)] at a
                exact absurd a (by decide)
            · intro e
              rw [e]
              exact ⟨h3, h4⟩
          rw [eo]
          exact (by decide +kernel : ∀ i, i < 16 → tc_1 i &&& (tc_1 i - 1) = 0) i hi
  · exact Or.inl ((tc_opn hS).mp h1)
def tc_clo (S : Nat → Int32) (cs G : Int32) : Prop := tc_con G ∧ tc_lo G ∧ ∀ i, i < 24 → bt cs i = true → tc_st G (S i) = some G
theorem tc_stle {F G S : Int32} (hS : tc_lo S) (hG : tc_st G S = some G) (hF : tc_sub F G) : ∃ F', tc_st F S = some F' ∧ tc_sub F' G := by
  have hx := tc_stfix hS hG
  have hex : ∃ i, i < 16 ∧ bt S i = true ∧ bt G i = false := by
    rcases hx with ⟨i, hi, h1, h2, _⟩ | ⟨h, _⟩
    · exact ⟨i, hi, h1, h2⟩
    · exact h
  have hfg : ∀ i, i < 16 → bt G i = false → bt F i = false := by
    intro i hi h
    cases e : bt F i
    · rfl
    · rw [hF i hi e] at h
      exact absurd h (by decide)
  obtain ⟨i0, hi0, h1, h2⟩ := hex
  have hn : ¬ S &&& (F ^^^ (-1)) = 0 := (tc_op0 hS).mpr ⟨i0, hi0, h1, hfg i0 hi0 h2⟩
  unfold tc_st
  by_cases c1 : (S &&& (F ^^^ (-1))) &&& tc_ng F = 0
  · rw [if_pos c1, if_neg hn]
    by_cases c2 : (S &&& (F ^^^ (-1))) &&& ((S &&& (F ^^^ (-1))) - 1) = 0
    · rw [if_pos c2]
      refine ⟨_, rfl, ?_⟩
      have uni : ∀ i j, i < 16 → j < 16 → bt S i = true → bt F i = false → bt S j = true → bt F j = false → i = j := by
        intro i j hi hj a b c d
        exact tc_pw hn c2 ((tc_opb (by omega)).mpr ⟨a, b⟩) ((tc_opb (by omega)).mpr ⟨c, d⟩)
      rcases hx with ⟨i, hi, a, b, c⟩ | ⟨_, h⟩
      · intro j hj e
        rw [b_or, Bool.or_eq_true] at e
        rcases e with e | e
        · exact hF j hj e
        · rw [tc_ngf _ hj, tc_opb (by have := tc_fplt hj; omega)] at e
          have := uni i (tc_fp j) hi (tc_fplt hj) a (hfg i hi b) e.1 e.2
          rw [this, tc_fpfp hj] at c
          exact c
      · obtain ⟨i, hi, hne, a, b⟩ := h i0 hi0
        exact absurd (uni i i0 hi hi0 a (hfg i hi b) h1 (hfg i0 hi0 h2)) hne
    · rw [if_neg c2]
      exact ⟨F, rfl, hF⟩
  · rw [if_neg c1]
    exact ⟨F, rfl, hF⟩
theorem tc_flle {S : Nat → Int32} {cs G : Int32} (hS : ∀ i, i < 24 → bt cs i = true → tc_lo (S i)) (hG : tc_clo S cs G) : ∀ (d i : Nat) (F : Int32), i + d ≤ 24 → tc_sub F G → ∃ F', tc_fl S cs d i F = some F' ∧ tc_sub F' G := by
  intro d
  induction d with
  | zero => intro i F _ h; exact ⟨F, rfl, h⟩
  | succ d ih =>
    intro i F hi h
    cases e : bt cs i
    · rw [tc_fl0 e]
      exact ih (i + 1) F (by omega) h
    · obtain ⟨F', h1, h2⟩ := tc_stle (hS i (by omega) e) (hG.2.2 i (by omega) e) h
      rw [tc_fls e h1]
      exact ih (i + 1) F' (by omega) h2
theorem tc_rfle {S : Nat → Int32} {cs G T : Int32} (hS : ∀ i, i < 24 → bt cs i = true → tc_lo (S i)) (hG : tc_clo S cs G) (hT : tc_lo T) (h : tc_sub T G) : tc_rf S cs T = false := by
  have hc : T &&& tc_ng T = 0 := (tc_conz hT).mpr (fun i hi a b => hG.1 i hi (h i hi a) (h _ (tc_fplt hi) b))
  unfold tc_rf
  rw [if_pos hc]
  have : ∀ r (F : Int32), tc_sub F G → tc_rd S cs r F = false := by
    intro r
    induction r with
    | zero => intro F _; rfl
    | succ r ih =>
      intro F hF
      obtain ⟨F', h1, h2⟩ := tc_flle hS hG 24 0 F (by omega) hF
      rw [tc_rds h1]
      exact ih F' h2
  exact this 9 T h
/-! the other way: nine rounds are enough -/
theorem tc_stup {F S F' : Int32} (hS : tc_lo S) (hl : tc_lo F) (hc : tc_con F) (h : tc_st F S = some F') : tc_sub F F' ∧ tc_lo F' ∧ tc_con F' := by
  unfold tc_st at h
  by_cases c1 : (S &&& (F ^^^ (-1))) &&& tc_ng F = 0
  · rw [if_pos c1] at h
    by_cases c0 : S &&& (F ^^^ (-1)) = 0
    · rw [if_pos c0] at h
      exact absurd h (by simp)
    · rw [if_neg c0] at h
      by_cases c2 : (S &&& (F ^^^ (-1))) &&& ((S &&& (F ^^^ (-1))) - 1) = 0
      · rw [if_pos c2] at h
        have e := Option.some.inj h
        subst e
        refine ⟨fun i hi a => by rw [b_or, a]; rfl, tc_loor hl (tc_long _), ?_⟩
        have key : ∀ i, i < 16 → bt F i = true → bt (tc_ng (S &&& (F ^^^ (-1)))) (tc_fp i) = true → False := by
          intro i hi a b
          rw [tc_ngf _ (tc_fplt hi), tc_fpfp hi, tc_opb (by omega)] at b
          rw [a] at b
          exact absurd b.2 (by decide)
        intro i hi a b
        rw [b_or, Bool.or_eq_true] at a b
        rcases a with a | a
        · rcases b with b | b
          · exact hc i hi a b
          · exact key i hi a b
        · rcases b with b | b
          · exact key (tc_fp i) (tc_fplt hi) b (by rw [tc_fpfp hi]; exact a)
          · rw [tc_ngf _ hi] at a
            rw [tc_ngf _ (tc_fplt hi), tc_fpfp hi] at b
            have := tc_pw c0 c2 a b
            unfold tc_fp at this
            split at this <;> omega
      · rw [if_neg c2] at h
        have e := Option.some.inj h
        subst e
        exact ⟨tc_subr _, hl, hc⟩
  · rw [if_neg c1] at h
    have e := Option.some.inj h
    subst e
    exact ⟨tc_subr _, hl, hc⟩
theorem tc_flup {S : Nat → Int32} {cs : Int32} (hS : ∀ i, i < 24 → bt cs i = true → tc_lo (S i)) : ∀ (d i : Nat) (F F' : Int32), i + d ≤ 24 → tc_lo F → tc_con F → tc_fl S cs d i F = some F' → tc_sub F F' ∧ tc_lo F' ∧ tc_con F' ∧ (F' = F → ∀ j, i ≤ j → j < i + d → bt cs j = true → tc_st F (S j) = some F) := by
  intro d
  induction d with
  | zero =>
    intro i F F' _ hl hc h
    have e := Option.some.inj h
    subst e
    exact ⟨tc_subr _, hl, hc, fun _ j h1 h2 => absurd h2 (by omega)⟩
  | succ d ih =>
    intro i F F' hi hl hc h
    cases e : bt cs i
    · rw [tc_fl0 e] at h
      obtain ⟨h1, h2, h3, h4⟩ := ih (i + 1) F F' (by omega) hl hc h
      refine ⟨h1, h2, h3, fun z j a b hb => ?_⟩
      by_cases ej : j = i
      · rw [ej, e] at hb
        exact absurd hb (by decide)
      · exact h4 z j (by omega) (by omega) hb
    · cases es : tc_st F (S i) with
      | none =>
        rw [tc_fln e es] at h
        exact absurd h (by simp)
      | some F1 =>
        rw [tc_fls e es] at h
        obtain ⟨u1, u2, u3⟩ := tc_stup (hS i (by omega) e) hl hc es
        obtain ⟨h1, h2, h3, h4⟩ := ih (i + 1) F1 F' (by omega) u2 u3 h
        refine ⟨tc_subt u1 h1, h2, h3, fun z j a b hb => ?_⟩
        have e1 : F1 = F := by
          subst z
          exact tc_suba u2 hl h1 u1
        rw [e1] at es h4
        by_cases ej : j = i
        · rw [ej]; exact es
        · exact h4 z j (by omega) (by omega) hb
/-- how many variables are assigned -/
def tc_vc (F : Int32) : Nat → Nat
  | 0 => 0
  | k + 1 => tc_vc F k + if (bt F k || bt F (k + 8)) = true then 1 else 0
theorem tc_vcle (F : Int32) : ∀ k, tc_vc F k ≤ k := by
  intro k
  induction k with
  | zero => exact Nat.le_refl _
  | succ k ih =>
    rw [tc_vc]
    split <;> omega
theorem tc_vcmono {F G : Int32} (h : tc_sub F G) : ∀ k, k ≤ 8 → tc_vc F k ≤ tc_vc G k ∧ (∀ v, v < k → bt F v = false → bt F (v + 8) = false → (bt G v || bt G (v + 8)) = true → tc_vc F k < tc_vc G k) := by
  intro k
  induction k with
  | zero => intro _; exact ⟨Nat.le_refl _, fun v hv => absurd hv (by omega)⟩
  | succ k ih =>
    intro hk
    obtain ⟨h1, h2⟩ := ih (by omega)
    have hle : (if (bt F k || bt F (k + 8)) = true then 1 else 0) ≤ (if (bt G k || bt G (k + 8)) = true then 1 else 0 : Nat) := by
      by_cases c : (bt F k || bt F (k + 8)) = true
      · rw [if_pos c, if_pos]
        · exact Nat.le_refl _
        · rw [Bool.or_eq_true] at c ⊢
          rcases c with c | c
          · exact Or.inl (h k (by omega) c)
          · exact Or.inr (h (k + 8) (by omega) c)
      · rw [if_neg c]
        exact Nat.zero_le _
    rw [tc_vc, tc_vc]
    refine ⟨by omega, fun v hv a b c => ?_⟩
    by_cases e : v = k
    · subst e
      rw [a, b, c]
      simp only [Bool.or_self, Bool.false_eq_true, if_false, if_true]
      omega
    · have := h2 v (by omega) a b c
      omega
theorem tc_vclt {F G : Int32} (hF : tc_lo F) (hG : tc_lo G) (h : tc_sub F G) (hc : tc_con G) (hne : ¬ G = F) : tc_vc F 8 < tc_vc G 8 := by
  have hex : ∃ i, i < 16 ∧ bt G i = true ∧ bt F i = false := by
    by_cases g : ∃ i, i < 16 ∧ bt G i = true ∧ bt F i = false
    · exact g
    · exfalso
      apply hne
      refine tc_suba hG hF (fun i hi a => ?_) h
      cases e : bt F i
      · exact absurd ⟨i, hi, a, e⟩ g
      · rfl
  obtain ⟨i, hi, a, b⟩ := hex
  have c : bt F (tc_fp i) = false := by
    cases e : bt F (tc_fp i)
    · rfl
    · exact absurd (hc i hi a (h _ (tc_fplt hi) e)) id
  obtain ⟨_, h2⟩ := tc_vcmono h 8 (Nat.le_refl _)
  unfold tc_fp at c
  by_cases h8 : i < 8
  · rw [if_pos h8] at c
    exact h2 i h8 b c (by rw [a]; rfl)
  · rw [if_neg h8] at c
    refine h2 (i - 8) (by omega) c ?_ ?_
    · rw [show i - 8 + 8 = i from by omega]; exact b
    · rw [show i - 8 + 8 = i from by omega, a, Bool.or_true]
theorem tc_rfex {S : Nat → Int32} {cs T : Int32} (hS : ∀ i, i < 24 → bt cs i = true → tc_lo (S i)) (hT : tc_lo T) (h : tc_rf S cs T = false) : ∃ G, tc_clo S cs G ∧ tc_sub T G := by
  unfold tc_rf at h
  by_cases c : T &&& tc_ng T = 0
  · rw [if_pos c] at h
    have main : ∀ r (F : Int32), tc_lo F → tc_con F → 8 < tc_vc F 8 + r → tc_rd S cs r F = false → ∃ G, tc_clo S cs G ∧ tc_sub F G := by
      intro r
      induction r with
      | zero =>
        intro F _ _ hv _
        have := tc_vcle F 8
        omega
      | succ r ih =>
        intro F hl hc hv hr
        cases e : tc_fl S cs 24 0 F with
        | none =>
          rw [tc_rdn e] at hr
          exact absurd hr (by decide)
        | some F' =>
          rw [tc_rds e] at hr
          obtain ⟨h1, h2, h3, h4⟩ := tc_flup hS 24 0 F F' (by omega) hl hc e
          by_cases ef : F' = F
          · exact ⟨F, ⟨hc, hl, fun i hi hb => h4 ef i (by omega) (by omega) hb⟩, tc_subr _⟩
          · have := tc_vclt hl h2 h1 h3 ef
            obtain ⟨G, g1, g2⟩ := ih F' h2 h3 (by omega) hr
            exact ⟨G, g1, tc_subt h1 g2⟩
    exact main 9 T hT ((tc_conz hT).mp c) (by omega) h
  · rw [if_neg c] at h
    exact absurd h (by decide)
/-- more clauses refute more -/
theorem tc_mono {S : Nat → Int32} {cs cs' T : Int32} (hS : ∀ i, i < 24 → bt cs' i = true → tc_lo (S i)) (hT : tc_lo T) (hcs : ∀ i, i < 24 → bt cs i = true → bt cs' i = true) (h : tc_rf S cs T = true) : tc_rf S cs' T = true := by
  cases e : tc_rf S cs' T
  · obtain ⟨G, g1, g2⟩ := tc_rfex hS hT e
    have := tc_rfle (cs := cs) (fun i hi hb => hS i hi (hcs i hi hb)) ⟨g1.1, g1.2.1, fun i hi hb => g1.2.2 i hi (hcs i hi hb)⟩ hT g2
    rw [h] at this
    exact absurd this (by decide)
  · rfl
/-! ===== assignments, as sets of true literals ===== -/
def tc_tot (t : Int32) : Prop := tc_lo t ∧ ∀ i, i < 16 → bt t i = !bt t (tc_fp i)
theorem tc_sound {S : Nat → Int32} {cs T t : Int32} (hS : ∀ i, i < 24 → bt cs i = true → tc_lo (S i)) (ht : tc_tot t) (hs : ∀ i, i < 24 → bt cs i = true → ¬ S i &&& t = 0) (hT : tc_lo T) (hf : ∀ i, i < 16 → bt T i = true → bt t i = false) : tc_rf S cs T = false := by
  have hb : ∀ i, i < 16 → bt (tc_ng t) i = !bt t i := by
    intro i hi
    rw [tc_ngf t hi, ht.2 i hi, Bool.not_not]
  refine tc_rfle (G := tc_ng t) hS ⟨?_, tc_long _, fun i hi hc => ?_⟩ hT (fun i hi h => by rw [hb i hi, hf i hi h]; rfl)
  · intro i hi a b
    rw [hb i hi] at a
    rw [hb _ (tc_fplt hi)] at b
    rw [ht.2 i hi, b] at a
    exact absurd a (by decide)
  · have h1 := hs i hi hc
    unfold tc_st
    rw [if_neg]
    rw [tc_opn (hS i hi hc)]
    by_cases g : ∃ j, j < 16 ∧ bt (S i) j = true ∧ bt t j = true
    · obtain ⟨j, hj, a, b⟩ := g
      exact ⟨j, hj, a, by rw [hb j hj, b]; rfl, by rw [hb _ (tc_fplt hj)]; rw [ht.2 j hj] at b; exact b⟩
    · exfalso
      apply h1
      rw [tc_zand]
      intro j hj a b
      by_cases h16 : j < 16
      · exact g ⟨j, h16, a, b⟩
      · rw [hS i hi hc j (by omega)] at a
        exact absurd a (by decide)
end
section
/-! ===== rows of the claim whole that serve here too ===== -/
theorem tc_nar (b : Bool) : narrow .boolean (.int (tc_bi b)) = .int (tc_bi b) := by cases b <;> rfl
def tc_CS (V N : Nat) (W S : Nat → Int32) (cs : Int32) : Prop := ∀ i, i < 24 → bt cs i = true → i < N ∧ tc_Cl V W S i
theorem tc_Cla {V : Nat} (hV : V ≤ 8) {W S : Nat → Int32} {i : Nat} (h : tc_Cl V W S i) : ∃ a : Nat → Nat, (∀ s, s < 4 → a s < 17) ∧ (∀ s, s < 4 → W (i * 4 + s) = tc_w (a s)) ∧ S i = tc_sl (tc_w (a 0)) (tc_w (a 1)) (tc_w (a 2)) (tc_w (a 3)) := by
  obtain ⟨a, h1, h2⟩ := h
  exact ⟨a, fun s hs => by have := h1 s hs; omega, fun s hs => (h1 s hs).2.2, h2⟩
theorem tc_CSlo {V N : Nat} (hV : V ≤ 8) {W S : Nat → Int32} {cs : Int32} (h : tc_CS V N W S cs) : ∀ i, i < 24 → bt cs i = true → tc_lo (S i) := by
  intro i hi hb
  obtain ⟨a, h1, _, h3⟩ := tc_Cla hV (h i hi hb).2
  rw [h3]
  exact tc_losl h1
theorem tc_CSsub {V N : Nat} {W S : Nat → Int32} {cs cs' : Int32} (h : tc_CS V N W S cs) (g : ∀ i, i < 24 → bt cs' i = true → bt cs i = true) : tc_CS V N W S cs' := fun i hi hb => h i hi (g i hi hb)
theorem tc_al1 {S : Nat → Int32} {cs T : Int32} {ob : Nat → Int32} : tc_al S cs (upd ob 0 T) 1 0 = tc_rf S cs T := by
  rw [tc_al, tc_al, pk_us]
  cases tc_rf S cs T <;> rfl
theorem tc_clm (p : Int32) (b : Nat) (hb : 1 ≤ b) (hb2 : b ≤ 12) : ∃ j, 1 ≤ j ∧ j ≤ b ∧ ((¬ 1 ≤ p ∧ j = 1) ∨ (1 ≤ p ∧ p ≤ nI b ∧ p = nI j) ∨ (1 ≤ p ∧ ¬ p ≤ nI b ∧ j = b)) := by
  by_cases c1 : 1 ≤ p
  · by_cases c2 : p ≤ nI b
    · have h0 : ¬ p < 0 := fun z => absurd (Int32.lt_of_lt_of_le z (Int32.le_trans (by decide : (0 : Int32) ≤ 1) c1)) (Int32.lt_irrefl)
      obtain ⟨j, hj, rfl⟩ := nI_of h0
      have h1 : 1 ≤ j := (nI_leI (a := 1) (by omega) hj).mp c1
      have h2 : j ≤ b := (nI_leI hj (by omega)).mp c2
      exact ⟨j, h1, h2, Or.inr (Or.inl ⟨c1, c2, rfl⟩)⟩
    · exact ⟨b, hb, Nat.le_refl _, Or.inr (Or.inr ⟨c1, c2, rfl⟩)⟩
  · exact ⟨1, Nat.le_refl _, hb, Or.inl ⟨c1, rfl⟩⟩
theorem tc_cl3 {P : Int32 → Prop} {p : Int32} {b j : Nat} (h : (¬ 1 ≤ p ∧ j = 1) ∨ (1 ≤ p ∧ p ≤ nI b ∧ p = nI j) ∨ (1 ≤ p ∧ ¬ p ≤ nI b ∧ j = b)) (hP : P (nI j)) : (1 ≤ p → ((p ≤ nI b → P p) ∧ (¬ p ≤ nI b → P (nI b)))) ∧ (¬ 1 ≤ p → P 1) := by
  rcases h with ⟨h1, rfl⟩ | ⟨h1, h2, h3⟩ | ⟨h1, h2, rfl⟩
  · exact br_f h1 hP
  · exact br_t h1 (br_t h2 (by rw [h3]; exact hP))
  · exact br_t h1 (br_f h2 hP)
theorem tx_hm0 {post : Int32 → Prop} {cs p : Int32} (h : p < 0 ∨ nI 24 ≤ p) (hp : post 0) : wpX_hasMember post () cs p := by
  by_cases c : p < 0
  · exact br_t c hp
  · rcases h with h | h
    · exact absurd h c
    · exact br_f c (br_t h hp)
theorem tc_le24 {a b : Nat} (h : a + b ≤ 24) {p : Int32} (hp : nI 24 ≤ p) : nI a + nI b ≤ p := by
  rw [nI_add]
  exact Int32.le_trans (nI_le h (by omega)) hp
theorem tx_it {post : Int32 → Prop} {vc al ll ph cu cf M oc : Int32} {W K S ob : Nat → Int32} {n m : Nat} {p : Int32} (hnm : n + m ≤ 24) (h0 : (p < 0 ∨ (¬ p < 0 ∧ nI n + nI m ≤ p)) → post 0) (h1 : ∀ j, j < n + m → p = nI j → post 1) : wpX_isInText post (vc, al, ll, nI n, nI m, ph, cu, cf, M, oc, W, K, S, ob) p := by
  refine br_c (fun c => h0 (Or.inl c)) (fun c => br_c (fun d => h0 (Or.inr ⟨c, d⟩)) (fun d => ?_))
  obtain ⟨j, hj, rfl⟩ := nI_of c
  rw [nI_add, nI_leI (by omega) hj] at d
  exact h1 j (by omega) rfl
def tc_oor (V : Nat) (w : Int32) : Prop := w < -nI V ∨ ¬ w ≤ nI V
theorem tc_okof {V : Nat} (hV : V ≤ 8) {w : Int32} (h : ¬ tc_oor V w) : tc_ok V w := by
  refine tc_rng hV (fun z => h (Or.inl z)) (fun z => h (Or.inr (fun y => ?_)))
  exact absurd (Int32.lt_of_lt_of_le z y) Int32.lt_irrefl
section
variable {al ll ac lc ph cu cf M oc : Int32} {W K S ob : Nat → Int32} {V : Nat}
theorem tx_oor {post : Int32 → Prop} {w : Int32} (h1 : tc_oor V w → post 1) (h0 : ¬ tc_oor V w → post 0) : wpX_isOutOfRange post (nI V, al, ll, ac, lc, ph, cu, cf, M, oc, W, K, S, ob) w :=
  br_c (fun c => h1 (Or.inl c)) (fun c => br_c (fun d => h0 (fun z => z.elim c (fun y => y d))) (fun d => h1 (Or.inr d)))
theorem tx_any {post : Int32 → Prop} {a b c d : Int32} (h1 : (tc_oor V a ∨ tc_oor V b ∨ tc_oor V c ∨ tc_oor V d) → post 1) (h0 : ¬ tc_oor V a → ¬ tc_oor V b → ¬ tc_oor V c → ¬ tc_oor V d → post 0) : wpX_anyOutOfRange post (nI V, al, ll, ac, lc, ph, cu, cf, M, oc, W, K, S, ob) a b c d := by
  unfold wpX_anyOutOfRange
  refine tx_oor (fun z => br_f (by decide) (h1 (Or.inl z))) (fun ga => br_t rfl ?_)
  refine tx_oor (fun z => br_f (by decide) (h1 (Or.inr (Or.inl z)))) (fun gb => br_t rfl ?_)
  refine tx_oor (fun z => br_f (by decide) (h1 (Or.inr (Or.inr (Or.inl z))))) (fun gc => br_t rfl ?_)
  exact tx_oor (fun z => br_f (by decide) (h1 (Or.inr (Or.inr (Or.inr z))))) (fun gd => br_t rfl (h0 ga gb gc gd))
theorem tx_store {post : St2 → Prop} {vc : Int32} {i : Nat} {x a b c d : Int32} (hi : i < 24) (h : post (vc, al, ll, ac, lc, ph, cu, cf, M, oc, tc_put W i a b c d, upd K i x, S, ob)) : wpX_store post (vc, al, ll, ac, lc, ph, cu, cf, M, oc, W, K, S, ob) (nI i) x a b c d := by
  unfold wpX_store
  rw [tc_m43, tc_m42, tc_m41, tc_m4, nI_clamp (by omega : i < 2 ^ 31), nI_clamp (by omega : i * 4 < 2 ^ 31), nI_clamp (by omega : i * 4 + 1 < 2 ^ 31), nI_clamp (by omega : i * 4 + 2 < 2 ^ 31), nI_clamp (by omega : i * 4 + 3 < 2 ^ 31)]
  exact ⟨vp_in_nI hi (by omega), nm_e ⟨vp_in_nI (by omega) (by omega), nm_e ⟨vp_in_nI (by omega) (by omega), nm_e ⟨vp_in_nI (by omega) (by omega), nm_e ⟨vp_in_nI (by omega) (by omega), nm_e h⟩⟩⟩⟩⟩
end
theorem tc_cfm {cf : Int32} {m m' : Nat} (h : m ≤ m') (hc : cf = -1 ∨ ∃ c, c ≤ m ∧ cf = nI c) : cf = -1 ∨ ∃ c, c ≤ m' ∧ cf = nI c := by
  rcases hc with hc | ⟨c, h1, h2⟩
  · exact Or.inl hc
  · exact Or.inr ⟨c, by omega, h2⟩
def tc_fc (S K W : Nat → Int32) (n : Nat) : Nat → Nat → Option Nat
  | 0, _ => none
  | d + 1, c => if tc_rf S (tc_av K W n c) 0 = true then some c else tc_fc S K W n d (c + 1)
theorem tc_fcb {S K W : Nat → Int32} {n : Nat} : ∀ (d c x : Nat), tc_fc S K W n d c = some x → c ≤ x ∧ x < c + d := by
  intro d
  induction d with
  | zero => intro c x h; exact absurd h (by simp [tc_fc])
  | succ d ih =>
    intro c x h
    rw [tc_fc] at h
    by_cases e : tc_rf S (tc_av K W n c) 0 = true
    · rw [if_pos e] at h
      have := Option.some.inj h
      omega
    · rw [if_neg e] at h
      have := ih (c + 1) x h
      omega
theorem tc_CSav {V n m : Nat} {W K S : Nat → Int32} (hT : tc_Tx V n m W K S) {k : Nat} (hk : k ≤ m) : tc_CS V (n + m) W S (tc_av K W n k) := by
  intro i hi hb
  obtain ⟨h1, h2, _⟩ := (tc_avb hT k hk i hi).mp hb
  exact ⟨by omega, hT.2.2.2.2.1 i (by omega) h2⟩
theorem tc_kps {S : Nat → Int32} {cs M : Int32} {ob : Nat → Int32} {q : Nat} : ∀ (i : Nat) (k : Int32) (j : Nat), bt (tc_kp S cs M ob q i k) j = true → bt k j = true := by
  intro i
  induction i with
  | zero => intro k j h; exact h
  | succ i ih =>
    intro k j h
    rw [tc_kp] at h
    by_cases c : bt cs i = true ∧ bt M i = false
    · rw [if_pos c] at h
      by_cases e : tc_al S (k &&& (tc_1 i ^^^ (-1))) ob q 0 = true
      · rw [if_pos e] at h
        have := ih _ j h
        rw [b_and, Bool.and_eq_true] at this
        exact this.1
      · rw [if_neg e] at h
        exact ih k j h
    · rw [if_neg c] at h
      exact ih k j h
theorem tx_fc {vc al ll ph cu cf M oc : Int32} {W K S ob : Nat → Int32} {V n m : Nat} (hT : tc_Tx V n m W K S) {post : Int32 → Prop} (h0 : tc_fc S K W n (m + 1) 0 = none → post (-1)) (h1 : ∀ x, tc_fc S K W n (m + 1) 0 = some x → post (nI x)) : wpX_firstConflict post (vc, al, ll, nI n, nI m, ph, cu, cf, M, oc, W, K, S, ob) := by
  have hnm := hT.2.1
  have main : ∀ (d c fu : Nat), c + d = m + 1 → d < fu → (tc_fc S K W n d c = none → post (-1)) → (∀ x, tc_fc S K W n d c = some x → post (nI x)) → wX_firstConflict_2 post vc al ll (nI n) (nI m) ph cu cf M oc W K S ob fu (nI c) := by
    intro d
    induction d with
    | zero =>
      intro c fu hc hf g0 g1
      obtain ⟨fu, rfl⟩ : ∃ k, fu = k + 1 := ⟨fu - 1, by omega⟩
      exact br_t (nI_lt (by omega) (by omega)) (g0 rfl)
    | succ d ih =>
      intro c fu hc hf g0 g1
      obtain ⟨fu, rfl⟩ : ∃ k, fu = k + 1 := ⟨fu - 1, by omega⟩
      refine br_f (nI_nlt (by omega) (by omega)) (tx_av (by omega) (tx_ref (tc_CSlo hT.1.2 (tc_CSav hT (by omega))) ?_))
      rw [tc_fc] at g0 g1
      cases e : tc_rf S (tc_av K W n c) 0
      · rw [e, if_neg (by decide)] at g0 g1
        exact br_t tc_bif (nm_r (nI_1 c) (ih (c + 1) fu (by omega) (by omega) g0 g1))
      · rw [if_pos e] at g1
        exact br_f tc_bit (g1 c rfl)
  exact ⟨m + 2, main (m + 1) 0 (m + 2) (by omega) (by omega) h0 h1⟩
theorem tc_Mnew {V n m : Nat} {W K S ob : Nat → Int32} (hT : tc_Tx V n m W K S) {M : Int32} {q x : Nat} (hx : x ≤ m) (hi : ∀ i, i < 24 → bt M i = true → i < n + m ∧ ¬ K i = 3) : ∀ i, i < 24 → bt (M ||| tc_kp S (tc_av K W n x) M ob q 24 (tc_av K W n x)) i = true → i < n + m ∧ ¬ K i = 3 := by
  intro i h24 h
  rw [b_or, Bool.or_eq_true] at h
  rcases h with h | h
  · exact hi i h24 h
  · obtain ⟨h1, h2, _⟩ := (tc_avb hT x hx i h24).mp (tc_kps _ _ _ h)
    exact ⟨by omega, h2⟩
theorem tc_wayq (S : Nat → Int32) (cs L P : Int32) (ob : Nat → Int32) : (tc_way S cs L P ob).2.2 ≤ 24 := by
  unfold tc_way
  by_cases c : tc_al S cs (upd ob 0 L) 1 0 = true
  · rw [if_pos c]
    show 1 ≤ 24
    omega
  · rw [if_neg c]
    by_cases d : L = 0
    · rw [if_pos d]
      show 1 ≤ 24
      omega
    · rw [if_neg d]
      have := tc_ppq S cs L P 24 0 (upd ob 0 L) 0
      show (tc_pp S cs L P 24 0 (upd ob 0 L) 0).2 ≤ 24
      omega
theorem tc_alc {S : Nat → Int32} {cs : Int32} {ob ob' : Nat → Int32} : ∀ (d i : Nat), (∀ o, i ≤ o → o < i + d → ob o = ob' o) → tc_al S cs ob d i = tc_al S cs ob' d i := by
  intro d
  induction d with
  | zero => intro i _; rfl
  | succ d ih =>
    intro i h
    rw [tc_al, tc_al, h i (by omega) (by omega), ih (i + 1) (fun o a b => h o (by omega) (by omega))]
theorem tc_ppc {S : Nat → Int32} {cs L P : Int32} : ∀ (d i : Nat) (ob ob' : Nat → Int32) (q : Nat), (∀ o, o < q → ob o = ob' o) → (tc_pp S cs L P d i ob q).2 = (tc_pp S cs L P d i ob' q).2 ∧ ∀ o, o < (tc_pp S cs L P d i ob q).2 → (tc_pp S cs L P d i ob q).1 o = (tc_pp S cs L P d i ob' q).1 o := by
  intro d
  induction d with
  | zero => intro i ob ob' q h; exact ⟨rfl, h⟩
  | succ d ih =>
    intro i ob ob' q h
    rw [tc_pp, tc_pp]
    by_cases c : bt cs i = true ∧ ¬ S i &&& P = 0
    · rw [if_pos c, if_pos c]
      refine ih (i + 1) _ _ (q + 1) (fun o ho => ?_)
      by_cases e : o = q
      · rw [e, pk_us, pk_us]
      · rw [pk_un e, pk_un e]; exact h o (by omega)
    · rw [if_neg c, if_neg c]
      exact ih (i + 1) ob ob' q h
theorem tc_wayv (S : Nat → Int32) (cs L P : Int32) (ob ob' : Nat → Int32) : (tc_way S cs L P ob).1 = (tc_way S cs L P ob').1 := by
  unfold tc_way
  rw [tc_al1, tc_al1]
  by_cases c : tc_rf S cs L = true
  · rw [if_pos c, if_pos c]
  · rw [if_neg c, if_neg c]
    by_cases d : L = 0
    · rw [if_pos d, if_pos d]
    · rw [if_neg d, if_neg d]
      obtain ⟨h1, h2⟩ := tc_ppc (S := S) (cs := cs) (L := L) (P := P) 24 0 (upd ob 0 L) (upd ob' 0 L) 0 (fun o ho => absurd ho (by omega))
      show (if _ then (4 : Int32) else 5) = if _ then (4 : Int32) else 5
      rw [tc_alc _ 0 (fun o _ b => h2 o (by omega)), h1]
def tc_pr (w n : Nat) (M : Int32) : Int32 := if w = 2 then M else if w = 1 then tc_ax n ||| M else 16777215
theorem tc_all : ∀ i, i < 24 → bt 16777215 i = true := by decide +kernel
theorem tx_pr {vc al ll lc ph cu cf M oc : Int32} {W K S ob : Nat → Int32} {post : Int32 → Prop} {w n : Nat} (hw : w ≤ 2) (h : post (tc_pr w n M)) : wpX_presentIn post (vc, al, ll, nI n, lc, ph, cu, cf, M, oc, W, K, S, ob) (nI w) := by
  have hw3 : w = 0 ∨ w = 1 ∨ w = 2 := by omega
  rcases hw3 with rfl | rfl | rfl
  · exact br_f (by decide) (br_f (by decide) h)
  · exact br_f (by decide) (br_t rfl h)
  · exact br_t rfl h
theorem tc_view (p : Int32) : (∃ w, w ≤ 2 ∧ p = nI w) ∨ (¬ p = 0 ∧ ¬ p = 1 ∧ ¬ p = 2 ∧ (p < 0 ∨ (¬ p < 0 ∧ ¬ p ≤ 2))) := by
  by_cases c : p < 0
  · refine Or.inr ⟨fun z => ?_, fun z => ?_, fun z => ?_, Or.inl c⟩ <;> (rw [z] at c; exact absurd c (by decide))
  · obtain ⟨j, hj, rfl⟩ := nI_of c
    by_cases h : j ≤ 2
    · exact Or.inl ⟨j, h, rfl⟩
    · refine Or.inr ⟨fun z => ?_, fun z => ?_, fun z => ?_, Or.inr ⟨c, fun z => ?_⟩⟩
      · have := (nI_eq (b := 0) hj (by omega)).mp z; omega
      · have := (nI_eq (b := 1) hj (by omega)).mp z; omega
      · have := (nI_eq (b := 2) hj (by omega)).mp z; omega
      · have := (nI_leI (b := 2) hj (by omega)).mp z; omega
theorem tx_vw {post : Int32 → Prop} {w : Nat} (hw : w ≤ 2) (h : post 1) : wpX_isView post () (nI w) := by
  have hw3 : w = 0 ∨ w = 1 ∨ w = 2 := by omega
  rcases hw3 with rfl | rfl | rfl
  · exact br_t rfl h
  · exact br_f (by decide) (br_t rfl h)
  · exact br_f (by decide) (br_f (by decide) (br_t rfl h))
theorem tc_hz {a : Nat → Nat} (h : ∀ s, s < 4 → a s < 17) (t : Int32) : tc_sl (tc_w (a 0)) (tc_w (a 1)) (tc_w (a 2)) (tc_w (a 3)) &&& t = 0 ↔ ¬ ∃ s, s < 4 ∧ a s ≠ 8 ∧ bt t (tc_b (a s)) = true := by
  rw [tc_zand]
  constructor
  · rintro g ⟨s, hs, h8, hb⟩
    have := tc_blt (h s hs)
    exact g (tc_b (a s)) (by omega) ((tc_slb h (by omega)).mpr ⟨s, hs, h8, rfl⟩) hb
  · intro g i hi h1 h2
    obtain ⟨s, hs, h8, e⟩ := (tc_slb h hi).mp h1
    exact g ⟨s, hs, h8, by rw [← e]; exact h2⟩
end
section
/-! ===== passing, by sets of clauses ===== -/
def tc_ps (S : Nat → Int32) (a b L P : Int32) : Prop := tc_rf S a L = true ∨ (¬ L = 0 ∧ ∀ i, i < 24 → bt b i = true → ¬ S i &&& P = 0 → tc_rf S a (L ||| (S i &&& (P ^^^ (-1)))) = true)
theorem tc_psm {S : Nat → Int32} {a a' b b' L P : Int32} (hlo : ∀ i, i < 24 → bt a' i = true → tc_lo (S i)) (hlb : ∀ i, i < 24 → bt b' i = true → tc_lo (S i)) (hL : tc_lo L) (ha : ∀ i, i < 24 → bt a i = true → bt a' i = true) (hb : ∀ i, i < 24 → bt b' i = true → bt b i = true) (h : tc_ps S a b L P) : tc_ps S a' b' L P := by
  rcases h with h | ⟨h0, h⟩
  · exact Or.inl (tc_mono hlo hL ha h)
  · exact Or.inr ⟨h0, fun i hi hb' hP => tc_mono hlo (tc_loor hL (tc_loand (hlb i hi hb'))) ha (h i hi (hb i hi hb') hP)⟩
theorem tc_alall {S : Nat → Int32} {cs : Int32} {ob : Nat → Int32} : ∀ (d i : Nat), tc_al S cs ob d i = true ↔ ∀ o, i ≤ o → o < i + d → tc_rf S cs (ob o) = true := by
  intro d
  induction d with
  | zero => intro i; exact ⟨fun _ o h1 h2 => absurd h2 (by omega), fun _ => rfl⟩
  | succ d ih =>
    intro i
    rw [tc_al]
    by_cases e : tc_rf S cs (ob i) = true
    · rw [if_pos e, ih]
      constructor
      · intro h o h1 h2
        by_cases eo : o = i
        · rw [eo]; exact e
        · exact h o (by omega) (by omega)
      · intro h o h1 h2
        exact h o (by omega) (by omega)
    · rw [if_neg e]
      constructor
      · intro z; exact absurd z (by decide)
      · intro h; exact absurd (h i (by omega) (by omega)) e
theorem tc_ppall {S : Nat → Int32} {cs L P : Int32} (Q : Int32 → Prop) : ∀ (d i : Nat) (ob : Nat → Int32) (q : Nat), (∀ o, o < (tc_pp S cs L P d i ob q).2 → Q ((tc_pp S cs L P d i ob q).1 o)) ↔ ((∀ o, o < q → Q (ob o)) ∧ ∀ i', i ≤ i' → i' < i + d → bt cs i' = true → ¬ S i' &&& P = 0 → Q (L ||| (S i' &&& (P ^^^ (-1))))) := by
  intro d
  induction d with
  | zero =>
    intro i ob q
    exact ⟨fun h => ⟨h, fun i' h1 h2 => absurd h2 (by omega)⟩, fun h => h.1⟩
  | succ d ih =>
    intro i ob q
    rw [tc_pp]
    by_cases c : bt cs i = true ∧ ¬ S i &&& P = 0
    · rw [if_pos c, ih]
      constructor
      · rintro ⟨h1, h2⟩
        refine ⟨fun o ho => ?_, fun i' a b e1 e2 => ?_⟩
        · have := h1 o (by omega)
          rw [pk_un (by omega)] at this
          exact this
        · by_cases e : i' = i
          · have := h1 q (by omega)
            rw [pk_us] at this
            rw [e]; exact this
          · exact h2 i' (by omega) (by omega) e1 e2
      · rintro ⟨h1, h2⟩
        refine ⟨fun o ho => ?_, fun i' a b => h2 i' (by omega) (by omega)⟩
        by_cases e : o = q
        · rw [e, pk_us]; exact h2 i (by omega) (by omega) c.1 c.2
        · rw [pk_un e]; exact h1 o (by omega)
    · rw [if_neg c, ih]
      constructor
      · rintro ⟨h1, h2⟩
        refine ⟨h1, fun i' a b e1 e2 => ?_⟩
        by_cases e : i' = i
        · rw [e] at e1 e2; exact absurd ⟨e1, e2⟩ c
        · exact h2 i' (by omega) (by omega) e1 e2
      · rintro ⟨h1, h2⟩
        exact ⟨h1, fun i' a b => h2 i' (by omega) (by omega)⟩
theorem tc_kpal {S : Nat → Int32} {cs M : Int32} {ob : Nat → Int32} {q : Nat} : ∀ (i : Nat) (k : Int32), tc_al S k ob q 0 = true → tc_al S (tc_kp S cs M ob q i k) ob q 0 = true := by
  intro i
  induction i with
  | zero => intro k h; exact h
  | succ i ih =>
    intro k h
    rw [tc_kp]
    by_cases c : bt cs i = true ∧ bt M i = false
    · rw [if_pos c]
      by_cases e : tc_al S (k &&& (tc_1 i ^^^ (-1))) ob q 0 = true
      · rw [if_pos e]; exact ih _ e
      · rw [if_neg e]; exact ih k h
    · rw [if_neg c]; exact ih k h
theorem tc_wayps {S : Nat → Int32} {cs L P : Int32} {ob : Nat → Int32} (h : ¬ (tc_way S cs L P ob).1 = 5) : tc_al S cs (tc_way S cs L P ob).2.1 (tc_way S cs L P ob).2.2 0 = true ∧ ∀ R, tc_al S R (tc_way S cs L P ob).2.1 (tc_way S cs L P ob).2.2 0 = true → tc_ps S R cs L P := by
  unfold tc_way at h ⊢
  by_cases c : tc_al S cs (upd ob 0 L) 1 0 = true
  · rw [if_pos c]
    refine ⟨c, fun R hR => Or.inl ?_⟩
    rw [← tc_al1 (ob := ob)]
    exact hR
  · rw [if_neg c] at h ⊢
    by_cases d : L = 0
    · rw [if_pos d] at h
      exact absurd rfl h
    · rw [if_neg d] at h ⊢
      by_cases e : tc_al S cs (tc_pp S cs L P 24 0 (upd ob 0 L) 0).1 (tc_pp S cs L P 24 0 (upd ob 0 L) 0).2 0 = true
      · refine ⟨e, fun R hR => Or.inr ⟨d, fun i hi hb hP => ?_⟩⟩
        have h1 : ∀ o, 0 ≤ o → o < 0 + (tc_pp S cs L P 24 0 (upd ob 0 L) 0).2 → tc_rf S R ((tc_pp S cs L P 24 0 (upd ob 0 L) 0).1 o) = true := (tc_alall _ _).mp hR
        have h2 := (tc_ppall (fun T => tc_rf S R T = true) 24 0 (upd ob 0 L) 0).mp (fun o ho => h1 o (by omega) (by omega))
        exact h2.2 i (by omega) (by omega) hb hP
      · exfalso
        apply h
        show (if _ then (4 : Int32) else 5) = 5
        rw [if_neg e]
theorem tc_psway {S : Nat → Int32} {cs L P : Int32} {ob : Nat → Int32} (h : tc_ps S cs cs L P) : ¬ (tc_way S cs L P ob).1 = 5 := by
  unfold tc_way
  by_cases c : tc_al S cs (upd ob 0 L) 1 0 = true
  · rw [if_pos c]
    show ¬ (3 : Int32) = 5
    decide
  · rw [if_neg c]
    rcases h with h | ⟨h0, h⟩
    · rw [tc_al1] at c
      exact absurd h c
    · rw [if_neg h0]
      have e : tc_al S cs (tc_pp S cs L P 24 0 (upd ob 0 L) 0).1 (tc_pp S cs L P 24 0 (upd ob 0 L) 0).2 0 = true := by
        rw [tc_alall]
        intro o _ ho
        refine (tc_ppall (fun T => tc_rf S cs T = true) 24 0 (upd ob 0 L) 0).mpr ⟨fun o ho => absurd ho (by omega), fun i' _ b e1 e2 => h i' (by omega) e1 e2⟩ o (by omega)
      show ¬ (if _ then (4 : Int32) else 5) = 5
      rw [if_pos e]
      decide
/-! ===== an accepted derivation has no satisfying assignment ===== -/
theorem tc_nz (x y : Int32) : ¬ x &&& y = 0 ↔ ∃ i, i < 32 ∧ bt x i = true ∧ bt y i = true := by
  rw [tc_zand]
  constructor
  · intro h
    by_cases g : ∃ i, i < 32 ∧ bt x i = true ∧ bt y i = true
    · exact g
    · exact absurd (fun i hi a b => g ⟨i, hi, a, b⟩) h
  · rintro ⟨i, hi, a, b⟩ h
    exact h i hi a b
theorem tc_fpb {y : Nat} (hy : y < 17) (h8 : y ≠ 8) : tc_fp (tc_b y) = tc_b (16 - y) := by
  unfold tc_fp tc_b
  by_cases c : 8 < y
  · rw [if_pos c, if_pos (by omega), if_neg (by omega)]
    omega
  · rw [if_neg c, if_neg (by omega), if_pos (by omega)]
    omega
theorem tc_rat {S : Nat → Int32} {a b t L : Int32} {y : Nat} (hlo : ∀ i, i < 24 → bt b i = true → tc_lo (S i)) (hab : ∀ i, i < 24 → bt a i = true → bt b i = true) (hL : tc_lo L) (hy17 : y < 17) (hy : ¬ L = 0 → y ≠ 8 ∧ bt L (tc_b y) = true) (ht : tc_tot t) (hs : ∀ i, i < 24 → bt a i = true → ¬ S i &&& t = 0) (h : tc_ps S a b L (tc_ng (tc_lb (tc_w y)))) : ∃ t', tc_tot t' ∧ (∀ i, i < 24 → bt a i = true → ¬ S i &&& t' = 0) ∧ ¬ L &&& t' = 0 := by
  have hloa : ∀ i, i < 24 → bt a i = true → tc_lo (S i) := fun i hi hb => hlo i hi (hab i hi hb)
  by_cases cL : L &&& t = 0
  · have nofalse : ∀ T, tc_lo T → tc_rf S a T = true → ∃ i, i < 16 ∧ bt T i = true ∧ bt t i = true := by
      intro T hT hr
      by_cases g : ∃ i, i < 16 ∧ bt T i = true ∧ bt t i = true
      · exact g
      · have := tc_sound hloa ht hs hT (fun i hi e => by
          cases z : bt t i
          · rfl
          · exact absurd ⟨i, hi, e, z⟩ g)
        rw [hr] at this
        exact absurd this (by decide)
    have noL : ∀ i, i < 32 → bt L i = true → bt t i = true → False := (tc_zand L t).mp cL
    rcases h with h | ⟨h0, h⟩
    · obtain ⟨i, hi, e1, e2⟩ := nofalse L hL h
      exact absurd (noL i (by omega) e1 e2) id
    · obtain ⟨h8, hyL⟩ := hy h0
      have hb1 := tc_blt hy17
      have hb2 := tc_blt (a := 16 - y) (by omega)
      have hfp := tc_fpb hy17 h8
      have hne : tc_b y ≠ tc_b (16 - y) := fun z => by
        have := tc_binj hy17 (by omega) h8 (by omega) z
        omega
      rw [tc_nglb y hy17] at h
      have hbt : ∀ i, i < 32 → bt ((t &&& (tc_lb (tc_w (16 - y)) ^^^ (-1))) ||| tc_lb (tc_w y)) i = ((bt t i && !decide (i = tc_b (16 - y))) || decide (i = tc_b y)) := by
        intro i hi
        rw [b_or, tc_andn _ _ hi, tc_lbb _ (by omega) i hi, tc_lbb y hy17 i hi]
        have q1 : decide (16 - y ≠ 8 ∧ i = tc_b (16 - y)) = decide (i = tc_b (16 - y)) := by
          by_cases z : i = tc_b (16 - y)
          · rw [decide_eq_true z, decide_eq_true ⟨by omega, z⟩]
          · rw [decide_eq_false z, decide_eq_false (fun w => z w.2)]
        have q2 : decide (y ≠ 8 ∧ i = tc_b y) = decide (i = tc_b y) := by
          by_cases z : i = tc_b y
          · rw [decide_eq_true z, decide_eq_true ⟨h8, z⟩]
          · rw [decide_eq_false z, decide_eq_false (fun w => z w.2)]
        rw [q1, q2]
      have keep : ∀ i, i < 32 → bt t i = true → i ≠ tc_b (16 - y) → bt ((t &&& (tc_lb (tc_w (16 - y)) ^^^ (-1))) ||| tc_lb (tc_w y)) i = true := by
        intro i hi e1 e2
        rw [hbt i hi, e1, decide_eq_false e2]
        rfl
      refine ⟨(t &&& (tc_lb (tc_w (16 - y)) ^^^ (-1))) ||| tc_lb (tc_w y), ⟨tc_loor (tc_loand ht.1) (tc_lolb hy17), fun i hi => ?_⟩, fun i hi hb => ?_, ?_⟩
      · have hf := tc_fplt hi
        rw [hbt i (by omega), hbt (tc_fp i) (by omega)]
        by_cases e1 : i = tc_b y
        · subst e1
          rw [hfp]
          simp [hne, hne.symm]
        · by_cases e2 : i = tc_b (16 - y)
          · subst e2
            have : tc_fp (tc_b (16 - y)) = tc_b y := by rw [← hfp, tc_fpfp hb1]
            rw [this, decide_eq_true rfl, decide_eq_true rfl, decide_eq_false e1]
            simp
          · have n1 : ¬ tc_fp i = tc_b y := fun z => e2 (by rw [← hfp, ← z, tc_fpfp hi])
            have n2 : ¬ tc_fp i = tc_b (16 - y) := fun z => e1 (by
              have : tc_fp (tc_fp i) = tc_fp (tc_b (16 - y)) := by rw [z]
              rw [tc_fpfp hi, ← hfp, tc_fpfp hb1] at this
              exact this)
            rw [decide_eq_false e1, decide_eq_false e2, decide_eq_false n1, decide_eq_false n2, ht.2 i hi]
            simp
      · by_cases cP : S i &&& tc_lb (tc_w (16 - y)) = 0
        · obtain ⟨j, hj, e1, e2⟩ := (tc_nz _ _).mp (hs i hi hb)
          refine (tc_nz _ _).mpr ⟨j, hj, e1, keep j hj e2 (fun z => ?_)⟩
          refine (tc_zand _ _).mp cP j hj e1 ?_
          rw [tc_lbb _ (by omega) j hj]
          exact decide_eq_true ⟨by omega, z⟩
        · obtain ⟨j, hj, e1, e2⟩ := nofalse _ (tc_loor hL (tc_loand (hloa i hi hb))) (h i hi (hab i hi hb) cP)
          rw [b_or, Bool.or_eq_true] at e1
          rcases e1 with e1 | e1
          · exact absurd (noL j (by omega) e1 e2) id
          · rw [tc_andn _ _ (by omega), Bool.and_eq_true, Bool.not_eq_true', tc_lbb _ (by omega) j (by omega), decide_eq_false_iff_not] at e1
            exact (tc_nz _ _).mpr ⟨j, by omega, e1.1, keep j (by omega) e2 (fun z => e1.2 ⟨by omega, z⟩)⟩
      · refine (tc_nz _ _).mpr ⟨tc_b y, by omega, hyL, ?_⟩
        rw [hbt _ (by omega), decide_eq_true rfl, Bool.or_true]
  · exact ⟨t, ht, hs, cL⟩
/-- the places of a clause, out of its words -/
def tc_pl (W : Nat → Int32) (i s : Nat) : Nat := (8 + W (i * 4 + s)).toNatClampNeg
def tc_P (W : Nat → Int32) (i : Nat) : Int32 := tc_ng (tc_lb (tc_w (tc_pv (tc_pl W i))))
theorem tc_Clp {V : Nat} (hV : V ≤ 8) {W S : Nat → Int32} {i : Nat} (h : tc_Cl V W S i) : (∀ s, s < 4 → tc_pl W i s < 17) ∧ (∀ s, s < 4 → W (i * 4 + s) = tc_w (tc_pl W i s)) ∧ S i = tc_sl (tc_w (tc_pl W i 0)) (tc_w (tc_pl W i 1)) (tc_w (tc_pl W i 2)) (tc_w (tc_pl W i 3)) := by
  obtain ⟨a, h1, h2⟩ := h
  have e : ∀ s, s < 4 → tc_pl W i s = a s := by
    intro s hs
    obtain ⟨b1, b2, b3⟩ := h1 s hs
    unfold tc_pl
    rw [b3, (tc_w1 (a s) (by omega)).1, nI_clamp (by omega)]
  refine ⟨fun s hs => ?_, fun s hs => ?_, ?_⟩
  · have := h1 s hs
    rw [e s hs]; omega
  · rw [e s hs]; exact (h1 s hs).2.2
  · rw [e 0 (by omega), e 1 (by omega), e 2 (by omega), e 3 (by omega)]; exact h2
theorem tc_pvL {a : Nat → Nat} (ha : ∀ s, s < 4 → a s < 17) (h : ¬ tc_sl (tc_w (a 0)) (tc_w (a 1)) (tc_w (a 2)) (tc_w (a 3)) = 0) : tc_pv a < 17 ∧ tc_pv a ≠ 8 ∧ bt (tc_sl (tc_w (a 0)) (tc_w (a 1)) (tc_w (a 2)) (tc_w (a 3))) (tc_b (tc_pv a)) = true := by
  have key : ∀ s, s < 4 → tc_pv a = a s → a s ≠ 8 → tc_pv a < 17 ∧ tc_pv a ≠ 8 ∧ bt (tc_sl (tc_w (a 0)) (tc_w (a 1)) (tc_w (a 2)) (tc_w (a 3))) (tc_b (tc_pv a)) = true := by
    intro s hs e h8
    rw [e]
    have hb := tc_blt (ha s hs)
    exact ⟨ha s hs, h8, (tc_slb ha (by omega)).mpr ⟨s, hs, h8, rfl⟩⟩
  by_cases c0 : a 0 = 8
  · by_cases c1 : a 1 = 8
    · by_cases c2 : a 2 = 8
      · by_cases c3 : a 3 = 8
        · exfalso
          apply h
          refine (tc_slz ha).mpr (fun s hs => ?_)
          have hs4 : s = 0 ∨ s = 1 ∨ s = 2 ∨ s = 3 := by omega
          rcases hs4 with rfl | rfl | rfl | rfl <;> assumption
        · exact key 3 (by omega) (by unfold tc_pv; rw [if_pos c0, if_pos c1, if_pos c2]) c3
      · exact key 2 (by omega) (by unfold tc_pv; rw [if_pos c0, if_pos c1, if_neg c2]) c2
    · exact key 1 (by omega) (by unfold tc_pv; rw [if_pos c0, if_neg c1]) c1
  · exact key 0 (by omega) (by unfold tc_pv; rw [if_neg c0]) c0
theorem tc_pvlt {a : Nat → Nat} (ha : ∀ s, s < 4 → a s < 17) : tc_pv a < 17 := by
  unfold tc_pv
  split
  · split
    · split
      · exact ha 3 (by omega)
      · exact ha 2 (by omega)
    · exact ha 1 (by omega)
  · exact ha 0 (by omega)
theorem tc_tot8 (as : Int32) : tc_tot (tc_tl 8 as) := by
  refine ⟨fun i hi => ?_, fun i hi => ?_⟩
  · by_cases h : i < 32
    · rw [tc_tlb (by omega) as h, if_neg (by omega), decide_eq_false (by omega), Bool.and_false]
    · exact b_big (by omega)
  · have hf := tc_fplt hi
    rw [tc_tlb (by omega) as (by omega), tc_tlb (by omega) as (by omega)]
    unfold tc_fp
    by_cases h : i < 8
    · rw [if_pos h, if_pos h, if_neg (by omega), decide_eq_true (by omega : i < 8), show i + 8 - 8 = i from by omega, decide_eq_true (by omega : i < 8)]
      simp
    · rw [if_neg h, if_neg h, if_pos (by omega), decide_eq_true (by omega : i - 8 < 8)]
      simp
theorem tc_tl8 {V : Nat} (hV : V ≤ 8) (as : Int32) {i : Nat} (hi : i < 32) (h : bt (tc_tl V as) i = true) : bt (tc_tl 8 as) i = true := by
  rw [tc_tlb hV as hi] at h
  rw [tc_tlb (by omega) as hi]
  by_cases c : i < 8
  · rw [if_pos c, Bool.and_eq_true, decide_eq_true_eq] at h
    rw [if_pos c, h.1, decide_eq_true (by omega)]
    rfl
  · rw [if_neg c, Bool.and_eq_true, decide_eq_true_eq] at h
    rw [if_neg c, h.1, decide_eq_true (by omega)]
    rfl
theorem tc_avL {V n m : Nat} {W K S : Nat → Int32} (hT : tc_Tx V n m W K S) {k : Nat} (hk : k ≤ m) : ∀ i, i < 24 → bt (tc_av K W n k) i = true → tc_lo (S i) := tc_CSlo hT.1.2 (tc_CSav hT hk)
theorem tc_unsat {V n m c : Nat} {W K S : Nat → Int32} {M : Int32} (hT : tc_Tx V n m W K S) (hc : c ≤ m) (h2 : tc_rf S (tc_av K W n c &&& M) 0 = true) (h3 : ∀ j, j < c → ¬ K (n + j) = 3 → bt M (n + j) = true → tc_ps S (tc_av K W n j &&& M) (tc_av K W n j) (S (n + j)) (tc_P W (n + j))) (as : Int32) (h : ∀ i, i < n → bt M i = true → ¬ S i &&& tc_tl V as = 0) : False := by
  have hnm := hT.2.1
  have sub : ∀ j i, bt (tc_av K W n j &&& M) i = true → bt (tc_av K W n j) i = true := fun j i e => by
    rw [b_and, Bool.and_eq_true] at e; exact e.1
  have main : ∀ j, j ≤ c → ∃ t, tc_tot t ∧ ∀ i, i < 24 → bt (tc_av K W n j &&& M) i = true → ¬ S i &&& t = 0 := by
    intro j
    induction j with
    | zero =>
      intro _
      refine ⟨tc_tl 8 as, tc_tot8 as, fun i hi e => ?_⟩
      rw [b_and, Bool.and_eq_true, tc_av, tc_axb n (by omega) i (by omega), decide_eq_true_eq] at e
      obtain ⟨k, hk, e1, e2⟩ := (tc_nz _ _).mp (h i e.1 e.2)
      exact (tc_nz _ _).mpr ⟨k, hk, e1, tc_tl8 hT.1.2 as hk e2⟩
    | succ j ih =>
      intro hj
      obtain ⟨t, ht, hs⟩ := ih (by omega)
      by_cases cK : K (n + j) = 3
      · refine ⟨t, ht, fun i hi e => hs i hi ?_⟩
        rw [b_and, Bool.and_eq_true, tc_av, if_pos cK, b_and, Bool.and_eq_true] at e
        rw [b_and, Bool.and_eq_true]
        exact ⟨e.1.1, e.2⟩
      · by_cases cM : bt M (n + j) = true
        · obtain ⟨p1, p2, p3⟩ := tc_Clp hT.1.2 (hT.2.2.2.2.1 (n + j) (by omega) cK)
          have hlo : tc_lo (S (n + j)) := by rw [p3]; exact tc_losl p1
          obtain ⟨t', q1, q2, q3⟩ := tc_rat (a := tc_av K W n j &&& M) (b := tc_av K W n j) (y := tc_pv (tc_pl W (n + j))) (tc_avL hT (by omega)) (fun i _ e => sub j i e) hlo (tc_pvlt p1) (fun z => by
            have := tc_pvL p1 (by rw [← p3]; exact z)
            rw [← p3] at this
            exact this.2) ht hs (h3 j (by omega) cK cM)
          refine ⟨t', q1, fun i hi e => ?_⟩
          rw [b_and, Bool.and_eq_true, tc_av, if_neg cK, tc_add (by omega) (by omega), Bool.or_eq_true, decide_eq_true_eq] at e
          rcases e.1 with z | z
          · exact q2 i hi (by rw [b_and, z, e.2]; rfl)
          · rw [z]; exact q3
        · refine ⟨t, ht, fun i hi e => hs i hi ?_⟩
          rw [b_and, Bool.and_eq_true, tc_av, if_neg cK, tc_add (by omega) (by omega), Bool.or_eq_true, decide_eq_true_eq] at e
          rcases e.1 with z | z
          · rw [b_and, z, e.2]; rfl
          · rw [z] at e; exact absurd e.2 cM
  obtain ⟨t, ht, hs⟩ := main c (Nat.le_refl c)
  have := tc_sound (fun i hi e => tc_avL hT hc i hi (sub c i e)) ht hs tc_lo0 (fun i _ e => by rw [b_0] at e; exact absurd e (by decide))
  rw [h2] at this
  exact absurd this (by decide)
theorem tc_fcl {S K W : Nat → Int32} {n : Nat} : ∀ (d c x : Nat), tc_fc S K W n d c = some x → tc_rf S (tc_av K W n x) 0 = true ∧ ∀ j, c ≤ j → j < x → tc_rf S (tc_av K W n j) 0 = false := by
  intro d
  induction d with
  | zero => intro c x h; exact absurd h (by simp [tc_fc])
  | succ d ih =>
    intro c x h
    rw [tc_fc] at h
    by_cases e : tc_rf S (tc_av K W n c) 0 = true
    · rw [if_pos e] at h
      have := Option.some.inj h
      subst this
      exact ⟨e, fun j a b => absurd b (by omega)⟩
    · rw [if_neg e] at h
      obtain ⟨h1, h2⟩ := ih (c + 1) x h
      refine ⟨h1, fun j a b => ?_⟩
      by_cases ej : j = c
      · rw [ej]
        exact Bool.not_eq_true _ ▸ e
      · exact h2 j (by omega) b
/-! ===== what holds once the text is sealed, the cursor at cu and the conflict point at c ===== -/
def tc_A (n : Nat) (W K S : Nat → Int32) (M : Int32) (cu c : Nat) : Prop :=
  (∀ j, j < c → tc_rf S (tc_av K W n j) 0 = false) ∧ tc_rf S (tc_av K W n c &&& M) 0 = true ∧ (∀ j, cu ≤ j → j < c → ¬ K (n + j) = 3 → bt M (n + j) = true → tc_ps S (tc_av K W n j &&& M) (tc_av K W n j) (S (n + j)) (tc_P W (n + j)))
theorem tc_AM {V n m cu c : Nat} {W K S : Nat → Int32} {M R : Int32} (hT : tc_Tx V n m W K S) (hc : c ≤ m) (hcu : cu ≤ c) (hR : ∀ i, i < 24 → bt R i = true → i < n + cu) (h : tc_A n W K S M cu c) : tc_A n W K S (M ||| R) cu c := by
  have hnm := hT.2.1
  obtain ⟨h1, h2, h3⟩ := h
  have up : ∀ j i, bt (tc_av K W n j &&& M) i = true → bt (tc_av K W n j &&& (M ||| R)) i = true := by
    intro j i e
    rw [b_and, Bool.and_eq_true] at e
    rw [b_and, b_or, e.1, e.2]
    rfl
  have lo : ∀ j, j ≤ m → ∀ i, i < 24 → bt (tc_av K W n j &&& (M ||| R)) i = true → tc_lo (S i) := by
    intro j hj i hi e
    rw [b_and, Bool.and_eq_true] at e
    exact tc_avL hT hj i hi e.1
  refine ⟨h1, tc_mono (lo c hc) tc_lo0 (fun i _ e => up c i e) h2, fun j a b cK cM => ?_⟩
  have cM' : bt M (n + j) = true := by
    rw [b_or, Bool.or_eq_true] at cM
    rcases cM with z | z
    · exact z
    · have := hR (n + j) (by omega) z
      omega
  obtain ⟨p1, p2, p3⟩ := tc_Clp hT.1.2 (hT.2.2.2.2.1 (n + j) (by omega) cK)
  have hlo : tc_lo (S (n + j)) := by rw [p3]; exact tc_losl p1
  exact tc_psm (lo j (by omega)) (tc_avL hT (by omega)) hlo (fun i _ e => up j i e) (fun _ _ e => e) (h3 j a b cK cM')
theorem tc_Aseal {V n m x : Nat} {W K S ob : Nat → Int32} {M : Int32} (hT : tc_Tx V n m W K S) (h : tc_fc S K W n (m + 1) 0 = some x) : tc_A n W K S (M ||| tc_kp S (tc_av K W n x) M (upd ob 0 0) 1 24 (tc_av K W n x)) x x := by
  have hx := tc_fcb _ _ _ h
  obtain ⟨h1, h2⟩ := tc_fcl _ _ _ h
  refine ⟨fun j hj => h2 j (by omega) hj, ?_, fun j a b => absurd b (by omega)⟩
  have hk : tc_al S (tc_kp S (tc_av K W n x) M (upd ob 0 0) 1 24 (tc_av K W n x)) (upd ob 0 0) 1 0 = true := tc_kpal 24 _ (by rw [tc_al1]; exact h1)
  rw [tc_al1] at hk
  refine tc_mono (fun i hi e => ?_) tc_lo0 (fun i _ e => ?_) hk
  · rw [b_and, Bool.and_eq_true] at e
    exact tc_avL hT (by omega) i hi e.1
  · rw [b_and, b_or, e, tc_kps _ _ _ e, Bool.or_true]
    rfl
theorem tc_Aback {V n m c j : Nat} {W K S ob : Nat → Int32} {M : Int32} (hT : tc_Tx V n m W K S) (hc : c ≤ m) (hj : j < c) (h : tc_A n W K S M (j + 1) c) (hw : ¬ (tc_way S (tc_av K W n j) (S (n + j)) (tc_P W (n + j)) ob).1 = 5) : tc_A n W K S (M ||| tc_kp S (tc_av K W n j) M (tc_way S (tc_av K W n j) (S (n + j)) (tc_P W (n + j)) ob).2.1 (tc_way S (tc_av K W n j) (S (n + j)) (tc_P W (n + j)) ob).2.2 24 (tc_av K W n j)) j c := by
  have hnm := hT.2.1
  obtain ⟨w1, w2⟩ := tc_wayps hw
  have w3 := w2 _ (tc_kpal (cs := tc_av K W n j) (M := M) 24 _ w1)
  have hA := tc_AM (R := tc_kp S (tc_av K W n j) M (tc_way S (tc_av K W n j) (S (n + j)) (tc_P W (n + j)) ob).2.1 (tc_way S (tc_av K W n j) (S (n + j)) (tc_P W (n + j)) ob).2.2 24 (tc_av K W n j)) hT hc (by omega) (fun i hi e => by
    have := ((tc_avb hT j (by omega) i hi).mp (tc_kps _ _ _ e)).1
    omega) h
  obtain ⟨h1, h2, h3⟩ := hA
  refine ⟨h1, h2, fun j' a b cK cM => ?_⟩
  by_cases e : j' = j
  · subst e
    obtain ⟨p1, p2, p3⟩ := tc_Clp hT.1.2 (hT.2.2.2.2.1 (n + j') (by omega) cK)
    have hlo : tc_lo (S (n + j')) := by rw [p3]; exact tc_losl p1
    refine tc_psm (fun i hi e => ?_) (tc_avL hT (by omega)) hlo (fun i _ e => ?_) (fun _ _ e => e) w3
    · rw [b_and, Bool.and_eq_true] at e
      exact tc_avL hT (by omega) i hi e.1
    · rw [b_and, b_or, e, tc_kps _ _ _ e, Bool.or_true]
      rfl
  · exact h3 j' (by omega) b cK cM
theorem tc_Askip {n c j : Nat} {W K S : Nat → Int32} {M : Int32} (h : tc_A n W K S M (j + 1) c) (hs : K (n + j) = 3 ∨ bt M (n + j) = false) : tc_A n W K S M j c := by
  obtain ⟨h1, h2, h3⟩ := h
  refine ⟨h1, h2, fun j' a b cK cM => ?_⟩
  by_cases e : j' = j
  · subst e
    rcases hs with z | z
    · exact absurd z cK
    · rw [z] at cM; exact absurd cM (by decide)
  · exact h3 j' (by omega) b cK cM
end
section
/-! ===== the class's calls, from any state that keeps the invariant ===== -/
def tq_Q (V A L n m cu : Nat) (ph cf : Int32) (W K S : Nat → Int32) (M : Int32) : Prop :=
  tc_Tx V n m W K S ∧ (n ≤ A ∧ A ≤ 12 ∧ m ≤ L ∧ L ≤ 12) ∧ (∀ i, i < 24 → bt M i = true → i < n + m ∧ ¬ K i = 3) ∧ cu ≤ m ∧ (ph = 0 ∨ ph = 3 ∨ (((ph = 1 ∧ 1 ≤ cu) ∨ (ph = 2 ∧ cu = 0)) ∧ ∃ c, c ≤ m ∧ cu ≤ c ∧ cf = nI c ∧ tc_A n W K S M cu c))
def tq_Z (u : St2) : Prop := ∃ (V A L n m cu : Nat) (ph cf : Int32) (W K S : Nat → Int32) (M oc : Int32) (ob : Nat → Int32), u = (nI V, nI A, nI L, nI n, nI m, ph, nI cu, cf, M, oc, W, K, S, ob) ∧ tq_Q V A L n m cu ph cf W K S M
theorem tq_mk {V A L n m cu : Nat} {ph cf : Int32} {W K S : Nat → Int32} {M oc : Int32} {ob : Nat → Int32} (h : tq_Q V A L n m cu ph cf W K S M) : tq_Z (nI V, nI A, nI L, nI n, nI m, ph, nI cu, cf, M, oc, W, K, S, ob) := ⟨V, A, L, n, m, cu, ph, cf, W, K, S, M, oc, ob, rfl, h⟩
theorem tq_axiom {u : St2} (hZ : tq_Z u) {post : Int32 → St2 → Prop} (hp : ∀ r u', tq_Z u' → post r u') (a b c d : Int32) : wpX_axiom post u a b c d := by
  have hZ' := hZ
  obtain ⟨V, A, L, n, m, cu, ph, cf, W, K, S, M, oc, ob, rfl, hT, hb, hi, hcu, hph⟩ := hZ
  have hnm := hT.2.1
  have hV := hT.1
  refine br_c (fun cp => br_c (fun cm => ?_) (fun _ => hp _ _ hZ')) (fun _ => hp _ _ hZ')
  have hm0 : m = 0 := by
    have := (nI_leI (a := m) (b := 0) (by omega) (by omega)).mp cm
    omega
  refine tx_any (fun g => br_f (by decide) (hp _ _ hZ')) (fun ga gb gc gd => br_t rfl ?_)
  refine br_c (fun ca => ?_) (fun _ => hp _ _ hZ')
  have hn := (nI_ltI (by omega) (by omega)).mp ca
  refine tx_store (by omega) (tx_sl ⟨vp_in_nI (by omega) (by omega), ?_⟩)
  rw [nI_clamp (by omega : n < 2 ^ 31)]
  refine nm_e (nm_r (nI_1 n) (hp _ _ (tq_mk ?_)))
  subst hm0
  refine ⟨tc_TxA hT (by omega) (tc_okof hV.2 ga) (tc_okof hV.2 gb) (tc_okof hV.2 gc) (tc_okof hV.2 gd), ⟨by omega, by omega, by omega, by omega⟩, fun i h1 h2 => ?_, hcu, Or.inl cp⟩
  have := hi i h1 h2
  refine ⟨by omega, ?_⟩
  rw [pk_un (by omega)]
  exact this.2
theorem tq_lemma {u : St2} (hZ : tq_Z u) {post : Int32 → St2 → Prop} (hp : ∀ r u', tq_Z u' → post r u') (a b c d : Int32) : wpX_lemma post u a b c d := by
  have hZ' := hZ
  obtain ⟨V, A, L, n, m, cu, ph, cf, W, K, S, M, oc, ob, rfl, hT, hb, hi, hcu, hph⟩ := hZ
  have hnm := hT.2.1
  have hV := hT.1
  refine br_c (fun cp => ?_) (fun _ => hp _ _ hZ')
  refine tx_any (fun g => br_f (by decide) (hp _ _ hZ')) (fun ga gb gc gd => br_t rfl ?_)
  refine br_c (fun ca => ?_) (fun _ => hp _ _ hZ')
  have hn := (nI_ltI (by omega) (by omega)).mp ca
  refine nm_r (nI_add n m) (tx_store (by omega) (tx_sl ⟨vp_in_nI (by omega) (by omega), ?_⟩))
  rw [nI_clamp (by omega : n + m < 2 ^ 31)]
  refine nm_e ?_
  unfold wpX_countNewLine
  refine nm_r (nI_1 m) (hp _ _ (tq_mk ?_))
  refine ⟨tc_TxL hT (by omega) (tc_okof hV.2 ga) (tc_okof hV.2 gb) (tc_okof hV.2 gc) (tc_okof hV.2 gd), ⟨by omega, by omega, by omega, by omega⟩, fun i h1 h2 => ?_, by omega, Or.inl cp⟩
  have := hi i h1 h2
  refine ⟨by omega, ?_⟩
  rw [pk_un (by omega)]
  exact this.2
theorem tq_hm {n k V m : Nat} {W K S : Nat → Int32} (hT : tc_Tx V n m W K S) (hk : k ≤ m) {post : Int32 → Prop} (p : Int32) (h0 : post 0) (h1 : ∀ t, t < n + k → p = nI t → post 1) : wpX_hasMember post () (tc_av K W n k) p := by
  rcases pk_ix p (n := 24) (by omega) with h | h | ⟨j, hj, rfl⟩
  · exact tx_hm0 (Or.inl h) h0
  · exact tx_hm0 (Or.inr h) h0
  · refine tx_hm hj ?_
    cases e : bt (tc_av K W n k) j
    · exact h0
    · exact h1 j ((tc_avb hT k hk j hj).mp e).1 rfl
theorem tq_delete {u : St2} (hZ : tq_Z u) {post : Int32 → St2 → Prop} (hp : ∀ r u', tq_Z u' → post r u') (a : Int32) : wpX_delete post u a := by
  have hZ' := hZ
  obtain ⟨V, A, L, n, m, cu, ph, cf, W, K, S, M, oc, ob, rfl, hT, hb, hi, hcu, hph⟩ := hZ
  have hnm := hT.2.1
  refine br_c (fun cp => ?_) (fun _ => hp _ _ hZ')
  refine tx_av (by omega) (tq_hm hT (Nat.le_refl m) a (br_t rfl (hp _ _ hZ')) (fun t ht et => br_f (by decide) ?_))
  subst et
  refine br_c (fun ca => ?_) (fun _ => hp _ _ hZ')
  have hn := (nI_ltI (by omega) (by omega)).mp ca
  refine nm_r (nI_add n m) (tx_store (by omega) ?_)
  unfold wpX_countNewLine
  refine nm_r (nI_1 m) (hp _ _ (tq_mk ?_))
  refine ⟨tc_TxD hT (by omega) ht, ⟨by omega, by omega, by omega, by omega⟩, fun i h1 h2 => ?_, by omega, Or.inl cp⟩
  have := hi i h1 h2
  refine ⟨by omega, ?_⟩
  rw [pk_un (by omega)]
  exact this.2
theorem tq_alive {u : St2} (hZ : tq_Z u) {post : Int32 → Prop} (hp : ∀ r, post r) (a : Int32) : wpX_alive post u a := by
  obtain ⟨V, A, L, n, m, cu, ph, cf, W, K, S, M, oc, ob, rfl, hT, hb, hi, hcu, hph⟩ := hZ
  have hnm := hT.2.1
  unfold wpX_alive
  exact tx_av (by omega) (tq_hm hT hcu a ⟨rfl, hp _⟩ (fun _ _ _ => ⟨rfl, hp _⟩))
theorem tq_word {u : St2} (hZ : tq_Z u) {post : Int32 → Prop} (hp : ∀ r, post r) (a b : Int32) : wpX_word post u a b := by
  obtain ⟨V, A, L, n, m, cu, ph, cf, W, K, S, M, oc, ob, rfl, hT, hb, hi, hcu, hph⟩ := hZ
  have hnm := hT.2.1
  unfold wpX_word
  refine tx_it (by omega) (fun _ => br_t rfl (hp _)) (fun j hj e => br_f (by decide) ?_)
  subst e
  refine br_c (fun _ => hp _) (fun c => br_c (fun d => ?_) (fun _ => hp _))
  obtain ⟨s, hs, rfl⟩ := nI_of c
  have d' : s < 4 := (nI_ltI (b := 4) hs (by omega)).mp d
  exact ⟨by rw [tc_m4s]; exact vp_in_nI (by omega) (by omega), hp _⟩
theorem tq_rewind {u : St2} (hZ : tq_Z u) {post : Int32 → St2 → Prop} (hp : ∀ r u', tq_Z u' → post r u') (a : Int32) : wpX_rewind post u a := by
  obtain ⟨V, A, L, n, m, cu, ph, cf, W, K, S, M, oc, ob, rfl, hT, hb, hi, hcu, hph⟩ := hZ
  have hnm := hT.2.1
  have new : ∀ (n' m' : Nat), tc_Tx V n' m' W K S → n' ≤ n → m' ≤ m → tq_Q V A L n' m' m' 0 (-1) W K S 0 := by
    intro n' m' hT' h1 h2
    exact ⟨hT', ⟨by omega, by omega, by omega, by omega⟩, fun i _ z => by rw [b_0] at z; exact absurd z (by decide), by omega, Or.inl rfl⟩
  refine br_c (fun c0 => br_c (fun cm => hp _ _ (tq_mk (new n m hT (by omega) (by omega)))) (fun cm => ?_)) (fun c0 => hp _ _ (tq_mk (n := 0) (m := 0) (cu := 0) (new 0 0 (tc_Tx0 hT) (by omega) (by omega))))
  obtain ⟨j, hj, rfl⟩ := nI_of (Int32.not_lt.mpr c0)
  have hjm : j < m := by
    rw [nI_leI (by omega) hj] at cm
    omega
  exact hp _ _ (tq_mk (new n j (tc_TxR hT (by omega)) (by omega) (by omega)))
theorem tq_seal {u : St2} (hZ : tq_Z u) {post : Int32 → St2 → Prop} (hp : ∀ r u', tq_Z u' → post r u') : wpX_seal post u := by
  have hZ' := hZ
  obtain ⟨V, A, L, n, m, cu, ph, cf, W, K, S, M, oc, ob, rfl, hT, hb, hi, hcu, hph⟩ := hZ
  have hnm := hT.2.1
  refine br_c (fun cp => ?_) (fun _ => hp _ _ hZ')
  refine tx_fc hT (fun e => br_t rfl (hp _ _ hZ')) (fun x e => br_f ?_ ?_)
  · have := tc_fcb _ _ _ e
    intro z
    have z' : ¬ nI x < 0 := nI_pos (by omega)
    rw [z] at z'
    exact z' (by decide)
  · have hx := tc_fcb _ _ _ e
    refine tx_av (by omega) ?_
    unfold wpX_obligeOnly
    refine nm_e (tx_keep (q := 1) (by omega) (tc_CSlo hT.1.2 (tc_CSav hT (by omega))) ?_)
    have hA := tc_Aseal (M := M) (ob := ob) hT e
    have hM := tc_Mnew (ob := upd ob 0 0) (q := 1) hT (by omega : x ≤ m) hi
    refine br_c (fun z => hp _ _ (tq_mk ⟨hT, hb, hM, by omega, Or.inr (Or.inr ⟨Or.inr ⟨rfl, ?_⟩, x, by omega, Nat.le_refl x, rfl, hA⟩)⟩)) (fun z => hp _ _ (tq_mk ⟨hT, hb, hM, by omega, Or.inr (Or.inr ⟨Or.inl ⟨rfl, ?_⟩, x, by omega, Nat.le_refl x, rfl, hA⟩)⟩))
    · exact (nI_eq (a := x) (b := 0) (by omega) (by omega)).mp z
    · have : ¬ x = 0 := fun y => z (by rw [y]; rfl)
      omega
theorem tq_back {u : St2} (hZ : tq_Z u) {post : Int32 → St2 → Prop} (hp : ∀ r u', tq_Z u' → post r u') : wpX_back post u := by
  have hZ' := hZ
  obtain ⟨V, A, L, n, m, cu, ph, cf, W, K, S, M, oc, ob, rfl, hT, hb, hi, hcu, hph⟩ := hZ
  have hnm := hT.2.1
  refine br_c (fun cp => ?_) (fun _ => hp _ _ hZ')
  obtain ⟨h1, c, hc, hcc, ec, hA⟩ : 1 ≤ cu ∧ ∃ c, c ≤ m ∧ cu ≤ c ∧ cf = nI c ∧ tc_A n W K S M cu c := by
    rcases hph with z | z | ⟨⟨_, z⟩ | ⟨z, _⟩, h⟩
    · rw [z] at cp; exact absurd cp (by decide)
    · rw [z] at cp; exact absurd cp (by decide)
    · exact ⟨z, h⟩
    · rw [z] at cp; exact absurd cp (by decide)
  obtain ⟨j, rfl⟩ : ∃ j, cu = j + 1 := ⟨cu - 1, by omega⟩
  refine nm_r (nI_pred j) (nm_r (nI_add n j) ⟨vp_in_nI (by omega) (by omega), ?_⟩)
  rw [nI_clamp (by omega : n + j < 2 ^ 31)]
  -- the end of each way
  have fin : ∀ (r M' oc : Int32) (ob : Nat → Int32), tc_A n W K S M' j c → (∀ i, i < 24 → bt M' i = true → i < n + m ∧ ¬ K i = 3) → wX_back_85 post (nI j) r (nI V) (nI A) (nI L) (nI n) (nI m) ph (nI (j + 1)) cf M' oc W K S ob := by
    intro r M' oc ob g1 g2
    unfold wX_back_85
    refine br_c (fun z => hp _ _ (tq_mk ⟨hT, hb, g2, by omega, Or.inr (Or.inr ⟨Or.inr ⟨rfl, ?_⟩, c, hc, by omega, ec, g1⟩)⟩)) (fun z => hp _ _ (tq_mk ⟨hT, hb, g2, by omega, Or.inr (Or.inr ⟨Or.inl ⟨cp, ?_⟩, c, hc, by omega, ec, g1⟩)⟩))
    · exact (nI_eq (a := j) (b := 0) (by omega) (by omega)).mp z
    · have : ¬ j = 0 := fun y => z (by rw [y]; rfl)
      omega
  have xst : ∀ (z0 : Int32), wX_back_40 post (nI j) (nI (n + j)) z0 (nI V) (nI A) (nI L) (nI n) (nI m) ph (nI (j + 1)) cf M oc W K S ob := by
    intro z0
    refine tx_hm (by omega) ?_
    cases eM : bt M (n + j)
    · exact br_t tc_bif (fin z0 M oc ob (tc_Askip hA (Or.inr eM)) hi)
    · have hK := (hi (n + j) (by omega) eM).2
      obtain ⟨p1, p2, p3⟩ := tc_Clp hT.1.2 (hT.2.2.2.2.1 (n + j) (by omega) hK)
      have hC : tc_CS V (n + m) W S (tc_av K W n j) := tc_CSav hT (by omega)
      have hlo := tc_CSlo hT.1.2 hC
      refine br_f tc_bit (tx_av (by omega) (tx_way (by omega) p1 p2 hlo ?_))
      have hq := tc_wayq S (tc_av K W n j) (S (n + j)) (tc_P W (n + j)) ob
      refine br_c (fun z => hp _ _ (tq_mk ⟨hT, hb, hi, by omega, Or.inr (Or.inl rfl)⟩)) (fun z => tx_keep hq hlo ?_)
      exact fin _ _ _ _ (tc_Aback hT hc (by omega) hA z) (tc_Mnew hT (by omega) hi)
  exact br_c (fun z => xst 1) (fun z => xst 2)
/-! going forward: an answer, and in an accepted state of the trimmed and of the core view the conflict point -/
theorem tq_f41 {vc al ll ph cu cf M : Int32} {W K S : Nat → Int32} {V n m : Nat} {pr : Int32} (hT : tc_Tx V n m W K S) {post : Int32 → St2 → Prop} (hp : ∀ r oc ob, post r (vc, al, ll, nI n, nI m, ph, cu, cf, M, oc, W, K, S, ob)) : ∀ (d j : Nat) (held : Int32), j + d = m → (∀ i, i < 24 → bt held i = true → i < n + j ∧ ¬ K i = 3) → ∀ (fu : Nat) (oc : Int32) (ob : Nat → Int32), d < fu → wX_forward_41 post pr fu held (nI j) vc al ll (nI n) (nI m) ph cu cf M oc W K S ob := by
  have hnm := hT.2.1
  have hlof : ∀ (j : Nat) (held : Int32), j ≤ m → (∀ i, i < 24 → bt held i = true → i < n + j ∧ ¬ K i = 3) → ∀ i, i < 24 → bt held i = true → tc_lo (S i) := by
    intro j held hj h
    refine tc_CSlo (N := n + m) (W := W) hT.1.2 (fun i hi hb => ?_)
    obtain ⟨h1, h2⟩ := h i hi hb
    exact ⟨by omega, hT.2.2.2.2.1 i (by omega) h2⟩
  intro d
  induction d with
  | zero =>
    intro j held hj hH fu oc ob hf
    obtain ⟨fu, rfl⟩ : ∃ k, fu = k + 1 := ⟨fu - 1, by omega⟩
    exact br_t (nI_le (by omega) (by omega)) (tx_ref (hlof j held (by omega) hH) (br_c (fun _ => hp _ _ _) (fun _ => hp _ _ _)))
  | succ d ih =>
    intro j held hj hH fu oc ob hf
    obtain ⟨fu, rfl⟩ : ∃ k, fu = k + 1 := ⟨fu - 1, by omega⟩
    have hlo := hlof j held (by omega) hH
    refine br_f (nI_ge (by omega) (by omega)) (tx_ref hlo (br_c (fun _ => ?_) (fun _ => hp _ _ _)))
    refine nm_r (nI_add n j) ⟨vp_in_nI (by omega) (by omega), ?_⟩
    rw [nI_clamp (by omega : n + j < 2 ^ 31)]
    refine br_c (fun cK => ?_) (fun cK => ?_)
    · obtain ⟨t, ht, hW⟩ := hT.2.2.2.2.2 (n + j) (by omega) (by omega) cK
      refine tx_tgt (by omega) (nm_e (nm_r (nI_1 j) (ih (j + 1) _ (by omega) (fun i hi hb => ?_) fu oc ob (by omega))))
      rw [b_and, Bool.and_eq_true] at hb
      have := hH i hi hb.1
      exact ⟨by omega, this.2⟩
    · refine tx_hm (by omega) (br_c (fun _ => nm_r (nI_1 j) (ih (j + 1) held (by omega) (fun i hi hb => ?_) fu oc ob (by omega))) (fun _ => ?_))
      · have := hH i hi hb
        exact ⟨by omega, this.2⟩
      · obtain ⟨p1, p2, p3⟩ := tc_Clp hT.1.2 (hT.2.2.2.2.1 (n + j) (by omega) cK)
        refine tx_way (by omega) p1 p2 hlo (br_c (fun _ => hp _ _ _) (fun _ => nm_e (nm_r (nI_1 j) (ih (j + 1) (held ||| tc_1 (n + j)) (by omega) (fun i hi hb => ?_) fu _ _ (by omega)))))
        rw [tc_add (by omega) (by omega), Bool.or_eq_true, decide_eq_true_eq] at hb
        rcases hb with hb | hb
        · have := hH i hi hb
          exact ⟨by omega, this.2⟩
        · rw [hb]
          exact ⟨by omega, cK⟩
theorem tc_h0 {V n m w : Nat} {W K S : Nat → Int32} {M : Int32} (hT : tc_Tx V n m W K S) : ∀ i, i < 24 → bt (tc_pr w n M &&& tc_ax n) i = true → i < n + 0 ∧ ¬ K i = 3 := by
  intro i h24 hbt
  have hnm := hT.2.1
  rw [b_and, Bool.and_eq_true, tc_axb n (by omega) i (by omega), decide_eq_true_eq] at hbt
  refine ⟨by omega, ?_⟩
  rw [hT.2.2.1 i hbt.2]
  decide
theorem tq_forward0 {u : St2} (hZ : tq_Z u) {post : Int32 → St2 → Prop} (hp : ∀ r u', tq_Z u' → post r u') : wpX_forward post u 0 := by
  obtain ⟨V, A, L, n, m, cu, ph, cf, W, K, S, M, oc, ob, rfl, hQ⟩ := hZ
  have hT := hQ.1
  have hnm := hT.2.1
  unfold wpX_forward
  refine tx_vw (w := 0) (by omega) (br_f (by decide) (br_t rfl ?_))
  unfold wX_forward_25
  refine tx_pr (w := 0) (by omega) (nm_e ⟨m + 1, ?_⟩)
  exact tq_f41 hT (fun r oc ob => hp _ _ (tq_mk hQ)) m 0 _ (by omega) (tc_h0 hT) (m + 1) oc ob (by omega)
theorem tq_facc {vc al ll ph cu cf M : Int32} {W K S : Nat → Int32} {V n m c : Nat} {pr : Int32} (hT : tc_Tx V n m W K S) (hc : c ≤ m) (hA : tc_A n W K S M 0 c) (hpr : ∀ i, i < 24 → bt M i = true → bt pr i = true) (hpl : ∀ i, n ≤ i → i < 24 → bt pr i = bt M i) {post : Int32 → St2 → Prop} (hp : ∀ oc ob, post (nI c) (vc, al, ll, nI n, nI m, ph, cu, cf, M, oc, W, K, S, ob)) : ∀ (d j : Nat) (held : Int32), j + d = c → (∀ i, i < 24 → bt held i = (bt (tc_av K W n j) i && bt pr i)) → ∀ (fu : Nat) (oc : Int32) (ob : Nat → Int32), d < fu → wX_forward_41 post pr fu held (nI j) vc al ll (nI n) (nI m) ph cu cf M oc W K S ob := by
  have hnm := hT.2.1
  obtain ⟨h1, h2, h3⟩ := hA
  have sub : ∀ j held, (∀ i, i < 24 → bt held i = (bt (tc_av K W n j) i && bt pr i)) → ∀ i, i < 24 → bt held i = true → bt (tc_av K W n j) i = true := by
    intro j held hH i hi e
    rw [hH i hi, Bool.and_eq_true] at e
    exact e.1
  have sup : ∀ j held, (∀ i, i < 24 → bt held i = (bt (tc_av K W n j) i && bt pr i)) → ∀ i, i < 24 → bt (tc_av K W n j &&& M) i = true → bt held i = true := by
    intro j held hH i hi e
    rw [b_and, Bool.and_eq_true] at e
    rw [hH i hi, e.1, hpr i hi e.2]
    rfl
  intro d
  induction d with
  | zero =>
    intro j held hj hH fu oc ob hf
    obtain ⟨fu, rfl⟩ : ∃ k, fu = k + 1 := ⟨fu - 1, by omega⟩
    have e : j = c := by omega
    subst e
    have hlo : ∀ i, i < 24 → bt held i = true → tc_lo (S i) := fun i hi e => tc_avL hT hc i hi (sub j held hH i hi e)
    have hr : tc_rf S held 0 = true := tc_mono hlo tc_lo0 (sup j held hH) h2
    refine br_c (fun z => tx_ref hlo ?_) (fun z => tx_ref hlo ?_)
    · rw [hr]
      have : m = j := by
        rw [nI_leI (by omega) (by omega)] at z
        omega
      refine br_f tc_bit ?_
      rw [this] at hp ⊢
      exact hp oc ob
    · rw [hr]
      exact br_f tc_bit (hp oc ob)
  | succ d ih =>
    intro j held hj hH fu oc ob hf
    obtain ⟨fu, rfl⟩ : ∃ k, fu = k + 1 := ⟨fu - 1, by omega⟩
    have hlo : ∀ i, i < 24 → bt held i = true → tc_lo (S i) := fun i hi e => tc_avL hT (by omega) i hi (sub j held hH i hi e)
    have hr : tc_rf S held 0 = false := by
      cases e : tc_rf S held 0
      · rfl
      · have := tc_mono (tc_avL hT (by omega)) tc_lo0 (sub j held hH) e
        rw [h1 j (by omega)] at this
        exact absurd this (by decide)
    refine br_f (nI_ge (by omega) (by omega)) (tx_ref hlo ?_)
    rw [hr]
    refine br_t tc_bif (nm_r (nI_add n j) ⟨vp_in_nI (by omega) (by omega), ?_⟩)
    rw [nI_clamp (by omega : n + j < 2 ^ 31)]
    refine br_c (fun cK => ?_) (fun cK => ?_)
    · obtain ⟨t, ht, hW⟩ := hT.2.2.2.2.2 (n + j) (by omega) (by omega) cK
      refine tx_tgt (by omega) (nm_e (nm_r (nI_1 j) (ih (j + 1) _ (by omega) (fun i hi => ?_) fu oc ob (by omega))))
      rw [tc_av, if_pos cK, b_and, b_and, hH i hi]
      cases bt (tc_av K W n j) i <;> cases bt pr i <;> simp
    · have hnj : bt (tc_av K W n j) (n + j) = false := by
        cases e : bt (tc_av K W n j) (n + j)
        · rfl
        · have := ((tc_avb hT j (by omega) (n + j) (by omega)).mp e).1
          omega
      refine tx_hm (by omega) ?_
      cases ep : bt pr (n + j)
      · refine br_t tc_bif (nm_r (nI_1 j) (ih (j + 1) held (by omega) (fun i hi => ?_) fu oc ob (by omega)))
        rw [tc_av, if_neg cK, tc_add (by omega) (by omega), hH i hi]
        by_cases e : i = n + j
        · rw [e, ep, Bool.and_false, Bool.and_false]
        · rw [decide_eq_false e, Bool.or_false]
      · obtain ⟨p1, p2, p3⟩ := tc_Clp hT.1.2 (hT.2.2.2.2.1 (n + j) (by omega) cK)
        have hloL : tc_lo (S (n + j)) := by rw [p3]; exact tc_losl p1
        have hM : bt M (n + j) = true := by
          rw [← hpl (n + j) (by omega) (by omega)]
          exact ep
        have hps : tc_ps S held held (S (n + j)) (tc_P W (n + j)) := tc_psm hlo hlo hloL (sup j held hH) (sub j held hH) (h3 j (by omega) (by omega) cK hM)
        refine br_f tc_bit (tx_way (by omega) p1 p2 hlo (br_f (tc_psway hps) (nm_e (nm_r (nI_1 j) (ih (j + 1) (held ||| tc_1 (n + j)) (by omega) (fun i hi => ?_) fu _ _ (by omega))))))
        rw [tc_av, if_neg cK, tc_add (by omega) (by omega), tc_add (by omega) (by omega), hH i hi]
        by_cases e : i = n + j
        · rw [e, decide_eq_true rfl, Bool.or_true, Bool.or_true, ep]
          rfl
        · rw [decide_eq_false e, Bool.or_false, Bool.or_false]
theorem tq_forwardA {V A L n m c w : Nat} {cf : Int32} {W K S : Nat → Int32} {M oc : Int32} {ob : Nat → Int32} (hQ : tq_Q V A L n m 0 2 cf W K S M) (hc : c ≤ m) (hA : tc_A n W K S M 0 c) (hw : w = 1 ∨ w = 2) {post : Int32 → St2 → Prop} (hp : ∀ oc ob, post (nI c) (nI V, nI A, nI L, nI n, nI m, 2, nI 0, cf, M, oc, W, K, S, ob)) : wpX_forward post (nI V, nI A, nI L, nI n, nI m, 2, nI 0, cf, M, oc, W, K, S, ob) (nI w) := by
  have hT := hQ.1
  have hnm := hT.2.1
  unfold wpX_forward
  refine tx_vw (by omega) (br_f (by decide) (br_f (nI_ne0 (by omega) (by omega)) (br_t rfl ?_)))
  unfold wX_forward_25
  refine tx_pr (by omega) (nm_e ⟨m + 1, ?_⟩)
  have hpr : ∀ i, i < 24 → bt M i = true → bt (tc_pr w n M) i = true := by
    intro i hi e
    unfold tc_pr
    rcases hw with rfl | rfl
    · rw [if_neg (by decide), if_pos rfl, b_or, e, Bool.or_true]
    · rw [if_pos rfl]; exact e
  have hpl : ∀ i, n ≤ i → i < 24 → bt (tc_pr w n M) i = bt M i := by
    intro i h1 hi
    unfold tc_pr
    rcases hw with rfl | rfl
    · rw [if_neg (by decide), if_pos rfl, b_or, tc_axb n (by omega) i (by omega), decide_eq_false (by omega), Bool.false_or]
    · rw [if_pos rfl]
  refine tq_facc hT hc hA hpr hpl hp c 0 _ (by omega) (fun i hi => ?_) (m + 1) oc ob (by omega)
  show bt (tc_pr w n M &&& tc_ax n) i = (bt (tc_ax n) i && bt (tc_pr w n M) i)
  rw [b_and, Bool.and_comm]
theorem tq_h25 {vc al ll lc ph cu cf M oc pr tl : Int32} {W K S ob : Nat → Int32} {n : Nat} (hn : n ≤ 12) {post : Int32 → Prop} (h1 : (∀ i, i < n → bt pr i = true → ¬ S i &&& tl = 0) → post 1) (h0 : post 0) : ∀ (d i fu : Nat), i + d = n → d < fu → (∀ j, j < i → bt pr j = true → ¬ S j &&& tl = 0) → wX_holds_25 post pr tl vc al ll (nI n) lc ph cu cf M oc W K S ob fu (nI i) := by
  intro d
  induction d with
  | zero =>
    intro i fu hi hf hI
    obtain ⟨fu, rfl⟩ : ∃ k, fu = k + 1 := ⟨fu - 1, by omega⟩
    have e : i = n := by omega
    subst e
    exact br_t (nI_le (by omega) (by omega)) (h1 hI)
  | succ d ih =>
    intro i fu hi hf hI
    obtain ⟨fu, rfl⟩ : ∃ k, fu = k + 1 := ⟨fu - 1, by omega⟩
    refine br_f (nI_ge (by omega) (by omega)) (tx_hm (by omega) ?_)
    cases e : bt pr i
    · refine br_t tc_bif (nm_r (nI_1 i) (ih (i + 1) fu (by omega) (by omega) (fun j hj ej => ?_)))
      by_cases z : j = i
      · rw [z, e] at ej; exact absurd ej (by decide)
      · exact hI j (by omega) ej
    · refine br_f tc_bit ⟨vp_in_nI (by omega) (by omega), ?_⟩
      rw [nI_clamp (by omega : i < 2 ^ 31)]
      refine br_c (fun _ => h0) (fun c => nm_r (nI_1 i) (ih (i + 1) fu (by omega) (by omega) (fun j hj ej => ?_)))
      by_cases z : j = i
      · rw [z]; exact c
      · exact hI j (by omega) ej
theorem tq_holds {V A L n m cu w : Nat} {ph cf : Int32} {W K S : Nat → Int32} {M oc : Int32} {ob : Nat → Int32} (hQ : tq_Q V A L n m cu ph cf W K S M) (hw : w ≤ 2) (as : Int32) {post : Int32 → Prop} (h1 : (∀ i, i < n → bt (tc_pr w n M) i = true → ¬ S i &&& tc_tl V as = 0) → post 1) (h0 : post 0) : wpX_holds post (nI V, nI A, nI L, nI n, nI m, ph, nI cu, cf, M, oc, W, K, S, ob) (nI w) as := by
  have hT := hQ.1
  have hnm := hT.2.1
  unfold wpX_holds
  refine tx_vw hw (br_f (by decide) (tx_pr hw ?_))
  unfold wpX_trueLiterals
  exact nm_e (nm_e (nm_e ⟨n + 1, tq_h25 (by omega) h1 h0 n 0 (n + 1) (by omega) (by omega) (fun j hj => absurd hj (by omega))⟩))
theorem tq_holdsA {V A L n m c w : Nat} {cf : Int32} {W K S : Nat → Int32} {M oc : Int32} {ob : Nat → Int32} (hQ : tq_Q V A L n m 0 2 cf W K S M) (hc : c ≤ m) (hA : tc_A n W K S M 0 c) (hw : w ≤ 2) (as : Int32) {post : Int32 → Prop} (h0 : post 0) : wpX_holds post (nI V, nI A, nI L, nI n, nI m, 2, nI 0, cf, M, oc, W, K, S, ob) (nI w) as := by
  have hT := hQ.1
  have hnm := hT.2.1
  refine tq_holds hQ hw as (fun h => ?_) h0
  refine absurd (tc_unsat hT hc hA.2.1 (fun j hj => hA.2.2 j (by omega) hj) as (fun i hi e => h i hi ?_)) id
  unfold tc_pr
  by_cases c2 : w = 2
  · rw [if_pos c2]; exact e
  · rw [if_neg c2]
    by_cases c1 : w = 1
    · rw [if_pos c1, b_or, e, Bool.or_true]
    · rw [if_neg c1]; exact tc_all i (by omega)
end
section
/-! ===== the law, from its end backwards ===== -/
abbrev tq_J15 : Type := Int32 → Int32 → Int32 → Int32 → Int32 → Int32 → Int32 → Int32 → Int32 → Int32 → Int32 → Int32 → Int32 → Int32 → Int32 → (Nat → Int32) → (Nat → Int32) → (Nat → Int32) → (Nat → Int32) → Prop
abbrev tq_J13 : Type := Int32 → Int32 → Int32 → Int32 → Int32 → Int32 → Int32 → Int32 → Int32 → Int32 → Int32 → Int32 → Int32 → (Nat → Int32) → (Nat → Int32) → (Nat → Int32) → (Nat → Int32) → Prop
abbrev tq_J12 : Type := Int32 → Int32 → Int32 → Int32 → Int32 → Int32 → Int32 → Int32 → Int32 → Int32 → Int32 → Int32 → (Nat → Int32) → (Nat → Int32) → (Nat → Int32) → (Nat → Int32) → Prop
/-- what the next round asks: the place in the script, the two counts, any state that keeps the invariant -/
def tq_HJ (J84 : tq_J15) (r B : Nat) : Prop := ∀ {k a b : Nat} {x7 vc al ll ac lc ph cu cf M oc : Int32} {W K S ob : Nat → Int32}, k ≤ B → 2 ≤ a → a ≤ 4 → b ≤ 19 → tq_Z (vc, al, ll, ac, lc, ph, cu, cf, M, oc, W, K, S, ob) → J84 (nI k) x7 (nI a) (nI b) (nI (r + 1)) vc al ll ac lc ph cu cf M oc W K S ob
def tq_H12 (J : tq_J12) (i B : Nat) : Prop := ∀ {k : Nat} {vc al ll ac lc ph cu cf M oc : Int32} {W K S ob : Nat → Int32}, k + 8 * (24 - (i + 1)) + 3 ≤ B → tq_Z (vc, al, ll, ac, lc, ph, cu, cf, M, oc, W, K, S, ob) → J (nI k) (nI (i + 1)) vc al ll ac lc ph cu cf M oc W K S ob
theorem tl_cell {post : Int32 → Prop} {L : Nat} {xs : Nat → Int32} {k : Nat} (hL : L ≤ 260) (hk : k < 2 ^ 31) (h : ∀ x, post x) : wpL_cell post L xs () (nI k) := by
  refine br_c (fun _ => h 0) (fun c => ⟨?_, h _⟩)
  have c' : ¬ nI L ≤ nI k := c
  rw [nI_leI (by omega) hk] at c'
  exact vp_in_nI (by omega) (by omega)
theorem tl_mix {post : Int32 → Prop} {c k p : Int32} (m : Nat) (h0 : 0 < m) (hm : m < 2 ^ 31) (h : ∀ j, j < m → post (nI j)) (e : p = nI m := by rfl) : wpL_mix post () c k p := by
  subst e
  intro x3 _ y3 _ z3 _
  refine ⟨nI_ne0 h0 hm, ?_⟩
  rw [pk_and (m := 2147483647) _ 31 (by decide), pk_rem (Nat.mod_lt _ (by decide)) h0 hm]
  exact h _ (Nat.mod_lt _ h0)
theorem tl_signed {post : Int32 → Prop} {p : Int32} (h : ∀ r, post r) : wpL_signed post () p := br_c (fun _ => ⟨by decide, h _⟩) (fun _ => ⟨by decide, h _⟩)
theorem tl_fals {post : Int32 → Prop} {p q : Int32} (h : ∀ r, post r) : wpL_falsified post () p q := br_c (fun _ => h _) (fun _ => h _)
theorem tl_in {post : Int32 → Prop} {p a b c d : Int32} (h : ∀ r, post r) : wpL_in post () p a b c d := br_c (fun _ => h _) (fun _ => br_c (fun _ => h _) (fun _ => br_c (fun _ => h _) (fun _ => br_c (fun _ => h _) (fun _ => br_c (fun _ => h _) (fun _ => h _)))))
section
variable {post : Int32 → Prop} {L : Nat} {xs : Nat → Int32} {J84 : tq_J15} {kc ks r B k a b : Nat} {x2 x6 x7 vc al ll ac lc ph cu cf M oc : Int32} {W K S ob : Nat → Int32}
theorem tw_1304 (hJ : tq_HJ J84 r B) (hk : k ≤ B) (ha : 2 ≤ a) (ha' : a ≤ 4) (hb : b ≤ 19) (hZ : tq_Z (vc, al, ll, ac, lc, ph, cu, cf, M, oc, W, K, S, ob)) (z0 : Int32) : wL_law_1304 post L xs J84 (nI k) x2 x6 x7 (nI a) (nI b) (nI r) z0 kc ks vc al ll ac lc ph cu cf M oc W K S ob := by
  unfold wL_law_1304
  refine tq_rewind hZ (fun q u' hZ' => ?_) z0
  obtain ⟨vc, al, ll, ac, lc, ph, cu, cf, M, oc, W, K, S, ob⟩ := u'
  exact nm_r (nI_1 r) (hJ hk ha ha' hb hZ')
theorem tw_1275 (hL : L ≤ 260) (hB : B < 100000) (hJ : tq_HJ J84 r B) (hk : k + 1 ≤ B) (ha : 2 ≤ a) (ha' : a ≤ 4) (hb : b ≤ 19) (hZ : tq_Z (vc, al, ll, ac, lc, ph, cu, cf, M, oc, W, K, S, ob)) {t : Nat} (ht : t ≤ 12) (z0 : Int32) : wL_law_1275 post L xs J84 (nI k) x2 x6 (nI a) (nI b) (nI r) (nI t) z0 kc ks vc al ll ac lc ph cu cf M oc W K S ob := by
  unfold wL_law_1275
  refine br_c (fun _ => tl_cell hL (by omega) (fun x => nm_r (nI_1 k) (tl_mix (t + 1) (by omega) (by omega) (fun j _ => ?_) (nI_1 t)))) (fun _ => ?_)
  · exact tw_1304 hJ (by omega) ha ha' hb hZ _
  · exact tw_1304 hJ (by omega) ha ha' hb hZ _
theorem tw_1254 (hL : L ≤ 260) (hB : B < 100000) (hJ : tq_HJ J84 r B) (hk : k + 2 ≤ B) (ha : 2 ≤ a) (ha' : a ≤ 4) (hb : b ≤ 19) (hZ : tq_Z (vc, al, ll, ac, lc, ph, cu, cf, M, oc, W, K, S, ob)) {t : Nat} (ht : t ≤ 12) : wL_law_1254 post L xs J84 (nI k) x2 x6 (nI a) (nI b) (nI r) (nI t) kc ks vc al ll ac lc ph cu cf M oc W K S ob := by
  unfold wL_law_1254
  refine tl_cell hL (by omega) (fun x => nm_r (nI_1 k) (tl_mix 2 (by omega) (by omega) (fun j _ => br_c (fun _ => ?_) (fun _ => ?_))))
  · exact tw_1275 hL hB hJ (by omega) ha ha' hb hZ ht _
  · exact tw_1275 hL hB hJ (by omega) ha ha' hb hZ ht _
theorem tw_1209 {V A Lm n m c t sz : Nat} {x14 : Int32} (hL : L ≤ 260) (hB : B < 100000) (hJ : tq_HJ J84 r B) (hk : k + 2 ≤ B) (ha : 2 ≤ a) (ha' : a ≤ 4) (hb : b ≤ 19) (hQ : tq_Q V A Lm n m 0 2 cf W K S M) (hc : c ≤ m) (hA : tc_A n W K S M 0 c) (ht : t ≤ 12) (hs : sz < 100) : ∀ (d i fu : Nat), i + d = sz → d < fu → wL_law_1209 post L xs J84 (nI k) x2 (nI sz) (nI a) (nI b) (nI r) (nI t) x14 kc ks (nI V) (nI A) (nI Lm) (nI n) (nI m) 2 (nI 0) cf M oc W K S ob fu (nI i) := by
  intro d
  induction d with
  | zero =>
    intro i fu hi hf
    obtain ⟨fu, rfl⟩ : ∃ k, fu = k + 1 := ⟨fu - 1, by omega⟩
    exact br_t (nI_le (by omega) (by omega)) (tw_1254 hL hB hJ hk ha ha' hb (tq_mk hQ) ht)
  | succ d ih =>
    intro i fu hi hf
    obtain ⟨fu, rfl⟩ : ∃ k, fu = k + 1 := ⟨fu - 1, by omega⟩
    refine br_f (nI_ge (by omega) (by omega)) ?_
    refine tq_holdsA (w := 0) hQ hc hA (by omega) _ (br_t rfl ?_)
    refine tq_holdsA (w := 2) hQ hc hA (by omega) _ (br_t rfl ?_)
    exact nm_r (nI_1 i) (ih (i + 1) fu (by omega) (by omega))
theorem tw_1152 {t sz : Nat} (hL : L ≤ 260) (hB : B < 100000) (hJ : tq_HJ J84 r B) (hk : k + 3 ≤ B) (ha : 2 ≤ a) (ha' : a ≤ 4) (hb : b ≤ 19) (hZ : tq_Z (vc, al, ll, ac, lc, ph, cu, cf, M, oc, W, K, S, ob)) (ht : t ≤ 12) (hs : sz < 100) : wL_law_1152 post L xs J84 (nI k) x2 (nI sz) (nI a) (nI b) (nI r) (nI t) kc ks vc al ll ac lc ph cu cf M oc W K S ob := by
  have hZ' := hZ
  obtain ⟨V, A, Lm, n, m, cu', ph', cf', W', K', S', M', oc', ob', e, hQ⟩ := hZ
  injection e with e1 e
  injection e with e2 e
  injection e with e3 e
  injection e with e4 e
  injection e with e5 e
  injection e with e6 e
  injection e with e7 e
  injection e with e8 e
  injection e with e9 e
  injection e with e10 e
  injection e with e11 e
  injection e with e12 e
  injection e with e13 e14
  subst e1 e2 e3 e4 e5 e6 e7 e8 e9 e10 e11 e12 e13 e14
  unfold wL_law_1152
  refine br_c (fun cp => ?_) (fun cp => tw_1254 hL hB hJ (by omega) ha ha' hb hZ' ht)
  subst cp
  obtain ⟨hcu, c, hc, _, ec, hA⟩ : cu' = 0 ∧ ∃ c, c ≤ m ∧ cu' ≤ c ∧ cf = nI c ∧ tc_A n W K S M cu' c := by
    rcases hQ.2.2.2.2 with z | z | ⟨⟨z, _⟩ | ⟨_, z⟩, h⟩
    · exact absurd z (by decide)
    · exact absurd z (by decide)
    · exact absurd z (by decide)
    · exact ⟨z, h⟩
  subst hcu
  unfold wpX_conflict
  dsimp only
  refine tq_forwardA (w := 1) hQ hc hA (Or.inl rfl) (fun oc ob => br_t ec.symm ?_)
  refine tq_forwardA (w := 2) hQ hc hA (Or.inr rfl) (fun oc ob => br_t ec.symm ?_)
  refine nm_r (nI_1 k) (tl_cell hL (by omega) (fun x => nm_e ⟨sz + 1, ?_⟩))
  exact tw_1209 hL hB hJ (by omega) ha ha' hb hQ hc hA ht hs sz 0 (sz + 1) (by omega) (by omega)
theorem tw_1124 {t sz : Nat} (hL : L ≤ 260) (hB : B < 100000) (hJ : tq_HJ J84 r B) (hk : k + 3 ≤ B) (ha : 2 ≤ a) (ha' : a ≤ 4) (hb : b ≤ 19) (ht : t ≤ 12) (hs : sz < 100) : ∀ (d i fu : Nat) (vc al ll ac lc ph cu cf M oc : Int32) (W K S ob : Nat → Int32), tq_Z (vc, al, ll, ac, lc, ph, cu, cf, M, oc, W, K, S, ob) → i + d = 14 → d < fu → wL_law_1124 post L xs J84 (nI k) x2 (nI sz) (nI a) (nI b) (nI r) (nI t) kc ks fu (nI i) vc al ll ac lc ph cu cf M oc W K S ob := by
  intro d
  induction d with
  | zero =>
    intro i fu vc al ll ac lc ph cu cf M oc W K S ob hZ hi hf
    obtain ⟨fu, rfl⟩ : ∃ k, fu = k + 1 := ⟨fu - 1, by omega⟩
    have e : i = 14 := by omega
    subst e
    exact br_t (nI_le (a := 14) (b := 14) (by omega) (by omega)) (tw_1152 hL hB hJ hk ha ha' hb hZ ht hs)
  | succ d ih =>
    intro i fu vc al ll ac lc ph cu cf M oc W K S ob hZ hi hf
    obtain ⟨fu, rfl⟩ : ∃ k, fu = k + 1 := ⟨fu - 1, by omega⟩
    refine br_f (nI_ge (b := 14) (by omega) (by decide)) ?_
    refine br_c (fun _ => tq_back hZ (fun q u' hZ' => ?_)) (fun _ => tw_1152 hL hB hJ hk ha ha' hb hZ ht hs)
    obtain ⟨vc, al, ll, ac, lc, ph, cu, cf, M, oc, W, K, S, ob⟩ := u'
    exact nm_r (nI_1 i) (ih (i + 1) fu _ _ _ _ _ _ _ _ _ _ _ _ _ _ hZ' (by omega) (by omega))
theorem tq_cur (hZ : tq_Z (vc, al, ll, ac, lc, ph, cu, cf, M, oc, W, K, S, ob)) : ∃ t, t ≤ 12 ∧ cu = nI t := by
  obtain ⟨V, A, Lm, n, m, cu', ph', cf', W', K', S', M', oc', ob', e, hQ⟩ := hZ
  injection e with e1 e
  injection e with e2 e
  injection e with e3 e
  injection e with e4 e
  injection e with e5 e
  injection e with e6 e
  injection e with e7 e
  have h1 := hQ.1.2.1
  have h2 := hQ.2.2.2.1
  exact ⟨cu', by omega, e7⟩
theorem tw_1108 {sz : Nat} (hL : L ≤ 260) (hB : B < 100000) (hJ : tq_HJ J84 r B) (hk : k + 3 ≤ B) (ha : 2 ≤ a) (ha' : a ≤ 4) (hb : b ≤ 19) (hZ : tq_Z (vc, al, ll, ac, lc, ph, cu, cf, M, oc, W, K, S, ob)) (hs : sz < 100) : wL_law_1108 post L xs J84 (nI k) x2 (nI sz) (nI a) (nI b) (nI r) kc ks vc al ll ac lc ph cu cf M oc W K S ob := by
  obtain ⟨t, ht, e⟩ := tq_cur hZ
  subst e
  unfold wL_law_1108 wpX_cursor
  dsimp only
  refine tq_seal hZ (fun q u' hZ' => ?_)
  obtain ⟨vc, al, ll, ac, lc, ph, cu, cf, M, oc, W, K, S, ob⟩ := u'
  exact ⟨15, tw_1124 hL hB hJ hk ha ha' hb ht hs 14 0 15 _ _ _ _ _ _ _ _ _ _ _ _ _ _ hZ' (by omega) (by omega)⟩
end
end
section
/-! ===== the law: the attempts to add lines ===== -/
section
variable {post : Int32 → Prop} {L : Nat} {xs : Nat → Int32} {J84 : tq_J15} {J599 : tq_J12} {kc ks r B k a b sz i : Nat} {x2 x7 x11 vc al ll ac lc ph cu cf M oc : Int32} {W K S ob : Nat → Int32}
theorem tw_1060 (hJ' : tq_H12 J599 i B) (hk : k + 8 * (24 - (i + 1)) + 3 ≤ B) (hZ : tq_Z (vc, al, ll, ac, lc, ph, cu, cf, M, oc, W, K, S, ob)) (x6 x8 x9 x10 x13 : Int32) : wL_law_1060 post L xs J84 J599 (nI k) x2 x6 x8 x9 x10 x11 (nI i) x13 kc ks vc al ll ac lc ph cu cf M oc W K S ob := by
  unfold wL_law_1060
  refine tq_rewind hZ (fun q u' hZ' => ?_) x13
  obtain ⟨vc, al, ll, ac, lc, ph, cu, cf, M, oc, W, K, S, ob⟩ := u'
  exact nm_r (nI_1 i) (hJ' hk hZ')
theorem tw_1011 (hL : L ≤ 260) (hB : B < 100000) (hJ : tq_HJ J84 r B) (hJ' : tq_H12 J599 i B) (hk : k + 1 + 8 * (24 - (i + 1)) + 3 ≤ B) (ha : 2 ≤ a) (ha' : a ≤ 4) (hb : b ≤ 19) (hs : sz < 100) (hZ : tq_Z (vc, al, ll, ac, lc, ph, cu, cf, M, oc, W, K, S, ob)) (x13 z0 : Int32) : wL_law_1011 post L xs J84 J599 (nI k) x2 (nI sz) (nI a) (nI b) (nI r) x11 (nI i) x13 z0 kc ks vc al ll ac lc ph cu cf M oc W K S ob := by
  unfold wL_law_1011
  refine br_c (fun _ => ?_) (fun _ => tw_1108 hL hB hJ (by omega) ha ha' hb hZ hs)
  refine tq_forward0 hZ (fun q u' hZ' => ?_)
  obtain ⟨vc, al, ll, ac, lc, ph, cu, cf, M, oc, W, K, S, ob⟩ := u'
  refine br_c (fun _ => br_c (fun _ => ?_) (fun _ => tw_1060 hJ' (by omega) hZ' _ _ _ _ _)) (fun _ => br_c (fun _ => nm_r (nI_1 i) (hJ' (by omega) hZ')) (fun _ => br_c (fun _ => nm_r (nI_1 i) (hJ' (by omega) hZ')) (fun _ => ?_)))
  · refine tl_cell hL (by omega) (fun x => nm_r (nI_1 k) (tl_mix 3 (by omega) (by omega) (fun j _ => br_c (fun _ => nm_r (nI_1 i) (hJ' (by omega) hZ')) (fun _ => tw_1060 hJ' (by omega) hZ' _ _ _ _ _))))
  · refine tl_cell hL (by omega) (fun x => nm_r (nI_1 k) (tl_mix 3 (by omega) (by omega) (fun j _ => br_c (fun _ => nm_r (nI_1 i) (hJ' (by omega) hZ')) (fun _ => tw_1108 hL hB hJ (by omega) ha ha' hb hZ' hs))))
theorem tw_975 (hL : L ≤ 260) (hB : B < 100000) (hJ : tq_HJ J84 r B) (hJ' : tq_H12 J599 i B) (hk : k + 1 + 8 * (24 - (i + 1)) + 3 ≤ B) (ha : 2 ≤ a) (ha' : a ≤ 4) (hb : b ≤ 19) (hs : sz < 100) (hZ : tq_Z (vc, al, ll, ac, lc, ph, cu, cf, M, oc, W, K, S, ob)) (x13 x14 x16 x17 z0 : Int32) : wL_law_975 post L xs J84 J599 (nI k) x2 (nI sz) (nI a) (nI b) (nI r) x11 (nI i) x13 x14 x16 x17 z0 kc ks vc al ll ac lc ph cu cf M oc W K S ob := by
  unfold wL_law_975
  refine br_c (fun _ => tq_lemma hZ (fun q u' hZ' => ?_) _ _ _ _) (fun _ => tq_lemma hZ (fun q u' hZ' => ?_) _ _ _ _)
  · obtain ⟨vc, al, ll, ac, lc, ph, cu, cf, M, oc, W, K, S, ob⟩ := u'
    exact tw_1011 hL hB hJ hJ' hk ha ha' hb hs hZ' _ _
  · obtain ⟨vc, al, ll, ac, lc, ph, cu, cf, M, oc, W, K, S, ob⟩ := u'
    exact tw_1011 hL hB hJ hJ' hk ha ha' hb hs hZ' _ _
theorem tw_945 (hL : L ≤ 260) (hB : B < 100000) (hJ : tq_HJ J84 r B) (hJ' : tq_H12 J599 i B) (hk : k + 2 + 8 * (24 - (i + 1)) + 3 ≤ B) (ha : 2 ≤ a) (ha' : a ≤ 4) (hb : b ≤ 19) (hs : sz < 100) (hZ : tq_Z (vc, al, ll, ac, lc, ph, cu, cf, M, oc, W, K, S, ob)) {p : Nat} (hp : 0 < p) (hp2 : p < 100) (x13 x14 x16 z0 : Int32) : wL_law_945 post L xs J84 J599 (nI k) x2 (nI sz) (nI a) (nI b) (nI r) x11 (nI i) x13 x14 (nI p) x16 z0 kc ks vc al ll ac lc ph cu cf M oc W K S ob := by
  unfold wL_law_945
  refine br_c (fun _ => tl_cell hL (by omega) (fun x => nm_r (nI_1 k) (tl_mix p hp (by omega) (fun j _ => tl_signed (fun q => ?_))))) (fun _ => ?_)
  · exact tw_975 hL hB hJ hJ' (by omega) ha ha' hb hs hZ _ _ _ _ _
  · exact tw_975 hL hB hJ hJ' (by omega) ha ha' hb hs hZ _ _ _ _ _
theorem tw_896 (hL : L ≤ 260) (hB : B < 100000) (hJ : tq_HJ J84 r B) (hJ' : tq_H12 J599 i B) (hk : k + 4 + 8 * (24 - (i + 1)) + 3 ≤ B) (ha : 2 ≤ a) (ha' : a ≤ 4) (hb : b ≤ 19) (hs : sz < 100) (hZ : tq_Z (vc, al, ll, ac, lc, ph, cu, cf, M, oc, W, K, S, ob)) {p : Nat} (hp : 0 < p) (hp2 : p < 40) (x13 x14 : Int32) : wL_law_896 post L xs J84 J599 (nI k) x2 (nI sz) (nI a) (nI b) (nI r) x11 (nI i) x13 x14 (nI p) 2 kc ks vc al ll ac lc ph cu cf M oc W K S ob := by
  unfold wL_law_896
  refine nm_r (e' := nI (2 * p)) (pk_mul 2 p) ?_
  refine tl_cell hL (by omega) (fun x => nm_r (nI_1 k) (tl_mix (2 * p) (by omega) (by omega) (fun j _ => tl_signed (fun q => ?_))))
  refine br_c (fun _ => tl_cell hL (by omega) (fun x => nm_r (nI_1 (k + 1)) (tl_mix (2 * p) (by omega) (by omega) (fun j _ => tl_signed (fun q => ?_))))) (fun _ => ?_)
  · exact tw_945 hL hB hJ hJ' (by omega) ha ha' hb hs hZ (by omega) (by omega) _ _ _ _
  · exact tw_945 hL hB hJ hJ' (by omega) ha ha' hb hs hZ (by omega) (by omega) _ _ _ _
theorem tw_856 (hJ' : tq_H12 J599 i B) (hk : k + 8 * (24 - (i + 1)) + 3 ≤ B) (hZ : tq_Z (vc, al, ll, ac, lc, ph, cu, cf, M, oc, W, K, S, ob)) (x6 x8 x9 x10 x18 : Int32) : wL_law_856 post L xs J84 J599 (nI k) x2 x6 x8 x9 x10 x11 (nI i) x18 kc ks vc al ll ac lc ph cu cf M oc W K S ob := by
  unfold wL_law_856
  refine br_c (fun _ => nm_r (nI_1 i) (hJ' hk hZ)) (fun _ => tq_delete hZ (fun q u' hZ' => ?_) _)
  obtain ⟨vc, al, ll, ac, lc, ph, cu, cf, M, oc, W, K, S, ob⟩ := u'
  exact nm_r (nI_1 i) (hJ' hk hZ')
theorem tw_774 {J689 J736 : Int32 → Int32 → Prop} {e : Nat} (hZ : tq_Z (vc, al, ll, ac, lc, ph, cu, cf, M, oc, W, K, S, ob)) {x1 x6 x8 x9 x10 x12 x15 x16 x17 x18 x19 x20 : Int32} (h : ∀ x, J736 x (nI (e + 1))) : ∀ (d s fu : Nat) (x22 : Int32), s + d = 4 → d < fu → wL_law_774 post L xs J84 J599 J689 J736 x1 x2 x6 x8 x9 x10 x11 x12 x15 x16 x17 x18 x19 x20 (nI e) kc ks vc al ll ac lc ph cu cf M oc W K S ob fu x22 (nI s) := by
  intro d
  induction d with
  | zero =>
    intro s fu x22 hs hf
    obtain ⟨fu, rfl⟩ : ∃ k, fu = k + 1 := ⟨fu - 1, by omega⟩
    have es : s = 4 := by omega
    subst es
    exact br_t (nI_le (a := 4) (b := 4) (by omega) (by omega)) (br_c (fun _ => nm_r (nI_1 e) (h _)) (fun _ => nm_r (nI_1 e) (h _)))
  | succ d ih =>
    intro s fu x22 hs hf
    obtain ⟨fu, rfl⟩ : ∃ k, fu = k + 1 := ⟨fu - 1, by omega⟩
    refine br_f (nI_ge (b := 4) (by omega) (by decide)) ?_
    exact tq_word hZ (fun _ => tq_word hZ (fun _ => tq_word hZ (fun _ => tq_word hZ (fun _ => tq_word hZ (fun _ => tl_in (fun _ => nm_e (nm_r (nI_1 s) (ih (s + 1) fu _ (by omega) (by omega))))) _ _) _ _) _ _) _ _) _ _
theorem tw_736 {J689 : Int32 → Int32 → Prop} {p n : Nat} (hn : n < 100) (hZ : tq_Z (vc, al, ll, ac, lc, ph, cu, cf, M, oc, W, K, S, ob)) {x1 x6 x8 x9 x10 x12 x16 x17 x20 : Int32} (h : ∀ x, J689 x (nI (p + 1))) : ∀ (d e fu : Nat) (x18 : Int32), e + d = n → d < fu → wL_law_736 post L xs J84 J599 J689 x1 x2 x6 x8 x9 x10 x11 x12 (nI n) x16 x17 (nI p) x20 kc ks vc al ll ac lc ph cu cf M oc W K S ob fu x18 (nI e) := by
  intro d
  induction d with
  | zero =>
    intro e fu x18 he hf
    obtain ⟨fu, rfl⟩ : ∃ k, fu = k + 1 := ⟨fu - 1, by omega⟩
    exact br_t (nI_le (by omega) (by omega)) (nm_r (nI_1 p) (h _))
  | succ d ih =>
    intro e fu x18 he hf
    obtain ⟨fu, rfl⟩ : ∃ k, fu = k + 1 := ⟨fu - 1, by omega⟩
    refine br_f (nI_ge (by omega) (by omega)) (br_c (fun _ => nm_r (nI_1 p) (h _)) (fun _ => br_c (fun _ => nm_r (nI_1 e) (ih (e + 1) fu _ (by omega) (by omega))) (fun _ => tq_alive hZ (fun q => br_c (fun _ => nm_r (nI_1 e) (ih (e + 1) fu _ (by omega) (by omega))) (fun _ => ⟨5, ?_⟩)) _)))
    exact tw_774 hZ (fun x => ih (e + 1) fu x (by omega) (by omega)) 4 0 5 1 (by omega) (by omega)
theorem tw_689 {n : Nat} (hn : n < 100) (hJ' : tq_H12 J599 i B) (hk : k + 8 * (24 - (i + 1)) + 3 ≤ B) (hZ : tq_Z (vc, al, ll, ac, lc, ph, cu, cf, M, oc, W, K, S, ob)) {x6 x8 x9 x10 x16 x17 : Int32} : ∀ (d p fu : Nat) (x18 : Int32), p + d = n → d < fu → wL_law_689 post L xs J84 J599 (nI k) x2 x6 x8 x9 x10 x11 (nI i) (nI n) x16 x17 kc ks vc al ll ac lc ph cu cf M oc W K S ob fu x18 (nI p) := by
  intro d
  induction d with
  | zero =>
    intro p fu x18 hp hf
    obtain ⟨fu, rfl⟩ : ∃ k, fu = k + 1 := ⟨fu - 1, by omega⟩
    exact br_t (nI_le (by omega) (by omega)) (tw_856 hJ' hk hZ _ _ _ _ _)
  | succ d ih =>
    intro p fu x18 hp hf
    obtain ⟨fu, rfl⟩ : ∃ k, fu = k + 1 := ⟨fu - 1, by omega⟩
    refine br_f (nI_ge (by omega) (by omega)) (br_c (fun _ => tw_856 hJ' hk hZ _ _ _ _ _) (fun _ => ⟨nI_ne0 (by omega) (by omega), nm_e (tq_alive hZ (fun q => br_c (fun _ => nm_r (nI_1 p) (ih (p + 1) fu _ (by omega) (by omega))) (fun _ => br_c (fun _ => ⟨n + 1, ?_⟩) (fun _ => ⟨n + 1, ?_⟩))) _)⟩))
    · exact tw_736 hn hZ (fun x => ih (p + 1) fu x (by omega) (by omega)) n 0 (n + 1) _ (by omega) (by omega)
    · exact tw_736 hn hZ (fun x => ih (p + 1) fu x (by omega) (by omega)) n 0 (n + 1) _ (by omega) (by omega)
theorem tw_599 {v : Nat} (hv : 4 ≤ v) (hv' : v ≤ 6) (hL : L ≤ 260) (hB : B < 100000) (hJ : tq_HJ J84 r B) (ha : 2 ≤ a) (ha' : a ≤ 4) (hb : b ≤ 19) (hs : sz < 100) : ∀ (d i fu k : Nat) (vc al ll ac lc ph cu cf M oc : Int32) (W K S ob : Nat → Int32), tq_Z (vc, al, ll, ac, lc, ph, cu, cf, M, oc, W, K, S, ob) → i + d = 24 → d < fu → k + 8 * (24 - i) + 3 ≤ B → wL_law_599 post L xs J84 (nI v) (nI sz) (nI a) (nI b) (nI r) x11 kc ks fu (nI k) (nI i) vc al ll ac lc ph cu cf M oc W K S ob := by
  intro d
  induction d with
  | zero =>
    intro i fu k vc al ll ac lc ph cu cf M oc W K S ob hZ hi hf hk
    obtain ⟨fu, rfl⟩ : ∃ k, fu = k + 1 := ⟨fu - 1, by omega⟩
    have e : i = 24 := by omega
    subst e
    exact br_t (nI_le (a := 24) (b := 24) (by omega) (by omega)) (tw_1108 hL hB hJ (by omega) ha ha' hb hZ hs)
  | succ d ih =>
    intro i fu k vc al ll ac lc ph cu cf M oc W K S ob hZ hi hf hk
    obtain ⟨fu, rfl⟩ : ∃ k, fu = k + 1 := ⟨fu - 1, by omega⟩
    obtain ⟨t, ht, e⟩ := tq_cur hZ
    subst e
    have hJ' : tq_H12 (wL_law_599 post L xs J84 (nI v) (nI sz) (nI a) (nI b) (nI r) x11 kc ks fu) i B := by
      intro k vc al ll ac lc ph cu cf M oc W K S ob h1 h2
      exact ih (i + 1) fu k _ _ _ _ _ _ _ _ _ _ _ _ _ _ h2 (by omega) (by omega) (by omega)
    refine br_f (nI_ge (b := 24) (by omega) (by decide)) ?_
    unfold wpX_cursor
    dsimp only
    refine tl_cell hL (by omega) (fun x => nm_r (nI_1 k) (tl_mix 8 (by omega) (by omega) (fun j _ => br_c (fun _ => ?_) (fun _ => ?_))))
    · refine nm_r (nI_add b t) ?_
      refine tl_cell hL (by omega) (fun x => nm_r (nI_1 (k + 1)) (tl_mix (b + t + 1) (by omega) (by omega) (fun fr _ => ?_) (nI_1 (b + t))))
      refine tl_cell hL (by omega) (fun x => nm_r (nI_1 (k + 1 + 1)) (tl_mix 6 (by omega) (by omega) (fun j _ => br_c (fun _ => ⟨b + t + 1, ?_⟩) (fun _ => ⟨b + t + 1, ?_⟩))))
      · exact tw_689 (by omega) hJ' (by omega) hZ (b + t) 0 (b + t + 1) _ (by omega) (by omega)
      · exact tw_689 (by omega) hJ' (by omega) hZ (b + t) 0 (b + t + 1) _ (by omega) (by omega)
    · refine tl_cell hL (by omega) (fun x => nm_r (nI_1 (k + 1)) (tl_mix 6 (by omega) (by omega) (fun j _ => br_c (fun _ => ?_) (fun _ => ?_))))
      · exact tw_896 hL hB hJ hJ' (by omega) ha ha' hb hs hZ (by omega) (by omega) _ _
      · exact tw_896 hL hB hJ hJ' (by omega) ha ha' hb hs hZ (by omega) (by omega) _ _
theorem tw_573 {v : Nat} (hv : 4 ≤ v) (hv' : v ≤ 6) (hL : L ≤ 260) (hB : B < 100000) (hJ : tq_HJ J84 r B) (hk : k + 196 ≤ B) (ha : 2 ≤ a) (ha' : a ≤ 4) (hb : b ≤ 19) (hs : sz < 100) (hZ : tq_Z (vc, al, ll, ac, lc, ph, cu, cf, M, oc, W, K, S, ob)) : wL_law_573 post L xs J84 (nI k) (nI v) (nI sz) (nI a) (nI b) (nI r) kc ks vc al ll ac lc ph cu cf M oc W K S ob := by
  unfold wL_law_573
  refine tl_cell hL (by omega) (fun x => nm_r (nI_1 k) (tl_mix 3 (by omega) (by omega) (fun j _ => br_c (fun _ => ⟨25, ?_⟩) (fun _ => ⟨25, ?_⟩))))
  · exact tw_599 hv hv' hL hB hJ ha ha' hb hs 24 0 25 (k + 1) _ _ _ _ _ _ _ _ _ _ _ _ _ _ hZ (by omega) (by omega) (by omega)
  · exact tw_599 hv hv' hL hB hJ ha ha' hb hs 24 0 25 (k + 1) _ _ _ _ _ _ _ _ _ _ _ _ _ _ hZ (by omega) (by omega) (by omega)
end
end
section
/-! ===== the law: the axioms, the rounds ===== -/
def tq_H13 (J : tq_J13) (g N B : Nat) : Prop := ∀ {k b : Nat} {vc al ll ac lc ph cu cf M oc : Int32} {W K S ob : Nat → Int32}, k + 4 * (N - (g + 1)) + 196 ≤ B → b ≤ 3 + (g + 1) → tq_Z (vc, al, ll, ac, lc, ph, cu, cf, M, oc, W, K, S, ob) → J (nI k) (nI b) (nI (g + 1)) vc al ll ac lc ph cu cf M oc W K S ob
section
variable {post : Int32 → Prop} {L : Nat} {xs : Nat → Int32} {J84 : tq_J15} {J322 : tq_J13} {kc ks r B k a b sz g N v : Nat} {x7 vc al ll ac lc ph cu cf M oc : Int32} {W K S ob : Nat → Int32}
theorem tw_543 (hv : 4 ≤ v) (hv' : v ≤ 6) (hL : L ≤ 260) (hB : B < 100000) (hJ : tq_HJ J84 r B) (hJ' : tq_H13 J322 g N B) (hgN : g < N) (hN : N ≤ 16) (hk : k + 4 * (N - (g + 1)) + 196 ≤ B) (ha : 2 ≤ a) (ha' : a ≤ 4) (hb : b ≤ 3 + g) (hs : sz < 100) (hZ : tq_Z (vc, al, ll, ac, lc, ph, cu, cf, M, oc, W, K, S, ob)) (x12 x18 x19 x20 z0 : Int32) : wL_law_543 post L xs J84 J322 (nI k) (nI v) (nI sz) (nI a) (nI b) (nI r) x12 (nI g) x18 x19 x20 z0 kc ks vc al ll ac lc ph cu cf M oc W K S ob := by
  unfold wL_law_543
  refine tq_axiom hZ (fun q u' hZ' => ?_) _ _ _ _
  obtain ⟨vc, al, ll, ac, lc, ph, cu, cf, M, oc, W, K, S, ob⟩ := u'
  exact br_c (fun _ => nm_r (nI_1 b) (nm_r (nI_1 g) (hJ' hk (by omega) hZ'))) (fun _ => tw_573 hv hv' hL hB hJ (by omega) ha ha' (by omega) hs hZ')
theorem tw_519 (hv : 4 ≤ v) (hv' : v ≤ 6) (hL : L ≤ 260) (hB : B < 100000) (hJ : tq_HJ J84 r B) (hJ' : tq_H13 J322 g N B) (hgN : g < N) (hN : N ≤ 16) (hk : k + 1 + 4 * (N - (g + 1)) + 196 ≤ B) (ha : 2 ≤ a) (ha' : a ≤ 4) (hb : b ≤ 3 + g) (hs : sz < 100) (hZ : tq_Z (vc, al, ll, ac, lc, ph, cu, cf, M, oc, W, K, S, ob)) (x12 x18 x19 z0 : Int32) : wL_law_519 post L xs J84 J322 (nI k) (nI v) (nI sz) (nI a) (nI b) (nI r) x12 (nI g) x18 x19 z0 kc ks vc al ll ac lc ph cu cf M oc W K S ob := by
  unfold wL_law_519
  refine tl_cell hL (by omega) (fun x => nm_r (nI_1 k) (tl_mix 3 (by omega) (by omega) (fun j _ => br_c (fun _ => ?_) (fun _ => ?_))))
  · exact tw_543 hv hv' hL hB hJ hJ' hgN hN (by omega) ha ha' hb hs hZ _ _ _ _ _
  · exact tw_543 hv hv' hL hB hJ hJ' hgN hN (by omega) ha ha' hb hs hZ _ _ _ _ _
theorem tw_467 (hv : 4 ≤ v) (hv' : v ≤ 6) (hL : L ≤ 260) (hB : B < 100000) (hJ : tq_HJ J84 r B) (hJ' : tq_H13 J322 g N B) (hgN : g < N) (hN : N ≤ 16) (hk : k + 1 + 4 * (N - (g + 1)) + 196 ≤ B) (ha : 2 ≤ a) (ha' : a ≤ 4) (hb : b ≤ 3 + g) (hs : sz < 100) (hZ : tq_Z (vc, al, ll, ac, lc, ph, cu, cf, M, oc, W, K, S, ob)) (x12 x15 x16 z0 : Int32) : wL_law_467 post L xs J84 J322 (nI k) (nI v) (nI sz) (nI a) (nI b) (nI r) x12 (nI g) x15 x16 z0 kc ks vc al ll ac lc ph cu cf M oc W K S ob := by
  unfold wL_law_467
  have na : ¬ nI a = 0 := nI_ne0 (by omega) (by omega)
  refine tl_fals (fun _ => ⟨na, tl_fals (fun _ => br_c (fun _ => ?_) (fun _ => ⟨na, tl_fals (fun _ => ?_)⟩))⟩)
  · exact tw_519 hv hv' hL hB hJ hJ' hgN hN hk ha ha' hb hs hZ _ _ _ _
  · exact tw_519 hv hv' hL hB hJ hJ' hgN hN hk ha ha' hb hs hZ _ _ _ _
theorem tw_396 (hv : 4 ≤ v) (hv' : v ≤ 6) (hL : L ≤ 260) (hB : B < 100000) (hJ : tq_HJ J84 r B) (hJ' : tq_H13 J322 g N B) (hgN : g < N) (hN : N ≤ 16) (hk : k + 3 + 4 * (N - (g + 1)) + 196 ≤ B) (ha : 2 ≤ a) (ha' : a ≤ 4) (hb : b ≤ 3 + g) (hs : sz < 100) (hZ : tq_Z (vc, al, ll, ac, lc, ph, cu, cf, M, oc, W, K, S, ob)) (x12 x15 : Int32) : wL_law_396 post L xs J84 J322 (nI k) (nI v) (nI sz) (nI a) (nI b) (nI r) x12 (nI g) x15 kc ks vc al ll ac lc ph cu cf M oc W K S ob := by
  unfold wL_law_396
  refine br_c (fun _ => ?_) (fun _ => tw_573 hv hv' hL hB hJ (by omega) ha ha' (by omega) hs hZ)
  refine tl_cell hL (by omega) (fun x => nm_r (nI_1 k) (tl_mix a (by omega) (by omega) (fun j _ => br_c (fun _ => ?_) (fun _ => br_c (fun _ => br_c (fun _ => ?_) (fun _ => ?_)) (fun _ => ?_)))))
  · refine tl_cell hL (by omega) (fun x => nm_r (nI_1 (k + 1)) (tl_mix 4 (by omega) (by omega) (fun j _ => br_c (fun _ => ?_) (fun _ => ?_))))
    · exact tw_467 hv hv' hL hB hJ hJ' hgN hN (by omega) ha ha' hb hs hZ _ _ _ _
    · exact tw_467 hv hv' hL hB hJ hJ' hgN hN (by omega) ha ha' hb hs hZ _ _ _ _
  · unfold wL_law_466
    exact tw_467 hv hv' hL hB hJ hJ' hgN hN (by omega) ha ha' hb hs hZ _ _ _ _
  · exact tw_467 hv hv' hL hB hJ hJ' hgN hN (by omega) ha ha' hb hs hZ _ _ _ _
  · unfold wL_law_466
    exact tw_467 hv hv' hL hB hJ hJ' hgN hN (by omega) ha ha' hb hs hZ _ _ _ _
theorem tw_351 (hv : 4 ≤ v) (hv' : v ≤ 6) (hL : L ≤ 260) (hB : B < 100000) (hJ : tq_HJ J84 r B) (hJ' : tq_H13 J322 g N B) (hgN : g < N) (hN : N ≤ 16) (hk : k + 3 + 4 * (N - (g + 1)) + 196 ≤ B) (ha : 2 ≤ a) (ha' : a ≤ 4) (hb : b ≤ 3 + g) (hs : sz < 100) (hZ : tq_Z (vc, al, ll, ac, lc, ph, cu, cf, M, oc, W, K, S, ob)) (x12 x14 : Int32) : ∀ (d x fu : Nat) (x15 : Int32), x + d = sz → d < fu → wL_law_351 post L xs J84 J322 (nI k) (nI v) (nI sz) (nI a) (nI b) (nI r) x12 (nI g) x14 kc ks vc al ll ac lc ph cu cf M oc W K S ob fu x15 (nI x) := by
  intro d
  induction d with
  | zero =>
    intro x fu x15 hx hf
    obtain ⟨fu, rfl⟩ : ∃ k, fu = k + 1 := ⟨fu - 1, by omega⟩
    exact br_t (nI_le (by omega) (by omega)) (tw_396 hv hv' hL hB hJ hJ' hgN hN hk ha ha' hb hs hZ _ _)
  | succ d ih =>
    intro x fu x15 hx hf
    obtain ⟨fu, rfl⟩ : ∃ k, fu = k + 1 := ⟨fu - 1, by omega⟩
    refine br_f (nI_ge (by omega) (by omega)) (br_c (fun _ => tw_396 hv hv' hL hB hJ hJ' hgN hN hk ha ha' hb hs hZ _ _) (fun _ => nm_e ?_))
    have n0 := ih (x + 1) fu x15 (by omega) (by omega)
    have n1 := fun y => ih (x + 1) fu y (by omega) (by omega)
    obtain ⟨V, A, Lm, n, m, cu', ph', cf', W', K', S', M', oc', ob', e, hQ⟩ := hZ
    rw [Prod.mk.injEq, Prod.mk.injEq, Prod.mk.injEq, Prod.mk.injEq, Prod.mk.injEq, Prod.mk.injEq, Prod.mk.injEq, Prod.mk.injEq, Prod.mk.injEq, Prod.mk.injEq, Prod.mk.injEq, Prod.mk.injEq, Prod.mk.injEq] at e
    obtain ⟨rfl, rfl, rfl, rfl, rfl, rfl, rfl, rfl, rfl, rfl, rfl, rfl, rfl, rfl⟩ := e
    exact tq_holds (w := 0) hQ (by omega) _ (fun _ => br_f (by decide) (nm_r (nI_1 x) (n1 _))) (br_t rfl (nm_r (nI_1 x) n0))
theorem tw_322 (hv : 4 ≤ v) (hv' : v ≤ 6) (hL : L ≤ 260) (hB : B < 100000) (hJ : tq_HJ J84 r B) (hN : N ≤ 16) (ha : 2 ≤ a) (ha' : a ≤ 4) (hs0 : 0 < sz) (hs : sz < 100) : ∀ (d g fu k b : Nat) (vc al ll ac lc ph cu cf M oc : Int32) (W K S ob : Nat → Int32), tq_Z (vc, al, ll, ac, lc, ph, cu, cf, M, oc, W, K, S, ob) → g + d = N → d < fu → k + 4 * (N - g) + 196 ≤ B → b ≤ 3 + g → wL_law_322 post L xs J84 (nI v) (nI sz) (nI a) (nI r) (nI N) kc ks fu (nI k) (nI b) (nI g) vc al ll ac lc ph cu cf M oc W K S ob := by
  intro d
  induction d with
  | zero =>
    intro g fu k b vc al ll ac lc ph cu cf M oc W K S ob hZ hg hf hk hb
    obtain ⟨fu, rfl⟩ : ∃ k, fu = k + 1 := ⟨fu - 1, by omega⟩
    exact br_t (nI_le (by omega) (by omega)) (tw_573 hv hv' hL hB hJ (by omega) ha ha' (by omega) hs hZ)
  | succ d ih =>
    intro g fu k b vc al ll ac lc ph cu cf M oc W K S ob hZ hg hf hk hb
    obtain ⟨fu, rfl⟩ : ∃ k, fu = k + 1 := ⟨fu - 1, by omega⟩
    have hJ' : tq_H13 (wL_law_322 post L xs J84 (nI v) (nI sz) (nI a) (nI r) (nI N) kc ks fu) g N B := by
      intro k b vc al ll ac lc ph cu cf M oc W K S ob h1 h2 h3
      exact ih (g + 1) fu k b _ _ _ _ _ _ _ _ _ _ _ _ _ _ h3 (by omega) (by omega) (by omega) (by omega)
    refine br_f (nI_ge (by omega) (by omega)) ?_
    refine tl_cell hL (by omega) (fun x => nm_r (nI_1 k) (tl_mix sz hs0 (by omega) (fun j _ => ⟨sz + 1, ?_⟩)))
    exact tw_351 hv hv' hL hB hJ hJ' (by omega) hN (by omega) ha ha' hb hs hZ _ _ sz 0 (sz + 1) _ (by omega) (by omega)
theorem tw_254 {J149 : tq_J13} {i : Nat} (hJ' : ∀ {b : Nat} {vc al ll ac lc ph cu cf M oc : Int32} {W K S ob : Nat → Int32}, b ≤ i + 1 → tq_Z (vc, al, ll, ac, lc, ph, cu, cf, M, oc, W, K, S, ob) → J149 (nI k) (nI b) (nI (i + 1)) vc al ll ac lc ph cu cf M oc W K S ob) (hb : b ≤ i) (hZ : tq_Z (vc, al, ll, ac, lc, ph, cu, cf, M, oc, W, K, S, ob)) (x2 x6 x8 x10 x11 x13 x14 x15 z0 : Int32) : wL_law_254 post L xs J84 J149 (nI k) x2 x6 x8 (nI b) x10 x11 (nI i) x13 x14 x15 z0 kc ks vc al ll ac lc ph cu cf M oc W K S ob := by
  unfold wL_law_254
  refine tq_axiom hZ (fun q u' hZ' => ?_) _ _ _ _
  obtain ⟨vc, al, ll, ac, lc, ph, cu, cf, M, oc, W, K, S, ob⟩ := u'
  exact br_c (fun _ => nm_r (nI_1 i) (hJ' (by omega) hZ')) (fun _ => nm_r (nI_1 b) (nm_r (nI_1 i) (hJ' (by omega) hZ')))
theorem tw_149 {lo : Nat} (hlo : lo ≤ 3) (hv : 4 ≤ v) (hv' : v ≤ 6) (hL : L ≤ 260) (hB : B < 100000) (hJ : tq_HJ J84 r B) (ha : 2 ≤ a) (ha' : a ≤ 4) (hs0 : 0 < sz) (hs : sz < 100) : ∀ (d i fu k b : Nat) (vc al ll ac lc ph cu cf M oc : Int32) (W K S ob : Nat → Int32), tq_Z (vc, al, ll, ac, lc, ph, cu, cf, M, oc, W, K, S, ob) → i + d = lo → d < fu → k + 5 * (lo - i) + 2 + 64 + 196 ≤ B → b ≤ i → wL_law_149 post L xs J84 (nI v) (nI sz) (nI a) (nI r) (nI lo) kc ks fu (nI k) (nI b) (nI i) vc al ll ac lc ph cu cf M oc W K S ob := by
  intro d
  induction d with
  | zero =>
    intro i fu k b vc al ll ac lc ph cu cf M oc W K S ob hZ hi hf hk hb
    obtain ⟨fu, rfl⟩ : ∃ k, fu = k + 1 := ⟨fu - 1, by omega⟩
    refine br_t (nI_le (by omega) (by omega)) ?_
    refine tl_cell hL (by omega) (fun x => nm_r (nI_1 k) (tl_mix 6 (by omega) (by omega) (fun j _ => br_c (fun _ => ?_) (fun _ => ⟨17, ?_⟩))))
    · refine tl_cell hL (by omega) (fun x => nm_r (nI_1 (k + 1)) (tl_mix 6 (by omega) (by omega) (fun N hN => ⟨N + 1, ?_⟩)))
      exact tw_322 hv hv' hL hB hJ (by omega) ha ha' hs0 hs N 0 (N + 1) (k + 1 + 1) b _ _ _ _ _ _ _ _ _ _ _ _ _ _ hZ (by omega) (by omega) (by omega) (by omega)
    · exact tw_322 (N := 16) hv hv' hL hB hJ (by omega) ha ha' hs0 hs 16 0 17 (k + 1) b _ _ _ _ _ _ _ _ _ _ _ _ _ _ hZ (by omega) (by omega) (by omega) (by omega)
  | succ d ih =>
    intro i fu k b vc al ll ac lc ph cu cf M oc W K S ob hZ hi hf hk hb
    obtain ⟨fu, rfl⟩ : ∃ k, fu = k + 1 := ⟨fu - 1, by omega⟩
    have hJ' : ∀ k', k' + 5 * (lo - (i + 1)) + 2 + 64 + 196 ≤ B → ∀ {b : Nat} {vc al ll ac lc ph cu cf M oc : Int32} {W K S ob : Nat → Int32}, b ≤ i + 1 → tq_Z (vc, al, ll, ac, lc, ph, cu, cf, M, oc, W, K, S, ob) → wL_law_149 post L xs J84 (nI v) (nI sz) (nI a) (nI r) (nI lo) kc ks fu (nI k') (nI b) (nI (i + 1)) vc al ll ac lc ph cu cf M oc W K S ob := by
      intro k' h0 b vc al ll ac lc ph cu cf M oc W K S ob h1 h2
      exact ih (i + 1) fu k' b _ _ _ _ _ _ _ _ _ _ _ _ _ _ h2 (by omega) (by omega) (by omega) (by omega)
    have e2 : (2 : Int32) * nI v = nI (2 * v) := pk_mul 2 v
    refine br_f (nI_ge (by omega) (by omega)) ?_
    refine tl_cell hL (by omega) (fun x => nm_r (nI_1 k) (tl_mix (2 * v) (by omega) (by omega) (fun j _ => tl_signed (fun q => ?_)) e2))
    refine tl_cell hL (by omega) (fun x => nm_r (nI_1 (k + 1)) (tl_mix (2 * v) (by omega) (by omega) (fun j _ => tl_signed (fun q => ?_)) e2))
    refine tl_cell hL (by omega) (fun x => nm_r (nI_1 (k + 1 + 1)) (tl_mix (2 * v) (by omega) (by omega) (fun j _ => tl_signed (fun q => ?_)) e2))
    refine tl_cell hL (by omega) (fun x => nm_r (nI_1 (k + 1 + 1 + 1)) (tl_mix 2 (by omega) (by omega) (fun j _ => br_c (fun _ => ?_) (fun _ => ?_))))
    · exact tw_254 (hJ' _ (by omega)) hb hZ _ _ _ _ _ _ _ _ _
    · refine tl_cell hL (by omega) (fun x => nm_r (nI_1 (k + 1 + 1 + 1 + 1)) (tl_mix (2 * v) (by omega) (by omega) (fun j _ => tl_signed (fun q => ?_)) e2))
      exact tw_254 (hJ' _ (by omega)) hb hZ _ _ _ _ _ _ _ _ _
theorem tc_half : ∀ j, j < 4 → ∃ a, 2 ≤ a ∧ a ≤ 4 ∧ (2 : Int32) + ((nI j + 1) / 2) = nI a := by
  intro j hj
  have hj4 : j = 0 ∨ j = 1 ∨ j = 2 ∨ j = 3 := by omega
  rcases hj4 with rfl | rfl | rfl | rfl
  · exact ⟨2, by omega, by omega, by decide⟩
  · exact ⟨3, by omega, by omega, by decide⟩
  · exact ⟨3, by omega, by omega, by decide⟩
  · exact ⟨4, by omega, by omega, by decide⟩
theorem tw_102 (hv : 4 ≤ v) (hv' : v ≤ 6) (hL : L ≤ 260) (hB : B < 100000) (hJ : tq_HJ J84 r B) (hk : k + 300 ≤ B) (ha : 2 ≤ a) (ha' : a ≤ 4) (hb : b ≤ 19) (hs0 : 0 < sz) (hs : sz < 100) (hZ : tq_Z (vc, al, ll, ac, lc, ph, cu, cf, M, oc, W, K, S, ob)) : wL_law_102 post L xs J84 (nI k) (nI v) (nI sz) x7 (nI a) (nI b) (nI r) kc ks vc al ll ac lc ph cu cf M oc W K S ob := by
  unfold wL_law_102
  refine br_c (fun _ => tw_573 hv hv' hL hB hJ (by omega) ha ha' hb hs hZ) (fun _ => ?_)
  refine tl_cell hL (by omega) (fun x => nm_r (nI_1 k) (tl_mix 4 (by omega) (by omega) (fun j hj => ⟨by decide, ?_⟩)))
  obtain ⟨a2, p1, p2, p3⟩ := tc_half j hj
  refine nm_r p3 ?_
  refine tl_cell hL (by omega) (fun x => nm_r (nI_1 (k + 1)) (tl_mix 4 (by omega) (by omega) (fun lo hlo => ⟨lo + 1, ?_⟩)))
  exact tw_149 (by omega) hv hv' hL hB hJ p1 p2 hs0 hs lo 0 (lo + 1) (k + 1 + 1) 0 _ _ _ _ _ _ _ _ _ _ _ _ _ _ hZ (by omega) (by omega) (by omega) (by omega)
theorem tw_84 (hp : post 1) (hv : 4 ≤ v) (hv' : v ≤ 6) (hL : L ≤ 260) (hs0 : 0 < sz) (hs : sz < 100) : ∀ (d r fu k a b : Nat) (x7 vc al ll ac lc ph cu cf M oc : Int32) (W K S ob : Nat → Int32), tq_Z (vc, al, ll, ac, lc, ph, cu, cf, M, oc, W, K, S, ob) → r + d = 4 → d < fu → k ≤ 3 + 300 * r → 2 ≤ a → a ≤ 4 → b ≤ 19 → wL_law_84 post L xs (nI v) (nI sz) kc ks fu (nI k) x7 (nI a) (nI b) (nI r) vc al ll ac lc ph cu cf M oc W K S ob := by
  intro d
  induction d with
  | zero =>
    intro r fu k a b x7 vc al ll ac lc ph cu cf M oc W K S ob hZ hr hf hk ha ha' hb
    obtain ⟨fu, rfl⟩ : ∃ k, fu = k + 1 := ⟨fu - 1, by omega⟩
    have e : r = 4 := by omega
    subst e
    exact br_t (nI_le (a := 4) (b := 4) (by omega) (by omega)) hp
  | succ d ih =>
    intro r fu k a b x7 vc al ll ac lc ph cu cf M oc W K S ob hZ hr hf hk ha ha' hb
    obtain ⟨fu, rfl⟩ : ∃ k, fu = k + 1 := ⟨fu - 1, by omega⟩
    have hJ : tq_HJ (wL_law_84 post L xs (nI v) (nI sz) kc ks fu) r (3 + 300 * (r + 1)) := by
      intro k a b x7 vc al ll ac lc ph cu cf M oc W K S ob h1 h2 h3 h4 h5
      exact ih (r + 1) fu k a b x7 _ _ _ _ _ _ _ _ _ _ _ _ _ _ h5 (by omega) (by omega) h1 h2 h3 h4
    have go := tw_102 (post := post) (L := L) (xs := xs) (kc := kc) (ks := ks) (x7 := x7) hv hv' hL (by omega) hJ (by omega : k + 300 ≤ 3 + 300 * (r + 1)) ha ha' hb hs0 hs hZ
    exact br_f (nI_ge (b := 4) (by omega) (by decide)) (br_c (fun _ => go) (fun _ => br_c (fun _ => hp) (fun _ => go)))
end
theorem tc_sz : ∀ v, v < 7 → ((1 : Int32) <<< (nI v &&& 31)) = nI (2 ^ v) := by decide +kernel
theorem i_vc (xs : Nat → Int32) (L : Nat) (hL : L ≤ 260) : wpL_law (fun r => r = 1) L xs := by
  unfold wpL_law
  refine tl_cell (k := 0) hL (by omega) (fun x => nm_r (e' := nI 1) (by decide) (tl_mix 3 (by omega) (by omega) (fun v hv => nm_r (e' := nI (4 + v)) (nI_add 4 v) ?_)))
  refine tl_cell hL (by omega) (fun x => nm_r (nI_1 1) (tl_mix 3 (by omega) (by omega) (fun p hp => nm_r (e' := nI (11 + p)) (nI_add 11 p) ?_)))
  refine tl_cell hL (by omega) (fun x => nm_r (nI_1 2) (tl_mix 6 (by omega) (by omega) (fun q hq => nm_r (e' := nI (8 + q)) (nI_add 8 q) ?_)))
  refine ⟨4, 168, by omega, by omega, ?_⟩
  obtain ⟨V, v1, v2, hV⟩ := tc_clm (nI (4 + v)) 8 (by omega) (by omega)
  obtain ⟨A, a1, a2, hA⟩ := tc_clm (nI (11 + p)) 12 (by omega) (by omega)
  obtain ⟨Lm, l1, l2, hLm⟩ := tc_clm (nI (8 + q)) 12 (by omega) (by omega)
  have fin : tq_Z (nI V, nI A, nI Lm, 0, 0, 0, 0, (-1), 0, 0, (fun _ => 0), (fun _ => 0), (fun _ => 0), (fun _ => 0)) :=
    tq_mk (n := 0) (m := 0) (cu := 0) ⟨⟨⟨v1, v2⟩, ⟨by omega, by omega⟩, fun i hi => absurd hi (by omega), fun i _ h2 => absurd h2 (by omega), fun i hi => absurd hi (by omega), fun i _ h2 => absurd h2 (by omega)⟩, ⟨by omega, a2, by omega, l2⟩, fun i _ h => by rw [b_0] at h; exact absurd h (by decide), by omega, Or.inl rfl⟩
  have szv : 2 ^ (4 + v) < 100 ∧ 0 < 2 ^ (4 + v) := by
    have hv3 : v = 0 ∨ v = 1 ∨ v = 2 := by omega
    rcases hv3 with rfl | rfl | rfl <;> decide
  have last : ∃ fu84 : Nat, wL_law_84 (fun r => r = 1) L xs (nI (4 + v)) (nI (2 ^ (4 + v))) (1 + 4) (14 + 168) fu84 (nI 3) 1 3 0 0 (nI V) (nI A) (nI Lm) 0 0 0 0 (-1) 0 0 (fun _ => 0) (fun _ => 0) (fun _ => 0) (fun _ => 0) :=
    ⟨5, tw_84 (post := fun r => r = 1) (v := 4 + v) (sz := 2 ^ (4 + v)) rfl (by omega) (by omega) hL szv.2 szv.1 4 0 5 3 3 0 1 _ _ _ _ _ _ _ _ _ _ _ _ _ _ fin (by omega) (by omega) (by omega) (by omega) (by omega) (by omega)⟩
  unfold wpX_init
  refine ⟨by omega, by omega, by omega, by omega, by omega, by omega, by omega, by omega, ?_⟩
  refine tc_cl3 (P := fun r_17 => wpX_clamp (fun r_18 => (wpX_clamp (fun r_19 => ∀ y, y = (1 : Int32) <<< (nI (4 + v) &&& 31) → ∃ fu84 : Nat, wL_law_84 (fun r => r = 1) L xs (nI (4 + v)) y (1 + 4) (14 + 168) fu84 (nI 3) 1 3 0 0 r_17 r_18 r_19 0 0 0 0 (-1) 0 0 (fun _ => 0) (fun _ => 0) (fun _ => 0) (fun _ => 0)) () (nI (8 + q)) 12)) () (nI (11 + p)) 12) hV ?_
  refine tc_cl3 (P := fun r_18 => (wpX_clamp (fun r_19 => ∀ y, y = (1 : Int32) <<< (nI (4 + v) &&& 31) → ∃ fu84 : Nat, wL_law_84 (fun r => r = 1) L xs (nI (4 + v)) y (1 + 4) (14 + 168) fu84 (nI 3) 1 3 0 0 (nI V) r_18 r_19 0 0 0 0 (-1) 0 0 (fun _ => 0) (fun _ => 0) (fun _ => 0) (fun _ => 0)) () (nI (8 + q)) 12)) hA ?_
  refine tc_cl3 (P := fun r_19 => ∀ y, y = (1 : Int32) <<< (nI (4 + v) &&& 31) → ∃ fu84 : Nat, wL_law_84 (fun r => r = 1) L xs (nI (4 + v)) y (1 + 4) (14 + 168) fu84 (nI 3) 1 3 0 0 (nI V) (nI A) r_19 0 0 0 0 (-1) 0 0 (fun _ => 0) (fun _ => 0) (fun _ => 0) (fun _ => 0)) hLm ?_
  exact nm_r (tc_sz (4 + v) (by omega)) last
end
