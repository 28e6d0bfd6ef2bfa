/-! ===== literals and sets of literals: places 0..16 of the reference's rows, bits 0..15 of the class's sets ===== -/
def tc_bi (b : Bool) : Int32 := if b = true then 1 else 0
/-- the literal with the place a (8 is no literal) -/
def tc_w (a : Nat) : Int32 := nI a - 8
/-- its bit -/
def tc_b (a : Nat) : Nat := if 8 < a then a - 9 else 15 - a
/-- the set of one literal, as the class makes it -/
def tc_lb (w : Int32) : Int32 := if w = 0 then 0 else if w ≤ 0 then (1 : Int32) <<< ((8 - w - 1) &&& 31) else (1 : Int32) <<< ((w - 1) &&& 31)
def tc_sl (w0 w1 w2 w3 : Int32) : Int32 := tc_lb w0 ||| tc_lb w1 ||| tc_lb w2 ||| tc_lb w3
def tc_ng (x : Int32) : Int32 := ((x &&& 255) <<< ((8 : Int32) &&& 31)) ||| ((x >>> ((8 : Int32) &&& 31)) &&& 255)
theorem tc_w1 : ∀ a, a < 17 → (8 : Int32) + tc_w a = nI a ∧ (8 : Int32) - tc_w a = nI (16 - a) ∧ (tc_w a = 0 ↔ a = 8) ∧ - tc_w a = tc_w (16 - a) := by decide +kernel
theorem tc_winj {a b : Nat} (ha : a < 17) (hb : b < 17) : tc_w a = tc_w b ↔ a = b := by
  constructor
  · intro e
    have h1 := (tc_w1 a ha).1
    rw [e, (tc_w1 b hb).1] at h1
    exact ((nI_eq (by omega) (by omega)).mp h1).symm
  · intro e
    rw [e]
theorem tc_lbb : ∀ a, a < 17 → ∀ i, i < 32 → bt (tc_lb (tc_w a)) i = decide (a ≠ 8 ∧ i = tc_b a) := by decide +kernel
theorem tc_blt {a : Nat} (h : a < 17) : tc_b a < 16 := by
  unfold tc_b
  split <;> omega
theorem tc_binj {a b : Nat} (ha : a < 17) (hb : b < 17) (h8 : a ≠ 8) (h8' : b ≠ 8) (h : tc_b a = tc_b b) : a = b := by
  unfold tc_b at h
  split at h <;> split at h <;> omega
theorem tc_ngb (x : Int32) {i : Nat} (hi : i < 32) : bt (tc_ng x) i = if i < 8 then bt x (i + 8) else if i < 16 then bt x (i - 8) else false := by
  unfold tc_ng
  rw [b_or, b_shl8 _ hi, b_and, b_and, b_sshr8 _ hi, b_255, b_255]
  by_cases h8 : i < 8
  · have h1 : 8 + i < 32 := by omega
    have h2 : ¬ 8 ≤ i := by omega
    rw [if_pos h8, if_pos h1, decide_eq_false h2, decide_eq_true h8, Nat.add_comm]
    simp
  · have h2 : 8 ≤ i := by omega
    rw [if_neg h8, decide_eq_true h2, decide_eq_false h8]
    by_cases h16 : i < 16
    · rw [if_pos h16, decide_eq_true (by omega : i - 8 < 8)]
      simp
    · rw [if_neg h16, decide_eq_false (by omega : ¬ i - 8 < 8)]
      simp
theorem tc_ngl (x : Int32) {a : Nat} (ha : a < 17) (h8 : a ≠ 8) : bt (tc_ng x) (tc_b a) = bt x (tc_b (16 - a)) := by
  have h := tc_blt ha
  rw [tc_ngb x (by omega)]
  unfold tc_b
  by_cases hp : 8 < a
  · rw [if_pos hp, if_neg (by omega : ¬ 8 < 16 - a), if_pos (by omega : a - 9 < 8)]
    exact congrArg (bt x) (by omega)
  · rw [if_neg hp, if_pos (by omega : 8 < 16 - a), if_neg (by omega : ¬ 15 - a < 8), if_pos (by omega : 15 - a < 16)]
    exact congrArg (bt x) (by omega)
theorem tc_ngor (x y : Int32) : tc_ng (x ||| y) = tc_ng x ||| tc_ng y := by
  apply b_ext
  intro i hi
  rw [b_or, tc_ngb _ hi, tc_ngb _ hi, tc_ngb _ hi]
  by_cases h8 : i < 8
  · rw [if_pos h8, if_pos h8, if_pos h8, b_or]
  · rw [if_neg h8, if_neg h8, if_neg h8]
    by_cases h16 : i < 16
    · rw [if_pos h16, if_pos h16, if_pos h16, b_or]
    · rw [if_neg h16, if_neg h16, if_neg h16]; rfl
/-- no bit beyond the sixteenth -/
def tc_lo (x : Int32) : Prop := ∀ i, 16 ≤ i → bt x i = false
theorem tc_lo0 : tc_lo 0 := fun i _ => b_0 i
theorem tc_loor {x y : Int32} (h : tc_lo x) (g : tc_lo y) : tc_lo (x ||| y) := fun i hi => by rw [b_or, h i hi, g i hi]; rfl
theorem tc_loand {x y : Int32} (h : tc_lo x) : tc_lo (x &&& y) := fun i hi => by rw [b_and, h i hi]; rfl
theorem tc_long (x : Int32) : tc_lo (tc_ng x) := fun i hi => by
  by_cases h : i < 32
  · rw [tc_ngb x h, if_neg (by omega), if_neg (by omega)]
  · exact b_big (by omega)
theorem tc_ngng {x : Int32} (h : tc_lo x) : tc_ng (tc_ng x) = x := by
  apply b_ext
  intro i hi
  rw [tc_ngb _ hi]
  by_cases h8 : i < 8
  · rw [if_pos h8, tc_ngb _ (by omega), if_neg (by omega), if_pos (by omega), Nat.add_sub_cancel]
  · rw [if_neg h8]
    by_cases h16 : i < 16
    · rw [if_pos h16, tc_ngb _ (by omega), if_pos (by omega), Nat.sub_add_cancel (by omega)]
    · rw [if_neg h16, h i (by omega)]
theorem tc_lolb {a : Nat} (ha : a < 17) : tc_lo (tc_lb (tc_w a)) := fun i hi => by
  by_cases h : i < 32
  · rw [tc_lbb a ha i h, decide_eq_false]
    have := tc_blt ha
    omega
  · exact b_big (by omega)
theorem tc_losl {a : Nat → Nat} (h : ∀ s, s < 4 → a s < 17) : tc_lo (tc_sl (tc_w (a 0)) (tc_w (a 1)) (tc_w (a 2)) (tc_w (a 3))) :=
  tc_loor (tc_loor (tc_loor (tc_lolb (h 0 (by omega))) (tc_lolb (h 1 (by omega)))) (tc_lolb (h 2 (by omega)))) (tc_lolb (h 3 (by omega)))
theorem tc_slb {a : Nat → Nat} (h : ∀ s, s < 4 → a s < 17) {j : Nat} (hj : j < 32) : bt (tc_sl (tc_w (a 0)) (tc_w (a 1)) (tc_w (a 2)) (tc_w (a 3))) j = true ↔ ∃ s, s < 4 ∧ a s ≠ 8 ∧ j = tc_b (a s) := by
  unfold tc_sl
  rw [b_or, b_or, b_or, tc_lbb _ (h 0 (by omega)) _ hj, tc_lbb _ (h 1 (by omega)) _ hj, tc_lbb _ (h 2 (by omega)) _ hj, tc_lbb _ (h 3 (by omega)) _ hj]
  simp only [Bool.or_eq_true, decide_eq_true_eq]
  constructor
  · rintro (((e | e) | e) | e)
    · exact ⟨0, by omega, e⟩
    · exact ⟨1, by omega, e⟩
    · exact ⟨2, by omega, e⟩
    · exact ⟨3, by omega, e⟩
  · rintro ⟨s, hs, e⟩
    have hs4 : s = 0 ∨ s = 1 ∨ s = 2 ∨ s = 3 := by omega
    rcases hs4 with rfl | rfl | rfl | rfl
    · exact Or.inl (Or.inl (Or.inl e))
    · exact Or.inl (Or.inl (Or.inr e))
    · exact Or.inl (Or.inr e)
    · exact Or.inr e
theorem tc_andn (x y : Int32) {i : Nat} (hi : i < 32) : bt (x &&& (y ^^^ (-1))) i = (bt x i && !bt y i) := by
  rw [b_and, b_xor, b_m1 i hi, Bool.xor_true]
theorem tc_z (x : Int32) : x = 0 ↔ ∀ i, i < 32 → bt x i = false :=
  ⟨fun h i _ => by rw [h]; exact b_0 i, fun h => b_ext fun i hi => by rw [h i hi, b_0]⟩
theorem tc_zand (x y : Int32) : x &&& y = 0 ↔ ∀ i, i < 32 → bt x i = true → bt y i = true → False := by
  rw [tc_z]
  constructor
  · intro h i hi a b
    have := h i hi
    rw [b_and, a, b] at this
    exact absurd this (by decide)
  · intro h i hi
    rw [b_and]
    cases a : bt x i
    · rfl
    · cases b : bt y i
      · rfl
      · exact absurd (h i hi a b) id
theorem tc_nat2 : ∀ m : Nat, m &&& (m - 1) = 0 → ∀ i j, m.testBit i = true → m.testBit j = true → i = j := by
  intro m
  induction m using Nat.strongRecOn with
  | ind m ih =>
    intro h i j hi hj
    have hd : (m &&& (m - 1)) / 2 = m / 2 &&& (m - 1) / 2 := Nat.and_div_two
    rw [h] at hd
    by_cases h0 : m = 0
    · subst h0
      rw [Nat.zero_testBit] at hi
      exact absurd hi (by decide)
    by_cases hp : m % 2 = 0
    · have e : (m - 1) / 2 = m / 2 - 1 := by omega
      rw [e] at hd
      have hz : (m / 2) &&& (m / 2 - 1) = 0 := hd.symm
      cases i with
      | zero =>
        rw [Nat.testBit_zero, decide_eq_false (by omega)] at hi
        exact absurd hi (by decide)
      | succ i =>
        cases j with
        | zero =>
          rw [Nat.testBit_zero, decide_eq_false (by omega)] at hj
          exact absurd hj (by decide)
        | succ j =>
          rw [Nat.testBit_succ] at hi hj
          rw [ih (m / 2) (by omega) hz i j hi hj]
    · have e : (m - 1) / 2 = m / 2 := by omega
      rw [e, Nat.and_self] at hd
      have hm : m / 2 = 0 := hd.symm
      cases i with
      | zero =>
        cases j with
        | zero => rfl
        | succ j =>
          rw [Nat.testBit_succ, hm, Nat.zero_testBit] at hj
          exact absurd hj (by decide)
      | succ i =>
        rw [Nat.testBit_succ, hm, Nat.zero_testBit] at hi
        exact absurd hi (by decide)
theorem tc_pw {x : Int32} (h : x ≠ 0) (h1 : x &&& (x - 1) = 0) {i j : Nat} (hi : bt x i = true) (hj : bt x j = true) : i = j := by
  have hx : x.toBitVec.toNat ≠ 0 := by
    intro e
    apply h
    apply Int32.toBitVec_inj.mp
    exact BitVec.eq_of_toNat_eq e
  have hl := x.toBitVec.isLt
  have e1 : (x - 1).toBitVec.toNat = x.toBitVec.toNat - 1 := by
    show (x.toBitVec - 1#32).toNat = _
    rw [BitVec.toNat_sub]
    simp only [BitVec.toNat_ofNat]
    omega
  have e2 : x.toBitVec.toNat &&& (x.toBitVec.toNat - 1) = 0 := by
    rw [← e1, ← BitVec.toNat_and, ← Int32.toBitVec_and, h1]
    rfl
  exact tc_nat2 _ e2 i j hi hj
theorem tc_one : ∀ a, a < 17 → a ≠ 8 → tc_lb (tc_w a) ≠ 0 ∧ tc_lb (tc_w a) &&& (tc_lb (tc_w a) - 1) = 0 := by decide +kernel
/-! ===== the refutation, as the class goes through it ===== -/
/-- one clause looked at: none, a conflict; else the new set of false literals -/
def tc_st (F S : Int32) : Option Int32 :=
  if (S &&& (F ^^^ (-1))) &&& tc_ng F = 0 then
    (if S &&& (F ^^^ (-1)) = 0 then none
     else if (S &&& (F ^^^ (-1))) &&& ((S &&& (F ^^^ (-1))) - 1) = 0 then some (F ||| tc_ng (S &&& (F ^^^ (-1)))) else some F)
  else some F
def tc_fl (S : Nat → Int32) (cs : Int32) : Nat → Nat → Int32 → Option Int32
  | 0, _, F => some F
  | d + 1, i, F => if bt cs i = true then (match tc_st F (S i) with | none => none | some F' => tc_fl S cs d (i + 1) F') else tc_fl S cs d (i + 1) F
def tc_rd (S : Nat → Int32) (cs : Int32) : Nat → Int32 → Bool
  | 0, _ => false
  | r + 1, F => match tc_fl S cs 24 0 F with | none => true | some F' => tc_rd S cs r F'
def tc_rf (S : Nat → Int32) (cs T : Int32) : Bool := if T &&& tc_ng T = 0 then tc_rd S cs 9 T else true
theorem tc_fl0 {S : Nat → Int32} {cs : Int32} {d i : Nat} {F : Int32} (h : bt cs i = false) : tc_fl S cs (d + 1) i F = tc_fl S cs d (i + 1) F := by
  rw [tc_fl, h, if_neg (by decide)]
theorem tc_fln {S : Nat → Int32} {cs : Int32} {d i : Nat} {F : Int32} (h : bt cs i = true) (e : tc_st F (S i) = none) : tc_fl S cs (d + 1) i F = none := by
  rw [tc_fl, if_pos h, e]
theorem tc_fls {S : Nat → Int32} {cs : Int32} {d i : Nat} {F F' : Int32} (h : bt cs i = true) (e : tc_st F (S i) = some F') : tc_fl S cs (d + 1) i F = tc_fl S cs d (i + 1) F' := by
  rw [tc_fl, if_pos h, e]
theorem tc_flout {S : Nat → Int32} {cs : Int32} : ∀ (d i : Nat) (F : Int32), (∀ j, i ≤ j → j < i + d → bt cs j = false) → tc_fl S cs d i F = some F := by
  intro d
  induction d with
  | zero => intro i F _; rfl
  | succ d ih =>
    intro i F h
    rw [tc_fl0 (h i (by omega) (by omega))]
    exact ih (i + 1) F (fun j a b => h j (by omega) (by omega))
theorem tc_rdn {S : Nat → Int32} {cs : Int32} {r : Nat} {F : Int32} (e : tc_fl S cs 24 0 F = none) : tc_rd S cs (r + 1) F = true := by rw [tc_rd, e]
theorem tc_rds {S : Nat → Int32} {cs : Int32} {r : Nat} {F F' : Int32} (e : tc_fl S cs 24 0 F = some F') : tc_rd S cs (r + 1) F = tc_rd S cs r F' := by rw [tc_rd, e]
theorem tc_rdfix {S : Nat → Int32} {cs : Int32} {F : Int32} (e : tc_fl S cs 24 0 F = some F) : ∀ r, tc_rd S cs r F = false := by
  intro r
  induction r with
  | zero => rfl
  | succ r ih => rw [tc_rds e]; exact ih
/-! ===== one clause by its four places ===== -/
section
variable {a : Nat → Nat} {F S : Int32}
theorem tc_ob (h : ∀ s, s < 4 → a s < 17) (hS : S = tc_sl (tc_w (a 0)) (tc_w (a 1)) (tc_w (a 2)) (tc_w (a 3))) {j : Nat} (hj : j < 32) : bt (S &&& (F ^^^ (-1))) j = true ↔ ∃ s, s < 4 ∧ a s ≠ 8 ∧ j = tc_b (a s) ∧ bt F (tc_b (a s)) = false := by
  rw [tc_andn _ _ hj, Bool.and_eq_true, hS, tc_slb h hj, Bool.not_eq_true']
  constructor
  · rintro ⟨⟨s, h1, h2, h3⟩, h4⟩
    exact ⟨s, h1, h2, h3, by rw [← h3]; exact h4⟩
  · rintro ⟨s, h1, h2, h3, h4⟩
    exact ⟨⟨s, h1, h2, h3⟩, by rw [h3]; exact h4⟩
theorem tc_sat (h : ∀ s, s < 4 → a s < 17) (hS : S = tc_sl (tc_w (a 0)) (tc_w (a 1)) (tc_w (a 2)) (tc_w (a 3))) : (S &&& (F ^^^ (-1))) &&& tc_ng F = 0 ↔ ∀ s, s < 4 → a s ≠ 8 → bt F (tc_b (a s)) = false → bt F (tc_b (16 - a s)) = true → False := by
  rw [tc_zand]
  constructor
  · intro g s h1 h2 h3 h4
    have hb := tc_blt (h s h1)
    refine g (tc_b (a s)) (by omega) ((tc_ob h hS (by omega)).mpr ⟨s, h1, h2, rfl, h3⟩) ?_
    rw [tc_ngl F (h s h1) h2]
    exact h4
  · intro g i hi h1 h2
    obtain ⟨s, h3, h4, h5, h6⟩ := (tc_ob h hS hi).mp h1
    rw [h5, tc_ngl F (h s h3) h4] at h2
    exact g s h3 h4 h6 h2
theorem tc_stS (h : ∀ s, s < 4 → a s < 17) (hS : S = tc_sl (tc_w (a 0)) (tc_w (a 1)) (tc_w (a 2)) (tc_w (a 3))) {s : Nat} (h1 : s < 4) (h2 : a s ≠ 8) (h3 : bt F (tc_b (a s)) = false) (h4 : bt F (tc_b (16 - a s)) = true) : tc_st F S = some F := by
  unfold tc_st
  rw [if_neg]
  intro e
  exact (tc_sat h hS).mp e s h1 h2 h3 h4
theorem tc_stN (h : ∀ s, s < 4 → a s < 17) (hS : S = tc_sl (tc_w (a 0)) (tc_w (a 1)) (tc_w (a 2)) (tc_w (a 3))) (g : ∀ s, s < 4 → a s ≠ 8 → bt F (tc_b (a s)) = true) : tc_st F S = none := by
  unfold tc_st
  have e : S &&& (F ^^^ (-1)) = 0 := by
    rw [tc_z]
    intro i hi
    cases e : bt (S &&& (F ^^^ (-1))) i
    · rfl
    · obtain ⟨s, h3, h4, h5, h6⟩ := (tc_ob h hS hi).mp e
      rw [g s h3 h4] at h6
      exact absurd h6 (by decide)
  rw [if_pos, if_pos e]
  rw [e]
  exact (tc_zand 0 _).mpr (fun i _ z => by rw [b_0] at z; exact absurd z (by decide))
theorem tc_st1 (h : ∀ s, s < 4 → a s < 17) (hS : S = tc_sl (tc_w (a 0)) (tc_w (a 1)) (tc_w (a 2)) (tc_w (a 3))) {x : Nat} (hx : x < 17) (hx8 : x ≠ 8)
    (g : ∀ s, s < 4 → a s ≠ 8 → bt F (tc_b (a s)) = false → bt F (tc_b (16 - a s)) = false) (g1 : ∃ s, s < 4 ∧ a s = x ∧ bt F (tc_b x) = false) (g2 : ∀ s, s < 4 → a s ≠ 8 → bt F (tc_b (a s)) = false → a s = x) : tc_st F S = some (F ||| tc_ng (tc_lb (tc_w x))) := by
  have e : S &&& (F ^^^ (-1)) = tc_lb (tc_w x) := by
    apply b_ext
    intro i hi
    apply Bool.eq_iff_iff.mpr
    rw [tc_ob h hS hi, tc_lbb x hx i hi, decide_eq_true_eq]
    constructor
    · rintro ⟨s, h3, h4, h5, h6⟩
      rw [h5, g2 s h3 h4 h6]
      exact ⟨hx8, rfl⟩
    · rintro ⟨_, e⟩
      obtain ⟨s, h1, h2, h3⟩ := g1
      exact ⟨s, h1, by rw [h2]; exact hx8, by rw [h2]; exact e, by rw [h2]; exact h3⟩
  unfold tc_st
  have hs : (S &&& (F ^^^ (-1))) &&& tc_ng F = 0 := (tc_sat h hS).mpr (fun s h1 h2 h3 h4 => by rw [g s h1 h2 h3] at h4; exact absurd h4 (by decide))
  rw [if_pos hs, e, if_neg (tc_one x hx hx8).1, if_pos (tc_one x hx hx8).2]
theorem tc_st2 (h : ∀ s, s < 4 → a s < 17) (hS : S = tc_sl (tc_w (a 0)) (tc_w (a 1)) (tc_w (a 2)) (tc_w (a 3))) {s t : Nat} (hs : s < 4) (ht : t < 4) (hs8 : a s ≠ 8) (ht8 : a t ≠ 8) (hsF : bt F (tc_b (a s)) = false) (htF : bt F (tc_b (a t)) = false) (hne : a s ≠ a t) : tc_st F S = some F := by
  have b1 := tc_blt (h s hs)
  have b2 := tc_blt (h t ht)
  have o1 := (tc_ob (F := F) h hS (j := tc_b (a s)) (by omega)).mpr ⟨s, hs, hs8, rfl, hsF⟩
  have o2 := (tc_ob (F := F) h hS (j := tc_b (a t)) (by omega)).mpr ⟨t, ht, ht8, rfl, htF⟩
  have z : S &&& (F ^^^ (-1)) ≠ 0 := by
    intro e
    rw [e, b_0] at o1
    exact absurd o1 (by decide)
  unfold tc_st
  by_cases c : (S &&& (F ^^^ (-1))) &&& tc_ng F = 0
  · rw [if_pos c, if_neg z, if_neg]
    intro e
    exact hne (tc_binj (h s hs) (h t ht) hs8 ht8 (tc_pw z e o1 o2))
  · rw [if_neg c]
end
