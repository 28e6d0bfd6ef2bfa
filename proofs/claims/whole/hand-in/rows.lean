section
theorem pk_us {f : Nat → Int32} {k : Nat} {x : Int32} : upd f k x k = x := if_pos rfl
theorem pk_un {f : Nat → Int32} {k j : Nat} {x : Int32} (h : j ≠ k) : upd f k x j = f j := if_neg h
theorem pk_sub {a b : Nat} (h : b ≤ a) : nI a - nI b = nI (a - b) := by
  obtain ⟨c, rfl⟩ : ∃ c, a = c + b := ⟨a - b, by omega⟩
  rw [← nI_add, Int32.add_sub_cancel, Nat.add_sub_cancel]
theorem pk_m1 (n : Nat) : nI (n + 1) + (-1) = nI n := by
  rw [← nI_1, Int32.add_assoc, show (1 : Int32) + (-1) = 0 from rfl, Int32.add_zero]
theorem pk_mul (a b : Nat) : nI a * nI b = nI (a * b) := (Int32.ofNat_mul a b).symm
theorem pk_ix (x : Int32) {n : Nat} (hn : n < 2 ^ 31) : x < 0 ∨ nI n ≤ x ∨ ∃ j : Nat, j < n ∧ x = nI j := by
  by_cases h : x < 0
  · exact Or.inl h
  · obtain ⟨j, hj, rfl⟩ := nI_of h
    by_cases h2 : j < n
    · exact Or.inr (Or.inr ⟨j, h2, rfl⟩)
    · exact Or.inr (Or.inl (nI_le (by omega) hj))
theorem pk_le {x y : Int32} {A B : Prop} (a b : Nat) (f : a ≤ b → A) (g : b < a → B) (hx : x = nI a := by rfl) (hy : y = nI b := by rfl) (ha : a < 2 ^ 31 := by omega) (hb : b < 2 ^ 31 := by omega) : (x ≤ y → A) ∧ (¬ x ≤ y → B) := by
  subst hx hy
  rw [nI_leI ha hb]
  exact ⟨f, fun z => g (by omega)⟩
theorem pk_lt {x y : Int32} {A B : Prop} (a b : Nat) (f : a < b → A) (g : b ≤ a → B) (hx : x = nI a := by rfl) (hy : y = nI b := by rfl) (ha : a < 2 ^ 31 := by omega) (hb : b < 2 ^ 31 := by omega) : (x < y → A) ∧ (¬ x < y → B) := by
  subst hx hy
  rw [nI_ltI ha hb]
  exact ⟨f, fun z => g (by omega)⟩
theorem pk_eq {x y : Int32} {A B : Prop} (a b : Nat) (f : a = b → A) (g : a ≠ b → B) (hx : x = nI a := by rfl) (hy : y = nI b := by rfl) (ha : a < 2 ^ 31 := by omega) (hb : b < 2 ^ 31 := by omega) : (x = y → A) ∧ (¬ x = y → B) := by
  subst hx hy
  rw [nI_eq ha hb]
  exact ⟨f, g⟩
theorem pk_in {x : Int32} (n N : Nat) (h : n < N) (hx : x = nI n := by rfl) (hN : N < 2 ^ 31 := by omega) : vp_in x N := by
  subst hx
  exact vp_in_nI h hN
theorem pk_cl {x : Int32} (n : Nat) (hx : x = nI n := by rfl) (h : n < 2 ^ 31 := by omega) : x.toNatClampNeg = n := by
  subst hx
  exact nI_clamp h
theorem pk_tn {n : Nat} (h : n < 2 ^ 32) : (nI n).toBitVec.toNat = n := Nat.mod_eq_of_lt h
theorem pk_loop {σ : Type} (W : Nat → Nat → σ → Prop) (I : Nat → σ → Prop) (e i0 : Nat) (s : σ) (hi : i0 ≤ e) (h0 : I i0 s) (hx : ∀ n s, I e s → W (n + 1) e s)
    (hs : ∀ n i s, i < e → I i s → (∀ s', I (i + 1) s' → W n (i + 1) s') → W (n + 1) i s) : ∃ n, W n i0 s :=
  ⟨e + 1, loop_i W I e hx hs (e + 1) i0 s hi (by omega) h0⟩
theorem pk_loopD {σ : Type} (W : Nat → Nat → σ → Prop) (I : Nat → σ → Prop) (hx : ∀ n s, I 0 s → W (n + 1) 0 s)
    (hs : ∀ n i s, I (i + 1) s → (∀ s', I i s' → W n i s') → W (n + 1) (i + 1) s) : ∀ (e : Nat) (s : σ), I e s → W (e + 1) e s := by
  intro e
  induction e with
  | zero => exact fun s h => hx 0 s h
  | succ e ih => exact fun s h => hs (e + 1) e s h (fun s' h' => ih s' h')
def bt (x : Int32) (i : Nat) : Bool := x.toBitVec.getLsbD i
theorem b_ext {x y : Int32} (h : ∀ i, i < 32 → bt x i = bt y i) : x = y := Int32.toBitVec_inj.mp (BitVec.eq_of_getLsbD_eq (fun i hi => h i hi))
theorem b_or (x y : Int32) (i : Nat) : bt (x ||| y) i = (bt x i || bt y i) := by unfold bt; rw [Int32.toBitVec_or, BitVec.getLsbD_or]
theorem b_and (x y : Int32) (i : Nat) : bt (x &&& y) i = (bt x i && bt y i) := by unfold bt; rw [Int32.toBitVec_and, BitVec.getLsbD_and]
theorem b_xor (x y : Int32) (i : Nat) : bt (x ^^^ y) i = (bt x i ^^ bt y i) := by unfold bt; rw [Int32.toBitVec_xor, BitVec.getLsbD_xor]
theorem b_big {x : Int32} {i : Nat} (h : 32 ≤ i) : bt x i = false := BitVec.getLsbD_of_ge _ _ h
theorem b_255 (i : Nat) : bt 255 i = decide (i < 8) := by
  rcases Nat.lt_or_ge i 32 with h | h
  · exact (by decide +kernel : ∀ i, i < 32 → bt 255 i = decide (i < 8)) i h
  · rw [b_big h, decide_eq_false (by omega)]
theorem b_65535 (i : Nat) : bt 65535 i = decide (i < 16) := by
  rcases Nat.lt_or_ge i 32 with h | h
  · exact (by decide +kernel : ∀ i, i < 32 → bt 65535 i = decide (i < 16)) i h
  · rw [b_big h, decide_eq_false (by omega)]
theorem b_m1 : ∀ i, i < 32 → bt (-1) i = true := by decide +kernel
theorem b_0 (i : Nat) : bt 0 i = false := BitVec.getLsbD_zero
theorem s_l : ∀ n, n < 32 → ((nI n &&& 31).toBitVec.smod 32).toNat = n := by decide +kernel
theorem s_u : ∀ n, n < 32 → (((nI n).toUInt32 &&& Int32.toUInt32 31).toBitVec % 32).toNat = n := by decide +kernel
theorem b_shl (n : Nat) (hn : n < 32) (x : Int32) {i : Nat} (hi : i < 32) : bt (x <<< (nI n &&& 31)) i = (decide (n ≤ i) && bt x (i - n)) := by
  unfold bt
  rw [Int32.toBitVec_shiftLeft]
  show (x.toBitVec <<< ((nI n &&& 31).toBitVec.smod 32).toNat).getLsbD i = _
  rw [s_l n hn, BitVec.getLsbD_shiftLeft]
  rcases Nat.lt_or_ge i n with h | h
  · simp [h, Nat.not_le.mpr h]
  · simp [hi, h, Nat.not_lt.mpr h]
theorem b_sshr (n : Nat) (hn : n < 32) (x : Int32) {i : Nat} (hi : i < 32) : bt (x >>> (nI n &&& 31)) i = if n + i < 32 then bt x (n + i) else bt x 31 := by
  unfold bt
  rw [Int32.toBitVec_shiftRight]
  show (x.toBitVec.sshiftRight ((nI n &&& 31).toBitVec.smod 32).toNat).getLsbD i = _
  rw [s_l n hn, BitVec.getLsbD_sshiftRight, BitVec.msb_eq_getLsbD_last]
  simp [hi]
theorem b_shl8 (x : Int32) {i : Nat} (hi : i < 32) : bt (x <<< ((8 : Int32) &&& 31)) i = (decide (8 ≤ i) && bt x (i - 8)) := b_shl 8 (by omega) x hi
theorem b_sshr8 (x : Int32) {i : Nat} (hi : i < 32) : bt (x >>> ((8 : Int32) &&& 31)) i = if 8 + i < 32 then bt x (8 + i) else bt x 31 := b_sshr 8 (by omega) x hi
end
section
/-! ===== literals and sets of literals: places 0..16 of the reference's rows, bits 0..15 of the class's sets ===== -/
def tc_bi (b : Bool) : Int32 := if b = true then 1 else 0
/-- the literal with the place a (8 is no literal) -/
def tc_w (a : Nat) : Int32 := nI a - 8
/-- its bit -/
def tc_b (a : Nat) : Nat := if 8 < a then a - 9 else 15 - a
/-- the set of one literal, as the class makes it -/
def tc_lb (w : Int32) : Int32 := if w = 0 then 0 else if w ≤ 0 then (1 : Int32) <<< ((8 - w - 1) &&& 31) else (1 : Int32) <<< ((w - 1) &&& 31)
def tc_sl (w0 w1 w2 w3 : Int32) : Int32 := tc_lb w0 ||| tc_lb w1 ||| tc_lb w2 ||| tc_lb w3
def tc_ng (x : Int32) : Int32 := ((x &&& 255) <<< ((8 : Int32) &&& 31)) ||| ((x >>> ((8 : Int32) &&& 31)) &&& 255)
theorem tc_w1 : ∀ a, a < 17 → (8 : Int32) + tc_w a = nI a ∧ (8 : Int32) - tc_w a = nI (16 - a) ∧ (tc_w a = 0 ↔ a = 8) ∧ - tc_w a = tc_w (16 - a) := by decide +kernel
theorem tc_winj {a b : Nat} (ha : a < 17) (hb : b < 17) : tc_w a = tc_w b ↔ a = b := by
  constructor
  · intro e
    have h1 := (tc_w1 a ha).1
    rw [e, (tc_w1 b hb).1] at h1
    exact ((nI_eq (by omega) (by omega)).mp h1).symm
  · intro e
    rw [e]
theorem tc_lbb : ∀ a, a < 17 → ∀ i, i < 32 → bt (tc_lb (tc_w a)) i = decide (a ≠ 8 ∧ i = tc_b a) := by decide +kernel
theorem tc_blt {a : Nat} (h : a < 17) : tc_b a < 16 := by
  unfold tc_b
  split <;> omega
theorem tc_binj {a b : Nat} (ha : a < 17) (hb : b < 17) (h8 : a ≠ 8) (h8' : b ≠ 8) (h : tc_b a = tc_b b) : a = b := by
  unfold tc_b at h
  split at h <;> split at h <;> omega
theorem tc_ngb (x : Int32) {i : Nat} (hi : i < 32) : bt (tc_ng x) i = if i < 8 then bt x (i + 8) else if i < 16 then bt x (i - 8) else false := by
  unfold tc_ng
  rw [b_or, b_shl8 _ hi, b_and, b_and, b_sshr8 _ hi, b_255, b_255]
  by_cases h8 : i < 8
  · have h1 : 8 + i < 32 := by omega
    have h2 : ¬ 8 ≤ i := by omega
    rw [if_pos h8, if_pos h1, decide_eq_false h2, decide_eq_true h8, Nat.add_comm]
    simp
  · have h2 : 8 ≤ i := by omega
    rw [if_neg h8, decide_eq_true h2, decide_eq_false h8]
    by_cases h16 : i < 16
    · rw [if_pos h16, decide_eq_true (by omega : i - 8 < 8)]
      simp
    · rw [if_neg h16, decide_eq_false (by omega : ¬ i - 8 < 8)]
      simp
theorem tc_ngl (x : Int32) {a : Nat} (ha : a < 17) (h8 : a ≠ 8) : bt (tc_ng x) (tc_b a) = bt x (tc_b (16 - a)) := by
  have h := tc_blt ha
  rw [tc_ngb x (by omega)]
  unfold tc_b
  by_cases hp : 8 < a
  · rw [if_pos hp, if_neg (by omega : ¬ 8 < 16 - a), if_pos (by omega : a - 9 < 8)]
    exact congrArg (bt x) (by omega)
  · rw [if_neg hp, if_pos (by omega : 8 < 16 - a), if_neg (by omega : ¬ 15 - a < 8), if_pos (by omega : 15 - a < 16)]
    exact congrArg (bt x) (by omega)
theorem tc_ngor (x y : Int32) : tc_ng (x ||| y) = tc_ng x ||| tc_ng y := by
  apply b_ext
  intro i hi
  rw [b_or, tc_ngb _ hi, tc_ngb _ hi, tc_ngb _ hi]
  by_cases h8 : i < 8
  · rw [if_pos h8, if_pos h8, if_pos h8, b_or]
  · rw [if_neg h8, if_neg h8, if_neg h8]
    by_cases h16 : i < 16
    · rw [if_pos h16, if_pos h16, if_pos h16, b_or]
    · rw [if_neg h16, if_neg h16, if_neg h16]; rfl
/-- no bit beyond the sixteenth -/
def tc_lo (x : Int32) : Prop := ∀ i, 16 ≤ i → bt x i = false
theorem tc_lo0 : tc_lo 0 := fun i _ => b_0 i
theorem tc_loor {x y : Int32} (h : tc_lo x) (g : tc_lo y) : tc_lo (x ||| y) := fun i hi => by rw [b_or, h i hi, g i hi]; rfl
theorem tc_loand {x y : Int32} (h : tc_lo x) : tc_lo (x &&& y) := fun i hi => by rw [b_and, h i hi]; rfl
theorem tc_long (x : Int32) : tc_lo (tc_ng x) := fun i hi => by
  by_cases h : i < 32
  · rw [tc_ngb x h, if_neg (by omega), if_neg (by omega)]
  · exact b_big (by omega)
theorem tc_ngng {x : Int32} (h : tc_lo x) : tc_ng (tc_ng x) = x := by
  apply b_ext
  intro i hi
  rw [tc_ngb _ hi]
  by_cases h8 : i < 8
  · rw [if_pos h8, tc_ngb _ (by omega), if_neg (by omega), if_pos (by omega), Nat.add_sub_cancel]
  · rw [if_neg h8]
    by_cases h16 : i < 16
    · rw [if_pos h16, tc_ngb _ (by omega), if_pos (by omega), Nat.sub_add_cancel (by omega)]
    · rw [if_neg h16, h i (by omega)]
theorem tc_lolb {a : Nat} (ha : a < 17) : tc_lo (tc_lb (tc_w a)) := fun i hi => by
  by_cases h : i < 32
  · rw [tc_lbb a ha i h, decide_eq_false]
    have := tc_blt ha
    omega
  · exact b_big (by omega)
theorem tc_losl {a : Nat → Nat} (h : ∀ s, s < 4 → a s < 17) : tc_lo (tc_sl (tc_w (a 0)) (tc_w (a 1)) (tc_w (a 2)) (tc_w (a 3))) :=
  tc_loor (tc_loor (tc_loor (tc_lolb (h 0 (by omega))) (tc_lolb (h 1 (by omega)))) (tc_lolb (h 2 (by omega)))) (tc_lolb (h 3 (by omega)))
theorem tc_slb {a : Nat → Nat} (h : ∀ s, s < 4 → a s < 17) {j : Nat} (hj : j < 32) : bt (tc_sl (tc_w (a 0)) (tc_w (a 1)) (tc_w (a 2)) (tc_w (a 3))) j = true ↔ ∃ s, s < 4 ∧ a s ≠ 8 ∧ j = tc_b (a s) := by
  unfold tc_sl
  rw [b_or, b_or, b_or, tc_lbb _ (h 0 (by omega)) _ hj, tc_lbb _ (h 1 (by omega)) _ hj, tc_lbb _ (h 2 (by omega)) _ hj, tc_lbb _ (h 3 (by omega)) _ hj]
  simp only [Bool.or_eq_true, decide_eq_true_eq]
  constructor
  · rintro (((e | e) | e) | e)
    · exact ⟨0, by omega, e⟩
    · exact ⟨1, by omega, e⟩
    · exact ⟨2, by omega, e⟩
    · exact ⟨3, by omega, e⟩
  · rintro ⟨s, hs, e⟩
    have hs4 : s = 0 ∨ s = 1 ∨ s = 2 ∨ s = 3 := by omega
    rcases hs4 with rfl | rfl | rfl | rfl
    · exact Or.inl (Or.inl (Or.inl e))
    · exact Or.inl (Or.inl (Or.inr e))
    · exact Or.inl (Or.inr e)
    · exact Or.inr e
theorem tc_andn (x y : Int32) {i : Nat} (hi : i < 32) : bt (x &&& (y ^^^ (-1))) i = (bt x i && !bt y i) := by
  rw [b_and, b_xor, b_m1 i hi, Bool.xor_true]
theorem tc_z (x : Int32) : x = 0 ↔ ∀ i, i < 32 → bt x i = false :=
  ⟨fun h i _ => by rw [h]; exact b_0 i, fun h => b_ext fun i hi => by rw [h i hi, b_0]⟩
theorem tc_zand (x y : Int32) : x &&& y = 0 ↔ ∀ i, i < 32 → bt x i = true → bt y i = true → False := by
  rw [tc_z]
  constructor
  · intro h i hi a b
    have := h i hi
    rw [b_and, a, b] at this
    exact absurd this (by decide)
  · intro h i hi
    rw [b_and]
    cases a : bt x i
    · rfl
    · cases b : bt y i
      · rfl
      · exact absurd (h i hi a b) id
theorem tc_nat2 : ∀ m : Nat, m &&& (m - 1) = 0 → ∀ i j, m.testBit i = true → m.testBit j = true → i = j := by
  intro m
  induction m using Nat.strongRecOn with
  | ind m ih =>
    intro h i j hi hj
    have hd : (m &&& (m - 1)) / 2 = m / 2 &&& (m - 1) / 2 := Nat.and_div_two
    rw [h] at hd
    by_cases h0 : m = 0
    · subst h0
      rw [Nat.zero_testBit] at hi
      exact absurd hi (by decide)
    by_cases hp : m % 2 = 0
    · have e : (m - 1) / 2 = m / 2 - 1 := by omega
      rw [e] at hd
      have hz : (m / 2) &&& (m / 2 - 1) = 0 := hd.symm
      cases i with
      | zero =>
        rw [Nat.testBit_zero, decide_eq_false (by omega)] at hi
        exact absurd hi (by decide)
      | succ i =>
        cases j with
        | zero =>
          rw [Nat.testBit_zero, decide_eq_false (by omega)] at hj
          exact absurd hj (by decide)
        | succ j =>
          rw [Nat.testBit_succ] at hi hj
          rw [ih (m / 2) (by omega) hz i j hi hj]
    · have e : (m - 1) / 2 = m / 2 := by omega
      rw [e, Nat.and_self] at hd
      have hm : m / 2 = 0 := hd.symm
      cases i with
      | zero =>
        cases j with
        | zero => rfl
        | succ j =>
          rw [Nat.testBit_succ, hm, Nat.zero_testBit] at hj
          exact absurd hj (by decide)
      | succ i =>
        rw [Nat.testBit_succ, hm, Nat.zero_testBit] at hi
        exact absurd hi (by decide)
theorem tc_pw {x : Int32} (h : x ≠ 0) (h1 : x &&& (x - 1) = 0) {i j : Nat} (hi : bt x i = true) (hj : bt x j = true) : i = j := by
  have hx : x.toBitVec.toNat ≠ 0 := by
    intro e
    apply h
    apply Int32.toBitVec_inj.mp
    exact BitVec.eq_of_toNat_eq e
  have hl := x.toBitVec.isLt
  have e1 : (x - 1).toBitVec.toNat = x.toBitVec.toNat - 1 := by
    show (x.toBitVec - 1#32).toNat = _
    rw [BitVec.toNat_sub]
    simp only [BitVec.toNat_ofNat]
    omega
  have e2 : x.toBitVec.toNat &&& (x.toBitVec.toNat - 1) = 0 := by
    rw [← e1, ← BitVec.toNat_and, ← Int32.toBitVec_and, h1]
    rfl
  exact tc_nat2 _ e2 i j hi hj
theorem tc_one : ∀ a, a < 17 → a ≠ 8 → tc_lb (tc_w a) ≠ 0 ∧ tc_lb (tc_w a) &&& (tc_lb (tc_w a) - 1) = 0 := by decide +kernel
/-! ===== the refutation, as the class goes through it ===== -/
/-- one clause looked at: none, a conflict; else the new set of false literals -/
def tc_st (F S : Int32) : Option Int32 :=
  if (S &&& (F ^^^ (-1))) &&& tc_ng F = 0 then
    (if S &&& (F ^^^ (-1)) = 0 then none
     else if (S &&& (F ^^^ (-1))) &&& ((S &&& (F ^^^ (-1))) - 1) = 0 then some (F ||| tc_ng (S &&& (F ^^^ (-1)))) else some F)
  else some F
def tc_fl (S : Nat → Int32) (cs : Int32) : Nat → Nat → Int32 → Option Int32
  | 0, _, F => some F
  | d + 1, i, F => if bt cs i = true then (match tc_st F (S i) with | none => none | some F' => tc_fl S cs d (i + 1) F') else tc_fl S cs d (i + 1) F
def tc_rd (S : Nat → Int32) (cs : Int32) : Nat → Int32 → Bool
  | 0, _ => false
  | r + 1, F => match tc_fl S cs 24 0 F with | none => true | some F' => tc_rd S cs r F'
def tc_rf (S : Nat → Int32) (cs T : Int32) : Bool := if T &&& tc_ng T = 0 then tc_rd S cs 9 T else true
theorem tc_fl0 {S : Nat → Int32} {cs : Int32} {d i : Nat} {F : Int32} (h : bt cs i = false) : tc_fl S cs (d + 1) i F = tc_fl S cs d (i + 1) F := by
  rw [tc_fl, h, if_neg (by decide)]
theorem tc_fln {S : Nat → Int32} {cs : Int32} {d i : Nat} {F : Int32} (h : bt cs i = true) (e : tc_st F (S i) = none) : tc_fl S cs (d + 1) i F = none := by
  rw [tc_fl, if_pos h, e]
theorem tc_fls {S : Nat → Int32} {cs : Int32} {d i : Nat} {F F' : Int32} (h : bt cs i = true) (e : tc_st F (S i) = some F') : tc_fl S cs (d + 1) i F = tc_fl S cs d (i + 1) F' := by
  rw [tc_fl, if_pos h, e]
theorem tc_flout {S : Nat → Int32} {cs : Int32} : ∀ (d i : Nat) (F : Int32), (∀ j, i ≤ j → j < i + d → bt cs j = false) → tc_fl S cs d i F = some F := by
  intro d
  induction d with
  | zero => intro i F _; rfl
  | succ d ih =>
    intro i F h
    rw [tc_fl0 (h i (by omega) (by omega))]
    exact ih (i + 1) F (fun j a b => h j (by omega) (by omega))
theorem tc_rdn {S : Nat → Int32} {cs : Int32} {r : Nat} {F : Int32} (e : tc_fl S cs 24 0 F = none) : tc_rd S cs (r + 1) F = true := by rw [tc_rd, e]
theorem tc_rds {S : Nat → Int32} {cs : Int32} {r : Nat} {F F' : Int32} (e : tc_fl S cs 24 0 F = some F') : tc_rd S cs (r + 1) F = tc_rd S cs r F' := by rw [tc_rd, e]
theorem tc_rdfix {S : Nat → Int32} {cs : Int32} {F : Int32} (e : tc_fl S cs 24 0 F = some F) : ∀ r, tc_rd S cs r F = false := by
  intro r
  induction r with
  | zero => rfl
  | succ r ih => rw [tc_rds e]; exact ih
/-! ===== one clause by its four places ===== -/
section
variable {a : Nat → Nat} {F S : Int32}
theorem tc_ob (h : ∀ s, s < 4 → a s < 17) (hS : S = tc_sl (tc_w (a 0)) (tc_w (a 1)) (tc_w (a 2)) (tc_w (a 3))) {j : Nat} (hj : j < 32) : bt (S &&& (F ^^^ (-1))) j = true ↔ ∃ s, s < 4 ∧ a s ≠ 8 ∧ j = tc_b (a s) ∧ bt F (tc_b (a s)) = false := by
  rw [tc_andn _ _ hj, Bool.and_eq_true, hS, tc_slb h hj, Bool.not_eq_true']
  constructor
  · rintro ⟨⟨s, h1, h2, h3⟩, h4⟩
    exact ⟨s, h1, h2, h3, by rw [← h3]; exact h4⟩
  · rintro ⟨s, h1, h2, h3, h4⟩
    exact ⟨⟨s, h1, h2, h3⟩, by rw [h3]; exact h4⟩
theorem tc_sat (h : ∀ s, s < 4 → a s < 17) (hS : S = tc_sl (tc_w (a 0)) (tc_w (a 1)) (tc_w (a 2)) (tc_w (a 3))) : (S &&& (F ^^^ (-1))) &&& tc_ng F = 0 ↔ ∀ s, s < 4 → a s ≠ 8 → bt F (tc_b (a s)) = false → bt F (tc_b (16 - a s)) = true → False := by
  rw [tc_zand]
  constructor
  · intro g s h1 h2 h3 h4
    have hb := tc_blt (h s h1)
    refine g (tc_b (a s)) (by omega) ((tc_ob h hS (by omega)).mpr ⟨s, h1, h2, rfl, h3⟩) ?_
    rw [tc_ngl F (h s h1) h2]
    exact h4
  · intro g i hi h1 h2
    obtain ⟨s, h3, h4, h5, h6⟩ := (tc_ob h hS hi).mp h1
    rw [h5, tc_ngl F (h s h3) h4] at h2
    exact g s h3 h4 h6 h2
theorem tc_stS (h : ∀ s, s < 4 → a s < 17) (hS : S = tc_sl (tc_w (a 0)) (tc_w (a 1)) (tc_w (a 2)) (tc_w (a 3))) {s : Nat} (h1 : s < 4) (h2 : a s ≠ 8) (h3 : bt F (tc_b (a s)) = false) (h4 : bt F (tc_b (16 - a s)) = true) : tc_st F S = some F := by
  unfold tc_st
  rw [if_neg]
  intro e
  exact (tc_sat h hS).mp e s h1 h2 h3 h4
theorem tc_stN (h : ∀ s, s < 4 → a s < 17) (hS : S = tc_sl (tc_w (a 0)) (tc_w (a 1)) (tc_w (a 2)) (tc_w (a 3))) (g : ∀ s, s < 4 → a s ≠ 8 → bt F (tc_b (a s)) = true) : tc_st F S = none := by
  unfold tc_st
  have e : S &&& (F ^^^ (-1)) = 0 := by
    rw [tc_z]
    intro i hi
    cases e : bt (S &&& (F ^^^ (-1))) i
    · rfl
    · obtain ⟨s, h3, h4, h5, h6⟩ := (tc_ob h hS hi).mp e
      rw [g s h3 h4] at h6
      exact absurd h6 (by decide)
  rw [if_pos, if_pos e]
  rw [e]
  exact (tc_zand 0 _).mpr (fun i _ z => by rw [b_0] at z; exact absurd z (by decide))
theorem tc_st1 (h : ∀ s, s < 4 → a s < 17) (hS : S = tc_sl (tc_w (a 0)) (tc_w (a 1)) (tc_w (a 2)) (tc_w (a 3))) {x : Nat} (hx : x < 17) (hx8 : x ≠ 8)
    (g : ∀ s, s < 4 → a s ≠ 8 → bt F (tc_b (a s)) = false → bt F (tc_b (16 - a s)) = false) (g1 : ∃ s, s < 4 ∧ a s = x ∧ bt F (tc_b x) = false) (g2 : ∀ s, s < 4 → a s ≠ 8 → bt F (tc_b (a s)) = false → a s = x) : tc_st F S = some (F ||| tc_ng (tc_lb (tc_w x))) := by
  have e : S &&& (F ^^^ (-1)) = tc_lb (tc_w x) := by
    apply b_ext
    intro i hi
    apply Bool.eq_iff_iff.mpr
    rw [tc_ob h hS hi, tc_lbb x hx i hi, decide_eq_true_eq]
    constructor
    · rintro ⟨s, h3, h4, h5, h6⟩
      rw [h5, g2 s h3 h4 h6]
      exact ⟨hx8, rfl⟩
    · rintro ⟨_, e⟩
      obtain ⟨s, h1, h2, h3⟩ := g1
      exact ⟨s, h1, by rw [h2]; exact hx8, by rw [h2]; exact e, by rw [h2]; exact h3⟩
  unfold tc_st
  have hs : (S &&& (F ^^^ (-1))) &&& tc_ng F = 0 := (tc_sat h hS).mpr (fun s h1 h2 h3 h4 => by rw [g s h1 h2 h3] at h4; exact absurd h4 (by decide))
  rw [if_pos hs, e, if_neg (tc_one x hx hx8).1, if_pos (tc_one x hx hx8).2]
theorem tc_st2 (h : ∀ s, s < 4 → a s < 17) (hS : S = tc_sl (tc_w (a 0)) (tc_w (a 1)) (tc_w (a 2)) (tc_w (a 3))) {s t : Nat} (hs : s < 4) (ht : t < 4) (hs8 : a s ≠ 8) (ht8 : a t ≠ 8) (hsF : bt F (tc_b (a s)) = false) (htF : bt F (tc_b (a t)) = false) (hne : a s ≠ a t) : tc_st F S = some F := by
  have b1 := tc_blt (h s hs)
  have b2 := tc_blt (h t ht)
  have o1 := (tc_ob (F := F) h hS (j := tc_b (a s)) (by omega)).mpr ⟨s, hs, hs8, rfl, hsF⟩
  have o2 := (tc_ob (F := F) h hS (j := tc_b (a t)) (by omega)).mpr ⟨t, ht, ht8, rfl, htF⟩
  have z : S &&& (F ^^^ (-1)) ≠ 0 := by
    intro e
    rw [e, b_0] at o1
    exact absurd o1 (by decide)
  unfold tc_st
  by_cases c : (S &&& (F ^^^ (-1))) &&& tc_ng F = 0
  · rw [if_pos c, if_neg z, if_neg]
    intro e
    exact hne (tc_binj (h s hs) (h t ht) hs8 ht8 (tc_pw z e o1 o2))
  · rw [if_neg c]
end
end
section
/-! ===== rows of the reference's against sets of literals ===== -/
def tc_FR (F : Int32) (f : Nat → Int32) : Prop := ∀ a, a < 17 → a ≠ 8 → f a = tc_bi (bt F (tc_b a))
theorem tc_bi0 {b : Bool} : tc_bi b = 0 ↔ b = false := by cases b <;> decide
theorem tc_bi1 {b : Bool} : tc_bi b = 1 ↔ b = true := by cases b <;> decide
theorem tc_bin0 {b : Bool} : ¬ tc_bi b = 0 ↔ b = true := by cases b <;> decide
theorem tc_nglb : ∀ x, x < 17 → tc_ng (tc_lb (tc_w x)) = tc_lb (tc_w (16 - x)) := by decide +kernel
theorem tc_FR0 {f : Nat → Int32} (h : ∀ i, i < 17 → f i = 0) : tc_FR 0 f := fun a ha _ => by rw [h a ha, b_0]; rfl
theorem tc_FRset {F : Int32} {f : Nat → Int32} (h : tc_FR F f) {x : Nat} (hx : x < 17) (h8 : x ≠ 8) : tc_FR (F ||| tc_lb (tc_w x)) (upd f x 1) := by
  intro a ha ha8
  have hb := tc_blt ha
  rw [b_or, tc_lbb x hx _ (by omega)]
  by_cases e : a = x
  · subst e
    rw [pk_us, decide_eq_true ⟨h8, rfl⟩, Bool.or_true]
    rfl
  · rw [pk_un e, decide_eq_false, Bool.or_false]
    · exact h a ha ha8
    · rintro ⟨_, e2⟩
      exact e (tc_binj ha hx ha8 h8 e2)
theorem tc_both {T : Int32} {f : Nat → Int32} (h : tc_FR T f) (hl : tc_lo T) : T &&& tc_ng T = 0 ↔ ∀ v, 1 ≤ v → v ≤ 8 → ¬ f (8 + v) = 0 → ¬ f (8 - v) = 0 → False := by
  rw [tc_zand]
  have hp : ∀ v, 1 ≤ v → v ≤ 8 → f (8 + v) = tc_bi (bt T (v - 1)) ∧ f (8 - v) = tc_bi (bt T (v + 7)) := by
    intro v h1 h2
    rw [h (8 + v) (by omega) (by omega), h (8 - v) (by omega) (by omega)]
    unfold tc_b
    rw [if_pos (by omega), if_neg (by omega)]
    exact ⟨congrArg (fun z => tc_bi (bt T z)) (by omega), congrArg (fun z => tc_bi (bt T z)) (by omega)⟩
  constructor
  · intro g v h1 h2 h3 h4
    rw [(hp v h1 h2).1, tc_bin0] at h3
    rw [(hp v h1 h2).2, tc_bin0] at h4
    refine g (v - 1) (by omega) h3 ?_
    rw [tc_ngb _ (by omega), if_pos (by omega)]
    rw [show v - 1 + 8 = v + 7 from by omega]
    exact h4
  · intro g i hi h1 h2
    rw [tc_ngb _ hi] at h2
    by_cases h8 : i < 8
    · rw [if_pos h8] at h2
      refine g (i + 1) (by omega) (by omega) ?_ ?_
      · rw [(hp (i + 1) (by omega) (by omega)).1, tc_bin0]; exact h1
      · rw [(hp (i + 1) (by omega) (by omega)).2, tc_bin0]; exact h2
    · rw [if_neg h8] at h2
      by_cases h16 : i < 16
      · rw [if_pos h16] at h2
        refine g (i - 7) (by omega) (by omega) ?_ ?_
        · rw [(hp (i - 7) (by omega) (by omega)).1, tc_bin0, show i - 7 - 1 = i - 8 from by omega]; exact h2
        · rw [(hp (i - 7) (by omega) (by omega)).2, tc_bin0, show i - 7 + 7 = i from by omega]; exact h1
      · rw [if_neg h16] at h2
        exact absurd h2 (by decide)
/-! ===== obligations, keeping, passing: as the class goes through them ===== -/
def tc_1 (i : Nat) : Int32 := (1 : Int32) <<< (nI i &&& 31)
theorem tc_1b : ∀ i, i < 32 → ∀ j, j < 32 → bt (tc_1 i) j = decide (j = i) := by decide +kernel
theorem tc_hm {x : Int32} {i : Nat} (hi : i < 32) : x &&& tc_1 i = 0 ↔ bt x i = false := by
  rw [tc_zand]
  constructor
  · intro h
    cases e : bt x i
    · rfl
    · exact absurd (h i hi e (by rw [tc_1b i hi i hi]; exact decide_eq_true rfl)) id
  · intro h j hj h1 h2
    rw [tc_1b i hi j hj, decide_eq_true_eq] at h2
    rw [h2, h] at h1
    exact absurd h1 (by decide)
theorem tc_del {x : Int32} {i : Nat} (hi : i < 32) {j : Nat} (hj : j < 32) : bt (x &&& (tc_1 i ^^^ (-1))) j = (bt x j && !decide (j = i)) := by
  rw [tc_andn _ _ hj, tc_1b i hi j hj]
theorem tc_add {x : Int32} {i : Nat} (hi : i < 32) {j : Nat} (hj : j < 32) : bt (x ||| tc_1 i) j = (bt x j || decide (j = i)) := by
  rw [b_or, tc_1b i hi j hj]
def tc_al (S : Nat → Int32) (cs : Int32) (ob : Nat → Int32) : Nat → Nat → Bool
  | 0, _ => true
  | d + 1, i => if tc_rf S cs (ob i) = true then tc_al S cs ob d (i + 1) else false
def tc_kp (S : Nat → Int32) (cs M : Int32) (ob : Nat → Int32) (q : Nat) : Nat → Int32 → Int32
  | 0, k => k
  | i + 1, k => if bt cs i = true ∧ bt M i = false then
      (if tc_al S (k &&& (tc_1 i ^^^ (-1))) ob q 0 = true then tc_kp S cs M ob q i (k &&& (tc_1 i ^^^ (-1))) else tc_kp S cs M ob q i k)
      else tc_kp S cs M ob q i k
def tc_pp (S : Nat → Int32) (cs L P : Int32) : Nat → Nat → (Nat → Int32) → Nat → (Nat → Int32) × Nat
  | 0, _, ob, q => (ob, q)
  | d + 1, i, ob, q => if bt cs i = true ∧ ¬ S i &&& P = 0 then tc_pp S cs L P d (i + 1) (upd ob q (L ||| (S i &&& (P ^^^ (-1))))) (q + 1) else tc_pp S cs L P d (i + 1) ob q
/-- the way of passing, with the obligations it leaves -/
def tc_way (S : Nat → Int32) (cs L P : Int32) (ob : Nat → Int32) : Int32 × (Nat → Int32) × Nat :=
  if tc_al S cs (upd ob 0 L) 1 0 = true then (3, upd ob 0 L, 1) else if L = 0 then (5, upd ob 0 L, 1) else
    (if tc_al S cs (tc_pp S cs L P 24 0 (upd ob 0 L) 0).1 (tc_pp S cs L P 24 0 (upd ob 0 L) 0).2 0 = true then 4 else 5, tc_pp S cs L P 24 0 (upd ob 0 L) 0)
theorem tc_ppq (S : Nat → Int32) (cs L P : Int32) : ∀ (d i : Nat) (ob : Nat → Int32) (q : Nat), (tc_pp S cs L P d i ob q).2 ≤ q + d := by
  intro d
  induction d with
  | zero => intro i ob q; exact Nat.le_refl _
  | succ d ih =>
    intro i ob q
    rw [tc_pp]
    split
    · have := ih (i + 1) (upd ob q (L ||| (S i &&& (P ^^^ (-1))))) (q + 1)
      omega
    · have := ih (i + 1) ob q
      omega
/-! ===== alive after k lines ===== -/
def tc_ax (n : Nat) : Int32 := ((1 : Int32) <<< (nI n &&& 31)) - 1
theorem tc_axb : ∀ n, n < 13 → ∀ i, i < 32 → bt (tc_ax n) i = decide (i < n) := by decide +kernel
def tc_av (K W : Nat → Int32) (n : Nat) : Nat → Int32
  | 0 => tc_ax n
  | k + 1 => if K (n + k) = 3 then tc_av K W n k &&& (((1 : Int32) <<< (W ((n + k) * 4) &&& 31)) ^^^ (-1)) else tc_av K W n k ||| tc_1 (n + k)
/-! ===== the text ===== -/
def tc_Cl (V : Nat) (W S : Nat → Int32) (i : Nat) : Prop := ∃ a : Nat → Nat, (∀ s, s < 4 → 8 ≤ a s + V ∧ a s ≤ 8 + V ∧ W (i * 4 + s) = tc_w (a s)) ∧ S i = tc_sl (tc_w (a 0)) (tc_w (a 1)) (tc_w (a 2)) (tc_w (a 3))
def tc_Tx (V n m : Nat) (W K S : Nat → Int32) : Prop := (1 ≤ V ∧ V ≤ 8) ∧ (n ≤ 12 ∧ m ≤ 12) ∧ (∀ i, i < n → K i = 1) ∧ (∀ i, n ≤ i → i < n + m → K i = 2 ∨ K i = 3) ∧ (∀ i, i < n + m → ¬ K i = 3 → tc_Cl V W S i) ∧ (∀ i, n ≤ i → i < n + m → K i = 3 → ∃ t, t < i ∧ W (i * 4) = nI t)
def tc_De (K D : Nat → Int32) : Prop := ∀ i, i < 24 → D i = tc_bi (decide (K i = 3))
def tc_In (cs : Int32) (f : Nat → Int32) : Prop := ∀ i, i < 24 → f i = tc_bi (bt cs i)
theorem tc_avb {V n m : Nat} {W K S : Nat → Int32} (h : tc_Tx V n m W K S) : ∀ k, k ≤ m → ∀ i, i < 24 → (bt (tc_av K W n k) i = true ↔ i < n + k ∧ ¬ K i = 3 ∧ ∀ j, j < k → K (n + j) = 3 → ¬ W ((n + j) * 4) = nI i) := by
  obtain ⟨⟨hV1, hV8⟩, ⟨hn, hm⟩, hA, hL, hC, hD⟩ := h
  intro k
  induction k with
  | zero =>
    intro _ i hi
    rw [tc_av, tc_axb n (by omega) i (by omega), decide_eq_true_eq]
    constructor
    · intro h
      refine ⟨h, ?_, fun j hj => absurd hj (by omega)⟩
      rw [hA i h]; decide
    · intro h; exact h.1
  | succ k ih =>
    intro hk i hi
    have ih := ih (by omega) i hi
    rw [tc_av]
    by_cases e : K (n + k) = 3
    · rw [if_pos e]
      obtain ⟨t, ht, hw⟩ := hD (n + k) (by omega) (by omega) e
      rw [hw]
      show bt (tc_av K W n k &&& (tc_1 t ^^^ (-1))) i = true ↔ _
      rw [tc_del (by omega) (by omega), Bool.and_eq_true, ih, Bool.not_eq_true', decide_eq_false_iff_not]
      constructor
      · rintro ⟨⟨h1, h2, h3⟩, h4⟩
        refine ⟨by omega, h2, fun j hj hK => ?_⟩
        by_cases ej : j = k
        · rw [ej, hw, nI_eq (by omega) (by omega)]
          exact fun z => h4 z.symm
        · exact h3 j (by omega) hK
      · rintro ⟨h1, h2, h3⟩
        have hik : i ≠ n + k := by
          intro z
          rw [z] at h2
          exact h2 e
        refine ⟨⟨by omega, h2, fun j hj hK => h3 j (by omega) hK⟩, ?_⟩
        have := h3 k (by omega) e
        rw [hw, nI_eq (by omega) (by omega)] at this
        exact fun z => this z.symm
    · rw [if_neg e, tc_add (by omega) (by omega), Bool.or_eq_true, ih, decide_eq_true_eq]
      constructor
      · rintro (⟨h1, h2, h3⟩ | h1)
        · refine ⟨by omega, h2, fun j hj hK => ?_⟩
          by_cases ej : j = k
          · rw [ej] at hK; exact absurd hK e
          · exact h3 j (by omega) hK
        · refine ⟨by omega, by rw [h1]; exact e, fun j hj hK => ?_⟩
          have hjk : j ≠ k := by
            intro z
            rw [z] at hK
            exact e hK
          obtain ⟨t, ht, hw⟩ := hD (n + j) (by omega) (by omega) hK
          rw [hw, nI_eq (by omega) (by omega)]
          omega
      · rintro ⟨h1, h2, h3⟩
        by_cases z : i = n + k
        · exact Or.inr z
        · exact Or.inl ⟨by omega, h2, fun j hj hK => h3 j (by omega) hK⟩
end
section
/-! ===== uniting a clause with a row ===== -/
/-- what the word at place a gives: nothing if there is no literal or it is the one left out -/
def tc_g (e a : Nat) : Int32 := if a = 8 ∨ a = e then 0 else tc_lb (tc_w a)
theorem tc_gb {e a : Nat} (ha : a < 17) {i : Nat} (hi : i < 32) : bt (tc_g e a) i = true ↔ a ≠ 8 ∧ a ≠ e ∧ i = tc_b a := by
  unfold tc_g
  by_cases h : a = 8 ∨ a = e
  · rw [if_pos h, b_0]
    constructor
    · intro z; exact absurd z (by decide)
    · rintro ⟨h1, h2, _⟩
      rcases h with h | h
      · exact absurd h h1
      · exact absurd h h2
  · rw [if_neg h, tc_lbb a ha i hi, decide_eq_true_eq]
    constructor
    · rintro ⟨h1, h2⟩
      exact ⟨h1, fun z => h (Or.inr z), h2⟩
    · rintro ⟨h1, _, h3⟩
      exact ⟨h1, h3⟩
theorem tc_log {e a : Nat} (ha : a < 17) : tc_lo (tc_g e a) := by
  unfold tc_g
  split
  · exact tc_lo0
  · exact tc_lolb ha
theorem tc_g4 {a : Nat → Nat} (h : ∀ s, s < 4 → a s < 17) {e : Nat} (he : e < 17) (F : Int32) : F ||| tc_g e (a 0) ||| tc_g e (a 1) ||| tc_g e (a 2) ||| tc_g e (a 3) = F ||| (tc_sl (tc_w (a 0)) (tc_w (a 1)) (tc_w (a 2)) (tc_w (a 3)) &&& (tc_lb (tc_w e) ^^^ (-1))) := by
  apply b_ext
  intro i hi
  apply Bool.eq_iff_iff.mpr
  rw [b_or, b_or, b_or, b_or, b_or, Bool.or_eq_true, Bool.or_eq_true, Bool.or_eq_true, Bool.or_eq_true, Bool.or_eq_true, tc_andn _ _ hi, Bool.and_eq_true, tc_slb h hi, tc_lbb e he i hi, Bool.not_eq_true', decide_eq_false_iff_not, tc_gb (h 0 (by omega)) hi, tc_gb (h 1 (by omega)) hi, tc_gb (h 2 (by omega)) hi, tc_gb (h 3 (by omega)) hi]
  have key : ∀ s, s < 4 → a s ≠ 8 → a s ≠ e → i = tc_b (a s) → (∃ s, s < 4 ∧ a s ≠ 8 ∧ i = tc_b (a s)) ∧ ¬ (e ≠ 8 ∧ i = tc_b e) := by
    intro s hs h1 h2 h3
    refine ⟨⟨s, hs, h1, h3⟩, ?_⟩
    rintro ⟨h4, h5⟩
    exact h2 (tc_binj (h s hs) he h1 h4 (by rw [← h3, ← h5]))
  constructor
  · rintro ((((z | z) | z) | z) | z)
    · exact Or.inl z
    · exact Or.inr (key 0 (by omega) z.1 z.2.1 z.2.2)
    · exact Or.inr (key 1 (by omega) z.1 z.2.1 z.2.2)
    · exact Or.inr (key 2 (by omega) z.1 z.2.1 z.2.2)
    · exact Or.inr (key 3 (by omega) z.1 z.2.1 z.2.2)
  · rintro (z | ⟨⟨s, hs, h1, h2⟩, h3⟩)
    · exact Or.inl (Or.inl (Or.inl (Or.inl z)))
    · have h4 : a s ≠ e := by
        intro z
        rw [z] at h1 h2
        exact h3 ⟨h1, h2⟩
      have hs4 : s = 0 ∨ s = 1 ∨ s = 2 ∨ s = 3 := by omega
      rcases hs4 with rfl | rfl | rfl | rfl
      · exact Or.inl (Or.inl (Or.inl (Or.inr ⟨h1, h4, h2⟩)))
      · exact Or.inl (Or.inl (Or.inr ⟨h1, h4, h2⟩))
      · exact Or.inl (Or.inr ⟨h1, h4, h2⟩)
      · exact Or.inr ⟨h1, h4, h2⟩
theorem tc_lb8 : tc_lb (tc_w 8) = 0 := by decide +kernel
theorem tc_w8 : tc_w 8 = 0 := by decide +kernel
theorem tc_not0 (x : Int32) : x &&& (0 ^^^ (-1)) = x := by
  apply b_ext
  intro i hi
  rw [tc_andn _ _ hi, b_0]
  simp
theorem tc_0or (x : Int32) : 0 ||| x = x := by
  apply b_ext
  intro i hi
  rw [b_or, b_0]
  simp
theorem tc_or0 (x : Int32) : x ||| 0 = x := by
  apply b_ext
  intro i hi
  rw [b_or, b_0]
  simp
/-- the row o of the reference's table -/
def tc_row (obl : Nat → Int32) (o : Nat) : Nat → Int32 := fun i => obl (o * 17 + i)
theorem tc_rowS {obl : Nat → Int32} {o a : Nat} {x : Int32} : tc_row (upd obl (o * 17 + a) x) o = upd (tc_row obl o) a x := by
  funext i
  unfold tc_row upd
  by_cases h : i = a
  · rw [if_pos h, if_pos (by omega)]
  · rw [if_neg h, if_neg (by omega)]
theorem tc_rowN {obl : Nat → Int32} {o o' a : Nat} {x : Int32} (h : o ≠ o') (ha : a < 17) {i : Nat} (hi : i < 17) : tc_row (upd obl (o * 17 + a) x) o' i = tc_row obl o' i := by
  unfold tc_row upd
  rw [if_neg (by omega)]
/-- the obligations of both sides -/
def tc_OR (ob : Nat → Int32) (q : Nat) (obl : Nat → Int32) : Prop := ∀ o, o < q → tc_lo (ob o) ∧ tc_FR (ob o) (tc_row obl o)
theorem tc_FRc {F : Int32} {f g : Nat → Int32} (h : tc_FR F f) (e : ∀ i, i < 17 → g i = f i) : tc_FR F g := fun a ha h8 => by rw [e a ha, h a ha h8]
/-! ===== a word that is met: the pivot, the pivot's partner ===== -/
theorem tc_hasz {a : Nat → Nat} (h : ∀ s, s < 4 → a s < 17) {y : Nat} (hy : y < 17) (h8 : y ≠ 8) : tc_sl (tc_w (a 0)) (tc_w (a 1)) (tc_w (a 2)) (tc_w (a 3)) &&& tc_lb (tc_w y) = 0 ↔ ∀ s, s < 4 → a s ≠ y := by
  rw [tc_zand]
  have hb := tc_blt hy
  constructor
  · intro g s hs e
    refine g (tc_b y) (by omega) ((tc_slb h (by omega)).mpr ⟨s, hs, by omega, by rw [e]⟩) ?_
    rw [tc_lbb y hy _ (by omega)]
    exact decide_eq_true ⟨h8, rfl⟩
  · intro g i hi h1 h2
    obtain ⟨s, hs, h3, h4⟩ := (tc_slb h hi).mp h1
    rw [tc_lbb y hy i hi, decide_eq_true_eq] at h2
    exact g s hs (tc_binj (h s hs) hy h3 h8 (by rw [← h4, ← h2.2]))
theorem tc_slz {a : Nat → Nat} (h : ∀ s, s < 4 → a s < 17) : tc_sl (tc_w (a 0)) (tc_w (a 1)) (tc_w (a 2)) (tc_w (a 3)) = 0 ↔ ∀ s, s < 4 → a s = 8 := by
  rw [tc_z]
  constructor
  · intro g s hs
    by_cases e : a s = 8
    · exact e
    · have hb := tc_blt (h s hs)
      have h1 := g (tc_b (a s)) (by omega)
      rw [(tc_slb h (by omega)).mpr ⟨s, hs, e, rfl⟩] at h1
      exact absurd h1 (by decide)
  · intro g i hi
    cases e : bt (tc_sl (tc_w (a 0)) (tc_w (a 1)) (tc_w (a 2)) (tc_w (a 3))) i
    · rfl
    · obtain ⟨s, hs, h3, _⟩ := (tc_slb h hi).mp e
      exact absurd (g s hs) h3
/-! ===== an assignment ===== -/
def tc_tl (V : Nat) (as : Int32) : Int32 := (as &&& tc_ax V) ||| (((as ^^^ (-1)) &&& tc_ax V) <<< ((8 : Int32) &&& 31))
theorem tc_tlb {V : Nat} (hV : V ≤ 8) (as : Int32) {i : Nat} (hi : i < 32) : bt (tc_tl V as) i = if i < 8 then (bt as i && decide (i < V)) else (!bt as (i - 8) && decide (i - 8 < V)) := by
  unfold tc_tl
  rw [b_or, b_shl8 _ hi, b_and, b_and, b_xor, b_m1 (i - 8) (by omega), tc_axb V (by omega) i hi, tc_axb V (by omega) (i - 8) (by omega), Bool.xor_true]
  by_cases h : i < 8
  · rw [if_pos h, decide_eq_false (by omega : ¬ 8 ≤ i), Bool.false_and, Bool.or_false]
  · rw [if_neg h, decide_eq_true (by omega : 8 ≤ i), decide_eq_false (by omega : ¬ i < V), Bool.and_false, Bool.false_or, Bool.true_and]
theorem tc_tll {V x : Nat} (hV : V ≤ 8) (as : Int32) (h1 : 8 ≤ x + V) (h2 : x ≤ 8 + V) (h8 : x ≠ 8) : bt (tc_tl V as) (tc_b x) = if 8 < x then bt as (x - 9) else !bt as (7 - x) := by
  have hb : tc_b x < 16 := tc_blt (by omega)
  rw [tc_tlb hV as (by omega)]
  unfold tc_b
  by_cases h : 8 < x
  · rw [if_pos h, if_pos h, if_pos (by omega : x - 9 < 8), decide_eq_true (by omega : x - 9 < V), Bool.and_true]
  · rw [if_neg h, if_neg h, if_neg (by omega : ¬ 15 - x < 8), decide_eq_true (by omega : 15 - x - 8 < V), Bool.and_true, show 15 - x - 8 = 7 - x from by omega]
theorem tc_and1 (x : Int32) : x &&& 1 = tc_bi (bt x 0) := by
  have h1 : ∀ i, i < 32 → bt 1 i = decide (i = 0) := by decide +kernel
  have h0 : ∀ b : Bool, ∀ i, i < 32 → bt (tc_bi b) i = (b && decide (i = 0)) := by decide +kernel
  apply b_ext
  intro i hi
  rw [b_and, h1 i hi, h0 _ i hi]
  by_cases e : i = 0
  · rw [e]
  · rw [decide_eq_false e, Bool.and_false, Bool.and_false]
theorem tc_shr1 (x : Int32) {k : Nat} (hk : k < 32) : (x >>> (nI k &&& 31)) &&& 1 = tc_bi (bt x k) := by
  rw [tc_and1, b_sshr k hk x (by omega), if_pos (by omega), Nat.add_zero]
/-! ===== the text grows ===== -/
def tc_put (W : Nat → Int32) (i : Nat) (a b c d : Int32) : Nat → Int32 := upd (upd (upd (upd W (i * 4) a) (i * 4 + 1) b) (i * 4 + 2) c) (i * 4 + 3) d
theorem tc_putN {W : Nat → Int32} {i : Nat} {a b c d : Int32} {j s : Nat} (h : j ≠ i) (hs : s < 4) : tc_put W i a b c d (j * 4 + s) = W (j * 4 + s) := by
  unfold tc_put upd
  rw [if_neg (by omega), if_neg (by omega), if_neg (by omega), if_neg (by omega)]
theorem tc_put0 {W : Nat → Int32} {i : Nat} {a b c d : Int32} : tc_put W i a b c d (i * 4) = a := by
  unfold tc_put upd
  rw [if_neg (by omega), if_neg (by omega), if_neg (by omega), if_pos rfl]
theorem tc_put1 {W : Nat → Int32} {i : Nat} {a b c d : Int32} : tc_put W i a b c d (i * 4 + 1) = b := by
  unfold tc_put upd
  rw [if_neg (by omega), if_neg (by omega), if_pos rfl]
theorem tc_put2 {W : Nat → Int32} {i : Nat} {a b c d : Int32} : tc_put W i a b c d (i * 4 + 2) = c := by
  unfold tc_put upd
  rw [if_neg (by omega), if_pos rfl]
theorem tc_put3 {W : Nat → Int32} {i : Nat} {a b c d : Int32} : tc_put W i a b c d (i * 4 + 3) = d := by
  unfold tc_put upd
  rw [if_pos rfl]
theorem tc_ClN {V : Nat} {W S : Nat → Int32} {i : Nat} {a b c d x : Int32} {j : Nat} (h : j ≠ i) (g : tc_Cl V W S j) : tc_Cl V (tc_put W i a b c d) (upd S i x) j := by
  obtain ⟨p, h1, h2⟩ := g
  refine ⟨p, fun s hs => ?_, by rw [pk_un h, h2]⟩
  obtain ⟨z1, z2, z3⟩ := h1 s hs
  exact ⟨z1, z2, by rw [tc_putN h hs, z3]⟩
theorem tc_ClN' {V : Nat} {W S : Nat → Int32} {i : Nat} {a b c d : Int32} {j : Nat} (h : j ≠ i) (g : tc_Cl V W S j) : tc_Cl V (tc_put W i a b c d) S j := by
  obtain ⟨p, h1, h2⟩ := g
  refine ⟨p, fun s hs => ?_, h2⟩
  obtain ⟨z1, z2, z3⟩ := h1 s hs
  exact ⟨z1, z2, by rw [tc_putN h hs, z3]⟩
/-- an argument within -V..V -/
def tc_ok (V : Nat) (w : Int32) : Prop := ∃ a, 8 ≤ a + V ∧ a ≤ 8 + V ∧ w = tc_w a
theorem tc_ClS {V : Nat} {W S : Nat → Int32} {i : Nat} {a b c d : Int32} (ha : tc_ok V a) (hb : tc_ok V b) (hc : tc_ok V c) (hd : tc_ok V d) : tc_Cl V (tc_put W i a b c d) (upd S i (tc_sl a b c d)) i := by
  obtain ⟨p0, h0, g0, e0⟩ := ha
  obtain ⟨p1, h1, g1, e1⟩ := hb
  obtain ⟨p2, h2, g2, e2⟩ := hc
  obtain ⟨p3, h3, g3, e3⟩ := hd
  refine ⟨fun s => if s = 0 then p0 else if s = 1 then p1 else if s = 2 then p2 else p3, fun s hs => ?_, ?_⟩
  · have hs4 : s = 0 ∨ s = 1 ∨ s = 2 ∨ s = 3 := by omega
    rcases hs4 with rfl | rfl | rfl | rfl
    · exact ⟨h0, g0, (tc_put0 (W := W) (i := i)).trans e0⟩
    · exact ⟨h1, g1, (tc_put1 (W := W) (i := i)).trans e1⟩
    · exact ⟨h2, g2, (tc_put2 (W := W) (i := i)).trans e2⟩
    · exact ⟨h3, g3, (tc_put3 (W := W) (i := i)).trans e3⟩
  · rw [pk_us, e0, e1, e2, e3]
    rfl
theorem tc_TxA {V n : Nat} {W K S : Nat → Int32} {a b c d : Int32} (h : tc_Tx V n 0 W K S) (hn : n < 12) (ha : tc_ok V a) (hb : tc_ok V b) (hc : tc_ok V c) (hd : tc_ok V d) : tc_Tx V (n + 1) 0 (tc_put W n a b c d) (upd K n 1) (upd S n (tc_sl a b c d)) := by
  obtain ⟨hV, hnm, hA, hL, hC, hD⟩ := h
  refine ⟨hV, ⟨by omega, by omega⟩, fun i hi => ?_, fun i h1 h2 => absurd h2 (by omega), fun i hi hk => ?_, fun i h1 h2 => absurd h2 (by omega)⟩
  · by_cases e : i = n
    · rw [e, pk_us]
    · rw [pk_un e]; exact hA i (by omega)
  · by_cases e : i = n
    · rw [e]; exact tc_ClS ha hb hc hd
    · rw [pk_un e] at hk
      exact tc_ClN e (hC i (by omega) hk)
theorem tc_TxL {V n m : Nat} {W K S : Nat → Int32} {a b c d : Int32} (h : tc_Tx V n m W K S) (hm : m < 12) (ha : tc_ok V a) (hb : tc_ok V b) (hc : tc_ok V c) (hd : tc_ok V d) : tc_Tx V n (m + 1) (tc_put W (n + m) a b c d) (upd K (n + m) 2) (upd S (n + m) (tc_sl a b c d)) := by
  obtain ⟨hV, hnm, hA, hL, hC, hD⟩ := h
  refine ⟨hV, ⟨by omega, by omega⟩, fun i hi => ?_, fun i h1 h2 => ?_, fun i hi hk => ?_, fun i h1 h2 hk => ?_⟩
  · rw [pk_un (by omega)]; exact hA i hi
  · by_cases e : i = n + m
    · rw [e, pk_us]; exact Or.inl rfl
    · rw [pk_un e]; exact hL i h1 (by omega)
  · by_cases e : i = n + m
    · rw [e]; exact tc_ClS ha hb hc hd
    · rw [pk_un e] at hk
      exact tc_ClN e (hC i (by omega) hk)
  · by_cases e : i = n + m
    · rw [e, pk_us] at hk
      exact absurd hk (by decide)
    · rw [pk_un e] at hk
      obtain ⟨t, ht, hw⟩ := hD i h1 (by omega) hk
      exact ⟨t, ht, (tc_putN (s := 0) e (by omega)).trans hw⟩
theorem tc_TxD {V n m t : Nat} {W K S : Nat → Int32} {b c d : Int32} (h : tc_Tx V n m W K S) (hm : m < 12) (ht : t < n + m) : tc_Tx V n (m + 1) (tc_put W (n + m) (nI t) b c d) (upd K (n + m) 3) S := by
  obtain ⟨hV, hnm, hA, hL, hC, hD⟩ := h
  refine ⟨hV, ⟨by omega, by omega⟩, fun i hi => ?_, fun i h1 h2 => ?_, fun i hi hk => ?_, fun i h1 h2 hk => ?_⟩
  · rw [pk_un (by omega)]; exact hA i hi
  · by_cases e : i = n + m
    · rw [e, pk_us]; exact Or.inr rfl
    · rw [pk_un e]; exact hL i h1 (by omega)
  · by_cases e : i = n + m
    · rw [e, pk_us] at hk
      exact absurd rfl hk
    · rw [pk_un e] at hk
      exact tc_ClN' e (hC i (by omega) hk)
  · by_cases e : i = n + m
    · rw [e]; exact ⟨t, ht, tc_put0⟩
    · rw [pk_un e] at hk
      obtain ⟨t, ht, hw⟩ := hD i h1 (by omega) hk
      exact ⟨t, ht, (tc_putN (s := 0) e (by omega)).trans hw⟩
theorem tc_TxR {V n m m' : Nat} {W K S : Nat → Int32} (h : tc_Tx V n m W K S) (hm : m' ≤ m) : tc_Tx V n m' W K S := by
  obtain ⟨hV, hnm, hA, hL, hC, hD⟩ := h
  exact ⟨hV, ⟨by omega, by omega⟩, hA, fun i h1 h2 => hL i h1 (by omega), fun i hi => hC i (by omega), fun i h1 h2 => hD i h1 (by omega)⟩
theorem tc_Tx0 {V n m : Nat} {W K S : Nat → Int32} (h : tc_Tx V n m W K S) : tc_Tx V 0 0 W K S := by
  obtain ⟨hV, hnm, hA, hL, hC, hD⟩ := h
  exact ⟨hV, ⟨by omega, by omega⟩, fun i hi => absurd hi (by omega), fun i h1 h2 => absurd h2 (by omega), fun i hi => absurd hi (by omega), fun i h1 h2 => absurd h2 (by omega)⟩
theorem tc_DeS {K D : Nat → Int32} {i : Nat} {x : Int32} (h : tc_De K D) : tc_De (upd K i x) (upd D i (tc_bi (decide (x = 3)))) := by
  intro j hj
  by_cases e : j = i
  · rw [e, pk_us, pk_us]
  · rw [pk_un e, pk_un e]; exact h j hj
/-- within -V..V, as both sides look at it -/
theorem tc_rng {V : Nat} (hV : V ≤ 8) {w : Int32} (h1 : ¬ w < -nI V) (h2 : ¬ nI V < w) : tc_ok V w := by
  have hV31 : V < 2 ^ 31 := by omega
  have e1 : (-nI V).toInt = -(V : Int) := by
    have hh : ∀ z, z < 9 → (-nI z).toInt = -(z : Int) := by decide +kernel
    exact hh V (by omega)
  rw [Int32.lt_iff_toInt_lt, e1] at h1
  rw [Int32.lt_iff_toInt_lt, nI_toInt hV31] at h2
  refine ⟨(w.toInt + 8).toNat, by omega, by omega, ?_⟩
  apply Int32.toInt_inj.mp
  have h3 : ∀ z, z < 17 → (tc_w z).toInt = (z : Int) - 8 := by decide +kernel
  rw [h3 _ (by omega)]
  omega
end
section
/-! ===== the class: sets, refuting ===== -/
theorem tc_m4 (i : Nat) : nI i * 4 = nI (i * 4) := pk_mul i 4
theorem tc_m41 (i : Nat) : nI i * 4 + 1 = nI (i * 4 + 1) := by rw [tc_m4, nI_1]
theorem tc_m42 (i : Nat) : nI i * 4 + 2 = nI (i * 4 + 2) := by rw [tc_m4]; exact nI_add _ 2
theorem tc_m43 (i : Nat) : nI i * 4 + 3 = nI (i * 4 + 3) := by rw [tc_m4]; exact nI_add _ 3
theorem tc_m4s (i s : Nat) : nI i * 4 + nI s = nI (i * 4 + s) := by rw [tc_m4, nI_add]
theorem tc_bif : tc_bi false = 0 := rfl
theorem tc_bit : ¬ tc_bi true = 0 := by decide
theorem tx_neg {post : Int32 → Prop} {x : Int32} (h : post (tc_ng x)) : wpX_negated post x := nm_e (nm_e h)
theorem tx_hm {post : Int32 → Prop} {cs : Int32} {i : Nat} (hi : i < 24) (h : post (tc_bi (bt cs i))) : wpX_hasMember post cs (nI i) := by
  refine br_f (nI_pos (by omega)) (br_f (nI_ge (b := 24) hi (by decide)) ?_)
  have e : cs &&& tc_1 i = 0 ↔ bt cs i = false := tc_hm (by omega)
  cases hb : bt cs i
  · rw [hb] at h
    exact br_t (e.mpr hb) h
  · rw [hb] at h
    exact br_f (fun z => by rw [e.mp z] at hb; exact absurd hb (by decide)) h
theorem tx_lb {post : Int32 → Prop} {w : Int32} (h : post (tc_lb w)) : wpX_literalBit post w := by
  unfold tc_lb at h
  refine br_c (fun c => ?_) (fun c => br_c (fun d => ?_) (fun d => ?_))
  · rw [if_pos c] at h; exact h
  · rw [if_neg c, if_pos d] at h; exact h
  · rw [if_neg c, if_neg d] at h; exact h
theorem tx_sl {post : Int32 → Prop} {a b c d : Int32} (h : post (tc_sl a b c d)) : wpX_setOfLiterals post a b c d := by
  unfold wpX_setOfLiterals
  exact tx_lb (tx_lb (tx_lb (tx_lb h)))
section
variable {vc al ll ac lc ph cu cf M oc : Int32} {W K S ob : Nat → Int32}
theorem tx_r33 {post : Int32 → Prop} {J : Int32 → Int32 → Int32 → Prop} {cs x5 F0 : Int32} (hS : ∀ i, i < 24 → bt cs i = true → tc_lo (S i)) : ∀ (d i : Nat) (F g : Int32) (n : Nat), i + d = 24 → d < n → (g = 0 → F = F0) → (tc_fl S cs d i F = none → post 1) → (∀ F', tc_fl S cs d i F = some F' → (F' = F0 → post 0) ∧ J F' (tc_ng F') (x5 + 1)) → wX_refutes_33 post J cs x5 vc al ll ac lc ph cu cf M oc W K S ob n F (tc_ng F) g (nI i) := by
  intro d
  induction d with
  | zero =>
    intro i F g n hi hn hg h0 h1
    obtain ⟨n, rfl⟩ : ∃ k, n = k + 1 := ⟨n - 1, by omega⟩
    have e : i = 24 := by omega
    subst e
    obtain ⟨p1, p2⟩ := h1 F rfl
    exact br_t (nI_le (a := 24) (b := 24) (by omega) (by omega)) (br_c (fun c => p1 (hg c)) (fun _ => nm_e p2))
  | succ d ih =>
    intro i F g n hi hn hg h0 h1
    obtain ⟨n, rfl⟩ : ∃ k, n = k + 1 := ⟨n - 1, by omega⟩
    refine br_f (nI_ge (b := 24) (by omega) (by decide)) ⟨vp_in_nI (by omega) (by omega), ?_⟩
    refine nm_r (e' := S i &&& (F ^^^ (-1))) (by rw [nI_clamp (by omega)]) ?_
    refine tx_hm (by omega) ?_
    cases hb : bt cs i
    · refine br_t tc_bif (nm_r (nI_1 i) ?_)
      rw [tc_fl0 hb] at h0 h1
      exact ih (i + 1) F g n (by omega) (by omega) hg h0 h1
    · refine br_f tc_bit ?_
      have hl := hS i (by omega) hb
      by_cases c1 : (S i &&& (F ^^^ (-1))) &&& tc_ng F = 0
      · refine br_t c1 ?_
        by_cases c2 : S i &&& (F ^^^ (-1)) = 0
        · refine br_t c2 (h0 (tc_fln hb ?_))
          unfold tc_st
          rw [if_pos c1, if_pos c2]
        · refine br_f c2 ?_
          by_cases c3 : (S i &&& (F ^^^ (-1))) &&& ((S i &&& (F ^^^ (-1))) - 1) = 0
          · refine br_t c3 (nm_e (tx_neg (nm_e (nm_r (nI_1 i) ?_))))
            have es : tc_st F (S i) = some (F ||| tc_ng (S i &&& (F ^^^ (-1)))) := by
              unfold tc_st
              rw [if_pos c1, if_neg c2, if_pos c3]
            rw [tc_fls hb es] at h0 h1
            have e : tc_ng F ||| (S i &&& (F ^^^ (-1))) = tc_ng (F ||| tc_ng (S i &&& (F ^^^ (-1)))) := by
              rw [tc_ngor, tc_ngng (tc_loand hl)]
            rw [e]
            exact ih (i + 1) _ 1 n (by omega) (by omega) (fun z => absurd z (by decide)) h0 h1
          · refine br_f c3 (nm_r (nI_1 i) ?_)
            have es : tc_st F (S i) = some F := by
              unfold tc_st
              rw [if_pos c1, if_neg c2, if_neg c3]
            rw [tc_fls hb es] at h0 h1
            exact ih (i + 1) F g n (by omega) (by omega) hg h0 h1
      · refine br_f c1 (nm_r (nI_1 i) ?_)
        have es : tc_st F (S i) = some F := by
          unfold tc_st
          rw [if_neg c1]
        rw [tc_fls hb es] at h0 h1
        exact ih (i + 1) F g n (by omega) (by omega) hg h0 h1
theorem tx_r20 {post : Int32 → Prop} {cs : Int32} (hS : ∀ i, i < 24 → bt cs i = true → tc_lo (S i)) : ∀ (r : Nat) (F : Int32) (n : Nat), r ≤ 9 → r < n → post (tc_bi (tc_rd S cs r F)) → wX_refutes_20 post cs vc al ll ac lc ph cu cf M oc W K S ob n F (tc_ng F) (nI (9 - r)) := by
  intro r
  induction r with
  | zero =>
    intro F n _ hn h
    obtain ⟨n, rfl⟩ : ∃ k, n = k + 1 := ⟨n - 1, by omega⟩
    exact br_t (nI_lt (a := 8) (b := 9) (by omega) (by omega)) h
  | succ r ih =>
    intro F n hr hn h
    obtain ⟨n, rfl⟩ : ∃ k, n = k + 1 := ⟨n - 1, by omega⟩
    refine br_f (nI_nlt (a := 8) (b := 9 - (r + 1)) (by omega) (by omega)) ⟨25, ?_⟩
    refine tx_r33 (F0 := F) hS 24 0 F 0 25 (by omega) (by omega) (fun _ => rfl) (fun e => ?_) (fun F' e => ⟨fun z => ?_, ?_⟩)
    · rw [tc_rdn e] at h
      exact h
    · rw [z] at e
      rw [tc_rds e, tc_rdfix e] at h
      exact h
    · rw [tc_rds e] at h
      rw [nI_1, show 9 - (r + 1) + 1 = 9 - r from by omega]
      exact ih F' n (by omega) (by omega) h
theorem tx_ref {post : Int32 → Prop} {cs T : Int32} (hS : ∀ i, i < 24 → bt cs i = true → tc_lo (S i)) (h : post (tc_bi (tc_rf S cs T))) : wpX_refutes post (vc, al, ll, ac, lc, ph, cu, cf, M, oc, W, K, S, ob) cs T := by
  unfold wpX_refutes
  refine tx_neg ?_
  unfold tc_rf at h
  by_cases c : T &&& tc_ng T = 0
  · rw [if_pos c] at h
    exact br_t c ⟨10, tx_r20 hS 9 T 10 (by omega) (by omega) h⟩
  · rw [if_neg c] at h
    exact br_f c h
theorem tx_al2 {post : Int32 → Prop} {cs : Int32} {q : Nat} (hq : q ≤ 24) (hS : ∀ i, i < 24 → bt cs i = true → tc_lo (S i)) : ∀ (d i n : Nat), i + d = q → d < n → post (tc_bi (tc_al S cs ob d i)) → wX_refutesAllObligations_2 post cs vc al ll ac lc ph cu cf M (nI q) W K S ob n (nI i) := by
  intro d
  induction d with
  | zero =>
    intro i n hi hn h
    obtain ⟨n, rfl⟩ : ∃ k, n = k + 1 := ⟨n - 1, by omega⟩
    exact br_t (nI_le (by omega) (by omega)) h
  | succ d ih =>
    intro i n hi hn h
    obtain ⟨n, rfl⟩ : ∃ k, n = k + 1 := ⟨n - 1, by omega⟩
    refine br_f (nI_ge (by omega) (by omega)) ⟨vp_in_nI (by omega) (by omega), ?_⟩
    rw [nI_clamp (by omega)]
    refine tx_ref hS ?_
    rw [tc_al] at h
    cases e : tc_rf S cs (ob i)
    · rw [e, if_neg (by decide)] at h
      exact br_t tc_bif h
    · rw [if_pos e] at h
      exact br_f tc_bit (nm_r (nI_1 i) (ih (i + 1) n (by omega) (by omega) h))
theorem tx_al {post : Int32 → Prop} {cs : Int32} {q : Nat} (hq : q ≤ 24) (hS : ∀ i, i < 24 → bt cs i = true → tc_lo (S i)) (h : post (tc_bi (tc_al S cs ob q 0))) : wpX_refutesAllObligations post (vc, al, ll, ac, lc, ph, cu, cf, M, nI q, W, K, S, ob) cs :=
  ⟨q + 1, tx_al2 hq hS q 0 (q + 1) (by omega) (by omega) h⟩
theorem tx_keep5 {post : SX → Prop} {cs : Int32} {q : Nat} (hq : q ≤ 24) (hS : ∀ i, i < 24 → bt cs i = true → tc_lo (S i)) : ∀ (i : Nat) (k : Int32) (n : Nat), i ≤ 24 → i < n → (∀ j, j < 24 → bt k j = true → bt cs j = true) → post (vc, al, ll, ac, lc, ph, cu, cf, M ||| tc_kp S cs M ob q i k, nI q, W, K, S, ob) → wX_keep_5 post cs vc al ll ac lc ph cu cf M (nI q) W K S ob n k (nI i + (-1)) := by
  intro i
  induction i with
  | zero =>
    intro k n hi hn hk h
    obtain ⟨n, rfl⟩ : ∃ k, n = k + 1 := ⟨n - 1, by omega⟩
    exact br_t (by decide) (nm_e h)
  | succ i ih =>
    intro k n hi hn hk h
    obtain ⟨n, rfl⟩ : ∃ k, n = k + 1 := ⟨n - 1, by omega⟩
    rw [pk_m1]
    refine br_f (nI_pos (by omega)) (tx_hm (by omega) ?_)
    rw [tc_kp] at h
    cases hb : bt cs i
    · rw [if_neg (fun z => by rw [hb] at z; exact absurd z.1 (by decide))] at h
      exact br_t tc_bif (nm_e (ih k n (by omega) (by omega) hk h))
    · refine br_f tc_bit (tx_hm (by omega) ?_)
      cases hm : bt M i
      · rw [if_pos ⟨hb, hm⟩] at h
        refine br_t tc_bif (nm_e ?_)
        have hk' : ∀ j, j < 24 → bt (k &&& (tc_1 i ^^^ (-1))) j = true → bt cs j = true := by
          intro j hj e
          rw [b_and, Bool.and_eq_true] at e
          exact hk j hj e.1
        refine tx_al (cs := k &&& (tc_1 i ^^^ (-1))) hq (fun j hj e => hS j hj (hk' j hj e)) ?_
        cases ea : tc_al S (k &&& (tc_1 i ^^^ (-1))) ob q 0
        · rw [ea, if_neg (by decide)] at h
          exact br_t tc_bif (nm_e (ih k n (by omega) (by omega) hk h))
        · rw [if_pos ea] at h
          exact br_f tc_bit (nm_e (ih _ n (by omega) (by omega) hk' h))
      · rw [if_neg (fun z => by rw [hm] at z; exact absurd z.2 (by decide))] at h
        exact br_f tc_bit (nm_e (ih k n (by omega) (by omega) hk h))
theorem tx_keep {post : SX → Prop} {cs : Int32} {q : Nat} (hq : q ≤ 24) (hS : ∀ i, i < 24 → bt cs i = true → tc_lo (S i)) (h : post (vc, al, ll, ac, lc, ph, cu, cf, M ||| tc_kp S cs M ob q 24 cs, nI q, W, K, S, ob)) : wpX_keep post (vc, al, ll, ac, lc, ph, cu, cf, M, nI q, W, K, S, ob) cs :=
  ⟨25, tx_keep5 hq hS 24 cs 25 (by omega) (by omega) (fun _ _ e => e) h⟩
theorem tx_tgt {post : Int32 → Prop} {i : Nat} (hi : i < 24) (h : post (W (i * 4))) : wpX_targetOf post (vc, al, ll, ac, lc, ph, cu, cf, M, oc, W, K, S, ob) (nI i) := by
  refine ⟨?_, ?_⟩
  · rw [tc_m4]
    exact vp_in_nI (by omega) (by omega)
  · rw [tc_m4, nI_clamp (by omega)]
    exact h
theorem tx_av7 {post : Int32 → Prop} {an k : Nat} (hk : an + k ≤ 24) : ∀ (d j n : Nat), j + d = k → d < n → post (tc_av K W an k) → wX_aliveAfter_7 post (nI k) vc al ll (nI an) lc ph cu cf M oc W K S ob n (tc_av K W an j) (nI j) := by
  intro d
  induction d with
  | zero =>
    intro j n hj hn h
    obtain ⟨n, rfl⟩ : ∃ k, n = k + 1 := ⟨n - 1, by omega⟩
    have e : j = k := by omega
    subst e
    exact br_t (nI_le (by omega) (by omega)) h
  | succ d ih =>
    intro j n hj hn h
    obtain ⟨n, rfl⟩ : ∃ k, n = k + 1 := ⟨n - 1, by omega⟩
    refine br_f (nI_ge (by omega) (by omega)) (nm_r (nI_add an j) ⟨vp_in_nI (by omega) (by omega), ?_⟩)
    rw [nI_clamp (by omega)]
    by_cases c : K (an + j) = 3
    · refine br_t c (tx_tgt (by omega) (nm_r (e' := tc_av K W an (j + 1)) ?_ (nm_r (nI_1 j) (ih (j + 1) n (by omega) (by omega) h))))
      rw [tc_av, if_pos c]
    · refine br_f c (nm_r (e' := tc_av K W an (j + 1)) ?_ (nm_r (nI_1 j) (ih (j + 1) n (by omega) (by omega) h)))
      rw [tc_av, if_neg c]
      rfl
theorem tx_av {post : Int32 → Prop} {an k : Nat} (hk : an + k ≤ 24) (h : post (tc_av K W an k)) : wpX_aliveAfter post (vc, al, ll, nI an, lc, ph, cu, cf, M, oc, W, K, S, ob) (nI k) :=
  ⟨k + 1, tx_av7 hk k 0 (k + 1) (by omega) (by omega) h⟩
end
end
section
/-! ===== the class: passing ===== -/
/-- the place of the pivot (8: there is none) -/
def tc_pv (a : Nat → Nat) : Nat := if a 0 = 8 then (if a 1 = 8 then (if a 2 = 8 then a 3 else a 2) else a 1) else a 0
section
variable {vc al ll ac lc ph cu cf M oc : Int32} {W K S ob : Nat → Int32}
theorem tx_pv2 {post : Int32 → Prop} {i s x n : Nat} (hi : i < 24) (hs : s < 4) (hx : x < 17) (hw : W (i * 4 + s) = tc_w x) (h1 : x = 8 → wX_pivotBit_2 post (nI i) vc al ll ac lc ph cu cf M oc W K S ob n (nI (s + 1))) (h2 : x ≠ 8 → post (tc_lb (tc_w x))) : wX_pivotBit_2 post (nI i) vc al ll ac lc ph cu cf M oc W K S ob (n + 1) (nI s) := by
  refine br_f (nI_ge (b := 4) hs (by decide)) ⟨by rw [tc_m4s]; exact vp_in_nI (by omega) (by omega), ?_⟩
  refine nm_r (e' := tc_w x) (by rw [tc_m4s, nI_clamp (by omega)]; exact hw) ?_
  by_cases c : x = 8
  · exact br_t ((tc_w1 x hx).2.2.1.mpr c) (nm_r (nI_1 s) (h1 c))
  · exact br_f (fun z => c ((tc_w1 x hx).2.2.1.mp z)) (tx_lb (h2 c))
theorem tx_pv {post : Int32 → Prop} {i : Nat} {a : Nat → Nat} (hi : i < 24) (ha : ∀ s, s < 4 → a s < 17) (hw : ∀ s, s < 4 → W (i * 4 + s) = tc_w (a s)) (h : post (tc_lb (tc_w (tc_pv a)))) : wpX_pivotBit post (vc, al, ll, ac, lc, ph, cu, cf, M, oc, W, K, S, ob) (nI i) := by
  refine ⟨5, tx_pv2 hi (s := 0) (by omega) (ha 0 (by omega)) (hw 0 (by omega)) (fun c0 => tx_pv2 hi (s := 1) (by omega) (ha 1 (by omega)) (hw 1 (by omega)) (fun c1 => tx_pv2 hi (s := 2) (by omega) (ha 2 (by omega)) (hw 2 (by omega)) (fun c2 => tx_pv2 hi (s := 3) (by omega) (ha 3 (by omega)) (hw 3 (by omega)) (fun c3 => ?_) (fun c3 => ?_)) (fun c2 => ?_)) (fun c1 => ?_)) (fun c0 => ?_)⟩
  · unfold tc_pv at h
    rw [if_pos c0, if_pos c1, if_pos c2, c3, tc_lb8] at h
    exact br_t (nI_le (a := 4) (b := 4) (by omega) (by omega)) h
  · unfold tc_pv at h
    rw [if_pos c0, if_pos c1, if_pos c2] at h
    exact h
  · unfold tc_pv at h
    rw [if_pos c0, if_pos c1, if_neg c2] at h
    exact h
  · unfold tc_pv at h
    rw [if_pos c0, if_neg c1] at h
    exact h
  · unfold tc_pv at h
    rw [if_neg c0] at h
    exact h
theorem tx_pp20 {post : SX → Prop} {cs P : Int32} {l : Nat} (hl : l < 24) : ∀ (d i : Nat) (ob : Nat → Int32) (q n : Nat), i + d = 24 → d < n → q ≤ i → post (vc, al, ll, ac, lc, ph, cu, cf, M, nI (tc_pp S cs (S l) P d i ob q).2, W, K, S, (tc_pp S cs (S l) P d i ob q).1) → wX_obligePivotPartners_20 post (nI l) cs P vc al ll ac lc ph cu cf M n (nI i) (nI q) W K S ob := by
  intro d
  induction d with
  | zero =>
    intro i ob q n hi hn hq h
    obtain ⟨n, rfl⟩ : ∃ k, n = k + 1 := ⟨n - 1, by omega⟩
    have e : i = 24 := by omega
    subst e
    exact br_t (nI_le (a := 24) (b := 24) (by omega) (by omega)) h
  | succ d ih =>
    intro i ob q n hi hn hq h
    obtain ⟨n, rfl⟩ : ∃ k, n = k + 1 := ⟨n - 1, by omega⟩
    refine br_f (nI_ge (b := 24) (by omega) (by decide)) (tx_hm (by omega) ?_)
    rw [tc_pp] at h
    cases hb : bt cs i
    · rw [if_neg (fun z => by rw [hb] at z; exact absurd z.1 (by decide))] at h
      exact br_t tc_bif (nm_r (nI_1 i) (ih (i + 1) ob q n (by omega) (by omega) (by omega) h))
    · refine br_f tc_bit ⟨vp_in_nI (by omega) (by omega), ?_⟩
      rw [nI_clamp (by omega : i < 2 ^ 31), nI_clamp (by omega : l < 2 ^ 31), nI_clamp (by omega : q < 2 ^ 31)]
      by_cases c : S i &&& P = 0
      · rw [if_neg (fun z => z.2 c)] at h
        exact br_t c (nm_r (nI_1 i) (ih (i + 1) ob q n (by omega) (by omega) (by omega) h))
      · rw [if_pos ⟨hb, c⟩] at h
        exact br_f c ⟨vp_in_nI hl (by omega), vp_in_nI (by omega) (by omega), vp_in_nI (by omega) (by omega), nm_e (nm_r (nI_1 q) (nm_r (nI_1 i) (ih (i + 1) _ (q + 1) n (by omega) (by omega) (by omega) h)))⟩
theorem tx_pp {post : SX → Prop} {cs : Int32} {l : Nat} {a : Nat → Nat} (hl : l < 24) (ha : ∀ s, s < 4 → a s < 17) (hw : ∀ s, s < 4 → W (l * 4 + s) = tc_w (a s)) (h : post (vc, al, ll, ac, lc, ph, cu, cf, M, nI (tc_pp S cs (S l) (tc_ng (tc_lb (tc_w (tc_pv a)))) 24 0 ob 0).2, W, K, S, (tc_pp S cs (S l) (tc_ng (tc_lb (tc_w (tc_pv a)))) 24 0 ob 0).1)) : wpX_obligePivotPartners post (vc, al, ll, ac, lc, ph, cu, cf, M, oc, W, K, S, ob) (nI l) cs := by
  unfold wpX_obligePivotPartners
  refine tx_pv hl ha hw (tx_neg ⟨25, ?_⟩)
  exact tx_pp20 hl 24 0 ob 0 25 (by omega) (by omega) (by omega) h
theorem tx_way {post : Int32 → SX → Prop} {cs : Int32} {l : Nat} {a : Nat → Nat} (hl : l < 24) (ha : ∀ s, s < 4 → a s < 17) (hw : ∀ s, s < 4 → W (l * 4 + s) = tc_w (a s)) (hS : ∀ i, i < 24 → bt cs i = true → tc_lo (S i)) (h : post (tc_way S cs (S l) (tc_ng (tc_lb (tc_w (tc_pv a)))) ob).1 (vc, al, ll, ac, lc, ph, cu, cf, M, nI (tc_way S cs (S l) (tc_ng (tc_lb (tc_w (tc_pv a)))) ob).2.2, W, K, S, (tc_way S cs (S l) (tc_ng (tc_lb (tc_w (tc_pv a)))) ob).2.1)) : wpX_wayOfPassing post (vc, al, ll, ac, lc, ph, cu, cf, M, oc, W, K, S, ob) (nI l) cs := by
  unfold wpX_wayOfPassing
  refine ⟨vp_in_nI hl (by omega), nm_r (e' := S l) (by rw [nI_clamp (by omega)]) ?_⟩
  unfold wpX_obligeOnly
  refine nm_e ?_
  refine tx_al (q := 1) (by omega) hS ?_
  unfold tc_way at h
  cases e : tc_al S cs (upd ob 0 (S l)) 1 0
  · rw [e, if_neg (by decide)] at h
    refine br_t tc_bif ?_
    by_cases c : S l = 0
    · rw [if_pos c] at h
      exact br_t c h
    · rw [if_neg c] at h
      refine br_f c (tx_pp hl ha hw ?_)
      have hq := tc_ppq S cs (S l) (tc_ng (tc_lb (tc_w (tc_pv a)))) 24 0 (upd ob 0 (S l)) 0
      refine tx_al (by omega) hS ?_
      cases e2 : tc_al S cs (tc_pp S cs (S l) (tc_ng (tc_lb (tc_w (tc_pv a)))) 24 0 (upd ob 0 (S l)) 0).1 (tc_pp S cs (S l) (tc_ng (tc_lb (tc_w (tc_pv a)))) 24 0 (upd ob 0 (S l)) 0).2 0
      · rw [e2, if_neg (by decide)] at h
        exact br_t tc_bif h
      · rw [if_pos e2] at h
        exact br_f tc_bit h
  · rw [if_pos e] at h
    exact br_f tc_bit h
end
end
section
/-! ===== the reference: refuting ===== -/
theorem tc_8p (v : Nat) : (8 : Int32) + nI v = nI (8 + v) := nI_add 8 v
theorem tc_8m {v : Nat} (h : v ≤ 8) : (8 : Int32) - nI v = nI (8 - v) := pk_sub h
theorem tc_m17 (o i : Nat) : nI o * 17 + nI i = nI (o * 17 + i) := by
  rw [show nI o * 17 = nI (o * 17) from pk_mul o 17, nI_add]
theorem tc_nb (b : Bool) : vp_nar .boolean (tc_bi b) = tc_bi b := by cases b <;> rfl
theorem tc_nb0 : vp_nar .boolean 0 = 0 := rfl
theorem tc_nb1 : vp_nar .boolean 1 = 1 := rfl
theorem tc_nar (b : Bool) : narrow .boolean (.int (tc_bi b)) = .int (tc_bi b) := by cases b <;> rfl
/-- the clauses of a set lie in the text -/
def tc_CS (V N : Nat) (W S : Nat → Int32) (cs : Int32) : Prop := ∀ i, i < 24 → bt cs i = true → i < N ∧ tc_Cl V W S i
theorem tc_Cla {V : Nat} (hV : V ≤ 8) {W S : Nat → Int32} {i : Nat} (h : tc_Cl V W S i) : ∃ a : Nat → Nat, (∀ s, s < 4 → a s < 17) ∧ (∀ s, s < 4 → W (i * 4 + s) = tc_w (a s)) ∧ S i = tc_sl (tc_w (a 0)) (tc_w (a 1)) (tc_w (a 2)) (tc_w (a 3)) := by
  obtain ⟨a, h1, h2⟩ := h
  exact ⟨a, fun s hs => by have := h1 s hs; omega, fun s hs => (h1 s hs).2.2, h2⟩
theorem tc_CSlo {V N : Nat} (hV : V ≤ 8) {W S : Nat → Int32} {cs : Int32} (h : tc_CS V N W S cs) : ∀ i, i < 24 → bt cs i = true → tc_lo (S i) := by
  intro i hi hb
  obtain ⟨a, h1, _, h3⟩ := tc_Cla hV (h i hi hb).2
  rw [h3]
  exact tc_losl h1
theorem tc_CSsub {V N : Nat} {W S : Nat → Int32} {cs cs' : Int32} (h : tc_CS V N W S cs) (g : ∀ i, i < 24 → bt cs' i = true → bt cs i = true) : tc_CS V N W S cs' := fun i hi hb => h i hi (g i hi hb)
theorem tc_flcut {S : Nat → Int32} {cs : Int32} : ∀ (d e i : Nat) (F : Int32), (∀ j, i + d ≤ j → j < i + d + e → bt cs j = false) → tc_fl S cs (d + e) i F = tc_fl S cs d i F := by
  intro d
  induction d with
  | zero =>
    intro e i F h
    rw [Nat.zero_add]
    exact tc_flout e i F (fun j a b => h j (by omega) (by omega))
  | succ d ih =>
    intro e i F h
    rw [show d + 1 + e = (d + e) + 1 from by omega]
    have ih' := fun F => ih e (i + 1) F (fun j a b => h j (by omega) (by omega))
    cases hb : bt cs i
    · rw [tc_fl0 hb, tc_fl0 hb, ih']
    · cases es : tc_st F (S i) with
      | none => rw [tc_fln hb es, tc_fln hb es]
      | some F' => rw [tc_fls hb es, tc_fls hb es, ih']
def tc_opn1 (F : Int32) (a : Nat → Nat) (s : Nat) : Prop := a s ≠ 8 ∧ bt F (tc_b (a s)) = false ∧ bt F (tc_b (16 - a s)) = false
def tc_stn1 (F : Int32) (a : Nat → Nat) (s : Nat) : Prop := a s ≠ 8 ∧ bt F (tc_b (a s)) = false ∧ bt F (tc_b (16 - a s)) = true
/-- what the reference knows of a clause after s words -/
def tc_I (F : Int32) (a : Nat → Nat) (s : Nat) (u x5 x6 : Int32) : Prop :=
  (∃ sb : Bool, x6 = tc_bi sb ∧ (sb = true ↔ ∃ t, t < s ∧ tc_stn1 F a t)) ∧
  ((x5 = 0 ∧ u = 0 ∧ ∀ t, t < s → ¬ tc_opn1 F a t) ∨
   (x5 = 1 ∧ ∃ x, x < 17 ∧ u = tc_w x ∧ (∃ t, t < s ∧ tc_opn1 F a t ∧ a t = x) ∧ ∀ t, t < s → tc_opn1 F a t → a t = x) ∨
   (∃ c, 2 ≤ c ∧ c ≤ s ∧ x5 = nI c ∧ ∃ t1 t2, t1 < s ∧ t2 < s ∧ tc_opn1 F a t1 ∧ tc_opn1 F a t2 ∧ a t1 ≠ a t2))
theorem tc_I0 (F : Int32) (a : Nat → Nat) : tc_I F a 0 0 0 0 :=
  ⟨⟨false, rfl, fun z => absurd z (by decide), fun ⟨t, ht, _⟩ => absurd ht (by omega)⟩, Or.inl ⟨rfl, rfl, fun t ht => absurd ht (by omega)⟩⟩
/-- a word that is neither free nor true -/
theorem tc_Ino {F : Int32} {a : Nat → Nat} {s : Nat} {u x5 x6 : Int32} (h : tc_I F a s u x5 x6) (h1 : ¬ tc_opn1 F a s) (h2 : ¬ tc_stn1 F a s) : tc_I F a (s + 1) u x5 x6 := by
  obtain ⟨⟨sb, e6, hs⟩, hc⟩ := h
  refine ⟨⟨sb, e6, fun z => ?_, fun ⟨t, ht, g⟩ => ?_⟩, ?_⟩
  · obtain ⟨t, ht, g⟩ := hs.mp z
    exact ⟨t, by omega, g⟩
  · by_cases e : t = s
    · rw [e] at g; exact absurd g h2
    · exact hs.mpr ⟨t, by omega, g⟩
  · rcases hc with ⟨e5, eu, g⟩ | ⟨e5, x, hx, eu, ⟨t, ht, g1, g2⟩, g3⟩ | ⟨c, c2, cs, e5, t1, t2, q1, q2, g1, g2, g3⟩
    · refine Or.inl ⟨e5, eu, fun t ht => ?_⟩
      by_cases e : t = s
      · rw [e]; exact h1
      · exact g t (by omega)
    · refine Or.inr (Or.inl ⟨e5, x, hx, eu, ⟨t, by omega, g1, g2⟩, fun t ht g => ?_⟩)
      by_cases e : t = s
      · rw [e] at g; exact absurd g h1
      · exact g3 t (by omega) g
    · exact Or.inr (Or.inr ⟨c, c2, by omega, e5, t1, t2, by omega, by omega, g1, g2, g3⟩)
theorem tc_Isat {F : Int32} {a : Nat → Nat} {s : Nat} {u x5 x6 : Int32} (h : tc_I F a s u x5 x6) (h2 : tc_stn1 F a s) : tc_I F a (s + 1) u x5 1 := by
  have h1 : ¬ tc_opn1 F a s := by
    rintro ⟨_, _, z⟩
    rw [h2.2.2] at z
    exact absurd z (by decide)
  obtain ⟨_, hc⟩ := h
  refine ⟨⟨true, rfl, fun _ => ⟨s, by omega, h2⟩, fun _ => rfl⟩, ?_⟩
  rcases hc with ⟨e5, eu, g⟩ | ⟨e5, x, hx, eu, ⟨t, ht, g1, g2⟩, g3⟩ | ⟨c, c2, cs, e5, t1, t2, q1, q2, g1, g2, g3⟩
  · refine Or.inl ⟨e5, eu, fun t ht => ?_⟩
    by_cases e : t = s
    · rw [e]; exact h1
    · exact g t (by omega)
  · refine Or.inr (Or.inl ⟨e5, x, hx, eu, ⟨t, by omega, g1, g2⟩, fun t ht g => ?_⟩)
    by_cases e : t = s
    · rw [e] at g; exact absurd g h1
    · exact g3 t (by omega) g
  · exact Or.inr (Or.inr ⟨c, c2, by omega, e5, t1, t2, by omega, by omega, g1, g2, g3⟩)
theorem tc_Isame {F : Int32} {a : Nat → Nat} {s : Nat} {u x5 x6 : Int32} (ha : a s < 17) (h : tc_I F a s u x5 x6) (h1 : tc_opn1 F a s) (e : tc_w (a s) = u) : tc_I F a (s + 1) u x5 x6 := by
  have h2 : ¬ tc_stn1 F a s := by
    rintro ⟨_, _, z⟩
    rw [h1.2.2] at z
    exact absurd z (by decide)
  obtain ⟨⟨sb, e6, hs⟩, hc⟩ := h
  refine ⟨⟨sb, e6, fun z => ?_, fun ⟨t, ht, g⟩ => ?_⟩, ?_⟩
  · obtain ⟨t, ht, g⟩ := hs.mp z
    exact ⟨t, by omega, g⟩
  · by_cases e : t = s
    · rw [e] at g; exact absurd g h2
    · exact hs.mpr ⟨t, by omega, g⟩
  · rcases hc with ⟨e5, eu, g⟩ | ⟨e5, x, hx, eu, ⟨t, ht, g1, g2⟩, g3⟩ | ⟨c, c2, cs, e5, t1, t2, q1, q2, g1, g2, g3⟩
    · rw [eu] at e
      exact absurd ((tc_w1 _ ha).2.2.1.mp e) h1.1
    · rw [eu, tc_winj ha hx] at e
      refine Or.inr (Or.inl ⟨e5, x, hx, eu, ⟨t, by omega, g1, g2⟩, fun t ht g => ?_⟩)
      by_cases et : t = s
      · rw [et]; exact e
      · exact g3 t (by omega) g
    · exact Or.inr (Or.inr ⟨c, c2, by omega, e5, t1, t2, by omega, by omega, g1, g2, g3⟩)
theorem tc_Inew {F : Int32} {a : Nat → Nat} {s : Nat} {u x5 x6 : Int32} (ha : a s < 17) (h : tc_I F a s u x5 x6) (h1 : tc_opn1 F a s) (e : ¬ tc_w (a s) = u) : tc_I F a (s + 1) (tc_w (a s)) (x5 + 1) x6 := by
  have h2 : ¬ tc_stn1 F a s := by
    rintro ⟨_, _, z⟩
    rw [h1.2.2] at z
    exact absurd z (by decide)
  obtain ⟨⟨sb, e6, hs⟩, hc⟩ := h
  refine ⟨⟨sb, e6, fun z => ?_, fun ⟨t, ht, g⟩ => ?_⟩, ?_⟩
  · obtain ⟨t, ht, g⟩ := hs.mp z
    exact ⟨t, by omega, g⟩
  · by_cases e : t = s
    · rw [e] at g; exact absurd g h2
    · exact hs.mpr ⟨t, by omega, g⟩
  · rcases hc with ⟨e5, eu, g⟩ | ⟨e5, x, hx, eu, ⟨t, ht, g1, g2⟩, g3⟩ | ⟨c, c2, cs, e5, t1, t2, q1, q2, g1, g2, g3⟩
    · refine Or.inr (Or.inl ⟨by rw [e5]; decide, a s, ha, rfl, ⟨s, by omega, h1, rfl⟩, fun t ht g' => ?_⟩)
      by_cases et : t = s
      · rw [et]
      · exact absurd g' (g t (by omega))
    · refine Or.inr (Or.inr ⟨2, by omega, by omega, by rw [e5]; decide, s, t, by omega, by omega, h1, g1, ?_⟩)
      rw [g2]
      intro z
      rw [z] at e
      exact e eu.symm
    · exact Or.inr (Or.inr ⟨c + 1, by omega, by omega, by rw [e5, nI_1], t1, t2, by omega, by omega, g1, g2, g3⟩)
section
variable {vs ma ml ac lc ph cu cf oc : Int32} {W D mk inn obl isf S : Nat → Int32}
theorem ty_r118 {post : Int32 → SY → Prop} {J73 J81 : Int32 → (Nat → Int32) → (Nat → Int32) → (Nat → Int32) → (Nat → Int32) → (Nat → Int32) → (Nat → Int32) → Prop} {x2 F : Int32} {i : Nat} {a : Nat → Nat} (hi : i < 24) (ha : ∀ s, s < 4 → a s < 17) (hw : ∀ s, s < 4 → W (i * 4 + s) = tc_w (a s)) (hS : S i = tc_sl (tc_w (a 0)) (tc_w (a 1)) (tc_w (a 2)) (tc_w (a 3))) (hF : tc_FR F isf) (h0 : tc_st F (S i) = none → post 1 (vs, ma, ml, ac, lc, ph, cu, cf, oc, W, D, mk, inn, obl, isf)) (h1 : ∀ F' isf', tc_st F (S i) = some F' → tc_FR F' isf' → J81 (nI (i + 1)) W D mk inn obl isf') : ∀ (d s : Nat) (u x5 x6 : Int32) (n : Nat), s + d = 4 → d < n → tc_I F a s u x5 x6 → wY_refutes_118 post J73 J81 x2 (nI i) vs ma ml ac lc ph cu cf oc W D mk inn obl isf n u x5 x6 (nI s) := by
  intro d
  induction d with
  | zero =>
    intro s u x5 x6 n hs hn hI
    obtain ⟨n, rfl⟩ : ∃ k, n = k + 1 := ⟨n - 1, by omega⟩
    have e : s = 4 := by omega
    subst e
    refine br_t (nI_le (a := 4) (b := 4) (by omega) (by omega)) ?_
    obtain ⟨⟨sb, e6, hsb⟩, hc⟩ := hI
    cases sb
    · rw [e6]
      refine br_t tc_bif ?_
      have nos : ∀ t, t < 4 → ¬ tc_stn1 F a t := fun t ht g => absurd (hsb.mpr ⟨t, ht, g⟩) (by decide)
      have hop : ∀ t, t < 4 → a t ≠ 8 → bt F (tc_b (a t)) = false → tc_opn1 F a t := by
        intro t ht g8 gf
        refine ⟨g8, gf, ?_⟩
        cases z : bt F (tc_b (16 - a t))
        · rfl
        · exact absurd ⟨g8, gf, z⟩ (nos t ht)
      rcases hc with ⟨e5, eu, g⟩ | ⟨e5, x, hx, eu, ⟨t, ht, g1, g2⟩, g3⟩ | ⟨c, c2, cs, e5, t1, t2, q1, q2, g1, g2, g3⟩
      · refine br_t e5 (h0 (tc_stN ha hS (fun t ht g8 => ?_)))
        cases z : bt F (tc_b (a t))
        · exact absurd (hop t ht g8 z) (g t ht)
        · rfl
      · have hx8 : x ≠ 8 := by rw [← g2]; exact g1.1
        refine br_f (by rw [e5]; decide) (br_t tc_bif (br_t e5 ?_))
        have ex : (8 : Int32) - u = nI (16 - x) := by rw [eu]; exact (tc_w1 x hx).2.1
        refine ⟨by rw [ex]; exact vp_in_nI (by omega) (by omega), nm_r (e' := upd isf (16 - x) 1) (by rw [ex, nI_clamp (by omega)]; rfl) (nm_r (nI_1 i) ?_)⟩
        refine h1 (F ||| tc_ng (tc_lb (tc_w x))) _ ?_ ?_
        · exact tc_st1 ha hS hx hx8 (fun s hs p8 pf => (hop s hs p8 pf).2.2) ⟨t, ht, g2, by rw [← g2]; exact g1.2.1⟩ (fun s hs p8 pf => g3 s hs (hop s hs p8 pf))
        · rw [tc_nglb x hx]
          exact tc_FRset hF (by omega) (by omega)
      · have n0 : ¬ x5 = 0 := by rw [e5]; exact nI_ne0 (by omega) (by omega)
        have n1 : ¬ x5 = 1 := by
          rw [e5]
          intro z
          have := (nI_eq (a := c) (b := 1) (by omega) (by omega)).mp z
          omega
        refine br_f n0 (br_t tc_bif (br_f n1 (nm_r (nI_1 i) (h1 F isf ?_ hF))))
        exact tc_st2 ha hS q1 q2 g1.1 g2.1 g1.2.1 g2.2.1 g3
    · rw [e6]
      obtain ⟨t, ht, g⟩ := hsb.mp rfl
      exact br_f tc_bit (br_f tc_bit (nm_r (nI_1 i) (h1 F isf (tc_stS ha hS ht g.1 g.2.1 g.2.2) hF)))
  | succ d ih =>
    intro s u x5 x6 n hs hn hI
    obtain ⟨n, rfl⟩ : ∃ k, n = k + 1 := ⟨n - 1, by omega⟩
    have hs4 : s < 4 := by omega
    have has := ha s hs4
    refine br_f (nI_ge (b := 4) hs4 (by decide)) ⟨by rw [tc_m4s]; exact vp_in_nI (by omega) (by omega), ?_⟩
    refine nm_r (e' := tc_w (a s)) (by rw [tc_m4s, nI_clamp (by omega)]; exact hw s hs4) ?_
    by_cases c8 : a s = 8
    · exact br_t ((tc_w1 _ has).2.2.1.mpr c8) (nm_r (nI_1 s) (ih (s + 1) u x5 x6 n (by omega) (by omega) (tc_Ino hI (fun z => z.1 c8) (fun z => z.1 c8))))
    · refine br_f (fun z => c8 ((tc_w1 _ has).2.2.1.mp z)) ?_
      rw [(tc_w1 _ has).1, (tc_w1 _ has).2.1, nI_clamp (by omega : a s < 2 ^ 31), nI_clamp (by omega : 16 - a s < 2 ^ 31), hF (a s) has c8, hF (16 - a s) (by omega) (by omega)]
      refine ⟨vp_in_nI has (by omega), ?_⟩
      cases b1 : bt F (tc_b (a s))
      · refine br_t tc_bif ⟨vp_in_nI (by omega) (by omega), ?_⟩
        cases b2 : bt F (tc_b (16 - a s))
        · refine br_t tc_bif ?_
          by_cases e : tc_w (a s) = u
          · exact br_t e (nm_r (nI_1 s) (ih (s + 1) u x5 x6 n (by omega) (by omega) (tc_Isame has hI ⟨c8, b1, b2⟩ e)))
          · exact br_f e (nm_e (nm_r (nI_1 s) (ih (s + 1) _ _ x6 n (by omega) (by omega) (tc_Inew has hI ⟨c8, b1, b2⟩ e))))
        · exact br_f tc_bit (nm_r (nI_1 s) (ih (s + 1) u x5 1 n (by omega) (by omega) (tc_Isat hI ⟨c8, b1, b2⟩)))
      · refine br_f tc_bit (nm_r (nI_1 s) (ih (s + 1) u x5 x6 n (by omega) (by omega) (tc_Ino hI (fun z => ?_) (fun z => ?_))))
        · have := z.2.1; rw [b1] at this; exact absurd this (by decide)
        · have := z.2.1; rw [b1] at this; exact absurd this (by decide)
theorem ty_r81 {post : Int32 → SY → Prop} {J73 : Int32 → (Nat → Int32) → (Nat → Int32) → (Nat → Int32) → (Nat → Int32) → (Nat → Int32) → (Nat → Int32) → Prop} {x2 cs : Int32} {V an m : Nat} (hV : V ≤ 8) (hN : an + m ≤ 24) (hC : tc_CS V (an + m) W S cs) (hin : tc_In cs inn) : ∀ (d i : Nat) (F : Int32) (isf : Nat → Int32) (n : Nat), i + d = an + m → d < n → tc_FR F isf → (tc_fl S cs d i F = none → ∀ isf, post 1 (vs, ma, ml, nI an, nI m, ph, cu, cf, oc, W, D, mk, inn, obl, isf)) → (∀ F' isf, tc_fl S cs d i F = some F' → tc_FR F' isf → J73 (x2 + 1) W D mk inn obl isf) → wY_refutes_81 post J73 x2 vs ma ml (nI an) (nI m) ph cu cf oc n (nI i) W D mk inn obl isf := by
  intro d
  induction d with
  | zero =>
    intro i F isf n hi hn hF h0 h1
    obtain ⟨n, rfl⟩ : ∃ k, n = k + 1 := ⟨n - 1, by omega⟩
    refine br_t ?_ (nm_e (h1 F isf rfl hF))
    rw [nI_add]
    exact nI_le (by omega) (by omega)
  | succ d ih =>
    intro i F isf n hi hn hF h0 h1
    obtain ⟨n, rfl⟩ : ∃ k, n = k + 1 := ⟨n - 1, by omega⟩
    refine br_f (by rw [nI_add]; exact nI_ge (by omega) (by omega)) ⟨vp_in_nI (by omega) (by omega), ?_⟩
    rw [nI_clamp (by omega : i < 2 ^ 31), hin i (by omega)]
    cases hb : bt cs i
    · rw [tc_fl0 hb] at h0 h1
      exact br_t tc_bif (nm_r (nI_1 i) (ih (i + 1) F isf n (by omega) (by omega) hF h0 h1))
    · obtain ⟨a, ha, hw, hs⟩ := tc_Cla hV (hC i (by omega) hb).2
      refine br_f tc_bit ⟨5, ty_r118 (by omega) ha hw hs hF (fun e => h0 (tc_fln hb e) isf) (fun F' isf' e hF' => ?_) 4 0 0 0 0 5 (by omega) (by omega) (tc_I0 F a)⟩
      rw [tc_fls hb e] at h0 h1
      exact ih (i + 1) F' isf' n (by omega) (by omega) hF' h0 h1
theorem ty_r73 {post : Int32 → SY → Prop} {cs : Int32} {V an m : Nat} (hV : V ≤ 8) (hN : an + m ≤ 24) (hC : tc_CS V (an + m) W S cs) (hin : tc_In cs inn) : ∀ (r : Nat) (F : Int32) (isf : Nat → Int32) (n : Nat), r ≤ 9 → r < n → tc_FR F isf → (∀ isf, post (tc_bi (tc_rd S cs r F)) (vs, ma, ml, nI an, nI m, ph, cu, cf, oc, W, D, mk, inn, obl, isf)) → wY_refutes_73 post vs ma ml (nI an) (nI m) ph cu cf oc n (nI (9 - r)) W D mk inn obl isf := by
  intro r
  induction r with
  | zero =>
    intro F isf n _ hn hF h
    obtain ⟨n, rfl⟩ : ∃ k, n = k + 1 := ⟨n - 1, by omega⟩
    exact br_t (nI_le (a := 9) (b := 9) (by omega) (by omega)) (h isf)
  | succ r ih =>
    intro F isf n hr hn hF h
    obtain ⟨n, rfl⟩ : ∃ k, n = k + 1 := ⟨n - 1, by omega⟩
    have cut : tc_fl S cs 24 0 F = tc_fl S cs (an + m) 0 F := by
      have := tc_flcut (S := S) (cs := cs) (an + m) (24 - (an + m)) 0 F (fun j h1 h2 => by
        cases hb : bt cs j
        · rfl
        · have := (hC j (by omega) hb).1
          omega)
      rw [← this]
      exact congrArg (fun z => tc_fl S cs z 0 F) (by omega)
    refine br_f (nI_ge (b := 9) (by omega) (by decide)) ⟨an + m + 1, ?_⟩
    refine ty_r81 hV hN hC hin (an + m) 0 F isf (an + m + 1) (by omega) (by omega) hF (fun e isf => ?_) (fun F' isf e hF' => ?_)
    · rw [tc_rdn (cut.trans e)] at h
      exact h isf
    · rw [nI_1, show 9 - (r + 1) + 1 = 9 - r from by omega]
      rw [tc_rds (cut.trans e)] at h
      exact ih F' isf n (by omega) (by omega) hF' h
theorem ty_r33 {post : Int32 → SY → Prop} (h0 : (∀ v, 1 ≤ v → v ≤ 8 → ¬ isf (8 + v) = 0 → ¬ isf (8 - v) = 0 → False) → ∃ n, wY_refutes_73 post vs ma ml ac lc ph cu cf oc n 0 W D mk inn obl isf) (h1 : ¬ (∀ v, 1 ≤ v → v ≤ 8 → ¬ isf (8 + v) = 0 → ¬ isf (8 - v) = 0 → False) → post 1 (vs, ma, ml, ac, lc, ph, cu, cf, oc, W, D, mk, inn, obl, isf)) : ∀ (d v n : Nat), v + d = 9 → d < n → 1 ≤ v → (∀ t, 1 ≤ t → t < v → ¬ isf (8 + t) = 0 → ¬ isf (8 - t) = 0 → False) → wY_refutes_33 post vs ma ml ac lc ph cu cf oc W D mk inn obl isf n (nI v) := by
  intro d
  induction d with
  | zero =>
    intro v n hv hn _ hI
    obtain ⟨n, rfl⟩ : ∃ k, n = k + 1 := ⟨n - 1, by omega⟩
    have e : v = 9 := by omega
    subst e
    exact br_t (nI_lt (a := 8) (b := 9) (by omega) (by omega)) (h0 (fun t a b => hI t a (by omega)))
  | succ d ih =>
    intro v n hv hn hv1 hI
    obtain ⟨n, rfl⟩ : ∃ k, n = k + 1 := ⟨n - 1, by omega⟩
    refine br_f (nI_nlt (a := 8) (b := v) (by omega) (by omega)) ?_
    rw [tc_8p, tc_8m (by omega), nI_clamp (by omega : 8 + v < 2 ^ 31), nI_clamp (by omega : 8 - v < 2 ^ 31)]
    refine ⟨vp_in_nI (by omega) (by omega), ?_⟩
    have next : (¬ isf (8 + v) = 0 → ¬ isf (8 - v) = 0 → False) → wY_refutes_33 post vs ma ml ac lc ph cu cf oc W D mk inn obl isf n (nI (v + 1)) := by
      intro g
      refine ih (v + 1) n (by omega) (by omega) (by omega) (fun t a b => ?_)
      by_cases e : t = v
      · rw [e]; exact g
      · exact hI t a (by omega)
    refine br_c (fun c => nm_r (nI_1 v) (next (fun z => absurd c z))) (fun c => ⟨vp_in_nI (by omega) (by omega), br_c (fun c2 => nm_r (nI_1 v) (next (fun _ z => absurd c2 z))) (fun c2 => ?_)⟩)
    exact h1 (fun z => z v (by omega) (by omega) c c2)
theorem ty_r2 {post : Int32 → SY → Prop} {o : Nat} {T : Int32} (ho : o < 24) (hT : tc_FR T (tc_row obl o)) (h : ∀ isf, tc_FR T isf → ∃ n, wY_refutes_33 post vs ma ml ac lc ph cu cf oc W D mk inn obl isf n 1) : ∀ (d i : Nat) (isf : Nat → Int32) (n : Nat), i + d = 17 → d < n → (∀ a, a < i → a ≠ 8 → isf a = tc_bi (bt T (tc_b a))) → wY_refutes_2 post (nI o) vs ma ml ac lc ph cu cf oc n (nI i) W D mk inn obl isf := by
  intro d
  induction d with
  | zero =>
    intro i isf n hi hn hI
    obtain ⟨n, rfl⟩ : ∃ k, n = k + 1 := ⟨n - 1, by omega⟩
    have e : i = 17 := by omega
    subst e
    exact br_t (nI_le (a := 17) (b := 17) (by omega) (by omega)) (h isf (fun a ha h8 => hI a ha h8))
  | succ d ih =>
    intro i isf n hi hn hI
    obtain ⟨n, rfl⟩ : ∃ k, n = k + 1 := ⟨n - 1, by omega⟩
    refine br_f (nI_ge (b := 17) (by omega) (by decide)) ?_
    rw [tc_m17, nI_clamp (by omega : o * 17 + i < 2 ^ 31), nI_clamp (by omega : i < 2 ^ 31)]
    refine ⟨vp_in_nI (by omega) (by omega), vp_in_nI (by omega) (by omega), nm_e (nm_r (nI_1 i) (ih (i + 1) _ n (by omega) (by omega) (fun a ha h8 => ?_)))⟩
    by_cases e : a = i
    · subst e
      rw [pk_us, show obl (o * 17 + a) = tc_row obl o a from rfl, hT a (by omega) h8, tc_nb]
    · rw [pk_un e]
      exact hI a (by omega) h8
theorem ty_ref {post : Int32 → SY → Prop} {cs T : Int32} {V an m o : Nat} (hV : V ≤ 8) (hN : an + m ≤ 24) (hC : tc_CS V (an + m) W S cs) (hin : tc_In cs inn) (ho : o < 24) (hl : tc_lo T) (hT : tc_FR T (tc_row obl o)) (h : ∀ isf, post (tc_bi (tc_rf S cs T)) (vs, ma, ml, nI an, nI m, ph, cu, cf, oc, W, D, mk, inn, obl, isf)) : wpY_refutes post (vs, ma, ml, nI an, nI m, ph, cu, cf, oc, W, D, mk, inn, obl, isf) (nI o) := by
  refine ⟨18, ty_r2 ho hT (fun isf hF => ⟨9, ty_r33 (fun g => ?_) (fun g => ?_) 8 1 9 (by omega) (by omega) (by omega) (fun t a b => absurd b (by omega))⟩) 17 0 isf 18 (by omega) (by omega) (fun a ha => absurd ha (by omega))⟩
  · unfold tc_rf at h
    rw [if_pos ((tc_both hF hl).mpr g)] at h
    exact ⟨10, ty_r73 hV hN hC hin 9 T isf 10 (by omega) (by omega) hF h⟩
  · unfold tc_rf at h
    rw [if_neg (fun z => g ((tc_both hF hl).mp z))] at h
    exact h isf
theorem ty_al2 {post : Int32 → SY → Prop} {cs : Int32} {ob : Nat → Int32} {V an m q : Nat} (hV : V ≤ 8) (hN : an + m ≤ 24) (hC : tc_CS V (an + m) W S cs) (hin : tc_In cs inn) (hq : q ≤ 24) (ho : tc_OR ob q obl) : ∀ (d i : Nat) (isf : Nat → Int32) (n : Nat), i + d = q → d < n → (∀ isf, post (tc_bi (tc_al S cs ob d i)) (vs, ma, ml, nI an, nI m, ph, cu, cf, nI q, W, D, mk, inn, obl, isf)) → wY_refutesAll_2 post n (nI i) vs ma ml (nI an) (nI m) ph cu cf (nI q) W D mk inn obl isf := by
  intro d
  induction d with
  | zero =>
    intro i isf n hi hn h
    obtain ⟨n, rfl⟩ : ∃ k, n = k + 1 := ⟨n - 1, by omega⟩
    exact br_t (nI_le (by omega) (by omega)) (h isf)
  | succ d ih =>
    intro i isf n hi hn h
    obtain ⟨n, rfl⟩ : ∃ k, n = k + 1 := ⟨n - 1, by omega⟩
    refine br_f (nI_ge (by omega) (by omega)) ?_
    refine ty_ref hV hN hC hin (by omega) (ho i (by omega)).1 (ho i (by omega)).2 (fun isf => ?_)
    rw [tc_al] at h
    cases e : tc_rf S cs (ob i)
    · rw [e, if_neg (by decide)] at h
      exact br_t tc_bif (h isf)
    · rw [if_pos e] at h
      exact br_f tc_bit (nm_r (nI_1 i) (ih (i + 1) isf n (by omega) (by omega) h))
theorem ty_al {post : Int32 → SY → Prop} {cs : Int32} {ob : Nat → Int32} {V an m q : Nat} (hV : V ≤ 8) (hN : an + m ≤ 24) (hC : tc_CS V (an + m) W S cs) (hin : tc_In cs inn) (hq : q ≤ 24) (ho : tc_OR ob q obl) (h : ∀ isf, post (tc_bi (tc_al S cs ob q 0)) (vs, ma, ml, nI an, nI m, ph, cu, cf, nI q, W, D, mk, inn, obl, isf)) : wpY_refutesAll post (vs, ma, ml, nI an, nI m, ph, cu, cf, nI q, W, D, mk, inn, obl, isf) :=
  ⟨q + 1, ty_al2 hV hN hC hin hq ho q 0 isf (q + 1) (by omega) (by omega) h⟩
end
end
section
/-! ===== the reference: alive, filling, clearing, uniting, passing, keeping ===== -/
def tc_oth (o : Nat) (obl obl' : Nat → Int32) : Prop := ∀ o', o' ≠ o → ∀ j, j < 17 → tc_row obl' o' j = tc_row obl o' j
theorem tc_othr {o : Nat} {obl : Nat → Int32} : tc_oth o obl obl := fun _ _ _ _ => rfl
theorem tc_otht {o : Nat} {a b c : Nat → Int32} (h : tc_oth o a b) (g : tc_oth o b c) : tc_oth o a c := fun o' ho j hj => (g o' ho j hj).trans (h o' ho j hj)
theorem tc_othu {o x : Nat} {obl : Nat → Int32} {v : Int32} (hx : x < 17) : tc_oth o obl (upd obl (o * 17 + x) v) := fun o' ho j hj => tc_rowN (fun z => ho z.symm) hx hj
theorem tc_ORoth {ob : Nat → Int32} {q : Nat} {obl obl' : Nat → Int32} (h : tc_OR ob q obl) (g : tc_oth q obl obl') : tc_OR ob q obl' := fun o ho => ⟨(h o ho).1, tc_FRc (h o ho).2 (fun j hj => g o (by omega) j hj)⟩
theorem tc_ORadd {ob : Nat → Int32} {q : Nat} {obl : Nat → Int32} {T : Int32} (h : tc_OR ob q obl) (hl : tc_lo T) (hT : tc_FR T (tc_row obl q)) : tc_OR (upd ob q T) (q + 1) obl := by
  intro o ho
  by_cases e : o = q
  · rw [e, pk_us]; exact ⟨hl, hT⟩
  · rw [pk_un e]; exact h o (by omega)
theorem tc_OR1 {ob : Nat → Int32} {obl : Nat → Int32} {T : Int32} (hl : tc_lo T) (hT : tc_FR T (tc_row obl 0)) : tc_OR (upd ob 0 T) 1 obl := tc_ORadd (q := 0) (fun o ho => absurd ho (by omega)) hl hT
theorem tc_pp0 {S : Nat → Int32} {cs L P : Int32} {d i : Nat} {ob : Nat → Int32} {q : Nat} (h : bt cs i = false) : tc_pp S cs L P (d + 1) i ob q = tc_pp S cs L P d (i + 1) ob q := by
  rw [tc_pp, if_neg (fun z => by rw [h] at z; exact absurd z.1 (by decide))]
theorem tc_ppcut {S : Nat → Int32} {cs L P : Int32} : ∀ (d e i : Nat) (ob : Nat → Int32) (q : Nat), (∀ j, i + d ≤ j → j < i + d + e → bt cs j = false) → tc_pp S cs L P (d + e) i ob q = tc_pp S cs L P d i ob q := by
  intro d
  induction d with
  | zero =>
    intro e
    induction e with
    | zero => intro i ob q _; rfl
    | succ e ih =>
      intro i ob q h
      exact (tc_pp0 (d := 0 + e) (h i (by omega) (by omega))).trans (ih (i + 1) ob q (fun j a b => h j (by omega) (by omega)))
  | succ d ih =>
    intro e i ob q h
    rw [show d + 1 + e = (d + e) + 1 from by omega, tc_pp, tc_pp]
    have ih' := fun ob q => ih e (i + 1) ob q (fun j a b => h j (by omega) (by omega))
    rw [ih', ih']
section
variable {vs ma ml ac lc ph cu cf oc : Int32} {W D mk inn obl isf S K : Nat → Int32}
theorem ty_av40 {post : Int32 → Prop} {an m k i : Nat} (hD : tc_De K D) (hk : k ≤ m) (hN : an + m ≤ 24) (hi : i < 24) (h1 : (∀ t, t < k → K (an + t) = 3 → ¬ W ((an + t) * 4) = nI i) → post 1) (h0 : ¬ (∀ t, t < k → K (an + t) = 3 → ¬ W ((an + t) * 4) = nI i) → post 0) : ∀ (d j n : Nat), j + d = k → d < n → (∀ t, t < j → K (an + t) = 3 → ¬ W ((an + t) * 4) = nI i) → wY_aliveAfter_40 post (nI i) (nI k) vs ma ml (nI an) (nI m) ph cu cf oc W D mk inn obl isf n (nI j) := by
  intro d
  induction d with
  | zero =>
    intro j n hj hn hI
    obtain ⟨n, rfl⟩ : ∃ k, n = k + 1 := ⟨n - 1, by omega⟩
    have e : j = k := by omega
    subst e
    exact br_t (nI_le (by omega) (by omega)) (h1 hI)
  | succ d ih =>
    intro j n hj hn hI
    obtain ⟨n, rfl⟩ : ∃ k, n = k + 1 := ⟨n - 1, by omega⟩
    refine br_f (nI_ge (by omega) (by omega)) (br_f (nI_ge (by omega) (by omega)) ?_)
    rw [nI_add, tc_m4, nI_clamp (by omega : an + j < 2 ^ 31), nI_clamp (by omega : (an + j) * 4 < 2 ^ 31), hD (an + j) (by omega)]
    refine ⟨vp_in_nI (by omega) (by omega), ?_⟩
    by_cases c : K (an + j) = 3
    · rw [decide_eq_true c]
      refine br_f tc_bit ⟨vp_in_nI (by omega) (by omega), br_c (fun e => h0 (fun z => z j (by omega) c e)) (fun e => nm_r (nI_1 j) (ih (j + 1) n (by omega) (by omega) (fun t ht hK => ?_)))⟩
      by_cases et : t = j
      · rw [et]; exact e
      · exact hI t (by omega) hK
    · rw [decide_eq_false c]
      refine br_t tc_bif (nm_r (nI_1 j) (ih (j + 1) n (by omega) (by omega) (fun t ht hK => ?_)))
      by_cases et : t = j
      · rw [et] at hK; exact absurd hK c
      · exact hI t (by omega) hK
theorem ty_av {post : Int32 → Prop} {V an m k i : Nat} (hT : tc_Tx V an m W K S) (hD : tc_De K D) (hk : k ≤ m) (hi : i < 24) (h : post (tc_bi (bt (tc_av K W an k) i))) : wpY_aliveAfter post (vs, ma, ml, nI an, nI m, ph, cu, cf, oc, W, D, mk, inn, obl, isf) (nI i) (nI k) := by
  have hb := tc_avb hT k hk i hi
  obtain ⟨_, ⟨hn, hm⟩, _⟩ := hT
  have hf : ¬ (i < an + k ∧ ¬ K i = 3 ∧ ∀ j, j < k → K (an + j) = 3 → ¬ W ((an + j) * 4) = nI i) → post 0 := by
    intro z
    rw [← hb, Bool.not_eq_true] at z
    rw [z] at h
    exact h
  have ht : (i < an + k ∧ ¬ K i = 3 ∧ ∀ j, j < k → K (an + j) = 3 → ¬ W ((an + j) * 4) = nI i) → post 1 := by
    intro z
    rw [← hb] at z
    rw [z] at h
    exact h
  refine br_f (nI_pos (by omega)) ?_
  rw [nI_add, nI_add]
  refine br_c (fun c => ?_) (fun _ => br_c (fun c => ?_) (fun c => ⟨vp_in_nI hi (by omega), ?_⟩))
  · rw [nI_leI (by omega) (by omega)] at c
    exact hf (fun z => by omega)
  · rw [nI_leI (by omega) (by omega)] at c
    exact hf (fun z => by omega)
  · rw [nI_leI (by omega) (by omega)] at c
    rw [nI_clamp (by omega : i < 2 ^ 31), hD i hi]
    by_cases cK : K i = 3
    · rw [decide_eq_true cK]
      exact br_f tc_bit (hf (fun z => z.2.1 cK))
    · rw [decide_eq_false cK]
      exact br_t tc_bif ⟨k + 1, ty_av40 hD hk (by omega) hi (fun z => ht ⟨by omega, cK, z⟩) (fun z => hf (fun y => z y.2.2)) k 0 (k + 1) (by omega) (by omega) (fun t ht => absurd ht (by omega))⟩
theorem ty_fill {post : SY → Prop} {V an m k : Nat} (hT : tc_Tx V an m W K S) (hD : tc_De K D) (hk : k ≤ m) (h : ∀ inn, tc_In (tc_av K W an k) inn → post (vs, ma, ml, nI an, nI m, ph, cu, cf, oc, W, D, mk, inn, obl, isf)) : wpY_fill post (vs, ma, ml, nI an, nI m, ph, cu, cf, oc, W, D, mk, inn, obl, isf) (nI k) := by
  have main : ∀ (d i : Nat) (inn : Nat → Int32) (n : Nat), i + d = 24 → d < n → (∀ j, j < i → inn j = tc_bi (bt (tc_av K W an k) j)) → wY_fill_2 post (nI k) vs ma ml (nI an) (nI m) ph cu cf oc n (nI i) W D mk inn obl isf := by
    intro d
    induction d with
    | zero =>
      intro i inn n hi hn hI
      obtain ⟨n, rfl⟩ : ∃ k, n = k + 1 := ⟨n - 1, by omega⟩
      have e : i = 24 := by omega
      subst e
      exact br_t (nI_le (a := 24) (b := 24) (by omega) (by omega)) (h inn hI)
    | succ d ih =>
      intro i inn n hi hn hI
      obtain ⟨n, rfl⟩ : ∃ k, n = k + 1 := ⟨n - 1, by omega⟩
      refine br_f (nI_ge (b := 24) (by omega) (by decide)) (ty_av hT hD hk (by omega) ⟨vp_in_nI (by omega) (by omega), nm_r (e' := upd inn i (tc_bi (bt (tc_av K W an k) i))) (by rw [nI_clamp (by omega), tc_nb]) (nm_r (nI_1 i) (ih (i + 1) _ n (by omega) (by omega) (fun j hj => ?_)))⟩)
      by_cases e : j = i
      · rw [e, pk_us]
      · rw [pk_un e]; exact hI j (by omega)
  exact ⟨25, main 24 0 inn 25 (by omega) (by omega) (fun j hj => absurd hj (by omega))⟩
theorem ty_clear {post : SY → Prop} {o : Nat} (ho : o < 24) (h : ∀ obl', tc_FR 0 (tc_row obl' o) → tc_oth o obl obl' → post (vs, ma, ml, ac, lc, ph, cu, cf, oc, W, D, mk, inn, obl', isf)) : wpY_clear post (vs, ma, ml, ac, lc, ph, cu, cf, oc, W, D, mk, inn, obl, isf) (nI o) := by
  have main : ∀ (d i : Nat) (obl' : Nat → Int32) (n : Nat), i + d = 17 → d < n → (∀ j, j < i → tc_row obl' o j = 0) → tc_oth o obl obl' → wY_clear_2 post (nI o) vs ma ml ac lc ph cu cf oc n (nI i) W D mk inn obl' isf := by
    intro d
    induction d with
    | zero =>
      intro i obl' n hi hn hI hO
      obtain ⟨n, rfl⟩ : ∃ k, n = k + 1 := ⟨n - 1, by omega⟩
      have e : i = 17 := by omega
      subst e
      exact br_t (nI_le (a := 17) (b := 17) (by omega) (by omega)) (h obl' (tc_FR0 hI) hO)
    | succ d ih =>
      intro i obl' n hi hn hI hO
      obtain ⟨n, rfl⟩ : ∃ k, n = k + 1 := ⟨n - 1, by omega⟩
      refine br_f (nI_ge (b := 17) (by omega) (by decide)) ?_
      rw [tc_m17, nI_clamp (by omega : o * 17 + i < 2 ^ 31)]
      refine ⟨vp_in_nI (by omega) (by omega), nm_e (nm_r (nI_1 i) (ih (i + 1) _ n (by omega) (by omega) (fun j hj => ?_) (tc_otht hO (tc_othu (by omega)))))⟩
      rw [tc_rowS]
      by_cases e : j = i
      · rw [e, pk_us]; rfl
      · rw [pk_un e]; exact hI j (by omega)
  exact ⟨18, main 17 0 obl 18 (by omega) (by omega) (fun j hj => absurd hj (by omega)) tc_othr⟩
theorem ty_un1 {post : SY → Prop} {o l s x e n : Nat} {G : Int32} {obl' : Nat → Int32} (ho : o < 24) (hl : l < 24) (hs : s < 4) (hx : x < 17) (he : e < 17) (hw : W (l * 4 + s) = tc_w x) (hG : tc_FR G (tc_row obl' o)) (hO : tc_oth o obl obl') (h : ∀ obl', tc_FR (G ||| tc_g e x) (tc_row obl' o) → tc_oth o obl obl' → wY_unite_3 post (nI o) (nI l) (tc_w e) vs ma ml ac lc ph cu cf oc n (nI (s + 1)) W D mk inn obl' isf) : wY_unite_3 post (nI o) (nI l) (tc_w e) vs ma ml ac lc ph cu cf oc (n + 1) (nI s) W D mk inn obl' isf := by
  refine br_f (nI_ge (b := 4) hs (by decide)) ⟨by rw [tc_m4s]; exact vp_in_nI (by omega) (by omega), ?_⟩
  refine nm_r (e' := tc_w x) (by rw [tc_m4s, nI_clamp (by omega)]; exact hw) ?_
  by_cases c8 : x = 8
  · refine br_t ((tc_w1 x hx).2.2.1.mpr c8) (nm_r (nI_1 s) (h obl' ?_ hO))
    unfold tc_g
    rw [if_pos (Or.inl c8), tc_or0]
    exact hG
  · refine br_f (fun z => c8 ((tc_w1 x hx).2.2.1.mp z)) ?_
    by_cases ce : x = e
    · refine br_t ((tc_winj hx he).mpr ce) (nm_r (nI_1 s) (h obl' ?_ hO))
      unfold tc_g
      rw [if_pos (Or.inr ce), tc_or0]
      exact hG
    · have ei : nI o * 17 + 8 + tc_w x = nI (o * 17 + x) := by
        rw [Int32.add_assoc, (tc_w1 x hx).1, tc_m17]
      rw [ei, nI_clamp (by omega : o * 17 + x < 2 ^ 31)]
      refine br_f (fun z => ce ((tc_winj hx he).mp z)) ⟨vp_in_nI (by omega) (by omega), nm_e (nm_r (nI_1 s) (h _ ?_ (tc_otht hO (tc_othu hx))))⟩
      rw [tc_rowS]
      unfold tc_g
      rw [if_neg (fun z => z.elim c8 ce)]
      exact tc_FRset hG hx c8
theorem ty_unite {post : SY → Prop} {o l e : Nat} {a : Nat → Nat} {F : Int32} (ho : o < 24) (hl : l < 24) (he : e < 17) (ha : ∀ s, s < 4 → a s < 17) (hw : ∀ s, s < 4 → W (l * 4 + s) = tc_w (a s)) (hS : S l = tc_sl (tc_w (a 0)) (tc_w (a 1)) (tc_w (a 2)) (tc_w (a 3))) (hF : tc_FR F (tc_row obl o)) (h : ∀ obl', tc_FR (F ||| (S l &&& (tc_lb (tc_w e) ^^^ (-1)))) (tc_row obl' o) → tc_oth o obl obl' → post (vs, ma, ml, ac, lc, ph, cu, cf, oc, W, D, mk, inn, obl', isf)) : wpY_unite post (vs, ma, ml, ac, lc, ph, cu, cf, oc, W, D, mk, inn, obl, isf) (nI o) (nI l) (tc_w e) := by
  refine ⟨5, ty_un1 (s := 0) ho hl (by omega) (ha 0 (by omega)) he (hw 0 (by omega)) hF tc_othr (fun o1 g1 t1 => ty_un1 (s := 1) ho hl (by omega) (ha 1 (by omega)) he (hw 1 (by omega)) g1 t1 (fun o2 g2 t2 => ty_un1 (s := 2) ho hl (by omega) (ha 2 (by omega)) he (hw 2 (by omega)) g2 t2 (fun o3 g3 t3 => ty_un1 (s := 3) ho hl (by omega) (ha 3 (by omega)) he (hw 3 (by omega)) g3 t3 (fun o4 g4 t4 => ?_))))⟩
  refine br_t (nI_le (a := 4) (b := 4) (by omega) (by omega)) (h o4 ?_ t4)
  rw [hS, ← tc_g4 ha he F]
  exact g4
theorem tc_al1 {S : Nat → Int32} {cs T : Int32} {ob : Nat → Int32} : tc_al S cs (upd ob 0 T) 1 0 = tc_rf S cs T := by
  rw [tc_al, tc_al, pk_us]
  cases tc_rf S cs T <;> rfl
theorem ty_empty {post : Int32 → SY → Prop} {cs : Int32} {V an m : Nat} (hV : V ≤ 8) (hN : an + m ≤ 24) (hC : tc_CS V (an + m) W S cs) (hin : tc_In cs inn) (h : ∀ obl isf, tc_FR 0 (tc_row obl 0) → post (tc_bi (tc_rf S cs 0)) (vs, ma, ml, nI an, nI m, ph, cu, cf, 1, W, D, mk, inn, obl, isf)) : wpY_refutesEmpty post (vs, ma, ml, nI an, nI m, ph, cu, cf, oc, W, D, mk, inn, obl, isf) := by
  unfold wpY_refutesEmpty
  refine ty_clear (o := 0) (by omega) (fun obl' g _ => ?_)
  refine ty_al (q := 1) (ob := upd (fun _ => 0) 0 0) hV hN hC hin (by omega) (tc_OR1 tc_lo0 g) (fun isf => ?_)
  rw [tc_al1]
  exact ⟨tc_nar _, h obl' isf g⟩
/-! ===== passing ===== -/
theorem ty_p100 {post : Int32 → SY → Prop} {J69 : Int32 → Int32 → Int32 → Int32 → Int32 → Int32 → Int32 → Int32 → Int32 → Int32 → (Nat → Int32) → (Nat → Int32) → (Nat → Int32) → (Nat → Int32) → (Nat → Int32) → (Nat → Int32) → Prop} {l i p q : Nat} {a b : Nat → Nat} (hl : l < 24) (hi : i < 24) (hp : p < 17) (hq : q < 24) (ha : ∀ s, s < 4 → a s < 17) (hwa : ∀ s, s < 4 → W (l * 4 + s) = tc_w (a s)) (hSa : S l = tc_sl (tc_w (a 0)) (tc_w (a 1)) (tc_w (a 2)) (tc_w (a 3))) (hb : ∀ s, s < 4 → b s < 17) (hwb : ∀ s, s < 4 → W (i * 4 + s) = tc_w (b s)) (hSb : S i = tc_sl (tc_w (b 0)) (tc_w (b 1)) (tc_w (b 2)) (tc_w (b 3)))
    (h0 : (∀ s, s < 4 → b s ≠ 16 - p) → J69 (nI (i + 1)) vs ma ml ac lc ph cu cf (nI q) W D mk inn obl isf) (h1 : (∃ s, s < 4 ∧ b s = 16 - p) → ∀ obl', tc_FR (S l ||| (S i &&& (tc_lb (tc_w (16 - p)) ^^^ (-1)))) (tc_row obl' q) → tc_oth q obl obl' → J69 (nI (i + 1)) vs ma ml ac lc ph cu cf (nI (q + 1)) W D mk inn obl' isf) : ∀ (d s : Nat) (x4 : Bool) (n : Nat), s + d = 4 → d < n → (x4 = true ↔ ∃ t, t < s ∧ b t = 16 - p) → wY_passes_100 post J69 (nI l) (tc_w p) (nI i) vs ma ml ac lc ph cu cf (nI q) W D mk inn obl isf n (tc_bi x4) (nI s) := by
  intro d
  induction d with
  | zero =>
    intro s x4 n hs hn hx
    obtain ⟨n, rfl⟩ : ∃ k, n = k + 1 := ⟨n - 1, by omega⟩
    have e : s = 4 := by omega
    subst e
    refine br_t (nI_le (a := 4) (b := 4) (by omega) (by omega)) ?_
    cases x4
    · exact br_t tc_bif (nm_r (nI_1 i) (h0 (fun t ht z => absurd (hx.mpr ⟨t, ht, z⟩) (by decide))))
    · refine br_f tc_bit (ty_clear hq (fun o1 g1 t1 => ?_))
      refine ty_unite (e := 8) hq hl (by omega) ha hwa hSa g1 (fun o2 g2 t2 => ?_)
      rw [tc_lb8, tc_not0, tc_0or] at g2
      rw [(tc_w1 p hp).2.2.2]
      refine ty_unite (e := 16 - p) hq hi (by omega) hb hwb hSb g2 (fun o3 g3 t3 => ?_)
      exact nm_r (nI_1 q) (nm_r (nI_1 i) (h1 (hx.mp rfl) o3 g3 (tc_otht t1 (tc_otht t2 t3))))
  | succ d ih =>
    intro s x4 n hs hn hx
    obtain ⟨n, rfl⟩ : ∃ k, n = k + 1 := ⟨n - 1, by omega⟩
    have hs4 : s < 4 := by omega
    refine br_f (nI_ge (b := 4) hs4 (by decide)) ⟨by rw [tc_m4s]; exact vp_in_nI (by omega) (by omega), ?_⟩
    have ew : W (nI i * 4 + nI s).toNatClampNeg = - tc_w p ↔ b s = 16 - p := by
      rw [tc_m4s, nI_clamp (by omega), hwb s hs4, (tc_w1 p hp).2.2.2]
      exact tc_winj (hb s hs4) (by omega)
    refine br_c (fun c => nm_r (nI_1 s) (ih (s + 1) true n (by omega) (by omega) ⟨fun _ => ⟨s, by omega, ew.mp c⟩, fun _ => rfl⟩)) (fun c => nm_r (nI_1 s) (ih (s + 1) x4 n (by omega) (by omega) ⟨fun z => ?_, fun ⟨t, ht, z⟩ => ?_⟩))
    · obtain ⟨t, ht, g⟩ := hx.mp z
      exact ⟨t, by omega, g⟩
    · by_cases e : t = s
      · rw [e] at z; exact absurd (ew.mpr z) c
      · exact hx.mpr ⟨t, by omega, z⟩
theorem ty_p69 {post : Int32 → SY → Prop} {cs : Int32} {V an m l p : Nat} {a : Nat → Nat} (hV : V ≤ 8) (hN : an + m ≤ 24) (hC : tc_CS V (an + m) W S cs) (hin : tc_In cs inn) (hl : l < 24) (hp : p < 17) (hp8 : p ≠ 8) (ha : ∀ s, s < 4 → a s < 17) (hwa : ∀ s, s < 4 → W (l * 4 + s) = tc_w (a s)) (hSa : S l = tc_sl (tc_w (a 0)) (tc_w (a 1)) (tc_w (a 2)) (tc_w (a 3))) : ∀ (d i : Nat) (ob : Nat → Int32) (q : Nat) (obl isf : Nat → Int32) (n : Nat), i + d = an + m → d < n → q ≤ i → tc_OR ob q obl → (∀ obl isf, tc_OR (tc_pp S cs (S l) (tc_ng (tc_lb (tc_w p))) d i ob q).1 (tc_pp S cs (S l) (tc_ng (tc_lb (tc_w p))) d i ob q).2 obl → post (if tc_al S cs (tc_pp S cs (S l) (tc_ng (tc_lb (tc_w p))) d i ob q).1 (tc_pp S cs (S l) (tc_ng (tc_lb (tc_w p))) d i ob q).2 0 = true then 4 else 5) (vs, ma, ml, nI an, nI m, ph, cu, cf, nI (tc_pp S cs (S l) (tc_ng (tc_lb (tc_w p))) d i ob q).2, W, D, mk, inn, obl, isf)) → wY_passes_69 post (nI l) (tc_w p) n (nI i) vs ma ml (nI an) (nI m) ph cu cf (nI q) W D mk inn obl isf := by
  intro d
  induction d with
  | zero =>
    intro i ob q obl isf n hi hn hq hO h
    obtain ⟨n, rfl⟩ : ∃ k, n = k + 1 := ⟨n - 1, by omega⟩
    refine br_t (by rw [nI_add]; exact nI_le (by omega) (by omega)) (ty_al hV hN hC hin (by omega) hO (fun isf => ?_))
    have h' := h obl isf hO
    rw [tc_pp] at h'
    cases e : tc_al S cs ob q 0
    · simp only [e, Bool.false_eq_true, if_false] at h'
      exact br_t tc_bif h'
    · simp only [e, if_true] at h'
      exact br_f tc_bit h'
  | succ d ih =>
    intro i ob q obl isf n hi hn hq hO h
    obtain ⟨n, rfl⟩ : ∃ k, n = k + 1 := ⟨n - 1, by omega⟩
    refine br_f (by rw [nI_add]; exact nI_ge (by omega) (by omega)) ⟨vp_in_nI (by omega) (by omega), ?_⟩
    rw [nI_clamp (by omega : i < 2 ^ 31), hin i (by omega)]
    rw [tc_pp] at h
    cases hbt : bt cs i
    · rw [if_neg (fun z => by rw [hbt] at z; exact absurd z.1 (by decide))] at h
      exact br_t tc_bif (nm_r (nI_1 i) (ih (i + 1) ob q obl isf n (by omega) (by omega) (by omega) hO h))
    · obtain ⟨b, hb, hwb, hSb⟩ := tc_Cla hV (hC i (by omega) hbt).2
      have hz : S i &&& tc_ng (tc_lb (tc_w p)) = 0 ↔ ∀ s, s < 4 → b s ≠ 16 - p := by
        rw [tc_nglb p hp, hSb]
        exact tc_hasz hb (by omega) (by omega)
      refine br_f tc_bit ⟨5, ty_p100 hl (by omega) hp (by omega) ha hwa hSa hb hwb hSb (fun g => ?_) (fun g obl' gF gO => ?_) 4 0 false 5 (by omega) (by omega) ⟨fun z => absurd z (by decide), fun ⟨t, ht, _⟩ => absurd ht (by omega)⟩⟩
      · rw [if_neg (fun z => z.2 (hz.mpr g))] at h
        exact ih (i + 1) ob q obl isf n (by omega) (by omega) (by omega) hO h
      · rw [if_pos ⟨hbt, fun z => by obtain ⟨t, ht, e⟩ := g; exact hz.mp z t ht e⟩] at h
        refine ih (i + 1) _ (q + 1) obl' isf n (by omega) (by omega) (by omega) (tc_ORadd (tc_ORoth hO gO) ?_ ?_) h
        · refine tc_loor ?_ (tc_loand ?_)
          · rw [hSa]; exact tc_losl ha
          · rw [hSb]; exact tc_losl hb
        · rw [tc_nglb p hp]
          exact gF
theorem ty_p30 {post : Int32 → SY → Prop} {l s y : Nat} {x : Nat} {n : Nat} (hl : l < 24) (hs : s < 4) (hx : x < 17) (hy : y < 17) (hw : W (l * 4 + s) = tc_w x) (h : wY_passes_30 post (nI l) vs ma ml ac lc ph cu cf oc W D mk inn obl isf n (tc_w (if y = 8 then x else y)) (nI (s + 1))) : wY_passes_30 post (nI l) vs ma ml ac lc ph cu cf oc W D mk inn obl isf (n + 1) (tc_w y) (nI s) := by
  refine br_f (nI_ge (b := 4) hs (by decide)) ?_
  by_cases c : y = 8
  · rw [if_pos c] at h
    refine br_t ((tc_w1 y hy).2.2.1.mpr c) ⟨by rw [tc_m4s]; exact vp_in_nI (by omega) (by omega), nm_r (e' := tc_w x) (by rw [tc_m4s, nI_clamp (by omega)]; exact hw) (nm_r (nI_1 s) h)⟩
  · rw [if_neg c] at h
    exact br_f (fun z => c ((tc_w1 y hy).2.2.1.mp z)) (nm_r (nI_1 s) h)
theorem tc_pvlt {a : Nat → Nat} (ha : ∀ s, s < 4 → a s < 17) : tc_pv a < 17 := by
  unfold tc_pv
  split
  · split
    · split
      · exact ha 3 (by omega)
      · exact ha 2 (by omega)
    · exact ha 1 (by omega)
  · exact ha 0 (by omega)
theorem tc_pv8 {a : Nat → Nat} : tc_pv a = 8 ↔ ∀ s, s < 4 → a s = 8 := by
  unfold tc_pv
  constructor
  · intro h s hs
    have hs4 : s = 0 ∨ s = 1 ∨ s = 2 ∨ s = 3 := by omega
    by_cases c0 : a 0 = 8
    · rw [if_pos c0] at h
      by_cases c1 : a 1 = 8
      · rw [if_pos c1] at h
        by_cases c2 : a 2 = 8
        · rw [if_pos c2] at h
          rcases hs4 with rfl | rfl | rfl | rfl <;> assumption
        · rw [if_neg c2] at h
          exact absurd h c2
      · rw [if_neg c1] at h
        exact absurd h c1
    · rw [if_neg c0] at h
      exact absurd h c0
  · intro h
    rw [if_pos (h 0 (by omega)), if_pos (h 1 (by omega)), if_pos (h 2 (by omega))]
    exact h 3 (by omega)
theorem tc_pvs {a : Nat → Nat} : (if (if (if (if 8 = 8 then a 0 else 8) = 8 then a 1 else (if 8 = 8 then a 0 else 8)) = 8 then a 2 else (if (if 8 = 8 then a 0 else 8) = 8 then a 1 else (if 8 = 8 then a 0 else 8))) = 8 then a 3 else (if (if (if 8 = 8 then a 0 else 8) = 8 then a 1 else (if 8 = 8 then a 0 else 8)) = 8 then a 2 else (if (if 8 = 8 then a 0 else 8) = 8 then a 1 else (if 8 = 8 then a 0 else 8)))) = tc_pv a := by
  unfold tc_pv
  by_cases c0 : a 0 = 8 <;> by_cases c1 : a 1 = 8 <;> by_cases c2 : a 2 = 8 <;> simp [c0, c1, c2]
theorem tc_if17 {c : Prop} [Decidable c] {x y : Nat} (hx : x < 17) (hy : y < 17) : (if c then x else y) < 17 := by
  split <;> assumption
theorem ty_pass {post : Int32 → SY → Prop} {cs : Int32} {ob : Nat → Int32} {V an m l : Nat} {a : Nat → Nat} (hV : V ≤ 8) (hN : an + m ≤ 24) (hC : tc_CS V (an + m) W S cs) (hin : tc_In cs inn) (hl : l < 24) (ha : ∀ s, s < 4 → a s < 17) (hwa : ∀ s, s < 4 → W (l * 4 + s) = tc_w (a s)) (hSa : S l = tc_sl (tc_w (a 0)) (tc_w (a 1)) (tc_w (a 2)) (tc_w (a 3))) (h : ∀ obl isf, tc_OR (tc_way S cs (S l) (tc_ng (tc_lb (tc_w (tc_pv a)))) ob).2.1 (tc_way S cs (S l) (tc_ng (tc_lb (tc_w (tc_pv a)))) ob).2.2 obl → post (tc_way S cs (S l) (tc_ng (tc_lb (tc_w (tc_pv a)))) ob).1 (vs, ma, ml, nI an, nI m, ph, cu, cf, nI (tc_way S cs (S l) (tc_ng (tc_lb (tc_w (tc_pv a)))) ob).2.2, W, D, mk, inn, obl, isf)) : wpY_passes post (vs, ma, ml, nI an, nI m, ph, cu, cf, oc, W, D, mk, inn, obl, isf) (nI l) := by
  unfold wpY_passes
  have hlo : tc_lo (S l) := by rw [hSa]; exact tc_losl ha
  refine ty_clear (o := 0) (by omega) (fun o1 g1 _ => ?_)
  refine ty_unite (o := 0) (e := 8) (by omega) hl (by omega) ha hwa hSa g1 (fun o2 g2 _ => ?_)
  rw [tc_lb8, tc_not0, tc_0or] at g2
  have hO := tc_OR1 (ob := ob) hlo g2
  refine ty_al (q := 1) hV hN hC hin (by omega) hO (fun isf => ?_)
  unfold tc_way at h
  cases e : tc_al S cs (upd ob 0 (S l)) 1 0
  · rw [e, if_neg (by decide)] at h
    have key : wY_passes_30 post (nI l) vs ma ml (nI an) (nI m) ph cu cf (nI 1) W D mk inn o2 isf 5 (tc_w 8) (nI 0) → wY_passes_30 post (nI l) vs ma ml (nI an) (nI m) ph cu cf (nI 1) W D mk inn o2 isf 5 0 0 := by
      intro z
      rw [tc_w8] at z
      exact z
    refine br_t tc_bif ⟨5, key ?_⟩
    have hy1 : (if 8 = 8 then a 0 else 8) < 17 := tc_if17 (ha 0 (by omega)) (by omega)
    have hy2 : (if (if 8 = 8 then a 0 else 8) = 8 then a 1 else (if 8 = 8 then a 0 else 8)) < 17 := tc_if17 (ha 1 (by omega)) hy1
    have hy3 : (if (if (if 8 = 8 then a 0 else 8) = 8 then a 1 else (if 8 = 8 then a 0 else 8)) = 8 then a 2 else (if (if 8 = 8 then a 0 else 8) = 8 then a 1 else (if 8 = 8 then a 0 else 8))) < 17 := tc_if17 (ha 2 (by omega)) hy2
    refine ty_p30 (s := 0) (y := 8) hl (by omega) (ha 0 (by omega)) (by omega) (hwa 0 (by omega)) ?_
    refine ty_p30 (s := 1) hl (by omega) (ha 1 (by omega)) hy1 (hwa 1 (by omega)) ?_
    refine ty_p30 (s := 2) hl (by omega) (ha 2 (by omega)) hy2 (hwa 2 (by omega)) ?_
    refine ty_p30 (s := 3) hl (by omega) (ha 3 (by omega)) hy3 (hwa 3 (by omega)) ?_
    rw [tc_pvs]
    have hpl := tc_pvlt ha
    refine br_t (nI_le (a := 4) (b := 4) (by omega) (by omega)) ?_
    by_cases c : tc_pv a = 8
    · have z : S l = 0 := by
        rw [hSa]
        exact (tc_slz ha).mpr (tc_pv8.mp c)
      rw [if_pos z] at h
      exact br_t ((tc_w1 _ hpl).2.2.1.mpr c) (h o2 isf hO)
    · have z : ¬ S l = 0 := by
        rw [hSa]
        exact fun y => c (tc_pv8.mpr ((tc_slz ha).mp y))
      rw [if_neg z] at h
      refine br_f (fun y => c ((tc_w1 _ hpl).2.2.1.mp y)) ⟨an + m + 1, ?_⟩
      have cut : tc_pp S cs (S l) (tc_ng (tc_lb (tc_w (tc_pv a)))) 24 0 (upd ob 0 (S l)) 0 = tc_pp S cs (S l) (tc_ng (tc_lb (tc_w (tc_pv a)))) (an + m) 0 (upd ob 0 (S l)) 0 := by
        have := tc_ppcut (S := S) (cs := cs) (L := S l) (P := tc_ng (tc_lb (tc_w (tc_pv a)))) (an + m) (24 - (an + m)) 0 (upd ob 0 (S l)) 0 (fun j h1 h2 => by
          cases hb : bt cs j
          · rfl
          · have := (hC j (by omega) hb).1
            omega)
        rw [← this]
        exact congrArg (fun z => tc_pp S cs (S l) (tc_ng (tc_lb (tc_w (tc_pv a)))) z 0 (upd ob 0 (S l)) 0) (by omega)
      rw [cut] at h
      exact ty_p69 hV hN hC hin hl hpl c ha hwa hSa (an + m) 0 _ 0 o2 isf (an + m + 1) (by omega) (by omega) (by omega) (fun o ho => absurd ho (by omega)) h
  · rw [if_pos e] at h
    exact br_f tc_bit (h o2 isf hO)
/-! ===== keeping ===== -/
theorem ty_k57 {post : SY → Prop} {M k : Int32} (hin : tc_In k inn) (h : ∀ mk, tc_In (M ||| k) mk → post (vs, ma, ml, ac, lc, ph, cu, cf, oc, W, D, mk, inn, obl, isf)) : ∀ (d i : Nat) (mk : Nat → Int32) (n : Nat), i + d = 24 → d < n → (∀ j, j < i → mk j = tc_bi (bt (M ||| k) j)) → (∀ j, i ≤ j → j < 24 → mk j = tc_bi (bt M j)) → wY_keep_57 post vs ma ml ac lc ph cu cf oc n (nI i) W D mk inn obl isf := by
  intro d
  induction d with
  | zero =>
    intro i mk n hi hn h1 h2
    obtain ⟨n, rfl⟩ : ∃ k, n = k + 1 := ⟨n - 1, by omega⟩
    have e : i = 24 := by omega
    subst e
    exact br_t (nI_le (a := 24) (b := 24) (by omega) (by omega)) (h mk h1)
  | succ d ih =>
    intro i mk n hi hn h1 h2
    obtain ⟨n, rfl⟩ : ∃ k, n = k + 1 := ⟨n - 1, by omega⟩
    refine br_f (nI_ge (b := 24) (by omega) (by decide)) ⟨vp_in_nI (by omega) (by omega), ?_⟩
    rw [nI_clamp (by omega : i < 2 ^ 31), hin i (by omega)]
    cases hb : bt k i
    · refine br_t tc_bif (nm_r (nI_1 i) (ih (i + 1) mk n (by omega) (by omega) (fun j hj => ?_) (fun j a b => h2 j (by omega) b)))
      by_cases e : j = i
      · rw [e, b_or, hb, Bool.or_false]
        exact h2 i (by omega) (by omega)
      · exact h1 j (by omega)
    · refine br_f tc_bit ⟨vp_in_nI (by omega) (by omega), nm_e (nm_r (nI_1 i) (ih (i + 1) _ n (by omega) (by omega) (fun j hj => ?_) (fun j a b => ?_)))⟩
      · by_cases e : j = i
        · rw [e, pk_us, b_or, hb, Bool.or_true]; rfl
        · rw [pk_un e]; exact h1 j (by omega)
      · rw [pk_un (by omega)]; exact h2 j (by omega) b
theorem ty_k3 {post : SY → Prop} {cs M : Int32} {ob : Nat → Int32} {V an m q : Nat} (hV : V ≤ 8) (hN : an + m ≤ 24) (hC : tc_CS V (an + m) W S cs) (hq : q ≤ 24) (hO : tc_OR ob q obl) (hM : tc_In M mk) : ∀ (i : Nat) (k : Int32) (inn isf : Nat → Int32) (n : Nat), i ≤ 24 → i < n → tc_In k inn → (∀ j, j < 24 → bt k j = true → bt cs j = true) → (∀ j, j < i → bt k j = bt cs j) → (∀ mk inn isf, tc_In (M ||| tc_kp S cs M ob q i k) mk → post (vs, ma, ml, nI an, nI m, ph, cu, cf, nI q, W, D, mk, inn, obl, isf)) → wY_keep_3 post n (nI i + (-1)) vs ma ml (nI an) (nI m) ph cu cf (nI q) W D mk inn obl isf := by
  intro i
  induction i with
  | zero =>
    intro k inn isf n hi hn hin hk hj h
    obtain ⟨n, rfl⟩ : ∃ k, n = k + 1 := ⟨n - 1, by omega⟩
    exact br_t (by decide) ⟨25, ty_k57 hin (fun mk g => h mk inn isf g) 24 0 mk 25 (by omega) (by omega) (fun j hj => absurd hj (by omega)) (fun j _ b => hM j b)⟩
  | succ i ih =>
    intro k inn isf n hi hn hin hk hj h
    obtain ⟨n, rfl⟩ : ∃ k, n = k + 1 := ⟨n - 1, by omega⟩
    rw [pk_m1]
    refine br_f (nI_pos (by omega)) ⟨vp_in_nI (by omega) (by omega), ?_⟩
    rw [nI_clamp (by omega : i < 2 ^ 31), hin i (by omega), hM i (by omega), hj i (by omega)]
    rw [tc_kp] at h
    have hj' : ∀ j, j < i → bt k j = bt cs j := fun j a => hj j (by omega)
    cases hb : bt cs i
    · rw [if_neg (fun z => by rw [hb] at z; exact absurd z.1 (by decide))] at h
      exact br_t tc_bif (nm_e (ih k inn isf n (by omega) (by omega) hin hk hj' h))
    · refine br_f tc_bit ⟨vp_in_nI (by omega) (by omega), ?_⟩
      cases hm : bt M i
      · rw [if_pos ⟨hb, hm⟩] at h
        have hk' : ∀ j, j < 24 → bt (k &&& (tc_1 i ^^^ (-1))) j = true → bt cs j = true := by
          intro j hj e
          rw [b_and, Bool.and_eq_true] at e
          exact hk j hj e.1
        have hin' : tc_In (k &&& (tc_1 i ^^^ (-1))) (upd inn i 0) := by
          intro j hj
          rw [tc_del (by omega) (by omega)]
          by_cases e : j = i
          · rw [e, pk_us, decide_eq_true rfl, Bool.not_true, Bool.and_false]; rfl
          · rw [pk_un e, decide_eq_false e, Bool.not_false, Bool.and_true]; exact hin j hj
        refine br_t tc_bif ⟨vp_in_nI (by omega) (by omega), nm_e ?_⟩
        refine ty_al (cs := k &&& (tc_1 i ^^^ (-1))) hV hN (tc_CSsub hC hk') hin' hq hO (fun isf => ?_)
        cases ea : tc_al S (k &&& (tc_1 i ^^^ (-1))) ob q 0
        · rw [ea, if_neg (by decide)] at h
          refine br_t tc_bif ⟨vp_in_nI (by omega) (by omega), nm_e (nm_e (ih k _ isf n (by omega) (by omega) (fun j hj2 => ?_) hk hj' h))⟩
          by_cases e : j = i
          · rw [e, pk_us, hj i (by omega), hb]; rfl
          · rw [pk_un e, pk_un e]; exact hin j hj2
        · rw [if_pos ea] at h
          refine br_f tc_bit (nm_e (ih _ _ isf n (by omega) (by omega) hin' hk' (fun j a => ?_) h))
          rw [tc_del (by omega) (by omega), decide_eq_false (by omega : ¬ j = i), Bool.not_false, Bool.and_true]
          exact hj' j a
      · rw [if_neg (fun z => by rw [hm] at z; exact absurd z.2 (by decide))] at h
        exact br_f tc_bit (nm_e (ih k inn isf n (by omega) (by omega) hin hk hj' h))
theorem ty_keep {post : SY → Prop} {cs M : Int32} {ob : Nat → Int32} {V an m q : Nat} (hV : V ≤ 8) (hN : an + m ≤ 24) (hC : tc_CS V (an + m) W S cs) (hin : tc_In cs inn) (hq : q ≤ 24) (hO : tc_OR ob q obl) (hM : tc_In M mk) (h : ∀ mk inn isf, tc_In (M ||| tc_kp S cs M ob q 24 cs) mk → post (vs, ma, ml, nI an, nI m, ph, cu, cf, nI q, W, D, mk, inn, obl, isf)) : wpY_keep post (vs, ma, ml, nI an, nI m, ph, cu, cf, nI q, W, D, mk, inn, obl, isf) :=
  ⟨25, ty_k3 hV hN hC hq hO hM 24 cs inn isf 25 (by omega) (by omega) hin (fun _ _ e => e) (fun _ _ => rfl) h⟩
end
end
section
/-! ===== the relation ===== -/
def tc_R (V A L n m cu : Nat) (ph cf : Int32) (W K S D mk : Nat → Int32) (M : Int32) : Prop :=
  tc_Tx V n m W K S ∧ tc_De K D ∧ tc_In M mk ∧ (n ≤ A ∧ A ≤ 12 ∧ m ≤ L ∧ L ≤ 12) ∧ (∀ i, i < 24 → bt M i = true → i < n + m ∧ ¬ K i = 3) ∧ cu ≤ m ∧ (ph = 1 → 1 ≤ cu) ∧ (cf = -1 ∨ ∃ c, c ≤ m ∧ cf = nI c)
def i_Rel (k : Nat) (u : SX) (v : SY) : Prop := ∃ (V A L n m cu : Nat) (ph cf : Int32) (W K S D mk : Nat → Int32) (M : Int32) (oc oc' : Int32) (ob inn obl isf : Nat → Int32),
  u = (nI V, nI A, nI L, nI n, nI m, ph, nI cu, cf, M, oc, W, K, S, ob) ∧ v = (nI V, nI A, nI L, nI n, nI m, ph, nI cu, cf, oc', W, D, mk, inn, obl, isf) ∧ tc_R V A L n m cu ph cf W K S D mk M
theorem i_up {k : Nat} {u : SX} {v : SY} (h : i_Rel k u v) : i_Rel (k + 5) u v := h
theorem tc_rel {k : Nat} {V A L n m cu : Nat} {ph cf : Int32} {W K S D mk : Nat → Int32} {M : Int32} {oc oc' : Int32} {ob inn obl isf : Nat → Int32} (h : tc_R V A L n m cu ph cf W K S D mk M) : i_Rel k (nI V, nI A, nI L, nI n, nI m, ph, nI cu, cf, M, oc, W, K, S, ob) (nI V, nI A, nI L, nI n, nI m, ph, nI cu, cf, oc', W, D, mk, inn, obl, isf) :=
  ⟨V, A, L, n, m, cu, ph, cf, W, K, S, D, mk, M, oc, oc', ob, inn, obl, isf, rfl, rfl, h⟩
/-! ===== the constructors ===== -/
theorem tc_clm (p : Int32) (b : Nat) (hb : 1 ≤ b) (hb2 : b ≤ 12) : ∃ j, 1 ≤ j ∧ j ≤ b ∧ ((¬ 1 ≤ p ∧ j = 1) ∨ (1 ≤ p ∧ p ≤ nI b ∧ p = nI j) ∨ (1 ≤ p ∧ ¬ p ≤ nI b ∧ j = b)) := by
  by_cases c1 : 1 ≤ p
  · by_cases c2 : p ≤ nI b
    · have h0 : ¬ p < 0 := fun z => absurd (Int32.lt_of_lt_of_le z (Int32.le_trans (by decide : (0 : Int32) ≤ 1) c1)) (Int32.lt_irrefl)
      obtain ⟨j, hj, rfl⟩ := nI_of h0
      have h1 : 1 ≤ j := (nI_leI (a := 1) (by omega) hj).mp c1
      have h2 : j ≤ b := (nI_leI hj (by omega)).mp c2
      exact ⟨j, h1, h2, Or.inr (Or.inl ⟨c1, c2, rfl⟩)⟩
    · exact ⟨b, hb, Nat.le_refl _, Or.inr (Or.inr ⟨c1, c2, rfl⟩)⟩
  · exact ⟨1, Nat.le_refl _, hb, Or.inl ⟨c1, rfl⟩⟩
theorem tc_cl3 {P : Int32 → Prop} {p : Int32} {b j : Nat} (h : (¬ 1 ≤ p ∧ j = 1) ∨ (1 ≤ p ∧ p ≤ nI b ∧ p = nI j) ∨ (1 ≤ p ∧ ¬ p ≤ nI b ∧ j = b)) (hP : P (nI j)) : (1 ≤ p → ((p ≤ nI b → P p) ∧ (¬ p ≤ nI b → P (nI b)))) ∧ (¬ 1 ≤ p → P 1) := by
  rcases h with ⟨h1, rfl⟩ | ⟨h1, h2, h3⟩ | ⟨h1, h2, rfl⟩
  · exact br_f h1 hP
  · exact br_t h1 (br_t h2 (by rw [h3]; exact hP))
  · exact br_t h1 (br_f h2 hP)
theorem i_vc0 (k0 : Int32) (k1 : Int32) (k2 : Int32) : wpX_init (fun u => wpY_init (fun v => i_Rel 3 u v) k0 k1 k2) k0 k1 k2 := by
  obtain ⟨V, v1, v2, hV⟩ := tc_clm k0 8 (by omega) (by omega)
  obtain ⟨A, a1, a2, hA⟩ := tc_clm k1 12 (by omega) (by omega)
  obtain ⟨L, l1, l2, hL⟩ := tc_clm k2 12 (by omega) (by omega)
  unfold wpX_init
  refine tc_cl3 (P := fun r_1 => wpX_clamp (fun r_2 => (wpX_clamp (fun r_3 => wpY_init (fun v => i_Rel 3 (r_1, r_2, r_3, 0, 0, 0, 0, (-1), 0, 0, (fun _ => 0), (fun _ => 0), (fun _ => 0), (fun _ => 0)) v) k0 k1 k2) k2 12)) k1 12) hV ?_
  refine tc_cl3 (P := fun r_2 => (wpX_clamp (fun r_3 => wpY_init (fun v => i_Rel 3 (nI V, r_2, r_3, 0, 0, 0, 0, (-1), 0, 0, (fun _ => 0), (fun _ => 0), (fun _ => 0), (fun _ => 0)) v) k0 k1 k2) k2 12)) hA ?_
  refine tc_cl3 (P := fun r_3 => wpY_init (fun v => i_Rel 3 (nI V, nI A, r_3, 0, 0, 0, 0, (-1), 0, 0, (fun _ => 0), (fun _ => 0), (fun _ => 0), (fun _ => 0)) v) k0 k1 k2) hL ?_
  refine tc_cl3 (P := fun z => wY_init_85 (fun v => i_Rel 3 (nI V, nI A, nI L, 0, 0, 0, 0, (-1), 0, 0, (fun _ => 0), (fun _ => 0), (fun _ => 0), (fun _ => 0)) v) k1 k2 z 0 0 0 0 0 0 0 (-1) 0 (fun _ => 0) (fun _ => 0) (fun _ => 0) (fun _ => 0) (fun _ => 0) (fun _ => 0)) hV ?_
  refine tc_cl3 (P := fun z => wY_init_110 (fun v => i_Rel 3 (nI V, nI A, nI L, 0, 0, 0, 0, (-1), 0, 0, (fun _ => 0), (fun _ => 0), (fun _ => 0), (fun _ => 0)) v) k2 z (nI V) 0 0 0 0 0 0 (-1) 0 (fun _ => 0) (fun _ => 0) (fun _ => 0) (fun _ => 0) (fun _ => 0) (fun _ => 0)) hA ?_
  refine tc_cl3 (P := fun z => i_Rel 3 (nI V, nI A, nI L, 0, 0, 0, 0, (-1), 0, 0, (fun _ => 0), (fun _ => 0), (fun _ => 0), (fun _ => 0)) (nI V, nI A, z, 0, 0, 0, 0, (-1), 0, (fun _ => 0), (fun _ => 0), (fun _ => 0), (fun _ => 0), (fun _ => 0), (fun _ => 0))) hL ?_
  refine tc_rel (n := 0) (m := 0) (cu := 0) ⟨⟨⟨v1, v2⟩, ⟨by omega, by omega⟩, fun i hi => absurd hi (by omega), fun i _ h2 => absurd h2 (by omega), fun i hi => absurd hi (by omega), fun i _ h2 => absurd h2 (by omega)⟩, fun i _ => rfl, fun i _ => by rw [b_0]; rfl, ⟨by omega, a2, by omega, l2⟩, fun i _ h => by rw [b_0] at h; exact absurd h (by decide), by omega, fun h => absurd h (by decide), Or.inl rfl⟩
/-! ===== the readers ===== -/
theorem i_vc_phase {k : Nat} {u : SX} {v : SY} (I : i_Rel k u v) (hk : k + 5 ≤ 2563) : wpX_phase (fun r => wpY_phase (fun r' => r' = r ∧ i_Rel (k + 5) u v) v) u := by
  have I' := i_up I
  obtain ⟨V, A, L, n, m, cu, ph, cf, W, K, S, D, mk, M, oc, oc', ob, inn, obl, isf, rfl, rfl, h⟩ := I
  exact ⟨rfl, I'⟩
theorem i_vc_cursor {k : Nat} {u : SX} {v : SY} (I : i_Rel k u v) (hk : k + 5 ≤ 2563) : wpX_cursor (fun r => wpY_cursor (fun r' => r' = r ∧ i_Rel (k + 5) u v) v) u := by
  have I' := i_up I
  obtain ⟨V, A, L, n, m, cu, ph, cf, W, K, S, D, mk, M, oc, oc', ob, inn, obl, isf, rfl, rfl, h⟩ := I
  exact ⟨rfl, I'⟩
theorem i_vc_conflict {k : Nat} {u : SX} {v : SY} (I : i_Rel k u v) (hk : k + 5 ≤ 2563) : wpX_conflict (fun r => wpY_conflict (fun r' => r' = r ∧ i_Rel (k + 5) u v) v) u := by
  have I' := i_up I
  obtain ⟨V, A, L, n, m, cu, ph, cf, W, K, S, D, mk, M, oc, oc', ob, inn, obl, isf, rfl, rfl, h⟩ := I
  exact ⟨rfl, I'⟩
/-- a member by any number: one answer for both sides -/
theorem tx_hm0 {post : Int32 → Prop} {cs p : Int32} (h : p < 0 ∨ nI 24 ≤ p) (hp : post 0) : wpX_hasMember post cs p := by
  by_cases c : p < 0
  · exact br_t c hp
  · rcases h with h | h
    · exact absurd h c
    · exact br_f c (br_t h hp)
theorem tc_le24 {a b : Nat} (h : a + b ≤ 24) {p : Int32} (hp : nI 24 ≤ p) : nI a + nI b ≤ p := by
  rw [nI_add]
  exact Int32.le_trans (nI_le h (by omega)) hp
theorem tz_av {V n m k : Nat} {W K S D : Nat → Int32} (hT : tc_Tx V n m W K S) (hD : tc_De K D) (hk : k ≤ m) (p : Int32) : ∃ b : Bool, (∀ post : Int32 → Prop, post (tc_bi b) → wpX_hasMember post (tc_av K W n k) p) ∧ (∀ (post : Int32 → Prop) (vs ma ml ph cu cf oc : Int32) (mk inn obl isf : Nat → Int32), post (tc_bi b) → wpY_aliveAfter post (vs, ma, ml, nI n, nI m, ph, cu, cf, oc, W, D, mk, inn, obl, isf) p (nI k)) ∧ (b = true → ∃ j, j < n + k ∧ p = nI j) := by
  have hnm := hT.2.1
  rcases pk_ix p (n := 24) (by omega) with h | h | ⟨j, hj, rfl⟩
  · exact ⟨false, fun post hp => tx_hm0 (Or.inl h) hp, fun post vs ma ml ph cu cf oc mk inn obl isf hp => br_t h hp, fun z => absurd z (by decide)⟩
  · refine ⟨false, fun post hp => tx_hm0 (Or.inr h) hp, fun post vs ma ml ph cu cf oc mk inn obl isf hp => ?_, fun z => absurd z (by decide)⟩
    by_cases c : p < 0
    · exact br_t c hp
    · exact br_f c (br_t (tc_le24 (by omega) h) hp)
  · exact ⟨bt (tc_av K W n k) j, fun post hp => tx_hm hj hp, fun post vs ma ml ph cu cf oc mk inn obl isf hp => ty_av hT hD hk hj hp, fun z => ⟨j, ((tc_avb hT k hk j hj).mp z).1, rfl⟩⟩
theorem i_vc_alive {k : Nat} {u : SX} {v : SY} (I : i_Rel k u v) (hk : k + 5 ≤ 2563) (v1 : Int32) : wpX_alive (fun r => wpY_alive (fun r' => r' = r ∧ i_Rel (k + 5) u v) v v1) u v1 := by
  have I' := i_up I
  obtain ⟨V, A, L, n, m, cu, ph, cf, W, K, S, D, mk, M, oc, oc', ob, inn, obl, isf, rfl, rfl, h⟩ := I
  obtain ⟨hT, hD, hM, hb, hi, hcu, hp, hc⟩ := h
  have hnm := hT.2.1
  obtain ⟨b, b1, b2, _⟩ := tz_av hT hD hcu v1
  unfold wpX_alive
  refine tx_av (by omega) (b1 _ ⟨tc_nar b, ?_⟩)
  unfold wpY_alive
  exact b2 _ _ _ _ _ _ _ _ _ _ _ _ ⟨tc_nar b, rfl, I'⟩
theorem i_vc_marked {k : Nat} {u : SX} {v : SY} (I : i_Rel k u v) (hk : k + 5 ≤ 2563) (v1 : Int32) : wpX_marked (fun r => wpY_marked (fun r' => r' = r ∧ i_Rel (k + 5) u v) v v1) u v1 := by
  have I' := i_up I
  obtain ⟨V, A, L, n, m, cu, ph, cf, W, K, S, D, mk, M, oc, oc', ob, inn, obl, isf, rfl, rfl, h⟩ := I
  obtain ⟨hT, hD, hM, hb, hi, hcu, hp, hc⟩ := h
  have hnm := hT.2.1
  unfold wpX_marked
  rcases pk_ix v1 (n := 24) (by omega) with h | h | ⟨j, hj, rfl⟩
  · exact tx_hm0 (Or.inl h) ⟨rfl, br_t h ⟨rfl, I'⟩⟩
  · refine tx_hm0 (Or.inr h) ⟨rfl, br_c (fun _ => ⟨rfl, I'⟩) (fun c => br_t (tc_le24 (by omega) h) ⟨rfl, I'⟩)⟩
  · refine tx_hm hj ⟨tc_nar _, br_f (nI_pos (by omega)) (br_c (fun c => ⟨?_, I'⟩) (fun c => ⟨vp_in_nI hj (by omega), ?_⟩))⟩
    · rw [nI_add, nI_leI (by omega) (by omega)] at c
      cases e : bt M j
      · rfl
      · have := (hi j hj e).1
        omega
    · rw [nI_clamp (by omega : j < 2 ^ 31), hM j hj]
      cases e : bt M j
      · exact br_t tc_bif ⟨rfl, I'⟩
      · exact br_f tc_bit ⟨rfl, I'⟩
theorem tx_it {post : Int32 → Prop} {vc al ll ph cu cf M oc : Int32} {W K S ob : Nat → Int32} {n m : Nat} {p : Int32} (hnm : n + m ≤ 24) (h0 : (p < 0 ∨ (¬ p < 0 ∧ nI n + nI m ≤ p)) → post 0) (h1 : ∀ j, j < n + m → p = nI j → post 1) : wpX_isInText post (vc, al, ll, nI n, nI m, ph, cu, cf, M, oc, W, K, S, ob) p := by
  refine br_c (fun c => h0 (Or.inl c)) (fun c => br_c (fun d => h0 (Or.inr ⟨c, d⟩)) (fun d => ?_))
  obtain ⟨j, hj, rfl⟩ := nI_of c
  rw [nI_add, nI_leI (by omega) hj] at d
  exact h1 j (by omega) rfl
theorem i_vc_kind {k : Nat} {u : SX} {v : SY} (I : i_Rel k u v) (hk : k + 5 ≤ 2563) (v1 : Int32) : wpX_kind (fun r => wpY_kind (fun r' => r' = r ∧ i_Rel (k + 5) u v) v v1) u v1 := by
  have I' := i_up I
  obtain ⟨V, A, L, n, m, cu, ph, cf, W, K, S, D, mk, M, oc, oc', ob, inn, obl, isf, rfl, rfl, h⟩ := I
  obtain ⟨hT, hD, hM, hb, hi, hcu, hp, hc⟩ := h
  have hT' := hT
  obtain ⟨_, hnm, hA, hL, _, _⟩ := hT'
  unfold wpX_kind
  refine tx_it (by omega) (fun c => br_t rfl ?_) (fun j hj e => br_f (by decide) ?_)
  · rcases c with c | ⟨c, d⟩
    · exact br_t c ⟨rfl, I'⟩
    · exact br_f c (br_f (Int32.not_lt.mpr d) ⟨rfl, I'⟩)
  · subst e
    refine ⟨vp_in_nI (by omega) (by omega), ?_⟩
    refine br_f (nI_pos (by omega)) (br_t (by rw [nI_add]; exact nI_lt hj (by omega)) ?_)
    rw [nI_clamp (by omega : j < 2 ^ 31), hD j (by omega)]
    refine br_c (fun c => ⟨vp_in_nI (by omega) (by omega), ?_⟩) (fun c => ?_)
    · rw [nI_leI (by omega) (by omega)] at c
      rcases hL j c hj with e | e
      · rw [e]
        exact br_t (by decide) ⟨rfl, I'⟩
      · rw [e]
        exact br_f (by decide) ⟨rfl, I'⟩
    · rw [nI_leI (by omega) (by omega)] at c
      rw [hA j (by omega)]
      exact ⟨rfl, I'⟩
theorem i_vc_word {k : Nat} {u : SX} {v : SY} (I : i_Rel k u v) (hk : k + 5 ≤ 2563) (v1 : Int32) (v2 : Int32) : wpX_word (fun r => wpY_word (fun r' => r' = r ∧ i_Rel (k + 5) u v) v v1 v2) u v1 v2 := by
  have I' := i_up I
  obtain ⟨V, A, L, n, m, cu, ph, cf, W, K, S, D, mk, M, oc, oc', ob, inn, obl, isf, rfl, rfl, h⟩ := I
  obtain ⟨hT, hD, hM, hb, hi, hcu, hp, hc⟩ := h
  have hnm := hT.2.1
  unfold wpX_word
  refine tx_it (by omega) (fun c => br_t rfl ?_) (fun j hj e => br_f (by decide) ?_)
  · rcases c with c | ⟨c, d⟩
    · exact br_t c ⟨rfl, I'⟩
    · exact br_f c (br_t d ⟨rfl, I'⟩)
  · subst e
    have c1 := nI_pos (n := j) (by omega)
    have c2 : ¬ nI n + nI m ≤ nI j := by rw [nI_add]; exact nI_ge hj (by omega)
    refine br_c (fun c => br_f c1 (br_f c2 (br_t c ⟨rfl, I'⟩))) (fun c => ?_)
    obtain ⟨s, hs, rfl⟩ := nI_of c
    refine br_c (fun d => ?_) (fun d => ?_)
    · have d' : s < 4 := (nI_ltI (b := 4) hs (by omega)).mp d
      have d3 : nI s ≤ 3 := nI_le (b := 3) (by omega) (by omega)
      have iw : vp_in (nI j * 4 + nI s) 96 := by rw [tc_m4s]; exact vp_in_nI (by omega) (by omega)
      exact ⟨iw, br_f c1 (br_f c2 (br_f c (br_t d3 ⟨iw, rfl, I'⟩)))⟩
    · have d' : ¬ nI s ≤ 3 := by
        intro z
        have z' : s ≤ 3 := (nI_leI (b := 3) hs (by omega)).mp z
        exact d (nI_lt (b := 4) (by omega) (by omega))
      exact br_f c1 (br_f c2 (br_f c (br_f d' ⟨rfl, I'⟩)))
end
section
/-! ===== the text is written ===== -/
def tc_oor (V : Nat) (w : Int32) : Prop := w < -nI V ∨ ¬ w ≤ nI V
theorem tc_okof {V : Nat} (hV : V ≤ 8) {w : Int32} (h : ¬ tc_oor V w) : tc_ok V w := by
  refine tc_rng hV (fun z => h (Or.inl z)) (fun z => h (Or.inr (fun y => ?_)))
  exact absurd (Int32.lt_of_lt_of_le z y) Int32.lt_irrefl
section
variable {al ll ac lc ph cu cf M oc : Int32} {W K S ob : Nat → Int32} {V : Nat}
theorem tx_oor {post : Int32 → Prop} {w : Int32} (h1 : tc_oor V w → post 1) (h0 : ¬ tc_oor V w → post 0) : wpX_isOutOfRange post (nI V, al, ll, ac, lc, ph, cu, cf, M, oc, W, K, S, ob) w :=
  br_c (fun c => h1 (Or.inl c)) (fun c => br_c (fun d => h0 (fun z => z.elim c (fun y => y d))) (fun d => h1 (Or.inr d)))
theorem tx_any {post : Int32 → Prop} {a b c d : Int32} (h1 : (tc_oor V a ∨ tc_oor V b ∨ tc_oor V c ∨ tc_oor V d) → post 1) (h0 : ¬ tc_oor V a → ¬ tc_oor V b → ¬ tc_oor V c → ¬ tc_oor V d → post 0) : wpX_anyOutOfRange post (nI V, al, ll, ac, lc, ph, cu, cf, M, oc, W, K, S, ob) a b c d := by
  unfold wpX_anyOutOfRange
  refine tx_oor (fun z => br_f (by decide) (h1 (Or.inl z))) (fun ga => br_t rfl ?_)
  refine tx_oor (fun z => br_f (by decide) (h1 (Or.inr (Or.inl z)))) (fun gb => br_t rfl ?_)
  refine tx_oor (fun z => br_f (by decide) (h1 (Or.inr (Or.inr (Or.inl z))))) (fun gc => br_t rfl ?_)
  exact tx_oor (fun z => br_f (by decide) (h1 (Or.inr (Or.inr (Or.inr z))))) (fun gd => br_t rfl (h0 ga gb gc gd))
theorem tx_store {post : SX → Prop} {vc : Int32} {i : Nat} {x a b c d : Int32} (hi : i < 24) (h : post (vc, al, ll, ac, lc, ph, cu, cf, M, oc, tc_put W i a b c d, upd K i x, S, ob)) : wpX_store post (vc, al, ll, ac, lc, ph, cu, cf, M, oc, W, K, S, ob) (nI i) x a b c d := by
  unfold wpX_store
  rw [tc_m43, tc_m42, tc_m41, tc_m4, nI_clamp (by omega : i < 2 ^ 31), nI_clamp (by omega : i * 4 < 2 ^ 31), nI_clamp (by omega : i * 4 + 1 < 2 ^ 31), nI_clamp (by omega : i * 4 + 2 < 2 ^ 31), nI_clamp (by omega : i * 4 + 3 < 2 ^ 31)]
  exact ⟨vp_in_nI hi (by omega), nm_e ⟨vp_in_nI (by omega) (by omega), nm_e ⟨vp_in_nI (by omega) (by omega), nm_e ⟨vp_in_nI (by omega) (by omega), nm_e ⟨vp_in_nI (by omega) (by omega), nm_e h⟩⟩⟩⟩⟩
end
section
variable {ma ml ac lc ph cu cf oc : Int32} {W D mk inn obl isf : Nat → Int32} {V : Nat}
theorem ty_out {post : Int32 → Prop} {w : Int32} (h1 : tc_oor V w → post 1) (h0 : ¬ tc_oor V w → post 0) : wpY_out post (nI V, ma, ml, ac, lc, ph, cu, cf, oc, W, D, mk, inn, obl, isf) w :=
  br_c (fun c => h1 (Or.inl c)) (fun c => br_c (fun d => h0 (fun z => z.elim c (fun y => y d))) (fun d => h1 (Or.inr d)))
theorem ty_put {post : Int32 → SY → Prop} {vs : Int32} {i : Nat} {y : Bool} {a b c d : Int32} (hi : i < 24) (h : post (nI i) (vs, ma, ml, ac, lc, ph, cu, cf, oc, tc_put W i a b c d, upd D i (tc_bi y), mk, inn, obl, isf)) : wpY_put post (vs, ma, ml, ac, lc, ph, cu, cf, oc, W, D, mk, inn, obl, isf) (nI i) a b c d (tc_bi y) := by
  unfold wpY_put
  rw [tc_m43, tc_m42, tc_m41, tc_m4, nI_clamp (by omega : i < 2 ^ 31), nI_clamp (by omega : i * 4 < 2 ^ 31), nI_clamp (by omega : i * 4 + 1 < 2 ^ 31), nI_clamp (by omega : i * 4 + 2 < 2 ^ 31), nI_clamp (by omega : i * 4 + 3 < 2 ^ 31), tc_nb]
  exact ⟨vp_in_nI (by omega) (by omega), nm_e ⟨vp_in_nI (by omega) (by omega), nm_e ⟨vp_in_nI (by omega) (by omega), nm_e ⟨vp_in_nI (by omega) (by omega), nm_e ⟨vp_in_nI hi (by omega), nm_e h⟩⟩⟩⟩⟩
end
theorem i_vc_axiom {k : Nat} {u : SX} {v : SY} (I : i_Rel k u v) (hk : k + 5 ≤ 2563) (v1 : Int32) (v2 : Int32) (v3 : Int32) (v4 : Int32) : wpX_axiom (fun r u' => wpY_axiom (fun r' v' => r' = r ∧ i_Rel (k + 5) u' v') v v1 v2 v3 v4) u v1 v2 v3 v4 := by
  have I' := i_up I
  obtain ⟨V, A, L, n, m, cu, ph, cf, W, K, S, D, mk, M, oc, oc', ob, inn, obl, isf, rfl, rfl, h⟩ := I
  obtain ⟨hT, hD, hM, hb, hi, hcu, hp, hc⟩ := h
  have hnm := hT.2.1
  have hV := hT.1
  refine br_c (fun cp => ?_) (fun cp => br_f cp ⟨rfl, I'⟩)
  refine br_c (fun cm => ?_) (fun cm => br_t cp (br_f cm ⟨rfl, I'⟩))
  have hm0 : m = 0 := by
    have := (nI_leI (a := m) (b := 0) (by omega) (by omega)).mp cm
    omega
  refine tx_any (fun g => br_f (by decide) (br_t cp (br_t cm ?_))) (fun ga gb gc gd => br_t rfl ?_)
  · refine ty_out (fun _ => br_f (by decide) ⟨rfl, I'⟩) (fun ga => br_t rfl ?_)
    refine ty_out (fun _ => br_f (by decide) ⟨rfl, I'⟩) (fun gb => br_t rfl ?_)
    refine ty_out (fun _ => br_f (by decide) ⟨rfl, I'⟩) (fun gc => br_t rfl ?_)
    refine ty_out (fun _ => br_f (by decide) ⟨rfl, I'⟩) (fun gd => ?_)
    exact (g.elim ga (fun g => g.elim gb (fun g => g.elim gc gd))).elim
  · have yy : ∀ P : Prop, P → P := fun _ z => z
    refine br_c (fun ca => ?_) (fun ca => br_t cp (br_t cm (ty_out (fun z => absurd z ga) (fun _ => br_t rfl (ty_out (fun z => absurd z gb) (fun _ => br_t rfl (ty_out (fun z => absurd z gc) (fun _ => br_t rfl (ty_out (fun z => absurd z gd) (fun _ => br_t rfl (br_f ca ⟨rfl, I'⟩)))))))))))
    have hn := (nI_ltI (by omega) (by omega)).mp ca
    refine tx_store (by omega) (tx_sl ⟨vp_in_nI (by omega) (by omega), ?_⟩)
    rw [nI_clamp (by omega : n < 2 ^ 31)]
    refine nm_e (nm_r (nI_1 n) ?_)
    refine br_t cp (br_t cm (ty_out (fun z => absurd z ga) (fun _ => br_t rfl (ty_out (fun z => absurd z gb) (fun _ => br_t rfl (ty_out (fun z => absurd z gc) (fun _ => br_t rfl (ty_out (fun z => absurd z gd) (fun _ => br_t rfl (br_t ca (nm_r (nI_1 n) ?_)))))))))))
    rw [nI_pred]
    refine ty_put (y := false) (by omega) ⟨rfl, ?_⟩
    subst hm0
    refine tc_rel ⟨tc_TxA hT (by omega) (tc_okof hV.2 ga) (tc_okof hV.2 gb) (tc_okof hV.2 gc) (tc_okof hV.2 gd), tc_DeS hD, hM, ⟨by omega, by omega, by omega, by omega⟩, fun i h1 h2 => ?_, hcu, hp, hc⟩
    have := hi i h1 h2
    refine ⟨by omega, ?_⟩
    rw [pk_un (by omega)]
    exact this.2
theorem tc_cfm {cf : Int32} {m m' : Nat} (h : m ≤ m') (hc : cf = -1 ∨ ∃ c, c ≤ m ∧ cf = nI c) : cf = -1 ∨ ∃ c, c ≤ m' ∧ cf = nI c := by
  rcases hc with hc | ⟨c, h1, h2⟩
  · exact Or.inl hc
  · exact Or.inr ⟨c, by omega, h2⟩
theorem i_vc_lemma {k : Nat} {u : SX} {v : SY} (I : i_Rel k u v) (hk : k + 5 ≤ 2563) (v1 : Int32) (v2 : Int32) (v3 : Int32) (v4 : Int32) : wpX_lemma (fun r u' => wpY_lemma (fun r' v' => r' = r ∧ i_Rel (k + 5) u' v') v v1 v2 v3 v4) u v1 v2 v3 v4 := by
  have I' := i_up I
  obtain ⟨V, A, L, n, m, cu, ph, cf, W, K, S, D, mk, M, oc, oc', ob, inn, obl, isf, rfl, rfl, h⟩ := I
  obtain ⟨hT, hD, hM, hb, hi, hcu, hp, hc⟩ := h
  have hnm := hT.2.1
  have hV := hT.1
  refine br_c (fun cp => ?_) (fun cp => br_f cp ⟨rfl, I'⟩)
  refine tx_any (fun g => br_f (by decide) (br_t cp ?_)) (fun ga gb gc gd => br_t rfl ?_)
  · refine ty_out (fun _ => br_f (by decide) ⟨rfl, I'⟩) (fun ga => br_t rfl ?_)
    refine ty_out (fun _ => br_f (by decide) ⟨rfl, I'⟩) (fun gb => br_t rfl ?_)
    refine ty_out (fun _ => br_f (by decide) ⟨rfl, I'⟩) (fun gc => br_t rfl ?_)
    refine ty_out (fun _ => br_f (by decide) ⟨rfl, I'⟩) (fun gd => ?_)
    exact (g.elim ga (fun g => g.elim gb (fun g => g.elim gc gd))).elim
  · refine br_c (fun ca => ?_) (fun ca => br_t cp (ty_out (fun z => absurd z ga) (fun _ => br_t rfl (ty_out (fun z => absurd z gb) (fun _ => br_t rfl (ty_out (fun z => absurd z gc) (fun _ => br_t rfl (ty_out (fun z => absurd z gd) (fun _ => br_t rfl (br_f ca ⟨rfl, I'⟩))))))))))
    have hn := (nI_ltI (by omega) (by omega)).mp ca
    refine nm_r (nI_add n m) (tx_store (by omega) (tx_sl ⟨vp_in_nI (by omega) (by omega), ?_⟩))
    rw [nI_clamp (by omega : n + m < 2 ^ 31)]
    refine nm_e ?_
    unfold wpX_countNewLine
    refine nm_r (nI_1 m) ?_
    refine br_t cp (ty_out (fun z => absurd z ga) (fun _ => br_t rfl (ty_out (fun z => absurd z gb) (fun _ => br_t rfl (ty_out (fun z => absurd z gc) (fun _ => br_t rfl (ty_out (fun z => absurd z gd) (fun _ => br_t rfl (br_t ca (nm_r (nI_1 m) ?_))))))))))
    rw [nI_add, show n + (m + 1) = n + m + 1 from rfl, nI_pred]
    refine ty_put (y := false) (by omega) ⟨rfl, ?_⟩
    refine tc_rel ⟨tc_TxL hT (by omega) (tc_okof hV.2 ga) (tc_okof hV.2 gb) (tc_okof hV.2 gc) (tc_okof hV.2 gd), tc_DeS hD, hM, ⟨by omega, by omega, by omega, by omega⟩, fun i h1 h2 => ?_, by omega, fun _ => by omega, tc_cfm (by omega) hc⟩
    have := hi i h1 h2
    refine ⟨by omega, ?_⟩
    rw [pk_un (by omega)]
    exact this.2
theorem i_vc_delete {k : Nat} {u : SX} {v : SY} (I : i_Rel k u v) (hk : k + 5 ≤ 2563) (v1 : Int32) : wpX_delete (fun r u' => wpY_delete (fun r' v' => r' = r ∧ i_Rel (k + 5) u' v') v v1) u v1 := by
  have I' := i_up I
  obtain ⟨V, A, L, n, m, cu, ph, cf, W, K, S, D, mk, M, oc, oc', ob, inn, obl, isf, rfl, rfl, h⟩ := I
  obtain ⟨hT, hD, hM, hb, hi, hcu, hp, hc⟩ := h
  have hnm := hT.2.1
  have hV := hT.1
  refine br_c (fun cp => ?_) (fun cp => br_f cp ⟨rfl, I'⟩)
  obtain ⟨b, b1, b2, b3⟩ := tz_av hT hD (Nat.le_refl m) v1
  refine tx_av (by omega) (b1 _ ?_)
  cases b
  · exact br_t tc_bif (br_t cp (b2 _ _ _ _ _ _ _ _ _ _ _ _ (br_t tc_bif ⟨rfl, I'⟩)))
  · obtain ⟨t, ht, et⟩ := b3 rfl
    subst et
    refine br_f tc_bit (br_c (fun ca => ?_) (fun ca => br_t cp (b2 _ _ _ _ _ _ _ _ _ _ _ _ (br_f tc_bit (br_f ca ⟨rfl, I'⟩)))))
    have hn := (nI_ltI (by omega) (by omega)).mp ca
    refine nm_r (nI_add n m) (tx_store (by omega) ?_)
    unfold wpX_countNewLine
    refine nm_r (nI_1 m) ?_
    refine br_t cp (b2 _ _ _ _ _ _ _ _ _ _ _ _ (br_f tc_bit (br_t ca (nm_r (nI_1 m) ?_))))
    rw [nI_add, show n + (m + 1) = n + m + 1 from rfl, nI_pred]
    refine ty_put (y := true) (by omega) ⟨rfl, ?_⟩
    refine tc_rel ⟨tc_TxD hT (by omega) ht, tc_DeS hD, hM, ⟨by omega, by omega, by omega, by omega⟩, fun i h1 h2 => ?_, by omega, fun _ => by omega, tc_cfm (by omega) hc⟩
    have := hi i h1 h2
    refine ⟨by omega, ?_⟩
    rw [pk_un (by omega)]
    exact this.2
theorem ty_rw {post : Int32 → SY → Prop} {vs ma ml ac lc ph cu cf oc : Int32} {W D inn obl isf : Nat → Int32} (h : ∀ mk, tc_In 0 mk → post lc (vs, ma, ml, ac, lc, 0, lc, -1, oc, W, D, mk, inn, obl, isf)) : ∀ (d i : Nat) (mk : Nat → Int32) (n : Nat), i + d = 24 → d < n → (∀ j, j < i → mk j = 0) → wY_rewind_32 post vs ma ml ac lc ph cu cf oc n (nI i) W D mk inn obl isf := by
  intro d
  induction d with
  | zero =>
    intro i mk n hi hn h1
    obtain ⟨n, rfl⟩ : ∃ k, n = k + 1 := ⟨n - 1, by omega⟩
    have e : i = 24 := by omega
    subst e
    exact br_t (nI_le (a := 24) (b := 24) (by omega) (by omega)) (h mk (fun j hj => by rw [h1 j hj, b_0]; rfl))
  | succ d ih =>
    intro i mk n hi hn h1
    obtain ⟨n, rfl⟩ : ∃ k, n = k + 1 := ⟨n - 1, by omega⟩
    refine br_f (nI_ge (b := 24) (by omega) (by decide)) ⟨vp_in_nI (by omega) (by omega), ?_⟩
    rw [nI_clamp (by omega : i < 2 ^ 31)]
    refine nm_e (nm_r (nI_1 i) (ih (i + 1) _ n (by omega) (by omega) (fun j hj => ?_)))
    by_cases e : j = i
    · rw [e, pk_us]; rfl
    · rw [pk_un e]; exact h1 j (by omega)
theorem i_vc_rewind {k : Nat} {u : SX} {v : SY} (I : i_Rel k u v) (hk : k + 5 ≤ 2563) (v1 : Int32) : wpX_rewind (fun r u' => wpY_rewind (fun r' v' => r' = r ∧ i_Rel (k + 5) u' v') v v1) u v1 := by
  obtain ⟨V, A, L, n, m, cu, ph, cf, W, K, S, D, mk, M, oc, oc', ob, inn, obl, isf, rfl, rfl, h⟩ := I
  obtain ⟨hT, hD, hM, hb, hi, hcu, hp, hc⟩ := h
  have hnm := hT.2.1
  have new : ∀ (n' m' : Nat) (mk : Nat → Int32), tc_Tx V n' m' W K S → n' ≤ n → m' ≤ m → tc_In 0 mk → tc_R V A L n' m' m' 0 (-1) W K S D mk 0 := by
    intro n' m' mk' hT' h1 h2 h3
    exact ⟨hT', hD, h3, ⟨by omega, by omega, by omega, by omega⟩, fun i _ z => by rw [b_0] at z; exact absurd z (by decide), by omega, fun z => absurd z (by decide), Or.inl rfl⟩
  refine br_c (fun c0 => br_c (fun cm => ?_) (fun cm => ?_)) (fun c0 => ?_)
  · exact br_t c0 (br_t cm ⟨25, ty_rw (fun mk' g => ⟨rfl, tc_rel (new n m mk' hT (by omega) (by omega) g)⟩) 24 0 mk 25 (by omega) (by omega) (fun j hj => absurd hj (by omega))⟩)
  · have h0 : ¬ v1 < 0 := Int32.not_lt.mpr c0
    obtain ⟨j, hj, rfl⟩ := nI_of h0
    have hjm : j < m := by
      rw [nI_leI (by omega) hj] at cm
      omega
    exact br_t c0 (br_f cm ⟨25, ty_rw (fun mk' g => ⟨rfl, tc_rel (new n j mk' (tc_TxR hT (by omega)) (by omega) (by omega) g)⟩) 24 0 mk 25 (by omega) (by omega) (fun j hj => absurd hj (by omega))⟩)
  · exact br_f c0 ⟨25, ty_rw (fun mk' g => ⟨rfl, tc_rel (n := 0) (m := 0) (cu := 0) (new 0 0 mk' (tc_Tx0 hT) (by omega) (by omega) g)⟩) 24 0 mk 25 (by omega) (by omega) (fun j hj => absurd hj (by omega))⟩
end
section
/-! ===== sealing and going back ===== -/
def tc_fc (S K W : Nat → Int32) (n : Nat) : Nat → Nat → Option Nat
  | 0, _ => none
  | d + 1, c => if tc_rf S (tc_av K W n c) 0 = true then some c else tc_fc S K W n d (c + 1)
theorem tc_fcb {S K W : Nat → Int32} {n : Nat} : ∀ (d c x : Nat), tc_fc S K W n d c = some x → c ≤ x ∧ x < c + d := by
  intro d
  induction d with
  | zero => intro c x h; exact absurd h (by simp [tc_fc])
  | succ d ih =>
    intro c x h
    rw [tc_fc] at h
    by_cases e : tc_rf S (tc_av K W n c) 0 = true
    · rw [if_pos e] at h
      have := Option.some.inj h
      omega
    · rw [if_neg e] at h
      have := ih (c + 1) x h
      omega
theorem tc_CSav {V n m : Nat} {W K S : Nat → Int32} (hT : tc_Tx V n m W K S) {k : Nat} (hk : k ≤ m) : tc_CS V (n + m) W S (tc_av K W n k) := by
  intro i hi hb
  obtain ⟨h1, h2, _⟩ := (tc_avb hT k hk i hi).mp hb
  exact ⟨by omega, hT.2.2.2.2.1 i (by omega) h2⟩
theorem tc_kps {S : Nat → Int32} {cs M : Int32} {ob : Nat → Int32} {q : Nat} : ∀ (i : Nat) (k : Int32) (j : Nat), bt (tc_kp S cs M ob q i k) j = true → bt k j = true := by
  intro i
  induction i with
  | zero => intro k j h; exact h
  | succ i ih =>
    intro k j h
    rw [tc_kp] at h
    by_cases c : bt cs i = true ∧ bt M i = false
    · rw [if_pos c] at h
      by_cases e : tc_al S (k &&& (tc_1 i ^^^ (-1))) ob q 0 = true
      · rw [if_pos e] at h
        have := ih _ j h
        rw [b_and, Bool.and_eq_true] at this
        exact this.1
      · rw [if_neg e] at h
        exact ih k j h
    · rw [if_neg c] at h
      exact ih k j h
theorem tx_fc {vc al ll ph cu cf M oc : Int32} {W K S ob : Nat → Int32} {V n m : Nat} (hT : tc_Tx V n m W K S) {post : Int32 → Prop} (h0 : tc_fc S K W n (m + 1) 0 = none → post (-1)) (h1 : ∀ x, tc_fc S K W n (m + 1) 0 = some x → post (nI x)) : wpX_firstConflict post (vc, al, ll, nI n, nI m, ph, cu, cf, M, oc, W, K, S, ob) := by
  have hnm := hT.2.1
  have main : ∀ (d c fu : Nat), c + d = m + 1 → d < fu → (tc_fc S K W n d c = none → post (-1)) → (∀ x, tc_fc S K W n d c = some x → post (nI x)) → wX_firstConflict_2 post vc al ll (nI n) (nI m) ph cu cf M oc W K S ob fu (nI c) := by
    intro d
    induction d with
    | zero =>
      intro c fu hc hf g0 g1
      obtain ⟨fu, rfl⟩ : ∃ k, fu = k + 1 := ⟨fu - 1, by omega⟩
      exact br_t (nI_lt (by omega) (by omega)) (g0 rfl)
    | succ d ih =>
      intro c fu hc hf g0 g1
      obtain ⟨fu, rfl⟩ : ∃ k, fu = k + 1 := ⟨fu - 1, by omega⟩
      refine br_f (nI_nlt (by omega) (by omega)) (tx_av (by omega) (tx_ref (tc_CSlo hT.1.2 (tc_CSav hT (by omega))) ?_))
      rw [tc_fc] at g0 g1
      cases e : tc_rf S (tc_av K W n c) 0
      · rw [e, if_neg (by decide)] at g0 g1
        exact br_t tc_bif (nm_r (nI_1 c) (ih (c + 1) fu (by omega) (by omega) g0 g1))
      · rw [if_pos e] at g1
        exact br_f tc_bit (g1 c rfl)
  exact ⟨m + 2, main (m + 1) 0 (m + 2) (by omega) (by omega) h0 h1⟩
theorem ty_seal {vs ma ml ph cu cf M : Int32} {W K S D mk ob : Nat → Int32} {V n m : Nat} (hT : tc_Tx V n m W K S) (hD : tc_De K D) (hM : tc_In M mk) {post : Int32 → SY → Prop} : ∀ (d c : Nat) (oc : Int32) (inn obl isf : Nat → Int32) (fu : Nat), c + d = m + 1 → d < fu → (tc_fc S K W n d c = none → ∀ oc inn obl isf, post (-4) (vs, ma, ml, nI n, nI m, ph, cu, cf, oc, W, D, mk, inn, obl, isf)) → (∀ x, tc_fc S K W n d c = some x → ∀ oc mk inn obl isf, tc_In (M ||| tc_kp S (tc_av K W n x) M (upd ob 0 0) 1 24 (tc_av K W n x)) mk → (x = 0 → post (nI x) (vs, ma, ml, nI n, nI m, 2, nI x, nI x, oc, W, D, mk, inn, obl, isf)) ∧ (¬ x = 0 → post (nI x) (vs, ma, ml, nI n, nI m, 1, nI x, nI x, oc, W, D, mk, inn, obl, isf))) → wY_seal_12 post fu (nI c) vs ma ml (nI n) (nI m) ph cu cf oc W D mk inn obl isf := by
  have hnm := hT.2.1
  intro d
  induction d with
  | zero =>
    intro c oc inn obl isf fu hc hf g0 g1
    obtain ⟨fu, rfl⟩ : ∃ k, fu = k + 1 := ⟨fu - 1, by omega⟩
    exact br_t (nI_lt (by omega) (by omega)) (g0 rfl oc inn obl isf)
  | succ d ih =>
    intro c oc inn obl isf fu hc hf g0 g1
    obtain ⟨fu, rfl⟩ : ∃ k, fu = k + 1 := ⟨fu - 1, by omega⟩
    have hC : tc_CS V (n + m) W S (tc_av K W n c) := tc_CSav hT (by omega)
    refine br_f (nI_nlt (by omega) (by omega)) (ty_fill hT hD (by omega) (fun inn hin => ?_))
    refine ty_empty hT.1.2 (by omega) hC hin (fun obl isf hF => ?_)
    rw [tc_fc] at g0 g1
    cases e : tc_rf S (tc_av K W n c) 0
    · rw [e, if_neg (by decide)] at g0 g1
      exact br_t tc_bif (nm_r (nI_1 c) (ih (c + 1) 1 inn obl isf fu (by omega) (by omega) g0 g1))
    · rw [if_pos e] at g1
      refine br_f tc_bit (ty_keep (q := 1) (ob := upd ob 0 0) hT.1.2 (by omega) hC hin (by omega) (tc_OR1 tc_lo0 hF) hM (fun mk inn isf hmk => ?_))
      obtain ⟨p0, p1⟩ := g1 c rfl 1 mk inn obl isf hmk
      by_cases z : c = 0
      · exact br_t (by rw [z]; rfl) (p0 z)
      · exact br_f (nI_ne0 (by omega) (by omega)) (p1 z)
theorem tc_Mnew {V n m : Nat} {W K S ob : Nat → Int32} (hT : tc_Tx V n m W K S) {M : Int32} {q x : Nat} (hx : x ≤ m) (hi : ∀ i, i < 24 → bt M i = true → i < n + m ∧ ¬ K i = 3) : ∀ i, i < 24 → bt (M ||| tc_kp S (tc_av K W n x) M ob q 24 (tc_av K W n x)) i = true → i < n + m ∧ ¬ K i = 3 := by
  intro i h24 h
  rw [b_or, Bool.or_eq_true] at h
  rcases h with h | h
  · exact hi i h24 h
  · obtain ⟨h1, h2, _⟩ := (tc_avb hT x hx i h24).mp (tc_kps _ _ _ h)
    exact ⟨by omega, h2⟩
theorem i_vc_seal {k : Nat} {u : SX} {v : SY} (I : i_Rel k u v) (hk : k + 5 ≤ 2563) : wpX_seal (fun r u' => wpY_seal (fun r' v' => r' = r ∧ i_Rel (k + 5) u' v') v) u := by
  have I' := i_up I
  obtain ⟨V, A, L, n, m, cu, ph, cf, W, K, S, D, mk, M, oc, oc', ob, inn, obl, isf, rfl, rfl, h⟩ := I
  obtain ⟨hT, hD, hM, hb, hi, hcu, hp, hc⟩ := h
  have hnm := hT.2.1
  refine br_c (fun cp => ?_) (fun cp => br_f cp ⟨rfl, I'⟩)
  refine tx_fc hT (fun e => br_t rfl ?_) (fun x e => br_f ?_ ?_)
  · refine br_t cp ⟨m + 2, ty_seal (ob := ob) hT hD hM (m + 1) 0 oc' inn obl isf (m + 2) (by omega) (by omega) (fun _ oc2 inn2 obl2 isf2 => ⟨rfl, ?_⟩) (fun x e2 => ?_)⟩
    · exact tc_rel ⟨hT, hD, hM, hb, hi, hcu, hp, hc⟩
    · rw [e] at e2
      exact absurd e2 (by simp)
  · have := tc_fcb _ _ _ e
    intro z
    have z' : ¬ nI x < 0 := nI_pos (by omega)
    rw [z] at z'
    exact z' (by decide)
  · have hx := tc_fcb _ _ _ e
    refine tx_av (by omega) ?_
    unfold wpX_obligeOnly
    refine nm_e (tx_keep (q := 1) (by omega) (tc_CSlo hT.1.2 (tc_CSav hT (by omega))) ?_)
    have fin : ∀ (ph' : Int32) (oc oc' : Int32) (ob' mk inn obl isf : Nat → Int32), (ph' = 1 → 1 ≤ x) → tc_In (M ||| tc_kp S (tc_av K W n x) M (upd ob 0 0) 1 24 (tc_av K W n x)) mk → i_Rel (k + 5) (nI V, nI A, nI L, nI n, nI m, ph', nI x, nI x, M ||| tc_kp S (tc_av K W n x) M (upd ob 0 0) 1 24 (tc_av K W n x), oc, W, K, S, ob') (nI V, nI A, nI L, nI n, nI m, ph', nI x, nI x, oc', W, D, mk, inn, obl, isf) := by
      intro ph' oc oc' ob' mk inn obl isf h1 h2
      exact tc_rel ⟨hT, hD, h2, hb, tc_Mnew hT (by omega) hi, by omega, h1, Or.inr ⟨x, by omega, rfl⟩⟩
    refine br_c (fun z => ?_) (fun z => ?_)
    · have z0 : x = 0 := by
        have := (nI_eq (a := x) (b := 0) (by omega) (by omega)).mp z
        exact this
      refine br_t cp ⟨m + 2, ty_seal (ob := ob) hT hD hM (m + 1) 0 oc' inn obl isf (m + 2) (by omega) (by omega) (fun e2 => ?_) (fun y e2 oc2 mk2 inn2 obl2 isf2 hmk => ?_)⟩
      · rw [e] at e2
        exact absurd e2 (by simp)
      · rw [e] at e2
        have := Option.some.inj e2
        subst this
        exact ⟨fun _ => ⟨rfl, fin 2 _ _ _ _ _ _ _ (fun y => absurd y (by decide)) hmk⟩, fun y => absurd z0 y⟩
    · have z0 : ¬ x = 0 := fun y => z (by rw [y]; rfl)
      refine br_t cp ⟨m + 2, ty_seal (ob := ob) hT hD hM (m + 1) 0 oc' inn obl isf (m + 2) (by omega) (by omega) (fun e2 => ?_) (fun y e2 oc2 mk2 inn2 obl2 isf2 hmk => ?_)⟩
      · rw [e] at e2
        exact absurd e2 (by simp)
      · rw [e] at e2
        have := Option.some.inj e2
        subst this
        exact ⟨fun y => absurd y z0, fun _ => ⟨rfl, fin 1 _ _ _ _ _ _ _ (fun _ => by omega) hmk⟩⟩
theorem tc_wayq (S : Nat → Int32) (cs L P : Int32) (ob : Nat → Int32) : (tc_way S cs L P ob).2.2 ≤ 24 := by
  unfold tc_way
  by_cases c : tc_al S cs (upd ob 0 L) 1 0 = true
  · rw [if_pos c]
    show 1 ≤ 24
    omega
  · rw [if_neg c]
    by_cases d : L = 0
    · rw [if_pos d]
      show 1 ≤ 24
      omega
    · rw [if_neg d]
      have := tc_ppq S cs L P 24 0 (upd ob 0 L) 0
      show (tc_pp S cs L P 24 0 (upd ob 0 L) 0).2 ≤ 24
      omega
theorem i_vc_back {k : Nat} {u : SX} {v : SY} (I : i_Rel k u v) (hk : k + 5 ≤ 2563) : wpX_back (fun r u' => wpY_back (fun r' v' => r' = r ∧ i_Rel (k + 5) u' v') v) u := by
  have I' := i_up I
  obtain ⟨V, A, L, n, m, cu, ph, cf, W, K, S, D, mk, M, oc, oc', ob, inn, obl, isf, rfl, rfl, h⟩ := I
  obtain ⟨hT, hD, hM, hb, hi, hcu, hp, hc⟩ := h
  have hnm := hT.2.1
  refine br_c (fun cp => ?_) (fun cp => br_f cp ⟨rfl, I'⟩)
  obtain ⟨c, rfl⟩ : ∃ c, cu = c + 1 := ⟨cu - 1, by have := hp cp; omega⟩
  refine nm_r (nI_pred c) (nm_r (nI_add n c) ⟨vp_in_nI (by omega) (by omega), ?_⟩)
  rw [nI_clamp (by omega : n + c < 2 ^ 31)]
  -- the end of both ways
  have fin : ∀ (r : Int32) (M' : Int32) (oc oc' : Int32) (ob mk inn obl isf : Nat → Int32), tc_In M' mk → (∀ i, i < 24 → bt M' i = true → i < n + m ∧ ¬ K i = 3) → wX_back_85 (fun r u' => wY_back_85 (fun r' v' => r' = r ∧ i_Rel (k + 5) u' v') (nI c) r (nI V) (nI A) (nI L) (nI n) (nI m) ph (nI (c + 1)) cf oc' W D mk inn obl isf) (nI c) r (nI V) (nI A) (nI L) (nI n) (nI m) ph (nI (c + 1)) cf M' oc W K S ob := by
    intro r M' oc oc' ob mk inn obl isf h1 h2
    refine br_c (fun z => br_t z ⟨rfl, ?_⟩) (fun z => br_f z ⟨rfl, ?_⟩)
    · exact tc_rel ⟨hT, hD, h1, hb, h2, by omega, fun y => absurd y (by decide), hc⟩
    · refine tc_rel ⟨hT, hD, h1, hb, h2, by omega, fun _ => ?_, hc⟩
      have : ¬ c = 0 := fun y => z (by rw [y]; rfl)
      omega
  have yst : ∀ (post : Int32 → SY → Prop), (K (n + c) = 3 → wY_back_85 post (nI c) 1 (nI V) (nI A) (nI L) (nI n) (nI m) ph (nI (c + 1)) cf oc' W D mk inn obl isf) → (¬ K (n + c) = 3 → bt M (n + c) = false → wY_back_85 post (nI c) 2 (nI V) (nI A) (nI L) (nI n) (nI m) ph (nI (c + 1)) cf oc' W D mk inn obl isf) → (¬ K (n + c) = 3 → bt M (n + c) = true → ∀ a : Nat → Nat, (∀ s, s < 4 → a s < 17) → (∀ s, s < 4 → W ((n + c) * 4 + s) = tc_w (a s)) → S (n + c) = tc_sl (tc_w (a 0)) (tc_w (a 1)) (tc_w (a 2)) (tc_w (a 3)) → ∀ r ob' q, tc_way S (tc_av K W n c) (S (n + c)) (tc_ng (tc_lb (tc_w (tc_pv a)))) ob = (r, ob', q) → (r = 5 → ∀ oc inn obl isf, post r (nI V, nI A, nI L, nI n, nI m, 3, nI (c + 1), cf, oc, W, D, mk, inn, obl, isf)) ∧ (¬ r = 5 → ∀ oc mk inn obl isf, tc_In (M ||| tc_kp S (tc_av K W n c) M ob' q 24 (tc_av K W n c)) mk → wY_back_85 post (nI c) r (nI V) (nI A) (nI L) (nI n) (nI m) ph (nI (c + 1)) cf oc W D mk inn obl isf)) → wpY_back post (nI V, nI A, nI L, nI n, nI m, ph, nI (c + 1), cf, oc', W, D, mk, inn, obl, isf) := by
    intro post y1 y2 y3
    refine br_t cp (nm_r (nI_pred c) ?_)
    rw [nI_add, nI_clamp (by omega : n + c < 2 ^ 31), hD (n + c) (by omega), hM (n + c) (by omega)]
    refine ⟨vp_in_nI (by omega) (by omega), ?_⟩
    by_cases cK : K (n + c) = 3
    · rw [decide_eq_true cK]
      exact br_f tc_bit (y1 cK)
    · rw [decide_eq_false cK]
      refine br_t tc_bif ⟨vp_in_nI (by omega) (by omega), ?_⟩
      cases eM : bt M (n + c)
      · exact br_t tc_bif (y2 cK eM)
      · obtain ⟨a, ha, hw, hS⟩ := tc_Cla hT.1.2 (hT.2.2.2.2.1 (n + c) (by omega) cK)
        have hC : tc_CS V (n + m) W S (tc_av K W n c) := tc_CSav hT (by omega)
        refine br_f tc_bit (ty_fill hT hD (by omega) (fun inn hin => ?_))
        show wpY_passes _ _ (nI n + nI c)
        rw [nI_add]
        refine ty_pass (ob := ob) hT.1.2 (by omega) hC hin (by omega) ha hw hS (fun obl isf hO => ?_)
        have hq := tc_wayq S (tc_av K W n c) (S (n + c)) (tc_ng (tc_lb (tc_w (tc_pv a)))) ob
        obtain ⟨z1, z2⟩ := y3 cK eM a ha hw hS _ _ _ rfl
        refine br_c (fun z => z1 z _ _ _ _) (fun z => ty_keep hT.1.2 (by omega) hC hin hq hO hM (fun mk inn isf hmk => z2 z _ _ _ _ _ hmk))
  have xst : ∀ (z0 : Int32), (K (n + c) = 3 → z0 = 1) → (¬ K (n + c) = 3 → z0 = 2) → wX_back_40 (fun r u' => wpY_back (fun r' v' => r' = r ∧ i_Rel (k + 5) u' v') (nI V, nI A, nI L, nI n, nI m, ph, nI (c + 1), cf, oc', W, D, mk, inn, obl, isf)) (nI c) (nI (n + c)) z0 (nI V) (nI A) (nI L) (nI n) (nI m) ph (nI (c + 1)) cf M oc W K S ob := by
    intro z0 e3 e2
    refine tx_hm (by omega) ?_
    cases eM : bt M (n + c)
    · refine br_t tc_bif ?_
      unfold wX_back_85 wpX_moveCursorBackTo
      refine br_c (fun z => yst _ (fun cK => br_t z ⟨?_, ?_⟩) (fun cK _ => br_t z ⟨?_, ?_⟩) (fun _ y => ?_)) (fun z => yst _ (fun cK => br_f z ⟨?_, ?_⟩) (fun cK _ => br_f z ⟨?_, ?_⟩) (fun _ y => ?_))
      · exact (e3 cK).symm
      · exact tc_rel ⟨hT, hD, hM, hb, hi, by omega, fun y => absurd y (by decide), hc⟩
      · exact (e2 cK).symm
      · exact tc_rel ⟨hT, hD, hM, hb, hi, by omega, fun y => absurd y (by decide), hc⟩
      · rw [eM] at y
        exact absurd y (by decide)
      · exact (e3 cK).symm
      · refine tc_rel ⟨hT, hD, hM, hb, hi, by omega, fun _ => ?_, hc⟩
        have : ¬ c = 0 := fun y => z (by rw [y]; rfl)
        omega
      · exact (e2 cK).symm
      · refine tc_rel ⟨hT, hD, hM, hb, hi, by omega, fun _ => ?_, hc⟩
        have : ¬ c = 0 := fun y => z (by rw [y]; rfl)
        omega
      · rw [eM] at y
        exact absurd y (by decide)
    · have hK := (hi (n + c) (by omega) eM).2
      obtain ⟨a, ha, hw, hS⟩ := tc_Cla hT.1.2 (hT.2.2.2.2.1 (n + c) (by omega) hK)
      have hC : tc_CS V (n + m) W S (tc_av K W n c) := tc_CSav hT (by omega)
      have hlo := tc_CSlo hT.1.2 hC
      refine br_f tc_bit (tx_av (by omega) (tx_way (by omega) ha hw hlo ?_))
      have hq := tc_wayq S (tc_av K W n c) (S (n + c)) (tc_ng (tc_lb (tc_w (tc_pv a)))) ob
      obtain ⟨r, ob', q, ew⟩ : ∃ r ob' q, tc_way S (tc_av K W n c) (S (n + c)) (tc_ng (tc_lb (tc_w (tc_pv a)))) ob = (r, ob', q) := ⟨_, _, _, rfl⟩
      rw [ew] at hq ⊢
      have same : ∀ a' : Nat → Nat, (∀ s, s < 4 → a' s < 17) → (∀ s, s < 4 → W ((n + c) * 4 + s) = tc_w (a' s)) → tc_pv a' = tc_pv a := by
        intro a' ha' hw'
        have e : ∀ s, s < 4 → a' s = a s := fun s hs => (tc_winj (ha' s hs) (ha s hs)).mp ((hw' s hs).symm.trans (hw s hs))
        unfold tc_pv
        rw [e 0 (by omega), e 1 (by omega), e 2 (by omega), e 3 (by omega)]
      refine br_c (fun z => ?_) (fun z => tx_keep hq hlo ?_)
      · refine yst _ (fun y => absurd y hK) (fun _ y => ?_) (fun _ _ a' ha' hw' _ r' ob2 q' ew' => ?_)
        · rw [eM] at y
          exact absurd y (by decide)
        · rw [same a' ha' hw', ew] at ew'
          injection ew' with e1 e2
          injection e2 with e3 e4
          subst e1 e3 e4
          refine ⟨fun _ oc inn obl isf => ⟨z, ?_⟩, fun y => absurd z y⟩
          exact tc_rel ⟨hT, hD, hM, hb, hi, by omega, fun y => absurd y (by decide), hc⟩
      · have h2 : ∀ i, i < 24 → bt (M ||| tc_kp S (tc_av K W n c) M ob' q 24 (tc_av K W n c)) i = true → i < n + m ∧ ¬ K i = 3 := tc_Mnew hT (by omega) hi
        unfold wX_back_85 wpX_moveCursorBackTo
        refine br_c (fun y0 => yst _ (fun y => absurd y hK) (fun _ y => ?_) (fun _ _ a' ha' hw' _ r' ob2 q' ew' => ?_)) (fun y0 => yst _ (fun y => absurd y hK) (fun _ y => ?_) (fun _ _ a' ha' hw' _ r' ob2 q' ew' => ?_))
        · rw [eM] at y
          exact absurd y (by decide)
        · rw [same a' ha' hw', ew] at ew'
          injection ew' with e1 e2
          injection e2 with e3 e4
          subst e1 e3 e4
          refine ⟨fun y => absurd y z, fun _ oc mk inn obl isf h1 => br_t y0 ⟨rfl, ?_⟩⟩
          exact tc_rel ⟨hT, hD, h1, hb, h2, by omega, fun y => absurd y (by decide), hc⟩
        · rw [eM] at y
          exact absurd y (by decide)
        · rw [same a' ha' hw', ew] at ew'
          injection ew' with e1 e2
          injection e2 with e3 e4
          subst e1 e3 e4
          refine ⟨fun y => absurd y z, fun _ oc mk inn obl isf h1 => br_f y0 ⟨rfl, ?_⟩⟩
          refine tc_rel ⟨hT, hD, h1, hb, h2, by omega, fun _ => ?_, hc⟩
          have : ¬ c = 0 := fun y => y0 (by rw [y]; rfl)
          omega
  exact br_c (fun z => xst 1 (fun _ => rfl) (fun y => absurd z y)) (fun z => xst 2 (fun y => absurd y z) (fun _ => rfl))
end
section
/-! ===== views, going forward ===== -/
theorem tc_alc {S : Nat → Int32} {cs : Int32} {ob ob' : Nat → Int32} : ∀ (d i : Nat), (∀ o, i ≤ o → o < i + d → ob o = ob' o) → tc_al S cs ob d i = tc_al S cs ob' d i := by
  intro d
  induction d with
  | zero => intro i _; rfl
  | succ d ih =>
    intro i h
    rw [tc_al, tc_al, h i (by omega) (by omega), ih (i + 1) (fun o a b => h o (by omega) (by omega))]
theorem tc_ppc {S : Nat → Int32} {cs L P : Int32} : ∀ (d i : Nat) (ob ob' : Nat → Int32) (q : Nat), (∀ o, o < q → ob o = ob' o) → (tc_pp S cs L P d i ob q).2 = (tc_pp S cs L P d i ob' q).2 ∧ ∀ o, o < (tc_pp S cs L P d i ob q).2 → (tc_pp S cs L P d i ob q).1 o = (tc_pp S cs L P d i ob' q).1 o := by
  intro d
  induction d with
  | zero => intro i ob ob' q h; exact ⟨rfl, h⟩
  | succ d ih =>
    intro i ob ob' q h
    rw [tc_pp, tc_pp]
    by_cases c : bt cs i = true ∧ ¬ S i &&& P = 0
    · rw [if_pos c, if_pos c]
      refine ih (i + 1) _ _ (q + 1) (fun o ho => ?_)
      by_cases e : o = q
      · rw [e, pk_us, pk_us]
      · rw [pk_un e, pk_un e]; exact h o (by omega)
    · rw [if_neg c, if_neg c]
      exact ih (i + 1) ob ob' q h
theorem tc_wayv (S : Nat → Int32) (cs L P : Int32) (ob ob' : Nat → Int32) : (tc_way S cs L P ob).1 = (tc_way S cs L P ob').1 := by
  unfold tc_way
  rw [tc_al1, tc_al1]
  by_cases c : tc_rf S cs L = true
  · rw [if_pos c, if_pos c]
  · rw [if_neg c, if_neg c]
    by_cases d : L = 0
    · rw [if_pos d, if_pos d]
    · rw [if_neg d, if_neg d]
      obtain ⟨h1, h2⟩ := tc_ppc (S := S) (cs := cs) (L := L) (P := P) 24 0 (upd ob 0 L) (upd ob' 0 L) 0 (fun o ho => absurd ho (by omega))
      show (if _ then (4 : Int32) else 5) = if _ then (4 : Int32) else 5
      rw [tc_alc _ 0 (fun o _ b => h2 o (by omega)), h1]
def tc_pr (w n : Nat) (M : Int32) : Int32 := if w = 2 then M else if w = 1 then tc_ax n ||| M else 16777215
theorem tc_all : ∀ i, i < 24 → bt 16777215 i = true := by decide +kernel
theorem tx_pr {vc al ll lc ph cu cf M oc : Int32} {W K S ob : Nat → Int32} {post : Int32 → Prop} {w n : Nat} (hw : w ≤ 2) (h : post (tc_pr w n M)) : wpX_presentIn post (vc, al, ll, nI n, lc, ph, cu, cf, M, oc, W, K, S, ob) (nI w) := by
  have hw3 : w = 0 ∨ w = 1 ∨ w = 2 := by omega
  rcases hw3 with rfl | rfl | rfl
  · exact br_f (by decide) (br_f (by decide) h)
  · exact br_f (by decide) (br_t rfl h)
  · exact br_t rfl h
theorem ty_pr {vs ma ml lc ph cu cf oc M : Int32} {W D mk inn obl isf : Nat → Int32} {post : Int32 → Prop} {w n i : Nat} (hw : w ≤ 2) (hn : n ≤ 12) (hi : i < 24) (hM : tc_In M mk) (h : post (tc_bi (bt (tc_pr w n M) i))) : wpY_present post (vs, ma, ml, nI n, lc, ph, cu, cf, oc, W, D, mk, inn, obl, isf) (nI w) (nI i) := by
  have hw3 : w = 0 ∨ w = 1 ∨ w = 2 := by omega
  unfold tc_pr at h
  rcases hw3 with rfl | rfl | rfl
  · refine br_t rfl ?_
    rw [if_neg (by decide), if_neg (by decide), tc_all i hi] at h
    exact h
  · rw [if_neg (by decide), if_pos rfl, b_or, tc_axb n (by omega) i (by omega)] at h
    refine br_f (by decide) ⟨vp_in_nI hi (by omega), ?_⟩
    rw [nI_clamp (by omega : i < 2 ^ 31), hM i hi]
    cases e : bt M i
    · rw [e, Bool.or_false] at h
      refine br_t tc_bif (br_t rfl (br_c (fun c => ?_) (fun c => ?_)))
      · rw [nI_leI (by omega) (by omega)] at c
        rw [decide_eq_false (by omega)] at h
        exact h
      · rw [nI_leI (by omega) (by omega)] at c
        rw [decide_eq_true (by omega)] at h
        exact h
    · rw [e, Bool.or_true] at h
      exact br_f tc_bit h
  · rw [if_pos rfl] at h
    refine br_f (by decide) ⟨vp_in_nI hi (by omega), ?_⟩
    rw [nI_clamp (by omega : i < 2 ^ 31), hM i hi]
    cases e : bt M i
    · rw [e] at h
      exact br_t tc_bif (br_f (by decide) h)
    · rw [e] at h
      exact br_f tc_bit h
theorem tc_Indel {cs : Int32} {inn : Nat → Int32} {t : Nat} (h : tc_In cs inn) (ht : t < 24) : tc_In (cs &&& (tc_1 t ^^^ (-1))) (upd inn t 0) := by
  intro j hj
  rw [tc_del (by omega) (by omega)]
  by_cases e : j = t
  · rw [e, pk_us, decide_eq_true rfl, Bool.not_true, Bool.and_false]; rfl
  · rw [pk_un e, decide_eq_false e, Bool.not_false, Bool.and_true]; exact h j hj
theorem tc_Inadd {cs : Int32} {inn : Nat → Int32} {t : Nat} (h : tc_In cs inn) (ht : t < 24) : tc_In (cs ||| tc_1 t) (upd inn t 1) := by
  intro j hj
  rw [tc_add (by omega) (by omega)]
  by_cases e : j = t
  · rw [e, pk_us, decide_eq_true rfl, Bool.or_true]; rfl
  · rw [pk_un e, decide_eq_false e, Bool.or_false]; exact h j hj
theorem tz_f41 {vc al ll vs ma ml ph cu cf phy cuy cfy M : Int32} {W K S D mk : Nat → Int32} {V n m w : Nat} (hT : tc_Tx V n m W K S) (hD : tc_De K D) (hM : tc_In M mk) (hw : w ≤ 2) : ∀ (d j : Nat) (held : Int32), j + d = m → (∀ i, i < 24 → bt held i = true → i < n + j ∧ ¬ K i = 3) → ∃ r : Int32, (∀ (post : Int32 → SX → Prop) (fu : Nat) (oc : Int32) (ob : Nat → Int32), d < fu → (∀ oc ob, post r (vc, al, ll, nI n, nI m, ph, cu, cf, M, oc, W, K, S, ob)) → wX_forward_41 post (tc_pr w n M) fu held (nI j) vc al ll (nI n) (nI m) ph cu cf M oc W K S ob) ∧ (∀ (post : Int32 → SY → Prop) (fu : Nat) (oc : Int32) (inn obl isf : Nat → Int32), d < fu → tc_In held inn → (∀ oc inn obl isf, post r (vs, ma, ml, nI n, nI m, phy, cuy, cfy, oc, W, D, mk, inn, obl, isf)) → wY_forward_71 post (nI w) fu (nI j) vs ma ml (nI n) (nI m) phy cuy cfy oc W D mk inn obl isf) := by
  have hnm := hT.2.1
  have hCof : ∀ (j : Nat) (held : Int32), j ≤ m → (∀ i, i < 24 → bt held i = true → i < n + j ∧ ¬ K i = 3) → tc_CS V (n + m) W S held := by
    intro j held hj h i hi hb
    obtain ⟨h1, h2⟩ := h i hi hb
    exact ⟨by omega, hT.2.2.2.2.1 i (by omega) h2⟩
  intro d
  induction d with
  | zero =>
    intro j held hj hH
    have hC := hCof j held (by omega) hH
    have e : j = m := by omega
    subst e
    cases e : tc_rf S held 0
    · refine ⟨-4, fun post fu oc ob hf hp => ?_, fun post fu oc inn obl isf hf hin hp => ?_⟩
      · obtain ⟨fu, rfl⟩ : ∃ k, fu = k + 1 := ⟨fu - 1, by omega⟩
        refine br_t (nI_le (by omega) (by omega)) (tx_ref (tc_CSlo hT.1.2 hC) ?_)
        rw [e]
        exact br_t tc_bif (hp oc ob)
      · obtain ⟨fu, rfl⟩ : ∃ k, fu = k + 1 := ⟨fu - 1, by omega⟩
        refine br_f (nI_nlt (by omega) (by omega)) (ty_empty hT.1.2 (by omega) hC hin (fun obl isf _ => ?_))
        rw [e]
        exact br_t tc_bif (br_t rfl (hp 1 inn obl isf))
    · refine ⟨nI j, fun post fu oc ob hf hp => ?_, fun post fu oc inn obl isf hf hin hp => ?_⟩
      · obtain ⟨fu, rfl⟩ : ∃ k, fu = k + 1 := ⟨fu - 1, by omega⟩
        refine br_t (nI_le (by omega) (by omega)) (tx_ref (tc_CSlo hT.1.2 hC) ?_)
        rw [e]
        exact br_f tc_bit (hp oc ob)
      · obtain ⟨fu, rfl⟩ : ∃ k, fu = k + 1 := ⟨fu - 1, by omega⟩
        refine br_f (nI_nlt (by omega) (by omega)) (ty_empty hT.1.2 (by omega) hC hin (fun obl isf _ => ?_))
        rw [e]
        exact br_f tc_bit (hp 1 inn obl isf)
  | succ d ih =>
    intro j held hj hH
    have hC := hCof j held (by omega) hH
    have hlo := tc_CSlo hT.1.2 hC
    have nle : ¬ nI m ≤ nI j := nI_ge (by omega) (by omega)
    have nlt : ¬ nI m < nI j := nI_nlt (by omega) (by omega)
    have nne : ¬ nI j = nI m := by
      rw [nI_eq (by omega) (by omega)]
      omega
    cases e : tc_rf S held 0
    · by_cases cK : K (n + j) = 3
      · obtain ⟨t, ht, hW⟩ := hT.2.2.2.2.2 (n + j) (by omega) (by omega) cK
        obtain ⟨r, rx, ry⟩ := ih (j + 1) (held &&& (tc_1 t ^^^ (-1))) (by omega) (fun i hi hb => by
          rw [b_and, Bool.and_eq_true] at hb
          have := hH i hi hb.1
          exact ⟨by omega, this.2⟩)
        refine ⟨r, fun post fu oc ob hf hp => ?_, fun post fu oc inn obl isf hf hin hp => ?_⟩
        · obtain ⟨fu, rfl⟩ : ∃ k, fu = k + 1 := ⟨fu - 1, by omega⟩
          refine br_f nle (tx_ref hlo ?_)
          rw [e]
          refine br_t tc_bif (nm_r (nI_add n j) ⟨vp_in_nI (by omega) (by omega), ?_⟩)
          rw [nI_clamp (by omega : n + j < 2 ^ 31)]
          refine br_t cK (tx_tgt (by omega) ?_)
          rw [hW]
          exact nm_e (nm_r (nI_1 j) (rx post fu oc ob (by omega) hp))
        · obtain ⟨fu, rfl⟩ : ∃ k, fu = k + 1 := ⟨fu - 1, by omega⟩
          refine br_f nlt (ty_empty hT.1.2 (by omega) hC hin (fun obl isf _ => ?_))
          rw [e]
          refine br_t tc_bif (br_f nne ?_)
          rw [nI_add, tc_m4, nI_clamp (by omega : n + j < 2 ^ 31), nI_clamp (by omega : (n + j) * 4 < 2 ^ 31), hW, nI_clamp (by omega : t < 2 ^ 31), hD (n + j) (by omega), decide_eq_true cK]
          exact ⟨vp_in_nI (by omega) (by omega), br_f tc_bit ⟨vp_in_nI (by omega) (by omega), vp_in_nI (by omega) (by omega), nm_e (nm_r (nI_1 j) (ry post fu 1 _ obl isf (by omega) (tc_Indel hin (by omega)) hp))⟩⟩
      · cases ep : bt (tc_pr w n M) (n + j)
        · obtain ⟨r, rx, ry⟩ := ih (j + 1) held (by omega) (fun i hi hb => by
            have := hH i hi hb
            exact ⟨by omega, this.2⟩)
          refine ⟨r, fun post fu oc ob hf hp => ?_, fun post fu oc inn obl isf hf hin hp => ?_⟩
          · obtain ⟨fu, rfl⟩ : ∃ k, fu = k + 1 := ⟨fu - 1, by omega⟩
            refine br_f nle (tx_ref hlo ?_)
            rw [e]
            refine br_t tc_bif (nm_r (nI_add n j) ⟨vp_in_nI (by omega) (by omega), ?_⟩)
            rw [nI_clamp (by omega : n + j < 2 ^ 31)]
            refine br_f cK (tx_hm (by omega) ?_)
            rw [ep]
            exact br_t tc_bif (nm_r (nI_1 j) (rx post fu oc ob (by omega) hp))
          · obtain ⟨fu, rfl⟩ : ∃ k, fu = k + 1 := ⟨fu - 1, by omega⟩
            refine br_f nlt (ty_empty hT.1.2 (by omega) hC hin (fun obl isf _ => ?_))
            rw [e]
            refine br_t tc_bif (br_f nne ?_)
            rw [nI_add, nI_clamp (by omega : n + j < 2 ^ 31), hD (n + j) (by omega), decide_eq_false cK]
            refine ⟨vp_in_nI (by omega) (by omega), br_t tc_bif (ty_pr hw (by omega) (by omega) hM ?_)⟩
            rw [ep]
            exact br_t tc_bif (nm_r (nI_1 j) (ry post fu 1 inn obl isf (by omega) hin hp))
        · obtain ⟨a, ha, hwa, hSa⟩ := tc_Cla hT.1.2 (hT.2.2.2.2.1 (n + j) (by omega) cK)
          by_cases ev : (tc_way S held (S (n + j)) (tc_ng (tc_lb (tc_w (tc_pv a)))) (fun _ => 0)).1 = 5
          · refine ⟨100 + nI j, fun post fu oc ob hf hp => ?_, fun post fu oc inn obl isf hf hin hp => ?_⟩
            · obtain ⟨fu, rfl⟩ : ∃ k, fu = k + 1 := ⟨fu - 1, by omega⟩
              refine br_f nle (tx_ref hlo ?_)
              rw [e]
              refine br_t tc_bif (nm_r (nI_add n j) ⟨vp_in_nI (by omega) (by omega), ?_⟩)
              rw [nI_clamp (by omega : n + j < 2 ^ 31)]
              refine br_f cK (tx_hm (by omega) ?_)
              rw [ep]
              refine br_f tc_bit (tx_way (by omega) ha hwa hlo ?_)
              exact br_t ((tc_wayv _ _ _ _ _ _).trans ev) (hp _ _)
            · obtain ⟨fu, rfl⟩ : ∃ k, fu = k + 1 := ⟨fu - 1, by omega⟩
              refine br_f nlt (ty_empty hT.1.2 (by omega) hC hin (fun obl isf _ => ?_))
              rw [e]
              refine br_t tc_bif (br_f nne ?_)
              rw [nI_add, nI_clamp (by omega : n + j < 2 ^ 31), hD (n + j) (by omega), decide_eq_false cK]
              refine ⟨vp_in_nI (by omega) (by omega), br_t tc_bif (ty_pr hw (by omega) (by omega) hM ?_)⟩
              rw [ep]
              refine br_f tc_bit (ty_pass (ob := fun _ => 0) hT.1.2 (by omega) hC hin (by omega) ha hwa hSa (fun obl isf _ => ?_))
              exact br_t ev (hp _ _ _ _)
          · obtain ⟨r, rx, ry⟩ := ih (j + 1) (held ||| tc_1 (n + j)) (by omega) (fun i hi hb => by
              rw [tc_add (by omega) (by omega), Bool.or_eq_true, decide_eq_true_eq] at hb
              rcases hb with hb | hb
              · have := hH i hi hb
                exact ⟨by omega, this.2⟩
              · rw [hb]
                exact ⟨by omega, cK⟩)
            refine ⟨r, fun post fu oc ob hf hp => ?_, fun post fu oc inn obl isf hf hin hp => ?_⟩
            · obtain ⟨fu, rfl⟩ : ∃ k, fu = k + 1 := ⟨fu - 1, by omega⟩
              refine br_f nle (tx_ref hlo ?_)
              rw [e]
              refine br_t tc_bif (nm_r (nI_add n j) ⟨vp_in_nI (by omega) (by omega), ?_⟩)
              rw [nI_clamp (by omega : n + j < 2 ^ 31)]
              refine br_f cK (tx_hm (by omega) ?_)
              rw [ep]
              refine br_f tc_bit (tx_way (by omega) ha hwa hlo ?_)
              exact br_f (fun z => ev ((tc_wayv _ _ _ _ _ _).symm.trans z)) (nm_e (nm_r (nI_1 j) (rx post fu _ _ (by omega) hp)))
            · obtain ⟨fu, rfl⟩ : ∃ k, fu = k + 1 := ⟨fu - 1, by omega⟩
              refine br_f nlt (ty_empty hT.1.2 (by omega) hC hin (fun obl isf _ => ?_))
              rw [e]
              refine br_t tc_bif (br_f nne ?_)
              rw [nI_add, nI_clamp (by omega : n + j < 2 ^ 31), hD (n + j) (by omega), decide_eq_false cK]
              refine ⟨vp_in_nI (by omega) (by omega), br_t tc_bif (ty_pr hw (by omega) (by omega) hM ?_)⟩
              rw [ep]
              refine br_f tc_bit (ty_pass (ob := fun _ => 0) hT.1.2 (by omega) hC hin (by omega) ha hwa hSa (fun obl isf _ => ?_))
              refine br_f ev ?_
              rw [nI_add, nI_clamp (by omega : n + j < 2 ^ 31)]
              exact ⟨vp_in_nI (by omega) (by omega), nm_e (nm_r (nI_1 j) (ry post fu _ _ obl isf (by omega) (tc_Inadd hin (by omega)) hp))⟩
    · refine ⟨nI j, fun post fu oc ob hf hp => ?_, fun post fu oc inn obl isf hf hin hp => ?_⟩
      · obtain ⟨fu, rfl⟩ : ∃ k, fu = k + 1 := ⟨fu - 1, by omega⟩
        refine br_f nle (tx_ref hlo ?_)
        rw [e]
        exact br_f tc_bit (hp oc ob)
      · obtain ⟨fu, rfl⟩ : ∃ k, fu = k + 1 := ⟨fu - 1, by omega⟩
        refine br_f nlt (ty_empty hT.1.2 (by omega) hC hin (fun obl isf _ => ?_))
        rw [e]
        exact br_f tc_bit (hp 1 inn obl isf)
theorem ty_f29 {vs ma ml ph cu cf oc M : Int32} {W D mk obl isf : Nat → Int32} {n m w : Nat} (hn : n ≤ 12) (hM : tc_In M mk) (hw : w ≤ 2) {post : Int32 → SY → Prop} (h : ∀ inn, tc_In (tc_pr w n M &&& tc_ax n) inn → ∃ fu, wY_forward_71 post (nI w) fu 0 vs ma ml (nI n) (nI m) ph cu cf oc W D mk inn obl isf) : ∀ (d i : Nat) (inn : Nat → Int32) (fu : Nat), i + d = 24 → d < fu → (∀ j, j < i → inn j = tc_bi (bt (tc_pr w n M &&& tc_ax n) j)) → wY_forward_29 post (nI w) vs ma ml (nI n) (nI m) ph cu cf oc fu (nI i) W D mk inn obl isf := by
  intro d
  induction d with
  | zero =>
    intro i inn fu hi hf hI
    obtain ⟨fu, rfl⟩ : ∃ k, fu = k + 1 := ⟨fu - 1, by omega⟩
    have e : i = 24 := by omega
    subst e
    exact br_t (nI_le (a := 24) (b := 24) (by omega) (by omega)) (h inn hI)
  | succ d ih =>
    intro i inn fu hi hf hI
    obtain ⟨fu, rfl⟩ : ∃ k, fu = k + 1 := ⟨fu - 1, by omega⟩
    have next : ∀ x : Bool, x = (bt (tc_pr w n M) i && decide (i < n)) → ∀ j, j < i + 1 → upd inn i (tc_bi x) j = tc_bi (bt (tc_pr w n M &&& tc_ax n) j) := by
      intro x hx j hj
      by_cases e : j = i
      · rw [e, pk_us, b_and, tc_axb n (by omega) i (by omega), hx]
      · rw [pk_un e]; exact hI j (by omega)
    refine br_f (nI_ge (b := 24) (by omega) (by decide)) ?_
    rw [nI_clamp (by omega : i < 2 ^ 31)]
    refine br_c (fun c => ⟨vp_in_nI (by omega) (by omega), nm_e (nm_r (nI_1 i) (ih (i + 1) _ fu (by omega) (by omega) (next false ?_)))⟩) (fun c => ty_pr hw hn (by omega) hM ?_)
    · rw [nI_leI (by omega) (by omega)] at c
      rw [decide_eq_false (by omega), Bool.and_false]
    · rw [nI_leI (by omega) (by omega)] at c
      cases e : bt (tc_pr w n M) i
      · refine br_t tc_bif ⟨vp_in_nI (by omega) (by omega), nm_e (nm_r (nI_1 i) (ih (i + 1) _ fu (by omega) (by omega) (next false ?_)))⟩
        rw [e]; rfl
      · refine br_f tc_bit ⟨vp_in_nI (by omega) (by omega), nm_e (nm_r (nI_1 i) (ih (i + 1) _ fu (by omega) (by omega) (next true ?_)))⟩
        rw [e, decide_eq_true (by omega)]; rfl
/-- a view, or none -/
theorem tc_view (p : Int32) : (∃ w, w ≤ 2 ∧ p = nI w) ∨ (¬ p = 0 ∧ ¬ p = 1 ∧ ¬ p = 2 ∧ (p < 0 ∨ (¬ p < 0 ∧ ¬ p ≤ 2))) := by
  by_cases c : p < 0
  · refine Or.inr ⟨fun z => ?_, fun z => ?_, fun z => ?_, Or.inl c⟩ <;> (rw [z] at c; exact absurd c (by decide))
  · obtain ⟨j, hj, rfl⟩ := nI_of c
    by_cases h : j ≤ 2
    · exact Or.inl ⟨j, h, rfl⟩
    · refine Or.inr ⟨fun z => ?_, fun z => ?_, fun z => ?_, Or.inr ⟨c, fun z => ?_⟩⟩
      · have := (nI_eq (b := 0) hj (by omega)).mp z; omega
      · have := (nI_eq (b := 1) hj (by omega)).mp z; omega
      · have := (nI_eq (b := 2) hj (by omega)).mp z; omega
      · have := (nI_leI (b := 2) hj (by omega)).mp z; omega
theorem tx_vw {post : Int32 → Prop} {w : Nat} (hw : w ≤ 2) (h : post 1) : wpX_isView post (nI w) := by
  have hw3 : w = 0 ∨ w = 1 ∨ w = 2 := by omega
  rcases hw3 with rfl | rfl | rfl
  · exact br_t rfl h
  · exact br_f (by decide) (br_t rfl h)
  · exact br_f (by decide) (br_f (by decide) (br_t rfl h))
theorem i_vc_forward {k : Nat} {u : SX} {v : SY} (I : i_Rel k u v) (hk : k + 5 ≤ 2563) (v1 : Int32) : wpX_forward (fun r u' => wpY_forward (fun r' v' => r' = r ∧ i_Rel (k + 5) u' v') v v1) u v1 := by
  have I' := i_up I
  obtain ⟨V, A, L, n, m, cu, ph, cf, W, K, S, D, mk, M, oc, oc', ob, inn, obl, isf, rfl, rfl, h⟩ := I
  have hR := h
  obtain ⟨hT, hD, hM, hb, hi, hcu, hp, hc⟩ := h
  have hnm := hT.2.1
  unfold wpX_forward
  rcases tc_view v1 with ⟨w, hw, rfl⟩ | ⟨n0, n1, n2, hn⟩
  · have wp0 : ¬ nI w < 0 := nI_pos (by omega)
    have wp2 : nI w ≤ 2 := nI_le (b := 2) hw (by omega)
    obtain ⟨r, rx, ry⟩ := tz_f41 (vc := nI V) (al := nI A) (ll := nI L) (vs := nI V) (ma := nI A) (ml := nI L) (ph := ph) (cu := nI cu) (cf := cf) (phy := ph) (cuy := nI cu) (cfy := cf) hT hD hM hw m 0 (tc_pr w n M &&& tc_ax n) (by omega) (fun i h24 hbt => by
      rw [b_and, Bool.and_eq_true, tc_axb n (by omega) i (by omega), decide_eq_true_eq] at hbt
      refine ⟨by omega, ?_⟩
      rw [hT.2.2.1 i hbt.2]
      decide)
    have go : ∀ (c : Prop) (yy : ∀ post : Int32 → SY → Prop, (∃ n29 : Nat, wY_forward_29 post (nI w) (nI V) (nI A) (nI L) (nI n) (nI m) ph (nI cu) cf oc' n29 0 W D mk inn obl isf) → wpY_forward post (nI V, nI A, nI L, nI n, nI m, ph, nI cu, cf, oc', W, D, mk, inn, obl, isf) (nI w)), wX_forward_25 (fun r u' => wpY_forward (fun r' v' => r' = r ∧ i_Rel (k + 5) u' v') (nI V, nI A, nI L, nI n, nI m, ph, nI cu, cf, oc', W, D, mk, inn, obl, isf) (nI w)) (nI w) (nI V) (nI A) (nI L) (nI n) (nI m) ph (nI cu) cf M oc W K S ob := by
      intro _ yy
      unfold wX_forward_25
      refine tx_pr hw (nm_e ⟨m + 1, rx _ (m + 1) oc ob (by omega) (fun oc ob => yy _ ⟨25, ?_⟩)⟩)
      exact ty_f29 (by omega) hM hw (fun inn hin => ⟨m + 1, ry _ (m + 1) oc' inn obl isf (by omega) hin (fun oc2 inn obl isf => ⟨rfl, tc_rel hR⟩)⟩) 24 0 inn 25 (by omega) (by omega) (fun j hj => absurd hj (by omega))
    refine tx_vw hw (br_f (by decide) ?_)
    refine br_c (fun c0 => go True (fun post z => br_f wp0 (br_t wp2 (br_t c0 z)))) (fun c0 => br_c (fun c2 => go True (fun post z => br_f wp0 (br_t wp2 (br_f c0 (br_t c2 z))))) (fun c2 => br_f wp0 (br_t wp2 (br_f c0 (br_f c2 ⟨rfl, I'⟩)))))
  · refine br_f n0 (br_f n1 (br_f n2 (br_t rfl ?_)))
    rcases hn with z | ⟨z1, z2⟩
    · exact br_t z ⟨rfl, I'⟩
    · exact br_f z1 (br_f z2 ⟨rfl, I'⟩)
end
section
/-! ===== the trimmed derivation ===== -/
theorem tz_t15 {vc al ll vs ma ml ph cu oc ocy M x1 : Int32} {W K S D mk ob inn obl isf : Nat → Int32} {V n m c : Nat} (hT : tc_Tx V n m W K S) (hD : tc_De K D) (hM : tc_In M mk) (hc : c ≤ m) : ∀ (d j : Nat) (seen : Int32), j + d = c → ∃ r : Int32, (∀ (post : Int32 → Prop) (fu : Nat), d < fu → post r → wX_trimmed_15 post x1 vc al ll (nI n) (nI m) ph cu (nI c) M oc W K S ob fu seen (nI j)) ∧ (∀ (post : Int32 → Prop) (fu : Nat), d < fu → post r → wY_trimmed_15 post x1 vs ma ml (nI n) (nI m) ph cu (nI c) ocy W D mk inn obl isf fu seen (nI j)) := by
  have hnm := hT.2.1
  intro d
  induction d with
  | zero =>
    intro j seen hj
    have e : j = c := by omega
    subst e
    refine ⟨-2, fun post fu hf hp => ?_, fun post fu hf hp => ?_⟩
    · obtain ⟨fu, rfl⟩ : ∃ k, fu = k + 1 := ⟨fu - 1, by omega⟩
      exact br_t (nI_le (by omega) (by omega)) hp
    · obtain ⟨fu, rfl⟩ : ∃ k, fu = k + 1 := ⟨fu - 1, by omega⟩
      exact br_t (nI_le (by omega) (by omega)) hp
  | succ d ih =>
    intro j seen hj
    have nle : ¬ nI c ≤ nI j := nI_ge (by omega) (by omega)
    -- whether the line is relevant: one answer for both sides
    have key : ∃ b : Bool, (∀ post : Int32 → Prop, post (tc_bi b) → wpX_isRelevant post (vc, al, ll, nI n, nI m, ph, cu, nI c, M, oc, W, K, S, ob) (nI (n + j))) ∧ (∀ (post : Int32 → Prop) (fu : Nat), (b = false → wY_trimmed_15 post x1 vs ma ml (nI n) (nI m) ph cu (nI c) ocy W D mk inn obl isf fu seen (nI (j + 1))) → (b = true → wY_trimmed_83 post (wY_trimmed_15 post x1 vs ma ml (nI n) (nI m) ph cu (nI c) ocy W D mk inn obl isf fu) x1 seen (nI j) vs ma ml (nI n) (nI m) ph cu (nI c) ocy W D mk inn obl isf) → wY_trimmed_15 post x1 vs ma ml (nI n) (nI m) ph cu (nI c) ocy W D mk inn obl isf (fu + 1) seen (nI j)) := by
      have y59 : ∀ (post : Int32 → Prop) (fu t : Nat) (b : Bool), t < 24 → b = (decide (t < n) || bt M t) → (b = false → wY_trimmed_15 post x1 vs ma ml (nI n) (nI m) ph cu (nI c) ocy W D mk inn obl isf fu seen (nI (j + 1))) → (b = true → wY_trimmed_83 post (wY_trimmed_15 post x1 vs ma ml (nI n) (nI m) ph cu (nI c) ocy W D mk inn obl isf fu) x1 seen (nI j) vs ma ml (nI n) (nI m) ph cu (nI c) ocy W D mk inn obl isf) → wY_trimmed_59 post (wY_trimmed_15 post x1 vs ma ml (nI n) (nI m) ph cu (nI c) ocy W D mk inn obl isf fu) x1 seen (nI j) (nI t) vs ma ml (nI n) (nI m) ph cu (nI c) ocy W D mk inn obl isf := by
        intro post fu t b ht hb h0 h1
        refine br_c (fun z => h1 ?_) (fun z => ⟨vp_in_nI ht (by omega), ?_⟩)
        · rw [nI_ltI (by omega) (by omega)] at z
          rw [hb, decide_eq_true z, Bool.true_or]
        · rw [nI_ltI (by omega) (by omega)] at z
          rw [decide_eq_false z, Bool.false_or] at hb
          rw [nI_clamp (by omega : t < 2 ^ 31), hM t ht, ← hb]
          cases b
          · exact br_t tc_bif (nm_r (nI_1 j) (h0 rfl))
          · exact br_f tc_bit (h1 rfl)
      by_cases cK : K (n + j) = 3
      · obtain ⟨t, ht, hW⟩ := hT.2.2.2.2.2 (n + j) (by omega) (by omega) cK
        refine ⟨decide (t < n) || bt M t, fun post hp => ?_, fun post fu h0 h1 => br_f nle ?_⟩
        · refine ⟨vp_in_nI (by omega) (by omega), ?_⟩
          rw [nI_clamp (by omega : n + j < 2 ^ 31)]
          refine br_f (by rw [cK]; decide) (tx_tgt (by omega) ?_)
          rw [hW]
          refine br_c (fun z => ?_) (fun z => tx_hm (by omega) ?_)
          · rw [nI_ltI (by omega) (by omega)] at z
            rw [decide_eq_true z, Bool.true_or] at hp
            exact hp
          · rw [nI_ltI (by omega) (by omega)] at z
            rw [decide_eq_false z, Bool.false_or] at hp
            cases e : bt M t
            · rw [e] at hp
              exact br_t tc_bif hp
            · rw [e] at hp
              exact br_f tc_bit hp
        · rw [nI_add, tc_m4, nI_clamp (by omega : n + j < 2 ^ 31), nI_clamp (by omega : (n + j) * 4 < 2 ^ 31), hD (n + j) (by omega), decide_eq_true cK, hW]
          exact ⟨vp_in_nI (by omega) (by omega), br_f tc_bit ⟨vp_in_nI (by omega) (by omega), y59 post fu t _ (by omega) rfl h0 h1⟩⟩
      · have hK2 : K (n + j) = 2 := by
          rcases hT.2.2.2.1 (n + j) (by omega) (by omega) with z | z
          · exact z
          · exact absurd z cK
        refine ⟨bt M (n + j), fun post hp => ?_, fun post fu h0 h1 => br_f nle ?_⟩
        · refine ⟨vp_in_nI (by omega) (by omega), ?_⟩
          rw [nI_clamp (by omega : n + j < 2 ^ 31)]
          exact br_t hK2 (tx_hm (by omega) ⟨tc_nar _, hp⟩)
        · rw [nI_add, nI_clamp (by omega : n + j < 2 ^ 31), hD (n + j) (by omega), decide_eq_false cK]
          refine ⟨vp_in_nI (by omega) (by omega), br_t tc_bif (y59 post fu (n + j) _ (by omega) ?_ h0 h1)⟩
          rw [decide_eq_false (by omega), Bool.false_or]
    obtain ⟨b, kx, ky⟩ := key
    cases b
    · obtain ⟨r, rx, ry⟩ := ih (j + 1) seen (by omega)
      refine ⟨r, fun post fu hf hp => ?_, fun post fu hf hp => ?_⟩
      · obtain ⟨fu, rfl⟩ : ∃ k, fu = k + 1 := ⟨fu - 1, by omega⟩
        exact br_f nle (nm_r (nI_add n j) (kx _ (br_t tc_bif (nm_r (nI_1 j) (rx post fu (by omega) hp)))))
      · obtain ⟨fu, rfl⟩ : ∃ k, fu = k + 1 := ⟨fu - 1, by omega⟩
        exact ky post fu (fun _ => ry post fu (by omega) hp) (fun z => absurd z (by decide))
    · by_cases es : seen = x1
      · refine ⟨nI (n + j), fun post fu hf hp => ?_, fun post fu hf hp => ?_⟩
        · obtain ⟨fu, rfl⟩ : ∃ k, fu = k + 1 := ⟨fu - 1, by omega⟩
          exact br_f nle (nm_r (nI_add n j) (kx _ (br_f tc_bit (br_t es hp))))
        · obtain ⟨fu, rfl⟩ : ∃ k, fu = k + 1 := ⟨fu - 1, by omega⟩
          refine ky post fu (fun z => absurd z (by decide)) (fun _ => br_t es ?_)
          rw [nI_add]
          exact hp
      · obtain ⟨r, rx, ry⟩ := ih (j + 1) (seen + 1) (by omega)
        refine ⟨r, fun post fu hf hp => ?_, fun post fu hf hp => ?_⟩
        · obtain ⟨fu, rfl⟩ : ∃ k, fu = k + 1 := ⟨fu - 1, by omega⟩
          exact br_f nle (nm_r (nI_add n j) (kx _ (br_f tc_bit (br_f es (nm_e (nm_r (nI_1 j) (rx post fu (by omega) hp)))))))
        · obtain ⟨fu, rfl⟩ : ∃ k, fu = k + 1 := ⟨fu - 1, by omega⟩
          exact ky post fu (fun z => absurd z (by decide)) (fun _ => br_f es (nm_e (nm_r (nI_1 j) (ry post fu (by omega) hp))))
theorem i_vc_trimmed {k : Nat} {u : SX} {v : SY} (I : i_Rel k u v) (hk : k + 5 ≤ 2563) (v1 : Int32) : wpX_trimmed (fun r => wpY_trimmed (fun r' => r' = r ∧ i_Rel (k + 5) u v) v v1) u v1 := by
  have I' := i_up I
  obtain ⟨V, A, L, n, m, cu, ph, cf, W, K, S, D, mk, M, oc, oc', ob, inn, obl, isf, rfl, rfl, h⟩ := I
  obtain ⟨hT, hD, hM, hb, hi, hcu, hp, hc⟩ := h
  refine br_c (fun cp => ?_) (fun cp => br_f cp ⟨rfl, I'⟩)
  rcases hc with rfl | ⟨c, hc, rfl⟩
  · exact ⟨1, br_t (by decide) (br_t cp ⟨1, br_t (by decide) ⟨rfl, I'⟩⟩)⟩
  · obtain ⟨r, rx, ry⟩ := tz_t15 (vc := nI V) (al := nI A) (ll := nI L) (vs := nI V) (ma := nI A) (ml := nI L) (ph := ph) (cu := nI cu) (oc := oc) (ocy := oc') (x1 := v1) (ob := ob) (inn := inn) (obl := obl) (isf := isf) hT hD hM hc c 0 0 (by omega)
    exact ⟨c + 1, rx _ (c + 1) (by omega) (br_t cp ⟨c + 1, ry _ (c + 1) (by omega) ⟨rfl, I'⟩⟩)⟩
end
section
/-! ===== evaluating an assignment ===== -/
theorem tc_wsg : ∀ x, x < 17 → (tc_w x ≤ 0 ↔ x ≤ 8) ∧ (0 ≤ tc_w x ↔ 8 ≤ x) ∧ (8 < x → tc_w x - 1 = nI (x - 9)) ∧ (x < 8 → -tc_w x - 1 = nI (7 - x)) := by decide +kernel
theorem tc_hz {a : Nat → Nat} (h : ∀ s, s < 4 → a s < 17) (t : Int32) : tc_sl (tc_w (a 0)) (tc_w (a 1)) (tc_w (a 2)) (tc_w (a 3)) &&& t = 0 ↔ ¬ ∃ s, s < 4 ∧ a s ≠ 8 ∧ bt t (tc_b (a s)) = true := by
  rw [tc_zand]
  constructor
  · rintro g ⟨s, hs, h8, hb⟩
    have := tc_blt (h s hs)
    exact g (tc_b (a s)) (by omega) ((tc_slb h (by omega)).mpr ⟨s, hs, h8, rfl⟩) hb
  · intro g i hi h1 h2
    obtain ⟨s, hs, h8, e⟩ := (tc_slb h hi).mp h1
    exact g ⟨s, hs, h8, by rw [← e]; exact h2⟩
theorem ty_h40 {vs ma ml ac lc ph cu cf oc x1 as : Int32} {W D mk inn obl isf : Nat → Int32} {V i : Nat} {a : Nat → Nat} {b0 : Bool} {post : Int32 → Prop} {J13 : Int32 → Prop} (hV : V ≤ 8) (hi : i < 24) (ha : ∀ s, s < 4 → 8 ≤ a s + V ∧ a s ≤ 8 + V ∧ W (i * 4 + s) = tc_w (a s)) (h0 : ¬ (b0 = true ∨ ∃ s, s < 4 ∧ a s ≠ 8 ∧ bt (tc_tl V as) (tc_b (a s)) = true) → post 0) (h1 : (b0 = true ∨ ∃ s, s < 4 ∧ a s ≠ 8 ∧ bt (tc_tl V as) (tc_b (a s)) = true) → J13 (nI (i + 1))) : ∀ (d s : Nat) (b : Bool) (fu : Nat), s + d = 4 → d < fu → (b = true ↔ b0 = true ∨ ∃ t, t < s ∧ a t ≠ 8 ∧ bt (tc_tl V as) (tc_b (a t)) = true) → wY_holds_40 post J13 x1 as (nI i) vs ma ml ac lc ph cu cf oc W D mk inn obl isf fu (tc_bi b) (nI s) := by
  intro d
  induction d with
  | zero =>
    intro s b fu hs hf hb
    obtain ⟨fu, rfl⟩ : ∃ k, fu = k + 1 := ⟨fu - 1, by omega⟩
    have e : s = 4 := by omega
    subst e
    refine br_t (nI_le (a := 4) (b := 4) (by omega) (by omega)) ?_
    cases b
    · exact br_t tc_bif (h0 (fun z => absurd (hb.mpr z) (by decide)))
    · exact br_f tc_bit (nm_r (nI_1 i) (h1 (hb.mp rfl)))
  | succ d ih =>
    intro s b fu hs hf hb
    obtain ⟨fu, rfl⟩ : ∃ k, fu = k + 1 := ⟨fu - 1, by omega⟩
    have hs4 : s < 4 := by omega
    obtain ⟨a1, a2, aw⟩ := ha s hs4
    have ax : a s < 17 := by omega
    obtain ⟨g1, g2, g3, g4⟩ := tc_wsg (a s) ax
    refine br_f (nI_ge (b := 4) hs4 (by decide)) ⟨by rw [tc_m4s]; exact vp_in_nI (by omega) (by omega), ?_⟩
    refine nm_r (e' := tc_w (a s)) (by rw [tc_m4s, nI_clamp (by omega)]; exact aw) ?_
    -- the flag stays
    have stay : ¬ (a s ≠ 8 ∧ bt (tc_tl V as) (tc_b (a s)) = true) → wY_holds_40 post J13 x1 as (nI i) vs ma ml ac lc ph cu cf oc W D mk inn obl isf fu (tc_bi b) (nI (s + 1)) := by
      intro z
      refine ih (s + 1) b fu (by omega) (by omega) ⟨fun y => ?_, fun y => ?_⟩
      · rcases hb.mp y with y | ⟨t, ht, y⟩
        · exact Or.inl y
        · exact Or.inr ⟨t, by omega, y⟩
      · rcases y with y | ⟨t, ht, y⟩
        · exact hb.mpr (Or.inl y)
        · by_cases e : t = s
          · rw [e] at y; exact absurd y z
          · exact hb.mpr (Or.inr ⟨t, by omega, y⟩)
    have rise : (a s ≠ 8 ∧ bt (tc_tl V as) (tc_b (a s)) = true) → wY_holds_40 post J13 x1 as (nI i) vs ma ml ac lc ph cu cf oc W D mk inn obl isf fu 1 (nI (s + 1)) := by
      intro z
      exact ih (s + 1) true fu (by omega) (by omega) ⟨fun _ => Or.inr ⟨s, by omega, z⟩, fun _ => rfl⟩
    by_cases c8 : a s = 8
    · exact br_t (g1.mpr (by omega)) (br_t (g2.mpr (by omega)) (nm_r (nI_1 s) (stay (fun z => z.1 c8))))
    · have htl := tc_tll hV as a1 a2 c8
      by_cases cp : 8 < a s
      · rw [if_pos cp] at htl
        refine br_f (fun z => absurd (g1.mp z) (by omega)) ?_
        rw [g3 cp, tc_shr1 as (by omega)]
        cases e : bt as (a s - 9)
        · rw [e] at htl
          exact br_f (by decide) (br_t (g2.mpr (by omega)) (nm_r (nI_1 s) (stay (fun z => by rw [htl] at z; exact absurd z.2 (by decide)))))
        · rw [e] at htl
          exact br_t rfl (br_t (g2.mpr (by omega)) (nm_r (nI_1 s) (rise ⟨c8, htl⟩)))
      · rw [if_neg cp] at htl
        refine br_t (g1.mpr (by omega)) (br_f (fun z => absurd (g2.mp z) (by omega)) ?_)
        rw [g4 (by omega), tc_shr1 as (by omega)]
        cases e : bt as (7 - a s)
        · rw [e] at htl
          exact br_t tc_bif (nm_r (nI_1 s) (rise ⟨c8, htl⟩))
        · rw [e] at htl
          exact br_f tc_bit (nm_r (nI_1 s) (stay (fun z => by rw [htl] at z; exact absurd z.2 (by decide))))
theorem tz_h {vc al ll vs ma ml ph cu cf oc ocy M as : Int32} {W K S D mk ob inn obl isf : Nat → Int32} {V n m w : Nat} (hT : tc_Tx V n m W K S) (hM : tc_In M mk) (hw : w ≤ 2) : ∀ (d i : Nat), i + d = n → ∃ r : Int32, (∀ (post : Int32 → Prop) (fu : Nat), d < fu → post r → wX_holds_25 post (tc_pr w n M) (tc_tl V as) vc al ll (nI n) (nI m) ph cu cf M oc W K S ob fu (nI i)) ∧ (∀ (post : Int32 → Prop) (fu : Nat), d < fu → post r → wY_holds_13 post (nI w) as vs ma ml (nI n) (nI m) ph cu cf ocy W D mk inn obl isf fu (nI i)) := by
  have hnm := hT.2.1
  intro d
  induction d with
  | zero =>
    intro i hi
    have e : i = n := by omega
    subst e
    refine ⟨1, fun post fu hf hp => ?_, fun post fu hf hp => ?_⟩
    · obtain ⟨fu, rfl⟩ : ∃ k, fu = k + 1 := ⟨fu - 1, by omega⟩
      exact br_t (nI_le (by omega) (by omega)) hp
    · obtain ⟨fu, rfl⟩ : ∃ k, fu = k + 1 := ⟨fu - 1, by omega⟩
      exact br_t (nI_le (by omega) (by omega)) hp
  | succ d ih =>
    intro i hi
    have nle : ¬ nI n ≤ nI i := nI_ge (by omega) (by omega)
    obtain ⟨r, rx, ry⟩ := ih (i + 1) (by omega)
    have hK : ¬ K i = 3 := by
      rw [hT.2.2.1 i (by omega)]
      decide
    obtain ⟨a, ha, hS⟩ := hT.2.2.2.2.1 i (by omega) hK
    have ha17 : ∀ s, s < 4 → a s < 17 := fun s hs => by have := ha s hs; have := hT.1.2; omega
    have hz := tc_hz ha17 (tc_tl V as)
    rw [← hS] at hz
    -- whether the axiom lets the assignment pass
    by_cases g : bt (tc_pr w n M) i = true ∧ S i &&& tc_tl V as = 0
    · have ng := hz.mp g.2
      refine ⟨0, fun post fu hf hp => ?_, fun post fu hf hp => ?_⟩
      · obtain ⟨fu, rfl⟩ : ∃ k, fu = k + 1 := ⟨fu - 1, by omega⟩
        refine br_f nle (tx_hm (by omega) ?_)
        rw [g.1]
        refine br_f tc_bit ⟨vp_in_nI (by omega) (by omega), ?_⟩
        rw [nI_clamp (by omega : i < 2 ^ 31)]
        exact br_t g.2 hp
      · obtain ⟨fu, rfl⟩ : ∃ k, fu = k + 1 := ⟨fu - 1, by omega⟩
        refine br_f nle (ty_pr hw (by omega) (by omega) hM ?_)
        rw [g.1]
        exact br_f tc_bit ⟨5, ty_h40 (b0 := false) hT.1.2 (by omega) ha (fun _ => hp) (fun z => absurd (z.resolve_left (by decide)) ng) 4 0 false 5 (by omega) (by omega) ⟨fun z => Or.inl z, fun z => z.elim id (fun ⟨t, ht, _⟩ => absurd ht (by omega))⟩⟩
    · refine ⟨r, fun post fu hf hp => ?_, fun post fu hf hp => ?_⟩
      · obtain ⟨fu, rfl⟩ : ∃ k, fu = k + 1 := ⟨fu - 1, by omega⟩
        refine br_f nle (tx_hm (by omega) ?_)
        cases e : bt (tc_pr w n M) i
        · exact br_t tc_bif (nm_r (nI_1 i) (rx post fu (by omega) hp))
        · refine br_f tc_bit ⟨vp_in_nI (by omega) (by omega), ?_⟩
          rw [nI_clamp (by omega : i < 2 ^ 31)]
          exact br_f (fun z => g ⟨e, z⟩) (nm_r (nI_1 i) (rx post fu (by omega) hp))
      · obtain ⟨fu, rfl⟩ : ∃ k, fu = k + 1 := ⟨fu - 1, by omega⟩
        refine br_f nle (ty_pr hw (by omega) (by omega) hM ?_)
        cases e : bt (tc_pr w n M) i
        · exact br_t tc_bif ⟨5, ty_h40 (b0 := true) hT.1.2 (by omega) ha (fun z => absurd (Or.inl rfl) z) (fun _ => ry post fu (by omega) hp) 4 0 true 5 (by omega) (by omega) ⟨fun _ => Or.inl rfl, fun _ => rfl⟩⟩
        · have yes : ∃ s, s < 4 ∧ a s ≠ 8 ∧ bt (tc_tl V as) (tc_b (a s)) = true := by
            by_cases y : ∃ s, s < 4 ∧ a s ≠ 8 ∧ bt (tc_tl V as) (tc_b (a s)) = true
            · exact y
            · exact absurd ⟨e, hz.mpr y⟩ g
          exact br_f tc_bit ⟨5, ty_h40 (b0 := false) hT.1.2 (by omega) ha (fun z => absurd (Or.inr yes) z) (fun _ => ry post fu (by omega) hp) 4 0 false 5 (by omega) (by omega) ⟨fun z => Or.inl z, fun z => z.elim id (fun ⟨t, ht, _⟩ => absurd ht (by omega))⟩⟩
theorem i_vc_holds {k : Nat} {u : SX} {v : SY} (I : i_Rel k u v) (hk : k + 5 ≤ 2563) (v1 : Int32) (v2 : Int32) : wpX_holds (fun r => wpY_holds (fun r' => r' = r ∧ i_Rel (k + 5) u v) v v1 v2) u v1 v2 := by
  have I' := i_up I
  obtain ⟨V, A, L, n, m, cu, ph, cf, W, K, S, D, mk, M, oc, oc', ob, inn, obl, isf, rfl, rfl, h⟩ := I
  obtain ⟨hT, hD, hM, hb, hi, hcu, hp, hc⟩ := h
  unfold wpX_holds
  rcases tc_view v1 with ⟨w, hw, rfl⟩ | ⟨n0, n1, n2, hn⟩
  · have wp0 : ¬ nI w < 0 := nI_pos (by omega)
    have wp2 : nI w ≤ 2 := nI_le (b := 2) hw (by omega)
    obtain ⟨r, rx, ry⟩ := tz_h (vc := nI V) (al := nI A) (ll := nI L) (vs := nI V) (ma := nI A) (ml := nI L) (ph := ph) (cu := nI cu) (cf := cf) (oc := oc) (ocy := oc') (as := v2) (D := D) (ob := ob) (inn := inn) (obl := obl) (isf := isf) hT hM hw n 0 (by omega)
    refine tx_vw hw (br_f (by decide) (tx_pr hw ?_))
    unfold wpX_trueLiterals
    refine nm_e (nm_e (nm_e ⟨n + 1, rx _ (n + 1) (by omega) ?_⟩))
    exact br_f wp0 (br_t wp2 ⟨n + 1, ry _ (n + 1) (by omega) ⟨rfl, I'⟩⟩)
  · refine br_f n0 (br_f n1 (br_f n2 (br_t rfl ?_)))
    rcases hn with z | ⟨z1, z2⟩
    · exact br_t z ⟨rfl, I'⟩
    · exact br_f z1 (br_f z2 ⟨rfl, I'⟩)
end
