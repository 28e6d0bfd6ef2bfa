/-! ===== uniting a clause with a row ===== -/
/-- what the word at place a gives: nothing if there is no literal or it is the one left out -/
def tc_g (e a : Nat) : Int32 := if a = 8 ∨ a = e then 0 else tc_lb (tc_w a)
theorem tc_gb {e a : Nat} (ha : a < 17) {i : Nat} (hi : i < 32) : bt (tc_g e a) i = true ↔ a ≠ 8 ∧ a ≠ e ∧ i = tc_b a := by
  unfold tc_g
  by_cases h : a = 8 ∨ a = e
  · rw [if_pos h, b_0]
    constructor
    · intro z; exact absurd z (by decide)
    · rintro ⟨h1, h2, _⟩
      rcases h with h | h
      · exact absurd h h1
      · exact absurd h h2
  · rw [if_neg h, tc_lbb a ha i hi, decide_eq_true_eq]
    constructor
    · rintro ⟨h1, h2⟩
      exact ⟨h1, fun z => h (Or.inr z), h2⟩
    · rintro ⟨h1, _, h3⟩
      exact ⟨h1, h3⟩
theorem tc_log {e a : Nat} (ha : a < 17) : tc_lo (tc_g e a) := by
  unfold tc_g
  split
  · exact tc_lo0
  · exact tc_lolb ha
theorem tc_g4 {a : Nat → Nat} (h : ∀ s, s < 4 → a s < 17) {e : Nat} (he : e < 17) (F : Int32) : F ||| tc_g e (a 0) ||| tc_g e (a 1) ||| tc_g e (a 2) ||| tc_g e (a 3) = F ||| (tc_sl (tc_w (a 0)) (tc_w (a 1)) (tc_w (a 2)) (tc_w (a 3)) &&& (tc_lb (tc_w e) ^^^ (-1))) := by
  apply b_ext
  intro i hi
  apply Bool.eq_iff_iff.mpr
  rw [b_or, b_or, b_or, b_or, b_or, Bool.or_eq_true, Bool.or_eq_true, Bool.or_eq_true, Bool.or_eq_true, Bool.or_eq_true, tc_andn _ _ hi, Bool.and_eq_true, tc_slb h hi, tc_lbb e he i hi, Bool.not_eq_true', decide_eq_false_iff_not, tc_gb (h 0 (by omega)) hi, tc_gb (h 1 (by omega)) hi, tc_gb (h 2 (by omega)) hi, tc_gb (h 3 (by omega)) hi]
  have key : ∀ s, s < 4 → a s ≠ 8 → a s ≠ e → i = tc_b (a s) → (∃ s, s < 4 ∧ a s ≠ 8 ∧ i = tc_b (a s)) ∧ ¬ (e ≠ 8 ∧ i = tc_b e) := by
    intro s hs h1 h2 h3
    refine ⟨⟨s, hs, h1, h3⟩, ?_⟩
    rintro ⟨h4, h5⟩
    exact h2 (tc_binj (h s hs) he h1 h4 (by rw [← h3, ← h5]))
  constructor
  · rintro ((((z | z) | z) | z) | z)
    · exact Or.inl z
    · exact Or.inr (key 0 (by omega) z.1 z.2.1 z.2.2)
    · exact Or.inr (key 1 (by omega) z.1 z.2.1 z.2.2)
    · exact Or.inr (key 2 (by omega) z.1 z.2.1 z.2.2)
    · exact Or.inr (key 3 (by omega) z.1 z.2.1 z.2.2)
  · rintro (z | ⟨⟨s, hs, h1, h2⟩, h3⟩)
    · exact Or.inl (Or.inl (Or.inl (Or.inl z)))
    · have h4 : a s ≠ e := by
        intro z
        rw [z] at h1 h2
        exact h3 ⟨h1, h2⟩
      have hs4 : s = 0 ∨ s = 1 ∨ s = 2 ∨ s = 3 := by omega
      rcases hs4 with rfl | rfl | rfl | rfl
      · exact Or.inl (Or.inl (Or.inl (Or.inr ⟨h1, h4, h2⟩)))
      · exact Or.inl (Or.inl (Or.inr ⟨h1, h4, h2⟩))
      · exact Or.inl (Or.inr ⟨h1, h4, h2⟩)
      · exact Or.inr ⟨h1, h4, h2⟩
theorem tc_lb8 : tc_lb (tc_w 8) = 0 := by decide +kernel
theorem tc_w8 : tc_w 8 = 0 := by decide +kernel
theorem tc_not0 (x : Int32) : x &&& (0 ^^^ (-1)) = x := by
  apply b_ext
  intro i hi
  rw [tc_andn _ _ hi, b_0]
  simp
theorem tc_0or (x : Int32) : 0 ||| x = x := by
  apply b_ext
  intro i hi
  rw [b_or, b_0]
  simp
theorem tc_or0 (x : Int32) : x ||| 0 = x := by
  apply b_ext
  intro i hi
  rw [b_or, b_0]
  simp
/-- the row o of the reference's table -/
def tc_row (obl : Nat → Int32) (o : Nat) : Nat → Int32 := fun i => obl (o * 17 + i)
theorem tc_rowS {obl : Nat → Int32} {o a : Nat} {x : Int32} : tc_row (upd obl (o * 17 + a) x) o = upd (tc_row obl o) a x := by
  funext i
  unfold tc_row upd
  by_cases h : i = a
  · rw [if_pos h, if_pos (by omega)]
  · rw [if_neg h, if_neg (by omega)]
theorem tc_rowN {obl : Nat → Int32} {o o' a : Nat} {x : Int32} (h : o ≠ o') (ha : a < 17) {i : Nat} (hi : i < 17) : tc_row (upd obl (o * 17 + a) x) o' i = tc_row obl o' i := by
  unfold tc_row upd
  rw [if_neg (by omega)]
/-- the obligations of both sides -/
def tc_OR (ob : Nat → Int32) (q : Nat) (obl : Nat → Int32) : Prop := ∀ o, o < q → tc_lo (ob o) ∧ tc_FR (ob o) (tc_row obl o)
theorem tc_FRc {F : Int32} {f g : Nat → Int32} (h : tc_FR F f) (e : ∀ i, i < 17 → g i = f i) : tc_FR F g := fun a ha h8 => by rw [e a ha, h a ha h8]
/-! ===== a word that is met: the pivot, the pivot's partner ===== -/
theorem tc_hasz {a : Nat → Nat} (h : ∀ s, s < 4 → a s < 17) {y : Nat} (hy : y < 17) (h8 : y ≠ 8) : tc_sl (tc_w (a 0)) (tc_w (a 1)) (tc_w (a 2)) (tc_w (a 3)) &&& tc_lb (tc_w y) = 0 ↔ ∀ s, s < 4 → a s ≠ y := by
  rw [tc_zand]
  have hb := tc_blt hy
  constructor
  · intro g s hs e
    refine g (tc_b y) (by omega) ((tc_slb h (by omega)).mpr ⟨s, hs, by omega, by rw [e]⟩) ?_
    rw [tc_lbb y hy _ (by omega)]
    exact decide_eq_true ⟨h8, rfl⟩
  · intro g i hi h1 h2
    obtain ⟨s, hs, h3, h4⟩ := (tc_slb h hi).mp h1
    rw [tc_lbb y hy i hi, decide_eq_true_eq] at h2
    exact g s hs (tc_binj (h s hs) hy h3 h8 (by rw [← h4, ← h2.2]))
theorem tc_slz {a : Nat → Nat} (h : ∀ s, s < 4 → a s < 17) : tc_sl (tc_w (a 0)) (tc_w (a 1)) (tc_w (a 2)) (tc_w (a 3)) = 0 ↔ ∀ s, s < 4 → a s = 8 := by
  rw [tc_z]
  constructor
  · intro g s hs
    by_cases e : a s = 8
    · exact e
    · have hb := tc_blt (h s hs)
      have h1 := g (tc_b (a s)) (by omega)
      rw [(tc_slb h (by omega)).mpr ⟨s, hs, e, rfl⟩] at h1
      exact absurd h1 (by decide)
  · intro g i hi
    cases e : bt (tc_sl (tc_w (a 0)) (tc_w (a 1)) (tc_w (a 2)) (tc_w (a 3))) i
    · rfl
    · obtain ⟨s, hs, h3, _⟩ := (tc_slb h hi).mp e
      exact absurd (g s hs) h3
/-! ===== an assignment ===== -/
def tc_tl (V : Nat) (as : Int32) : Int32 := (as &&& tc_ax V) ||| (((as ^^^ (-1)) &&& tc_ax V) <<< ((8 : Int32) &&& 31))
theorem tc_tlb {V : Nat} (hV : V ≤ 8) (as : Int32) {i : Nat} (hi : i < 32) : bt (tc_tl V as) i = if i < 8 then (bt as i && decide (i < V)) else (!bt as (i - 8) && decide (i - 8 < V)) := by
  unfold tc_tl
  rw [b_or, b_shl8 _ hi, b_and, b_and, b_xor, b_m1 (i - 8) (by omega), tc_axb V (by omega) i hi, tc_axb V (by omega) (i - 8) (by omega), Bool.xor_true]
  by_cases h : i < 8
  · rw [if_pos h, decide_eq_false (by omega : ¬ 8 ≤ i), Bool.false_and, Bool.or_false]
  · rw [if_neg h, decide_eq_true (by omega : 8 ≤ i), decide_eq_false (by omega : ¬ i < V), Bool.and_false, Bool.false_or, Bool.true_and]
theorem tc_tll {V x : Nat} (hV : V ≤ 8) (as : Int32) (h1 : 8 ≤ x + V) (h2 : x ≤ 8 + V) (h8 : x ≠ 8) : bt (tc_tl V as) (tc_b x) = if 8 < x then bt as (x - 9) else !bt as (7 - x) := by
  have hb : tc_b x < 16 := tc_blt (by omega)
  rw [tc_tlb hV as (by omega)]
  unfold tc_b
  by_cases h : 8 < x
  · rw [if_pos h, if_pos h, if_pos (by omega : x - 9 < 8), decide_eq_true (by omega : x - 9 < V), Bool.and_true]
  · rw [if_neg h, if_neg h, if_neg (by omega : ¬ 15 - x < 8), decide_eq_true (by omega : 15 - x - 8 < V), Bool.and_true, show 15 - x - 8 = 7 - x from by omega]
theorem tc_and1 (x : Int32) : x &&& 1 = tc_bi (bt x 0) := by
  have h1 : ∀ i, i < 32 → bt 1 i = decide (i = 0) := by decide +kernel
  have h0 : ∀ b : Bool, ∀ i, i < 32 → bt (tc_bi b) i = (b && decide (i = 0)) := by decide +kernel
  apply b_ext
  intro i hi
  rw [b_and, h1 i hi, h0 _ i hi]
  by_cases e : i = 0
  · rw [e]
  · rw [decide_eq_false e, Bool.and_false, Bool.and_false]
theorem tc_shr1 (x : Int32) {k : Nat} (hk : k < 32) : (x >>> (nI k &&& 31)) &&& 1 = tc_bi (bt x k) := by
  rw [tc_and1, b_sshr k hk x (by omega), if_pos (by omega), Nat.add_zero]
/-! ===== the text grows ===== -/
def tc_put (W : Nat → Int32) (i : Nat) (a b c d : Int32) : Nat → Int32 := upd (upd (upd (upd W (i * 4) a) (i * 4 + 1) b) (i * 4 + 2) c) (i * 4 + 3) d
theorem tc_putN {W : Nat → Int32} {i : Nat} {a b c d : Int32} {j s : Nat} (h : j ≠ i) (hs : s < 4) : tc_put W i a b c d (j * 4 + s) = W (j * 4 + s) := by
  unfold tc_put upd
  rw [if_neg (by omega), if_neg (by omega), if_neg (by omega), if_neg (by omega)]
theorem tc_put0 {W : Nat → Int32} {i : Nat} {a b c d : Int32} : tc_put W i a b c d (i * 4) = a := by
  unfold tc_put upd
  rw [if_neg (by omega), if_neg (by omega), if_neg (by omega), if_pos rfl]
theorem tc_put1 {W : Nat → Int32} {i : Nat} {a b c d : Int32} : tc_put W i a b c d (i * 4 + 1) = b := by
  unfold tc_put upd
  rw [if_neg (by omega), if_neg (by omega), if_pos rfl]
theorem tc_put2 {W : Nat → Int32} {i : Nat} {a b c d : Int32} : tc_put W i a b c d (i * 4 + 2) = c := by
  unfold tc_put upd
  rw [if_neg (by omega), if_pos rfl]
theorem tc_put3 {W : Nat → Int32} {i : Nat} {a b c d : Int32} : tc_put W i a b c d (i * 4 + 3) = d := by
  unfold tc_put upd
  rw [if_pos rfl]
theorem tc_ClN {V : Nat} {W S : Nat → Int32} {i : Nat} {a b c d x : Int32} {j : Nat} (h : j ≠ i) (g : tc_Cl V W S j) : tc_Cl V (tc_put W i a b c d) (upd S i x) j := by
  obtain ⟨p, h1, h2⟩ := g
  refine ⟨p, fun s hs => ?_, by rw [pk_un h, h2]⟩
  obtain ⟨z1, z2, z3⟩ := h1 s hs
  exact ⟨z1, z2, by rw [tc_putN h hs, z3]⟩
theorem tc_ClN' {V : Nat} {W S : Nat → Int32} {i : Nat} {a b c d : Int32} {j : Nat} (h : j ≠ i) (g : tc_Cl V W S j) : tc_Cl V (tc_put W i a b c d) S j := by
  obtain ⟨p, h1, h2⟩ := g
  refine ⟨p, fun s hs => ?_, h2⟩
  obtain ⟨z1, z2, z3⟩ := h1 s hs
  exact ⟨z1, z2, by rw [tc_putN h hs, z3]⟩
/-- an argument within -V..V -/
def tc_ok (V : Nat) (w : Int32) : Prop := ∃ a, 8 ≤ a + V ∧ a ≤ 8 + V ∧ w = tc_w a
theorem tc_ClS {V : Nat} {W S : Nat → Int32} {i : Nat} {a b c d : Int32} (ha : tc_ok V a) (hb : tc_ok V b) (hc : tc_ok V c) (hd : tc_ok V d) : tc_Cl V (tc_put W i a b c d) (upd S i (tc_sl a b c d)) i := by
  obtain ⟨p0, h0, g0, e0⟩ := ha
  obtain ⟨p1, h1, g1, e1⟩ := hb
  obtain ⟨p2, h2, g2, e2⟩ := hc
  obtain ⟨p3, h3, g3, e3⟩ := hd
  refine ⟨fun s => if s = 0 then p0 else if s = 1 then p1 else if s = 2 then p2 else p3, fun s hs => ?_, ?_⟩
  · have hs4 : s = 0 ∨ s = 1 ∨ s = 2 ∨ s = 3 := by omega
    rcases hs4 with rfl | rfl | rfl | rfl
    · exact ⟨h0, g0, (tc_put0 (W := W) (i := i)).trans e0⟩
    · exact ⟨h1, g1, (tc_put1 (W := W) (i := i)).trans e1⟩
    · exact ⟨h2, g2, (tc_put2 (W := W) (i := i)).trans e2⟩
    · exact ⟨h3, g3, (tc_put3 (W := W) (i := i)).trans e3⟩
  · rw [pk_us, e0, e1, e2, e3]
    rfl
theorem tc_TxA {V n : Nat} {W K S : Nat → Int32} {a b c d : Int32} (h : tc_Tx V n 0 W K S) (hn : n < 12) (ha : tc_ok V a) (hb : tc_ok V b) (hc : tc_ok V c) (hd : tc_ok V d) : tc_Tx V (n + 1) 0 (tc_put W n a b c d) (upd K n 1) (upd S n (tc_sl a b c d)) := by
  obtain ⟨hV, hnm, hA, hL, hC, hD⟩ := h
  refine ⟨hV, ⟨by omega, by omega⟩, fun i hi => ?_, fun i h1 h2 => absurd h2 (by omega), fun i hi hk => ?_, fun i h1 h2 => absurd h2 (by omega)⟩
  · by_cases e : i = n
    · rw [e, pk_us]
    · rw [pk_un e]; exact hA i (by omega)
  · by_cases e : i = n
    · rw [e]; exact tc_ClS ha hb hc hd
    · rw [pk_un e] at hk
      exact tc_ClN e (hC i (by omega) hk)
theorem tc_TxL {V n m : Nat} {W K S : Nat → Int32} {a b c d : Int32} (h : tc_Tx V n m W K S) (hm : m < 12) (ha : tc_ok V a) (hb : tc_ok V b) (hc : tc_ok V c) (hd : tc_ok V d) : tc_Tx V n (m + 1) (tc_put W (n + m) a b c d) (upd K (n + m) 2) (upd S (n + m) (tc_sl a b c d)) := by
  obtain ⟨hV, hnm, hA, hL, hC, hD⟩ := h
  refine ⟨hV, ⟨by omega, by omega⟩, fun i hi => ?_, fun i h1 h2 => ?_, fun i hi hk => ?_, fun i h1 h2 hk => ?_⟩
  · rw [pk_un (by omega)]; exact hA i hi
  · by_cases e : i = n + m
    · rw [e, pk_us]; exact Or.inl rfl
    · rw [pk_un e]; exact hL i h1 (by omega)
  · by_cases e : i = n + m
    · rw [e]; exact tc_ClS ha hb hc hd
    · rw [pk_un e] at hk
      exact tc_ClN e (hC i (by omega) hk)
  · by_cases e : i = n + m
    · rw [e, pk_us] at hk
      exact absurd hk (by decide)
    · rw [pk_un e] at hk
      obtain ⟨t, ht, hw⟩ := hD i h1 (by omega) hk
      exact ⟨t, ht, (tc_putN (s := 0) e (by omega)).trans hw⟩
theorem tc_TxD {V n m t : Nat} {W K S : Nat → Int32} {b c d : Int32} (h : tc_Tx V n m W K S) (hm : m < 12) (ht : t < n + m) : tc_Tx V n (m + 1) (tc_put W (n + m) (nI t) b c d) (upd K (n + m) 3) S := by
  obtain ⟨hV, hnm, hA, hL, hC, hD⟩ := h
  refine ⟨hV, ⟨by omega, by omega⟩, fun i hi => ?_, fun i h1 h2 => ?_, fun i hi hk => ?_, fun i h1 h2 hk => ?_⟩
  · rw [pk_un (by omega)]; exact hA i hi
  · by_cases e : i = n + m
    · rw [e, pk_us]; exact Or.inr rfl
    · rw [pk_un e]; exact hL i h1 (by omega)
  · by_cases e : i = n + m
    · rw [e, pk_us] at hk
      exact absurd rfl hk
    · rw [pk_un e] at hk
      exact tc_ClN' e (hC i (by omega) hk)
  · by_cases e : i = n + m
    · rw [e]; exact ⟨t, ht, tc_put0⟩
    · rw [pk_un e] at hk
      obtain ⟨t, ht, hw⟩ := hD i h1 (by omega) hk
      exact ⟨t, ht, (tc_putN (s := 0) e (by omega)).trans hw⟩
theorem tc_TxR {V n m m' : Nat} {W K S : Nat → Int32} (h : tc_Tx V n m W K S) (hm : m' ≤ m) : tc_Tx V n m' W K S := by
  obtain ⟨hV, hnm, hA, hL, hC, hD⟩ := h
  exact ⟨hV, ⟨by omega, by omega⟩, hA, fun i h1 h2 => hL i h1 (by omega), fun i hi => hC i (by omega), fun i h1 h2 => hD i h1 (by omega)⟩
theorem tc_Tx0 {V n m : Nat} {W K S : Nat → Int32} (h : tc_Tx V n m W K S) : tc_Tx V 0 0 W K S := by
  obtain ⟨hV, hnm, hA, hL, hC, hD⟩ := h
  exact ⟨hV, ⟨by omega, by omega⟩, fun i hi => absurd hi (by omega), fun i h1 h2 => absurd h2 (by omega), fun i hi => absurd hi (by omega), fun i h1 h2 => absurd h2 (by omega)⟩
theorem tc_DeS {K D : Nat → Int32} {i : Nat} {x : Int32} (h : tc_De K D) : tc_De (upd K i x) (upd D i (tc_bi (decide (x = 3)))) := by
  intro j hj
  by_cases e : j = i
  · rw [e, pk_us, pk_us]
  · rw [pk_un e, pk_un e]; exact h j hj
/-- within -V..V, as both sides look at it -/
theorem tc_rng {V : Nat} (hV : V ≤ 8) {w : Int32} (h1 : ¬ w < -nI V) (h2 : ¬ nI V < w) : tc_ok V w := by
  have hV31 : V < 2 ^ 31 := by omega
  have e1 : (-nI V).toInt = -(V : Int) := by
    have hh : ∀ z, z < 9 → (-nI z).toInt = -(z : Int) := by decide +kernel
    exact hh V (by omega)
  rw [Int32.lt_iff_toInt_lt, e1] at h1
  rw [Int32.lt_iff_toInt_lt, nI_toInt hV31] at h2
  refine ⟨(w.toInt + 8).toNat, by omega, by omega, ?_⟩
  apply Int32.toInt_inj.mp
  have h3 : ∀ z, z < 17 → (tc_w z).toInt = (z : Int) - 8 := by decide +kernel
  rw [h3 _ (by omega)]
  omega
