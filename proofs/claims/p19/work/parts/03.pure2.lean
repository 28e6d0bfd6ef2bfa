/-! ===== rows of the reference's against sets of literals ===== -/
def tc_FR (F : Int32) (f : Nat → Int32) : Prop := ∀ a, a < 17 → a ≠ 8 → f a = tc_bi (bt F (tc_b a))
theorem tc_bi0 {b : Bool} : tc_bi b = 0 ↔ b = false := by cases b <;> decide
theorem tc_bi1 {b : Bool} : tc_bi b = 1 ↔ b = true := by cases b <;> decide
theorem tc_bin0 {b : Bool} : ¬ tc_bi b = 0 ↔ b = true := by cases b <;> decide
theorem tc_nglb : ∀ x, x < 17 → tc_ng (tc_lb (tc_w x)) = tc_lb (tc_w (16 - x)) := by decide +kernel
theorem tc_FR0 {f : Nat → Int32} (h : ∀ i, i < 17 → f i = 0) : tc_FR 0 f := fun a ha _ => by rw [h a ha, b_0]; rfl
theorem tc_FRset {F : Int32} {f : Nat → Int32} (h : tc_FR F f) {x : Nat} (hx : x < 17) (h8 : x ≠ 8) : tc_FR (F ||| tc_lb (tc_w x)) (upd f x 1) := by
  intro a ha ha8
  have hb := tc_blt ha
  rw [b_or, tc_lbb x hx _ (by omega)]
  by_cases e : a = x
  · subst e
    rw [pk_us, decide_eq_true ⟨h8, rfl⟩, Bool.or_true]
    rfl
  · rw [pk_un e, decide_eq_false, Bool.or_false]
    · exact h a ha ha8
    · rintro ⟨_, e2⟩
      exact e (tc_binj ha hx ha8 h8 e2)
theorem tc_both {T : Int32} {f : Nat → Int32} (h : tc_FR T f) (hl : tc_lo T) : T &&& tc_ng T = 0 ↔ ∀ v, 1 ≤ v → v ≤ 8 → ¬ f (8 + v) = 0 → ¬ f (8 - v) = 0 → False := by
  rw [tc_zand]
  have hp : ∀ v, 1 ≤ v → v ≤ 8 → f (8 + v) = tc_bi (bt T (v - 1)) ∧ f (8 - v) = tc_bi (bt T (v + 7)) := by
    intro v h1 h2
    rw [h (8 + v) (by omega) (by omega), h (8 - v) (by omega) (by omega)]
    unfold tc_b
    rw [if_pos (by omega), if_neg (by omega)]
    exact ⟨congrArg (fun z => tc_bi (bt T z)) (by omega), congrArg (fun z => tc_bi (bt T z)) (by omega)⟩
  constructor
  · intro g v h1 h2 h3 h4
    rw [(hp v h1 h2).1, tc_bin0] at h3
    rw [(hp v h1 h2).2, tc_bin0] at h4
    refine g (v - 1) (by omega) h3 ?_
    rw [tc_ngb _ (by omega), if_pos (by omega)]
    rw [show v - 1 + 8 = v + 7 from by omega]
    exact h4
  · intro g i hi h1 h2
    rw [tc_ngb _ hi] at h2
    by_cases h8 : i < 8
    · rw [if_pos h8] at h2
      refine g (i + 1) (by omega) (by omega) ?_ ?_
      · rw [(hp (i + 1) (by omega) (by omega)).1, tc_bin0]; exact h1
      · rw [(hp (i + 1) (by omega) (by omega)).2, tc_bin0]; exact h2
    · rw [if_neg h8] at h2
      by_cases h16 : i < 16
      · rw [if_pos h16] at h2
        refine g (i - 7) (by omega) (by omega) ?_ ?_
        · rw [(hp (i - 7) (by omega) (by omega)).1, tc_bin0, show i - 7 - 1 = i - 8 from by omega]; exact h2
        · rw [(hp (i - 7) (by omega) (by omega)).2, tc_bin0, show i - 7 + 7 = i from by omega]; exact h1
      · rw [if_neg h16] at h2
        exact absurd h2 (by decide)
/-! ===== obligations, keeping, passing: as the class goes through them ===== -/
def tc_1 (i : Nat) : Int32 := (1 : Int32) <<< (nI i &&& 31)
theorem tc_1b : ∀ i, i < 32 → ∀ j, j < 32 → bt (tc_1 i) j = decide (j = i) := by decide +kernel
theorem tc_hm {x : Int32} {i : Nat} (hi : i < 32) : x &&& tc_1 i = 0 ↔ bt x i = false := by
  rw [tc_zand]
  constructor
  · intro h
    cases e : bt x i
    · rfl
    · exact absurd (h i hi e (by rw [tc_1b i hi i hi]; exact decide_eq_true rfl)) id
  · intro h j hj h1 h2
    rw [tc_1b i hi j hj, decide_eq_true_eq] at h2
    rw [h2, h] at h1
    exact absurd h1 (by decide)
theorem tc_del {x : Int32} {i : Nat} (hi : i < 32) {j : Nat} (hj : j < 32) : bt (x &&& (tc_1 i ^^^ (-1))) j = (bt x j && !decide (j = i)) := by
  rw [tc_andn _ _ hj, tc_1b i hi j hj]
theorem tc_add {x : Int32} {i : Nat} (hi : i < 32) {j : Nat} (hj : j < 32) : bt (x ||| tc_1 i) j = (bt x j || decide (j = i)) := by
  rw [b_or, tc_1b i hi j hj]
def tc_al (S : Nat → Int32) (cs : Int32) (ob : Nat → Int32) : Nat → Nat → Bool
  | 0, _ => true
  | d + 1, i => if tc_rf S cs (ob i) = true then tc_al S cs ob d (i + 1) else false
def tc_kp (S : Nat → Int32) (cs M : Int32) (ob : Nat → Int32) (q : Nat) : Nat → Int32 → Int32
  | 0, k => k
  | i + 1, k => if bt cs i = true ∧ bt M i = false then
      (if tc_al S (k &&& (tc_1 i ^^^ (-1))) ob q 0 = true then tc_kp S cs M ob q i (k &&& (tc_1 i ^^^ (-1))) else tc_kp S cs M ob q i k)
      else tc_kp S cs M ob q i k
def tc_pp (S : Nat → Int32) (cs L P : Int32) : Nat → Nat → (Nat → Int32) → Nat → (Nat → Int32) × Nat
  | 0, _, ob, q => (ob, q)
  | d + 1, i, ob, q => if bt cs i = true ∧ ¬ S i &&& P = 0 then tc_pp S cs L P d (i + 1) (upd ob q (L ||| (S i &&& (P ^^^ (-1))))) (q + 1) else tc_pp S cs L P d (i + 1) ob q
/-- the way of passing, with the obligations it leaves -/
def tc_way (S : Nat → Int32) (cs L P : Int32) (ob : Nat → Int32) : Int32 × (Nat → Int32) × Nat :=
  if tc_al S cs (upd ob 0 L) 1 0 = true then (3, upd ob 0 L, 1) else if L = 0 then (5, upd ob 0 L, 1) else
    (if tc_al S cs (tc_pp S cs L P 24 0 (upd ob 0 L) 0).1 (tc_pp S cs L P 24 0 (upd ob 0 L) 0).2 0 = true then 4 else 5, tc_pp S cs L P 24 0 (upd ob 0 L) 0)
theorem tc_ppq (S : Nat → Int32) (cs L P : Int32) : ∀ (d i : Nat) (ob : Nat → Int32) (q : Nat), (tc_pp S cs L P d i ob q).2 ≤ q + d := by
  intro d
  induction d with
  | zero => intro i ob q; exact Nat.le_refl _
  | succ d ih =>
    intro i ob q
    rw [tc_pp]
    split
    · have := ih (i + 1) (upd ob q (L ||| (S i &&& (P ^^^ (-1))))) (q + 1)
      omega
    · have := ih (i + 1) ob q
      omega
/-! ===== alive after k lines ===== -/
def tc_ax (n : Nat) : Int32 := ((1 : Int32) <<< (nI n &&& 31)) - 1
theorem tc_axb : ∀ n, n < 13 → ∀ i, i < 32 → bt (tc_ax n) i = decide (i < n) := by decide +kernel
def tc_av (K W : Nat → Int32) (n : Nat) : Nat → Int32
  | 0 => tc_ax n
  | k + 1 => if K (n + k) = 3 then tc_av K W n k &&& (((1 : Int32) <<< (W ((n + k) * 4) &&& 31)) ^^^ (-1)) else tc_av K W n k ||| tc_1 (n + k)
/-! ===== the text ===== -/
def tc_Cl (V : Nat) (W S : Nat → Int32) (i : Nat) : Prop := ∃ a : Nat → Nat, (∀ s, s < 4 → 8 ≤ a s + V ∧ a s ≤ 8 + V ∧ W (i * 4 + s) = tc_w (a s)) ∧ S i = tc_sl (tc_w (a 0)) (tc_w (a 1)) (tc_w (a 2)) (tc_w (a 3))
def tc_Tx (V n m : Nat) (W K S : Nat → Int32) : Prop := (1 ≤ V ∧ V ≤ 8) ∧ (n ≤ 12 ∧ m ≤ 12) ∧ (∀ i, i < n → K i = 1) ∧ (∀ i, n ≤ i → i < n + m → K i = 2 ∨ K i = 3) ∧ (∀ i, i < n + m → ¬ K i = 3 → tc_Cl V W S i) ∧ (∀ i, n ≤ i → i < n + m → K i = 3 → ∃ t, t < i ∧ W (i * 4) = nI t)
def tc_De (K D : Nat → Int32) : Prop := ∀ i, i < 24 → D i = tc_bi (decide (K i = 3))
def tc_In (cs : Int32) (f : Nat → Int32) : Prop := ∀ i, i < 24 → f i = tc_bi (bt cs i)
theorem tc_avb {V n m : Nat} {W K S : Nat → Int32} (h : tc_Tx V n m W K S) : ∀ k, k ≤ m → ∀ i, i < 24 → (bt (tc_av K W n k) i = true ↔ i < n + k ∧ ¬ K i = 3 ∧ ∀ j, j < k → K (n + j) = 3 → ¬ W ((n + j) * 4) = nI i) := by
  obtain ⟨⟨hV1, hV8⟩, ⟨hn, hm⟩, hA, hL, hC, hD⟩ := h
  intro k
  induction k with
  | zero =>
    intro _ i hi
    rw [tc_av, tc_axb n (by omega) i (by omega), decide_eq_true_eq]
    constructor
    · intro h
      refine ⟨h, ?_, fun j hj => absurd hj (by omega)⟩
      rw [hA i h]; decide
    · intro h; exact h.1
  | succ k ih =>
    intro hk i hi
    have ih := ih (by omega) i hi
    rw [tc_av]
    by_cases e : K (n + k) = 3
    · rw [if_pos e]
      obtain ⟨t, ht, hw⟩ := hD (n + k) (by omega) (by omega) e
      rw [hw]
      show bt (tc_av K W n k &&& (tc_1 t ^^^ (-1))) i = true ↔ _
      rw [tc_del (by omega) (by omega), Bool.and_eq_true, ih, Bool.not_eq_true', decide_eq_false_iff_not]
      constructor
      · rintro ⟨⟨h1, h2, h3⟩, h4⟩
        refine ⟨by omega, h2, fun j hj hK => ?_⟩
        by_cases ej : j = k
        · rw [ej, hw, nI_eq (by omega) (by omega)]
          exact fun z => h4 z.symm
        · exact h3 j (by omega) hK
      · rintro ⟨h1, h2, h3⟩
        have hik : i ≠ n + k := by
          intro z
          rw [z] at h2
          exact h2 e
        refine ⟨⟨by omega, h2, fun j hj hK => h3 j (by omega) hK⟩, ?_⟩
        have := h3 k (by omega) e
        rw [hw, nI_eq (by omega) (by omega)] at this
        exact fun z => this z.symm
    · rw [if_neg e, tc_add (by omega) (by omega), Bool.or_eq_true, ih, decide_eq_true_eq]
      constructor
      · rintro (⟨h1, h2, h3⟩ | h1)
        · refine ⟨by omega, h2, fun j hj hK => ?_⟩
          by_cases ej : j = k
          · rw [ej] at hK; exact absurd hK e
          · exact h3 j (by omega) hK
        · refine ⟨by omega, by rw [h1]; exact e, fun j hj hK => ?_⟩
          have hjk : j ≠ k := by
            intro z
            rw [z] at hK
            exact e hK
          obtain ⟨t, ht, hw⟩ := hD (n + j) (by omega) (by omega) hK
          rw [hw, nI_eq (by omega) (by omega)]
          omega
      · rintro ⟨h1, h2, h3⟩
        by_cases z : i = n + k
        · exact Or.inr z
        · exact Or.inl ⟨by omega, h2, fun j hj hK => h3 j (by omega) hK⟩
