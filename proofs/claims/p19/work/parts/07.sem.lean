/-! ===== what is not refuted has a closed set without conflict; so refuting grows with the clauses ===== -/
def tc_fp (i : Nat) : Nat := if i < 8 then i + 8 else i - 8
theorem tc_fplt {i : Nat} (h : i < 16) : tc_fp i < 16 := by
  unfold tc_fp
  split <;> omega
theorem tc_fpfp {i : Nat} (h : i < 16) : tc_fp (tc_fp i) = i := by
  unfold tc_fp
  split <;> split <;> omega
theorem tc_ngf (x : Int32) {i : Nat} (hi : i < 16) : bt (tc_ng x) i = bt x (tc_fp i) := by
  rw [tc_ngb x (by omega)]
  unfold tc_fp
  by_cases h : i < 8
  · rw [if_pos h, if_pos h]
  · rw [if_neg h, if_neg h, if_pos hi]
def tc_sub (x y : Int32) : Prop := ∀ i, i < 16 → bt x i = true → bt y i = true
theorem tc_subr (x : Int32) : tc_sub x x := fun _ _ h => h
theorem tc_subt {x y z : Int32} (h : tc_sub x y) (g : tc_sub y z) : tc_sub x z := fun i hi e => g i hi (h i hi e)
theorem tc_suba {x y : Int32} (hx : tc_lo x) (hy : tc_lo y) (h : tc_sub x y) (g : tc_sub y x) : x = y := by
  apply b_ext
  intro i _
  by_cases hi : i < 16
  · exact Bool.eq_iff_iff.mpr ⟨h i hi, g i hi⟩
  · rw [hx i (by omega), hy i (by omega)]
/-- no literal together with its negation -/
def tc_con (x : Int32) : Prop := ∀ i, i < 16 → bt x i = true → bt x (tc_fp i) = true → False
theorem tc_conz {x : Int32} (h : tc_lo x) : x &&& tc_ng x = 0 ↔ tc_con x := by
  rw [tc_zand]
  constructor
  · intro g i hi h1 h2
    exact g i (by omega) h1 (by rw [tc_ngf x hi]; exact h2)
  · intro g i hi h1 h2
    by_cases h16 : i < 16
    · rw [tc_ngf x h16] at h2
      exact g i h16 h1 h2
    · rw [h i (by omega)] at h1
      exact absurd h1 (by decide)
theorem tc_opb {F S : Int32} {i : Nat} (hi : i < 32) : bt (S &&& (F ^^^ (-1))) i = true ↔ bt S i = true ∧ bt F i = false := by
  rw [tc_andn _ _ hi, Bool.and_eq_true, Bool.not_eq_true']
theorem tc_opn {F S : Int32} (hS : tc_lo S) : ¬ (S &&& (F ^^^ (-1))) &&& tc_ng F = 0 ↔ ∃ i, i < 16 ∧ bt S i = true ∧ bt F i = false ∧ bt F (tc_fp i) = true := by
  rw [tc_zand]
  constructor
  · intro h
    by_cases g : ∃ i, i < 16 ∧ bt S i = true ∧ bt F i = false ∧ bt F (tc_fp i) = true
    · exact g
    · exfalso
      apply h
      intro i hi h1 h2
      by_cases h16 : i < 16
      · rw [tc_opb hi] at h1
        rw [tc_ngf F h16] at h2
        exact g ⟨i, h16, h1.1, h1.2, h2⟩
      · rw [tc_opb hi, hS i (by omega)] at h1
        exact absurd h1.1 (by decide)
  · rintro ⟨i, hi, h1, h2, h3⟩ g
    exact g i (by omega) ((tc_opb (by omega)).mpr ⟨h1, h2⟩) (by rw [tc_ngf F hi]; exact h3)
theorem tc_op0 {F S : Int32} (hS : tc_lo S) : ¬ S &&& (F ^^^ (-1)) = 0 ↔ ∃ i, i < 16 ∧ bt S i = true ∧ bt F i = false := by
  rw [tc_z]
  constructor
  · intro h
    by_cases g : ∃ i, i < 16 ∧ bt S i = true ∧ bt F i = false
    · exact g
    · exfalso
      apply h
      intro i hi
      cases e : bt (S &&& (F ^^^ (-1))) i
      · rfl
      · rw [tc_opb hi] at e
        by_cases h16 : i < 16
        · exact absurd ⟨i, h16, e.1, e.2⟩ g
        · rw [hS i (by omega)] at e
          exact absurd e.1 (by decide)
  · rintro ⟨i, hi, h1, h2⟩ g
    have := g i (by omega)
    rw [(tc_opb (by omega)).mpr ⟨h1, h2⟩] at this
    exact absurd this (by decide)
/-- a clause under a set that it leaves as it is: a true literal, or two free ones -/
theorem tc_stfix {G S : Int32} (hS : tc_lo S) (h : tc_st G S = some G) : (∃ i, i < 16 ∧ bt S i = true ∧ bt G i = false ∧ bt G (tc_fp i) = true) ∨ ((∃ i, i < 16 ∧ bt S i = true ∧ bt G i = false) ∧ ∀ x, x < 16 → ∃ i, i < 16 ∧ i ≠ x ∧ bt S i = true ∧ bt G i = false) := by
  unfold tc_st at h
  by_cases h1 : (S &&& (G ^^^ (-1))) &&& tc_ng G = 0
  · rw [if_pos h1] at h
    by_cases h2 : S &&& (G ^^^ (-1)) = 0
    · rw [if_pos h2] at h
      exact absurd h (by simp)
    · rw [if_neg h2] at h
      obtain ⟨i, hi, h3, h4⟩ := (tc_op0 hS).mp h2
      refine Or.inr ⟨⟨i, hi, h3, h4⟩, ?_⟩
      intro x hx
      by_cases g : ∃ i, i < 16 ∧ i ≠ x ∧ bt S i = true ∧ bt G i = false
      · exact g
      · exfalso
        have hix : i = x := by
          by_cases e : i = x
          · exact e
          · exact absurd ⟨i, hi, e, h3, h4⟩ g
        by_cases h5 : (S &&& (G ^^^ (-1))) &&& ((S &&& (G ^^^ (-1))) - 1) = 0
        · rw [if_pos h5] at h
          have e := Option.some.inj h
          have b : bt G (tc_fp i) = true := by
            rw [← e, b_or, tc_ngf _ (tc_fplt hi), tc_fpfp hi, (tc_opb (by omega)).mpr ⟨h3, h4⟩, Bool.or_true]
          exact absurd h1 ((tc_opn hS).mpr ⟨i, hi, h3, h4, b⟩)
        · apply h5
          have eo : S &&& (G ^^^ (-1)) = tc_1 i := by
            apply b_ext
            intro j hj
            apply Bool.eq_iff_iff.mpr
            rw [tc_opb hj, tc_1b i (by omega) j hj, decide_eq_true_eq]
            constructor
            · rintro ⟨a, b⟩
              by_cases h16 : j < 16
              · by_cases e : j = x
                · rw [e, hix]
                · exact absurd ⟨j, h16, e, a, b⟩ g
              · rw [hS j (by omega)] at a
                exact absurd a (by decide)
            · intro e
              rw [e]
              exact ⟨h3, h4⟩
          rw [eo]
          exact (by decide +kernel : ∀ i, i < 16 → tc_1 i &&& (tc_1 i - 1) = 0) i hi
  · exact Or.inl ((tc_opn hS).mp h1)
def tc_clo (S : Nat → Int32) (cs G : Int32) : Prop := tc_con G ∧ tc_lo G ∧ ∀ i, i < 24 → bt cs i = true → tc_st G (S i) = some G
theorem tc_stle {F G S : Int32} (hS : tc_lo S) (hG : tc_st G S = some G) (hF : tc_sub F G) : ∃ F', tc_st F S = some F' ∧ tc_sub F' G := by
  have hx := tc_stfix hS hG
  have hex : ∃ i, i < 16 ∧ bt S i = true ∧ bt G i = false := by
    rcases hx with ⟨i, hi, h1, h2, _⟩ | ⟨h, _⟩
    · exact ⟨i, hi, h1, h2⟩
    · exact h
  have hfg : ∀ i, i < 16 → bt G i = false → bt F i = false := by
    intro i hi h
    cases e : bt F i
    · rfl
    · rw [hF i hi e] at h
      exact absurd h (by decide)
  obtain ⟨i0, hi0, h1, h2⟩ := hex
  have hn : ¬ S &&& (F ^^^ (-1)) = 0 := (tc_op0 hS).mpr ⟨i0, hi0, h1, hfg i0 hi0 h2⟩
  unfold tc_st
  by_cases c1 : (S &&& (F ^^^ (-1))) &&& tc_ng F = 0
  · rw [if_pos c1, if_neg hn]
    by_cases c2 : (S &&& (F ^^^ (-1))) &&& ((S &&& (F ^^^ (-1))) - 1) = 0
    · rw [if_pos c2]
      refine ⟨_, rfl, ?_⟩
      have uni : ∀ i j, i < 16 → j < 16 → bt S i = true → bt F i = false → bt S j = true → bt F j = false → i = j := by
        intro i j hi hj a b c d
        exact tc_pw hn c2 ((tc_opb (by omega)).mpr ⟨a, b⟩) ((tc_opb (by omega)).mpr ⟨c, d⟩)
      rcases hx with ⟨i, hi, a, b, c⟩ | ⟨_, h⟩
      · intro j hj e
        rw [b_or, Bool.or_eq_true] at e
        rcases e with e | e
        · exact hF j hj e
        · rw [tc_ngf _ hj, tc_opb (by have := tc_fplt hj; omega)] at e
          have := uni i (tc_fp j) hi (tc_fplt hj) a (hfg i hi b) e.1 e.2
          rw [this, tc_fpfp hj] at c
          exact c
      · obtain ⟨i, hi, hne, a, b⟩ := h i0 hi0
        exact absurd (uni i i0 hi hi0 a (hfg i hi b) h1 (hfg i0 hi0 h2)) hne
    · rw [if_neg c2]
      exact ⟨F, rfl, hF⟩
  · rw [if_neg c1]
    exact ⟨F, rfl, hF⟩
theorem tc_flle {S : Nat → Int32} {cs G : Int32} (hS : ∀ i, i < 24 → bt cs i = true → tc_lo (S i)) (hG : tc_clo S cs G) : ∀ (d i : Nat) (F : Int32), i + d ≤ 24 → tc_sub F G → ∃ F', tc_fl S cs d i F = some F' ∧ tc_sub F' G := by
  intro d
  induction d with
  | zero => intro i F _ h; exact ⟨F, rfl, h⟩
  | succ d ih =>
    intro i F hi h
    cases e : bt cs i
    · rw [tc_fl0 e]
      exact ih (i + 1) F (by omega) h
    · obtain ⟨F', h1, h2⟩ := tc_stle (hS i (by omega) e) (hG.2.2 i (by omega) e) h
      rw [tc_fls e h1]
      exact ih (i + 1) F' (by omega) h2
theorem tc_rfle {S : Nat → Int32} {cs G T : Int32} (hS : ∀ i, i < 24 → bt cs i = true → tc_lo (S i)) (hG : tc_clo S cs G) (hT : tc_lo T) (h : tc_sub T G) : tc_rf S cs T = false := by
  have hc : T &&& tc_ng T = 0 := (tc_conz hT).mpr (fun i hi a b => hG.1 i hi (h i hi a) (h _ (tc_fplt hi) b))
  unfold tc_rf
  rw [if_pos hc]
  have : ∀ r (F : Int32), tc_sub F G → tc_rd S cs r F = false := by
    intro r
    induction r with
    | zero => intro F _; rfl
    | succ r ih =>
      intro F hF
      obtain ⟨F', h1, h2⟩ := tc_flle hS hG 24 0 F (by omega) hF
      rw [tc_rds h1]
      exact ih F' h2
  exact this 9 T h
/-! the other way: nine rounds are enough -/
theorem tc_stup {F S F' : Int32} (hS : tc_lo S) (hl : tc_lo F) (hc : tc_con F) (h : tc_st F S = some F') : tc_sub F F' ∧ tc_lo F' ∧ tc_con F' := by
  unfold tc_st at h
  by_cases c1 : (S &&& (F ^^^ (-1))) &&& tc_ng F = 0
  · rw [if_pos c1] at h
    by_cases c0 : S &&& (F ^^^ (-1)) = 0
    · rw [if_pos c0] at h
      exact absurd h (by simp)
    · rw [if_neg c0] at h
      by_cases c2 : (S &&& (F ^^^ (-1))) &&& ((S &&& (F ^^^ (-1))) - 1) = 0
      · rw [if_pos c2] at h
        have e := Option.some.inj h
        subst e
        refine ⟨fun i hi a => by rw [b_or, a]; rfl, tc_loor hl (tc_long _), ?_⟩
        have key : ∀ i, i < 16 → bt F i = true → bt (tc_ng (S &&& (F ^^^ (-1)))) (tc_fp i) = true → False := by
          intro i hi a b
          rw [tc_ngf _ (tc_fplt hi), tc_fpfp hi, tc_opb (by omega)] at b
          rw [a] at b
          exact absurd b.2 (by decide)
        intro i hi a b
        rw [b_or, Bool.or_eq_true] at a b
        rcases a with a | a
        · rcases b with b | b
          · exact hc i hi a b
          · exact key i hi a b
        · rcases b with b | b
          · exact key (tc_fp i) (tc_fplt hi) b (by rw [tc_fpfp hi]; exact a)
          · rw [tc_ngf _ hi] at a
            rw [tc_ngf _ (tc_fplt hi), tc_fpfp hi] at b
            have := tc_pw c0 c2 a b
            unfold tc_fp at this
            split at this <;> omega
      · rw [if_neg c2] at h
        have e := Option.some.inj h
        subst e
        exact ⟨tc_subr _, hl, hc⟩
  · rw [if_neg c1] at h
    have e := Option.some.inj h
    subst e
    exact ⟨tc_subr _, hl, hc⟩
theorem tc_flup {S : Nat → Int32} {cs : Int32} (hS : ∀ i, i < 24 → bt cs i = true → tc_lo (S i)) : ∀ (d i : Nat) (F F' : Int32), i + d ≤ 24 → tc_lo F → tc_con F → tc_fl S cs d i F = some F' → tc_sub F F' ∧ tc_lo F' ∧ tc_con F' ∧ (F' = F → ∀ j, i ≤ j → j < i + d → bt cs j = true → tc_st F (S j) = some F) := by
  intro d
  induction d with
  | zero =>
    intro i F F' _ hl hc h
    have e := Option.some.inj h
    subst e
    exact ⟨tc_subr _, hl, hc, fun _ j h1 h2 => absurd h2 (by omega)⟩
  | succ d ih =>
    intro i F F' hi hl hc h
    cases e : bt cs i
    · rw [tc_fl0 e] at h
      obtain ⟨h1, h2, h3, h4⟩ := ih (i + 1) F F' (by omega) hl hc h
      refine ⟨h1, h2, h3, fun z j a b hb => ?_⟩
      by_cases ej : j = i
      · rw [ej, e] at hb
        exact absurd hb (by decide)
      · exact h4 z j (by omega) (by omega) hb
    · cases es : tc_st F (S i) with
      | none =>
        rw [tc_fln e es] at h
        exact absurd h (by simp)
      | some F1 =>
        rw [tc_fls e es] at h
        obtain ⟨u1, u2, u3⟩ := tc_stup (hS i (by omega) e) hl hc es
        obtain ⟨h1, h2, h3, h4⟩ := ih (i + 1) F1 F' (by omega) u2 u3 h
        refine ⟨tc_subt u1 h1, h2, h3, fun z j a b hb => ?_⟩
        have e1 : F1 = F := by
          subst z
          exact tc_suba u2 hl h1 u1
        rw [e1] at es h4
        by_cases ej : j = i
        · rw [ej]; exact es
        · exact h4 z j (by omega) (by omega) hb
/-- how many variables are assigned -/
def tc_vc (F : Int32) : Nat → Nat
  | 0 => 0
  | k + 1 => tc_vc F k + if (bt F k || bt F (k + 8)) = true then 1 else 0
theorem tc_vcle (F : Int32) : ∀ k, tc_vc F k ≤ k := by
  intro k
  induction k with
  | zero => exact Nat.le_refl _
  | succ k ih =>
    rw [tc_vc]
    split <;> omega
theorem tc_vcmono {F G : Int32} (h : tc_sub F G) : ∀ k, k ≤ 8 → tc_vc F k ≤ tc_vc G k ∧ (∀ v, v < k → bt F v = false → bt F (v + 8) = false → (bt G v || bt G (v + 8)) = true → tc_vc F k < tc_vc G k) := by
  intro k
  induction k with
  | zero => intro _; exact ⟨Nat.le_refl _, fun v hv => absurd hv (by omega)⟩
  | succ k ih =>
    intro hk
    obtain ⟨h1, h2⟩ := ih (by omega)
    have hle : (if (bt F k || bt F (k + 8)) = true then 1 else 0) ≤ (if (bt G k || bt G (k + 8)) = true then 1 else 0 : Nat) := by
      by_cases c : (bt F k || bt F (k + 8)) = true
      · rw [if_pos c, if_pos]
        · exact Nat.le_refl _
        · rw [Bool.or_eq_true] at c ⊢
          rcases c with c | c
          · exact Or.inl (h k (by omega) c)
          · exact Or.inr (h (k + 8) (by omega) c)
      · rw [if_neg c]
        exact Nat.zero_le _
    rw [tc_vc, tc_vc]
    refine ⟨by omega, fun v hv a b c => ?_⟩
    by_cases e : v = k
    · subst e
      rw [a, b, c]
      simp only [Bool.or_self, Bool.false_eq_true, if_false, if_true]
      omega
    · have := h2 v (by omega) a b c
      omega
theorem tc_vclt {F G : Int32} (hF : tc_lo F) (hG : tc_lo G) (h : tc_sub F G) (hc : tc_con G) (hne : ¬ G = F) : tc_vc F 8 < tc_vc G 8 := by
  have hex : ∃ i, i < 16 ∧ bt G i = true ∧ bt F i = false := by
    by_cases g : ∃ i, i < 16 ∧ bt G i = true ∧ bt F i = false
    · exact g
    · exfalso
      apply hne
      refine tc_suba hG hF (fun i hi a => ?_) h
      cases e : bt F i
      · exact absurd ⟨i, hi, a, e⟩ g
      · rfl
  obtain ⟨i, hi, a, b⟩ := hex
  have c : bt F (tc_fp i) = false := by
    cases e : bt F (tc_fp i)
    · rfl
    · exact absurd (hc i hi a (h _ (tc_fplt hi) e)) id
  obtain ⟨_, h2⟩ := tc_vcmono h 8 (Nat.le_refl _)
  unfold tc_fp at c
  by_cases h8 : i < 8
  · rw [if_pos h8] at c
    exact h2 i h8 b c (by rw [a]; rfl)
  · rw [if_neg h8] at c
    refine h2 (i - 8) (by omega) c ?_ ?_
    · rw [show i - 8 + 8 = i from by omega]; exact b
    · rw [show i - 8 + 8 = i from by omega, a, Bool.or_true]
theorem tc_rfex {S : Nat → Int32} {cs T : Int32} (hS : ∀ i, i < 24 → bt cs i = true → tc_lo (S i)) (hT : tc_lo T) (h : tc_rf S cs T = false) : ∃ G, tc_clo S cs G ∧ tc_sub T G := by
  unfold tc_rf at h
  by_cases c : T &&& tc_ng T = 0
  · rw [if_pos c] at h
    have main : ∀ r (F : Int32), tc_lo F → tc_con F → 8 < tc_vc F 8 + r → tc_rd S cs r F = false → ∃ G, tc_clo S cs G ∧ tc_sub F G := by
      intro r
      induction r with
      | zero =>
        intro F _ _ hv _
        have := tc_vcle F 8
        omega
      | succ r ih =>
        intro F hl hc hv hr
        cases e : tc_fl S cs 24 0 F with
        | none =>
          rw [tc_rdn e] at hr
          exact absurd hr (by decide)
        | some F' =>
          rw [tc_rds e] at hr
          obtain ⟨h1, h2, h3, h4⟩ := tc_flup hS 24 0 F F' (by omega) hl hc e
          by_cases ef : F' = F
          · exact ⟨F, ⟨hc, hl, fun i hi hb => h4 ef i (by omega) (by omega) hb⟩, tc_subr _⟩
          · have := tc_vclt hl h2 h1 h3 ef
            obtain ⟨G, g1, g2⟩ := ih F' h2 h3 (by omega) hr
            exact ⟨G, g1, tc_subt h1 g2⟩
    exact main 9 T hT ((tc_conz hT).mp c) (by omega) h
  · rw [if_neg c] at h
    exact absurd h (by decide)
/-- more clauses refute more -/
theorem tc_mono {S : Nat → Int32} {cs cs' T : Int32} (hS : ∀ i, i < 24 → bt cs' i = true → tc_lo (S i)) (hT : tc_lo T) (hcs : ∀ i, i < 24 → bt cs i = true → bt cs' i = true) (h : tc_rf S cs T = true) : tc_rf S cs' T = true := by
  cases e : tc_rf S cs' T
  · obtain ⟨G, g1, g2⟩ := tc_rfex hS hT e
    have := tc_rfle (cs := cs) (fun i hi hb => hS i hi (hcs i hi hb)) ⟨g1.1, g1.2.1, fun i hi hb => g1.2.2 i hi (hcs i hi hb)⟩ hT g2
    rw [h] at this
    exact absurd this (by decide)
  · rfl
/-! ===== assignments, as sets of true literals ===== -/
def tc_tot (t : Int32) : Prop := tc_lo t ∧ ∀ i, i < 16 → bt t i = !bt t (tc_fp i)
theorem tc_sound {S : Nat → Int32} {cs T t : Int32} (hS : ∀ i, i < 24 → bt cs i = true → tc_lo (S i)) (ht : tc_tot t) (hs : ∀ i, i < 24 → bt cs i = true → ¬ S i &&& t = 0) (hT : tc_lo T) (hf : ∀ i, i < 16 → bt T i = true → bt t i = false) : tc_rf S cs T = false := by
  have hb : ∀ i, i < 16 → bt (tc_ng t) i = !bt t i := by
    intro i hi
    rw [tc_ngf t hi, ht.2 i hi, Bool.not_not]
  refine tc_rfle (G := tc_ng t) hS ⟨?_, tc_long _, fun i hi hc => ?_⟩ hT (fun i hi h => by rw [hb i hi, hf i hi h]; rfl)
  · intro i hi a b
    rw [hb i hi] at a
    rw [hb _ (tc_fplt hi)] at b
    rw [ht.2 i hi, b] at a
    exact absurd a (by decide)
  · have h1 := hs i hi hc
    unfold tc_st
    rw [if_neg]
    rw [tc_opn (hS i hi hc)]
    by_cases g : ∃ j, j < 16 ∧ bt (S i) j = true ∧ bt t j = true
    · obtain ⟨j, hj, a, b⟩ := g
      exact ⟨j, hj, a, by rw [hb j hj, b]; rfl, by rw [hb _ (tc_fplt hj)]; rw [ht.2 j hj] at b; exact b⟩
    · exfalso
      apply h1
      rw [tc_zand]
      intro j hj a b
      by_cases h16 : j < 16
      · exact g ⟨j, h16, a, b⟩
      · rw [hS i hi hc j (by omega)] at a
        exact absurd a (by decide)
