/-! ===== passing, by sets of clauses ===== -/
def tc_ps (S : Nat → Int32) (a b L P : Int32) : Prop := tc_rf S a L = true ∨ (¬ L = 0 ∧ ∀ i, i < 24 → bt b i = true → ¬ S i &&& P = 0 → tc_rf S a (L ||| (S i &&& (P ^^^ (-1)))) = true)
theorem tc_psm {S : Nat → Int32} {a a' b b' L P : Int32} (hlo : ∀ i, i < 24 → bt a' i = true → tc_lo (S i)) (hlb : ∀ i, i < 24 → bt b' i = true → tc_lo (S i)) (hL : tc_lo L) (ha : ∀ i, i < 24 → bt a i = true → bt a' i = true) (hb : ∀ i, i < 24 → bt b' i = true → bt b i = true) (h : tc_ps S a b L P) : tc_ps S a' b' L P := by
  rcases h with h | ⟨h0, h⟩
  · exact Or.inl (tc_mono hlo hL ha h)
  · exact Or.inr ⟨h0, fun i hi hb' hP => tc_mono hlo (tc_loor hL (tc_loand (hlb i hi hb'))) ha (h i hi (hb i hi hb') hP)⟩
theorem tc_alall {S : Nat → Int32} {cs : Int32} {ob : Nat → Int32} : ∀ (d i : Nat), tc_al S cs ob d i = true ↔ ∀ o, i ≤ o → o < i + d → tc_rf S cs (ob o) = true := by
  intro d
  induction d with
  | zero => intro i; exact ⟨fun _ o h1 h2 => absurd h2 (by omega), fun _ => rfl⟩
  | succ d ih =>
    intro i
    rw [tc_al]
    by_cases e : tc_rf S cs (ob i) = true
    · rw [if_pos e, ih]
      constructor
      · intro h o h1 h2
        by_cases eo : o = i
        · rw [eo]; exact e
        · exact h o (by omega) (by omega)
      · intro h o h1 h2
        exact h o (by omega) (by omega)
    · rw [if_neg e]
      constructor
      · intro z; exact absurd z (by decide)
      · intro h; exact absurd (h i (by omega) (by omega)) e
theorem tc_ppall {S : Nat → Int32} {cs L P : Int32} (Q : Int32 → Prop) : ∀ (d i : Nat) (ob : Nat → Int32) (q : Nat), (∀ o, o < (tc_pp S cs L P d i ob q).2 → Q ((tc_pp S cs L P d i ob q).1 o)) ↔ ((∀ o, o < q → Q (ob o)) ∧ ∀ i', i ≤ i' → i' < i + d → bt cs i' = true → ¬ S i' &&& P = 0 → Q (L ||| (S i' &&& (P ^^^ (-1))))) := by
  intro d
  induction d with
  | zero =>
    intro i ob q
    exact ⟨fun h => ⟨h, fun i' h1 h2 => absurd h2 (by omega)⟩, fun h => h.1⟩
  | succ d ih =>
    intro i ob q
    rw [tc_pp]
    by_cases c : bt cs i = true ∧ ¬ S i &&& P = 0
    · rw [if_pos c, ih]
      constructor
      · rintro ⟨h1, h2⟩
        refine ⟨fun o ho => ?_, fun i' a b e1 e2 => ?_⟩
        · have := h1 o (by omega)
          rw [pk_un (by omega)] at this
          exact this
        · by_cases e : i' = i
          · have := h1 q (by omega)
            rw [pk_us] at this
            rw [e]; exact this
          · exact h2 i' (by omega) (by omega) e1 e2
      · rintro ⟨h1, h2⟩
        refine ⟨fun o ho => ?_, fun i' a b => h2 i' (by omega) (by omega)⟩
        by_cases e : o = q
        · rw [e, pk_us]; exact h2 i (by omega) (by omega) c.1 c.2
        · rw [pk_un e]; exact h1 o (by omega)
    · rw [if_neg c, ih]
      constructor
      · rintro ⟨h1, h2⟩
        refine ⟨h1, fun i' a b e1 e2 => ?_⟩
        by_cases e : i' = i
        · rw [e] at e1 e2; exact absurd ⟨e1, e2⟩ c
        · exact h2 i' (by omega) (by omega) e1 e2
      · rintro ⟨h1, h2⟩
        exact ⟨h1, fun i' a b => h2 i' (by omega) (by omega)⟩
theorem tc_kpal {S : Nat → Int32} {cs M : Int32} {ob : Nat → Int32} {q : Nat} : ∀ (i : Nat) (k : Int32), tc_al S k ob q 0 = true → tc_al S (tc_kp S cs M ob q i k) ob q 0 = true := by
  intro i
  induction i with
  | zero => intro k h; exact h
  | succ i ih =>
    intro k h
    rw [tc_kp]
    by_cases c : bt cs i = true ∧ bt M i = false
    · rw [if_pos c]
      by_cases e : tc_al S (k &&& (tc_1 i ^^^ (-1))) ob q 0 = true
      · rw [if_pos e]; exact ih _ e
      · rw [if_neg e]; exact ih k h
    · rw [if_neg c]; exact ih k h
theorem tc_wayps {S : Nat → Int32} {cs L P : Int32} {ob : Nat → Int32} (h : ¬ (tc_way S cs L P ob).1 = 5) : tc_al S cs (tc_way S cs L P ob).2.1 (tc_way S cs L P ob).2.2 0 = true ∧ ∀ R, tc_al S R (tc_way S cs L P ob).2.1 (tc_way S cs L P ob).2.2 0 = true → tc_ps S R cs L P := by
  unfold tc_way at h ⊢
  by_cases c : tc_al S cs (upd ob 0 L) 1 0 = true
  · rw [if_pos c]
    refine ⟨c, fun R hR => Or.inl ?_⟩
    rw [← tc_al1 (ob := ob)]
    exact hR
  · rw [if_neg c] at h ⊢
    by_cases d : L = 0
    · rw [if_pos d] at h
      exact absurd rfl h
    · rw [if_neg d] at h ⊢
      by_cases e : tc_al S cs (tc_pp S cs L P 24 0 (upd ob 0 L) 0).1 (tc_pp S cs L P 24 0 (upd ob 0 L) 0).2 0 = true
      · refine ⟨e, fun R hR => Or.inr ⟨d, fun i hi hb hP => ?_⟩⟩
        have h1 : ∀ o, 0 ≤ o → o < 0 + (tc_pp S cs L P 24 0 (upd ob 0 L) 0).2 → tc_rf S R ((tc_pp S cs L P 24 0 (upd ob 0 L) 0).1 o) = true := (tc_alall _ _).mp hR
        have h2 := (tc_ppall (fun T => tc_rf S R T = true) 24 0 (upd ob 0 L) 0).mp (fun o ho => h1 o (by omega) (by omega))
        exact h2.2 i (by omega) (by omega) hb hP
      · exfalso
        apply h
        show (if _ then (4 : Int32) else 5) = 5
        rw [if_neg e]
theorem tc_psway {S : Nat → Int32} {cs L P : Int32} {ob : Nat → Int32} (h : tc_ps S cs cs L P) : ¬ (tc_way S cs L P ob).1 = 5 := by
  unfold tc_way
  by_cases c : tc_al S cs (upd ob 0 L) 1 0 = true
  · rw [if_pos c]
    show ¬ (3 : Int32) = 5
    decide
  · rw [if_neg c]
    rcases h with h | ⟨h0, h⟩
    · rw [tc_al1] at c
      exact absurd h c
    · rw [if_neg h0]
      have e : tc_al S cs (tc_pp S cs L P 24 0 (upd ob 0 L) 0).1 (tc_pp S cs L P 24 0 (upd ob 0 L) 0).2 0 = true := by
        rw [tc_alall]
        intro o _ ho
        refine (tc_ppall (fun T => tc_rf S cs T = true) 24 0 (upd ob 0 L) 0).mpr ⟨fun o ho => absurd ho (by omega), fun i' _ b e1 e2 => h i' (by omega) e1 e2⟩ o (by omega)
      show ¬ (if _ then (4 : Int32) else 5) = 5
      rw [if_pos e]
      decide
/-! ===== an accepted derivation has no satisfying assignment ===== -/
theorem tc_nz (x y : Int32) : ¬ x &&& y = 0 ↔ ∃ i, i < 32 ∧ bt x i = true ∧ bt y i = true := by
  rw [tc_zand]
  constructor
  · intro h
    by_cases g : ∃ i, i < 32 ∧ bt x i = true ∧ bt y i = true
    · exact g
    · exact absurd (fun i hi a b => g ⟨i, hi, a, b⟩) h
  · rintro ⟨i, hi, a, b⟩ h
    exact h i hi a b
theorem tc_fpb {y : Nat} (hy : y < 17) (h8 : y ≠ 8) : tc_fp (tc_b y) = tc_b (16 - y) := by
  unfold tc_fp tc_b
  by_cases c : 8 < y
  · rw [if_pos c, if_pos (by omega), if_neg (by omega)]
    omega
  · rw [if_neg c, if_neg (by omega), if_pos (by omega)]
    omega
theorem tc_rat {S : Nat → Int32} {a b t L : Int32} {y : Nat} (hlo : ∀ i, i < 24 → bt b i = true → tc_lo (S i)) (hab : ∀ i, i < 24 → bt a i = true → bt b i = true) (hL : tc_lo L) (hy17 : y < 17) (hy : ¬ L = 0 → y ≠ 8 ∧ bt L (tc_b y) = true) (ht : tc_tot t) (hs : ∀ i, i < 24 → bt a i = true → ¬ S i &&& t = 0) (h : tc_ps S a b L (tc_ng (tc_lb (tc_w y)))) : ∃ t', tc_tot t' ∧ (∀ i, i < 24 → bt a i = true → ¬ S i &&& t' = 0) ∧ ¬ L &&& t' = 0 := by
  have hloa : ∀ i, i < 24 → bt a i = true → tc_lo (S i) := fun i hi hb => hlo i hi (hab i hi hb)
  by_cases cL : L &&& t = 0
  · have nofalse : ∀ T, tc_lo T → tc_rf S a T = true → ∃ i, i < 16 ∧ bt T i = true ∧ bt t i = true := by
      intro T hT hr
      by_cases g : ∃ i, i < 16 ∧ bt T i = true ∧ bt t i = true
      · exact g
      · have := tc_sound hloa ht hs hT (fun i hi e => by
          cases z : bt t i
          · rfl
          · exact absurd ⟨i, hi, e, z⟩ g)
        rw [hr] at this
        exact absurd this (by decide)
    have noL : ∀ i, i < 32 → bt L i = true → bt t i = true → False := (tc_zand L t).mp cL
    rcases h with h | ⟨h0, h⟩
    · obtain ⟨i, hi, e1, e2⟩ := nofalse L hL h
      exact absurd (noL i (by omega) e1 e2) id
    · obtain ⟨h8, hyL⟩ := hy h0
      have hb1 := tc_blt hy17
      have hb2 := tc_blt (a := 16 - y) (by omega)
      have hfp := tc_fpb hy17 h8
      have hne : tc_b y ≠ tc_b (16 - y) := fun z => by
        have := tc_binj hy17 (by omega) h8 (by omega) z
        omega
      rw [tc_nglb y hy17] at h
      have hbt : ∀ i, i < 32 → bt ((t &&& (tc_lb (tc_w (16 - y)) ^^^ (-1))) ||| tc_lb (tc_w y)) i = ((bt t i && !decide (i = tc_b (16 - y))) || decide (i = tc_b y)) := by
        intro i hi
        rw [b_or, tc_andn _ _ hi, tc_lbb _ (by omega) i hi, tc_lbb y hy17 i hi]
        have q1 : decide (16 - y ≠ 8 ∧ i = tc_b (16 - y)) = decide (i = tc_b (16 - y)) := by
          by_cases z : i = tc_b (16 - y)
          · rw [decide_eq_true z, decide_eq_true ⟨by omega, z⟩]
          · rw [decide_eq_false z, decide_eq_false (fun w => z w.2)]
        have q2 : decide (y ≠ 8 ∧ i = tc_b y) = decide (i = tc_b y) := by
          by_cases z : i = tc_b y
          · rw [decide_eq_true z, decide_eq_true ⟨h8, z⟩]
          · rw [decide_eq_false z, decide_eq_false (fun w => z w.2)]
        rw [q1, q2]
      have keep : ∀ i, i < 32 → bt t i = true → i ≠ tc_b (16 - y) → bt ((t &&& (tc_lb (tc_w (16 - y)) ^^^ (-1))) ||| tc_lb (tc_w y)) i = true := by
        intro i hi e1 e2
        rw [hbt i hi, e1, decide_eq_false e2]
        rfl
      refine ⟨(t &&& (tc_lb (tc_w (16 - y)) ^^^ (-1))) ||| tc_lb (tc_w y), ⟨tc_loor (tc_loand ht.1) (tc_lolb hy17), fun i hi => ?_⟩, fun i hi hb => ?_, ?_⟩
      · have hf := tc_fplt hi
        rw [hbt i (by omega), hbt (tc_fp i) (by omega)]
        by_cases e1 : i = tc_b y
        · subst e1
          rw [hfp]
          simp [hne, hne.symm]
        · by_cases e2 : i = tc_b (16 - y)
          · subst e2
            have : tc_fp (tc_b (16 - y)) = tc_b y := by rw [← hfp, tc_fpfp hb1]
            rw [this, decide_eq_true rfl, decide_eq_true rfl, decide_eq_false e1]
            simp
          · have n1 : ¬ tc_fp i = tc_b y := fun z => e2 (by rw [← hfp, ← z, tc_fpfp hi])
            have n2 : ¬ tc_fp i = tc_b (16 - y) := fun z => e1 (by
              have : tc_fp (tc_fp i) = tc_fp (tc_b (16 - y)) := by rw [z]
              rw [tc_fpfp hi, ← hfp, tc_fpfp hb1] at this
              exact this)
            rw [decide_eq_false e1, decide_eq_false e2, decide_eq_false n1, decide_eq_false n2, ht.2 i hi]
            simp
      · by_cases cP : S i &&& tc_lb (tc_w (16 - y)) = 0
        · obtain ⟨j, hj, e1, e2⟩ := (tc_nz _ _).mp (hs i hi hb)
          refine (tc_nz _ _).mpr ⟨j, hj, e1, keep j hj e2 (fun z => ?_)⟩
          refine (tc_zand _ _).mp cP j hj e1 ?_
          rw [tc_lbb _ (by omega) j hj]
          exact decide_eq_true ⟨by omega, z⟩
        · obtain ⟨j, hj, e1, e2⟩ := nofalse _ (tc_loor hL (tc_loand (hloa i hi hb))) (h i hi (hab i hi hb) cP)
          rw [b_or, Bool.or_eq_true] at e1
          rcases e1 with e1 | e1
          · exact absurd (noL j (by omega) e1 e2) id
          · rw [tc_andn _ _ (by omega), Bool.and_eq_true, Bool.not_eq_true', tc_lbb _ (by omega) j (by omega), decide_eq_false_iff_not] at e1
            exact (tc_nz _ _).mpr ⟨j, by omega, e1.1, keep j (by omega) e2 (fun z => e1.2 ⟨by omega, z⟩)⟩
      · refine (tc_nz _ _).mpr ⟨tc_b y, by omega, hyL, ?_⟩
        rw [hbt _ (by omega), decide_eq_true rfl, Bool.or_true]
  · exact ⟨t, ht, hs, cL⟩
/-- the places of a clause, out of its words -/
def tc_pl (W : Nat → Int32) (i s : Nat) : Nat := (8 + W (i * 4 + s)).toNatClampNeg
def tc_P (W : Nat → Int32) (i : Nat) : Int32 := tc_ng (tc_lb (tc_w (tc_pv (tc_pl W i))))
theorem tc_Clp {V : Nat} (hV : V ≤ 8) {W S : Nat → Int32} {i : Nat} (h : tc_Cl V W S i) : (∀ s, s < 4 → tc_pl W i s < 17) ∧ (∀ s, s < 4 → W (i * 4 + s) = tc_w (tc_pl W i s)) ∧ S i = tc_sl (tc_w (tc_pl W i 0)) (tc_w (tc_pl W i 1)) (tc_w (tc_pl W i 2)) (tc_w (tc_pl W i 3)) := by
  obtain ⟨a, h1, h2⟩ := h
  have e : ∀ s, s < 4 → tc_pl W i s = a s := by
    intro s hs
    obtain ⟨b1, b2, b3⟩ := h1 s hs
    unfold tc_pl
    rw [b3, (tc_w1 (a s) (by omega)).1, nI_clamp (by omega)]
  refine ⟨fun s hs => ?_, fun s hs => ?_, ?_⟩
  · have := h1 s hs
    rw [e s hs]; omega
  · rw [e s hs]; exact (h1 s hs).2.2
  · rw [e 0 (by omega), e 1 (by omega), e 2 (by omega), e 3 (by omega)]; exact h2
theorem tc_pvL {a : Nat → Nat} (ha : ∀ s, s < 4 → a s < 17) (h : ¬ tc_sl (tc_w (a 0)) (tc_w (a 1)) (tc_w (a 2)) (tc_w (a 3)) = 0) : tc_pv a < 17 ∧ tc_pv a ≠ 8 ∧ bt (tc_sl (tc_w (a 0)) (tc_w (a 1)) (tc_w (a 2)) (tc_w (a 3))) (tc_b (tc_pv a)) = true := by
  have key : ∀ s, s < 4 → tc_pv a = a s → a s ≠ 8 → tc_pv a < 17 ∧ tc_pv a ≠ 8 ∧ bt (tc_sl (tc_w (a 0)) (tc_w (a 1)) (tc_w (a 2)) (tc_w (a 3))) (tc_b (tc_pv a)) = true := by
    intro s hs e h8
    rw [e]
    have hb := tc_blt (ha s hs)
    exact ⟨ha s hs, h8, (tc_slb ha (by omega)).mpr ⟨s, hs, h8, rfl⟩⟩
  by_cases c0 : a 0 = 8
  · by_cases c1 : a 1 = 8
    · by_cases c2 : a 2 = 8
      · by_cases c3 : a 3 = 8
        · exfalso
          apply h
          refine (tc_slz ha).mpr (fun s hs => ?_)
          have hs4 : s = 0 ∨ s = 1 ∨ s = 2 ∨ s = 3 := by omega
          rcases hs4 with rfl | rfl | rfl | rfl <;> assumption
        · exact key 3 (by omega) (by unfold tc_pv; rw [if_pos c0, if_pos c1, if_pos c2]) c3
      · exact key 2 (by omega) (by unfold tc_pv; rw [if_pos c0, if_pos c1, if_neg c2]) c2
    · exact key 1 (by omega) (by unfold tc_pv; rw [if_pos c0, if_neg c1]) c1
  · exact key 0 (by omega) (by unfold tc_pv; rw [if_neg c0]) c0
theorem tc_pvlt {a : Nat → Nat} (ha : ∀ s, s < 4 → a s < 17) : tc_pv a < 17 := by
  unfold tc_pv
  split
  · split
    · split
      · exact ha 3 (by omega)
      · exact ha 2 (by omega)
    · exact ha 1 (by omega)
  · exact ha 0 (by omega)
theorem tc_tot8 (as : Int32) : tc_tot (tc_tl 8 as) := by
  refine ⟨fun i hi => ?_, fun i hi => ?_⟩
  · by_cases h : i < 32
    · rw [tc_tlb (by omega) as h, if_neg (by omega), decide_eq_false (by omega), Bool.and_false]
    · exact b_big (by omega)
  · have hf := tc_fplt hi
    rw [tc_tlb (by omega) as (by omega), tc_tlb (by omega) as (by omega)]
    unfold tc_fp
    by_cases h : i < 8
    · rw [if_pos h, if_pos h, if_neg (by omega), decide_eq_true (by omega : i < 8), show i + 8 - 8 = i from by omega, decide_eq_true (by omega : i < 8)]
      simp
    · rw [if_neg h, if_neg h, if_pos (by omega), decide_eq_true (by omega : i - 8 < 8)]
      simp
theorem tc_tl8 {V : Nat} (hV : V ≤ 8) (as : Int32) {i : Nat} (hi : i < 32) (h : bt (tc_tl V as) i = true) : bt (tc_tl 8 as) i = true := by
  rw [tc_tlb hV as hi] at h
  rw [tc_tlb (by omega) as hi]
  by_cases c : i < 8
  · rw [if_pos c, Bool.and_eq_true, decide_eq_true_eq] at h
    rw [if_pos c, h.1, decide_eq_true (by omega)]
    rfl
  · rw [if_neg c, Bool.and_eq_true, decide_eq_true_eq] at h
    rw [if_neg c, h.1, decide_eq_true (by omega)]
    rfl
theorem tc_avL {V n m : Nat} {W K S : Nat → Int32} (hT : tc_Tx V n m W K S) {k : Nat} (hk : k ≤ m) : ∀ i, i < 24 → bt (tc_av K W n k) i = true → tc_lo (S i) := tc_CSlo hT.1.2 (tc_CSav hT hk)
theorem tc_unsat {V n m c : Nat} {W K S : Nat → Int32} {M : Int32} (hT : tc_Tx V n m W K S) (hc : c ≤ m) (h2 : tc_rf S (tc_av K W n c &&& M) 0 = true) (h3 : ∀ j, j < c → ¬ K (n + j) = 3 → bt M (n + j) = true → tc_ps S (tc_av K W n j &&& M) (tc_av K W n j) (S (n + j)) (tc_P W (n + j))) (as : Int32) (h : ∀ i, i < n → bt M i = true → ¬ S i &&& tc_tl V as = 0) : False := by
  have hnm := hT.2.1
  have sub : ∀ j i, bt (tc_av K W n j &&& M) i = true → bt (tc_av K W n j) i = true := fun j i e => by
    rw [b_and, Bool.and_eq_true] at e; exact e.1
  have main : ∀ j, j ≤ c → ∃ t, tc_tot t ∧ ∀ i, i < 24 → bt (tc_av K W n j &&& M) i = true → ¬ S i &&& t = 0 := by
    intro j
    induction j with
    | zero =>
      intro _
      refine ⟨tc_tl 8 as, tc_tot8 as, fun i hi e => ?_⟩
      rw [b_and, Bool.and_eq_true, tc_av, tc_axb n (by omega) i (by omega), decide_eq_true_eq] at e
      obtain ⟨k, hk, e1, e2⟩ := (tc_nz _ _).mp (h i e.1 e.2)
      exact (tc_nz _ _).mpr ⟨k, hk, e1, tc_tl8 hT.1.2 as hk e2⟩
    | succ j ih =>
      intro hj
      obtain ⟨t, ht, hs⟩ := ih (by omega)
      by_cases cK : K (n + j) = 3
      · refine ⟨t, ht, fun i hi e => hs i hi ?_⟩
        rw [b_and, Bool.and_eq_true, tc_av, if_pos cK, b_and, Bool.and_eq_true] at e
        rw [b_and, Bool.and_eq_true]
        exact ⟨e.1.1, e.2⟩
      · by_cases cM : bt M (n + j) = true
        · obtain ⟨p1, p2, p3⟩ := tc_Clp hT.1.2 (hT.2.2.2.2.1 (n + j) (by omega) cK)
          have hlo : tc_lo (S (n + j)) := by rw [p3]; exact tc_losl p1
          obtain ⟨t', q1, q2, q3⟩ := tc_rat (a := tc_av K W n j &&& M) (b := tc_av K W n j) (y := tc_pv (tc_pl W (n + j))) (tc_avL hT (by omega)) (fun i _ e => sub j i e) hlo (tc_pvlt p1) (fun z => by
            have := tc_pvL p1 (by rw [← p3]; exact z)
            rw [← p3] at this
            exact this.2) ht hs (h3 j (by omega) cK cM)
          refine ⟨t', q1, fun i hi e => ?_⟩
          rw [b_and, Bool.and_eq_true, tc_av, if_neg cK, tc_add (by omega) (by omega), Bool.or_eq_true, decide_eq_true_eq] at e
          rcases e.1 with z | z
          · exact q2 i hi (by rw [b_and, z, e.2]; rfl)
          · rw [z]; exact q3
        · refine ⟨t, ht, fun i hi e => hs i hi ?_⟩
          rw [b_and, Bool.and_eq_true, tc_av, if_neg cK, tc_add (by omega) (by omega), Bool.or_eq_true, decide_eq_true_eq] at e
          rcases e.1 with z | z
          · rw [b_and, z, e.2]; rfl
          · rw [z] at e; exact absurd e.2 cM
  obtain ⟨t, ht, hs⟩ := main c (Nat.le_refl c)
  have := tc_sound (fun i hi e => tc_avL hT hc i hi (sub c i e)) ht hs tc_lo0 (fun i _ e => by rw [b_0] at e; exact absurd e (by decide))
  rw [h2] at this
  exact absurd this (by decide)
theorem tc_fcl {S K W : Nat → Int32} {n : Nat} : ∀ (d c x : Nat), tc_fc S K W n d c = some x → tc_rf S (tc_av K W n x) 0 = true ∧ ∀ j, c ≤ j → j < x → tc_rf S (tc_av K W n j) 0 = false := by
  intro d
  induction d with
  | zero => intro c x h; exact absurd h (by simp [tc_fc])
  | succ d ih =>
    intro c x h
    rw [tc_fc] at h
    by_cases e : tc_rf S (tc_av K W n c) 0 = true
    · rw [if_pos e] at h
      have := Option.some.inj h
      subst this
      exact ⟨e, fun j a b => absurd b (by omega)⟩
    · rw [if_neg e] at h
      obtain ⟨h1, h2⟩ := ih (c + 1) x h
      refine ⟨h1, fun j a b => ?_⟩
      by_cases ej : j = c
      · rw [ej]
        exact Bool.not_eq_true _ ▸ e
      · exact h2 j (by omega) b
/-! ===== what holds once the text is sealed, the cursor at cu and the conflict point at c ===== -/
def tc_A (n : Nat) (W K S : Nat → Int32) (M : Int32) (cu c : Nat) : Prop :=
  (∀ j, j < c → tc_rf S (tc_av K W n j) 0 = false) ∧ tc_rf S (tc_av K W n c &&& M) 0 = true ∧ (∀ j, cu ≤ j → j < c → ¬ K (n + j) = 3 → bt M (n + j) = true → tc_ps S (tc_av K W n j &&& M) (tc_av K W n j) (S (n + j)) (tc_P W (n + j)))
theorem tc_AM {V n m cu c : Nat} {W K S : Nat → Int32} {M R : Int32} (hT : tc_Tx V n m W K S) (hc : c ≤ m) (hcu : cu ≤ c) (hR : ∀ i, i < 24 → bt R i = true → i < n + cu) (h : tc_A n W K S M cu c) : tc_A n W K S (M ||| R) cu c := by
  have hnm := hT.2.1
  obtain ⟨h1, h2, h3⟩ := h
  have up : ∀ j i, bt (tc_av K W n j &&& M) i = true → bt (tc_av K W n j &&& (M ||| R)) i = true := by
    intro j i e
    rw [b_and, Bool.and_eq_true] at e
    rw [b_and, b_or, e.1, e.2]
    rfl
  have lo : ∀ j, j ≤ m → ∀ i, i < 24 → bt (tc_av K W n j &&& (M ||| R)) i = true → tc_lo (S i) := by
    intro j hj i hi e
    rw [b_and, Bool.and_eq_true] at e
    exact tc_avL hT hj i hi e.1
  refine ⟨h1, tc_mono (lo c hc) tc_lo0 (fun i _ e => up c i e) h2, fun j a b cK cM => ?_⟩
  have cM' : bt M (n + j) = true := by
    rw [b_or, Bool.or_eq_true] at cM
    rcases cM with z | z
    · exact z
    · have := hR (n + j) (by omega) z
      omega
  obtain ⟨p1, p2, p3⟩ := tc_Clp hT.1.2 (hT.2.2.2.2.1 (n + j) (by omega) cK)
  have hlo : tc_lo (S (n + j)) := by rw [p3]; exact tc_losl p1
  exact tc_psm (lo j (by omega)) (tc_avL hT (by omega)) hlo (fun i _ e => up j i e) (fun _ _ e => e) (h3 j a b cK cM')
theorem tc_Aseal {V n m x : Nat} {W K S ob : Nat → Int32} {M : Int32} (hT : tc_Tx V n m W K S) (h : tc_fc S K W n (m + 1) 0 = some x) : tc_A n W K S (M ||| tc_kp S (tc_av K W n x) M (upd ob 0 0) 1 24 (tc_av K W n x)) x x := by
  have hx := tc_fcb _ _ _ h
  obtain ⟨h1, h2⟩ := tc_fcl _ _ _ h
  refine ⟨fun j hj => h2 j (by omega) hj, ?_, fun j a b => absurd b (by omega)⟩
  have hk : tc_al S (tc_kp S (tc_av K W n x) M (upd ob 0 0) 1 24 (tc_av K W n x)) (upd ob 0 0) 1 0 = true := tc_kpal 24 _ (by rw [tc_al1]; exact h1)
  rw [tc_al1] at hk
  refine tc_mono (fun i hi e => ?_) tc_lo0 (fun i _ e => ?_) hk
  · rw [b_and, Bool.and_eq_true] at e
    exact tc_avL hT (by omega) i hi e.1
  · rw [b_and, b_or, e, tc_kps _ _ _ e, Bool.or_true]
    rfl
theorem tc_Aback {V n m c j : Nat} {W K S ob : Nat → Int32} {M : Int32} (hT : tc_Tx V n m W K S) (hc : c ≤ m) (hj : j < c) (h : tc_A n W K S M (j + 1) c) (hw : ¬ (tc_way S (tc_av K W n j) (S (n + j)) (tc_P W (n + j)) ob).1 = 5) : tc_A n W K S (M ||| tc_kp S (tc_av K W n j) M (tc_way S (tc_av K W n j) (S (n + j)) (tc_P W (n + j)) ob).2.1 (tc_way S (tc_av K W n j) (S (n + j)) (tc_P W (n + j)) ob).2.2 24 (tc_av K W n j)) j c := by
  have hnm := hT.2.1
  obtain ⟨w1, w2⟩ := tc_wayps hw
  have w3 := w2 _ (tc_kpal (cs := tc_av K W n j) (M := M) 24 _ w1)
  have hA := tc_AM (R := tc_kp S (tc_av K W n j) M (tc_way S (tc_av K W n j) (S (n + j)) (tc_P W (n + j)) ob).2.1 (tc_way S (tc_av K W n j) (S (n + j)) (tc_P W (n + j)) ob).2.2 24 (tc_av K W n j)) hT hc (by omega) (fun i hi e => by
    have := ((tc_avb hT j (by omega) i hi).mp (tc_kps _ _ _ e)).1
    omega) h
  obtain ⟨h1, h2, h3⟩ := hA
  refine ⟨h1, h2, fun j' a b cK cM => ?_⟩
  by_cases e : j' = j
  · subst e
    obtain ⟨p1, p2, p3⟩ := tc_Clp hT.1.2 (hT.2.2.2.2.1 (n + j') (by omega) cK)
    have hlo : tc_lo (S (n + j')) := by rw [p3]; exact tc_losl p1
    refine tc_psm (fun i hi e => ?_) (tc_avL hT (by omega)) hlo (fun i _ e => ?_) (fun _ _ e => e) w3
    · rw [b_and, Bool.and_eq_true] at e
      exact tc_avL hT (by omega) i hi e.1
    · rw [b_and, b_or, e, tc_kps _ _ _ e, Bool.or_true]
      rfl
  · exact h3 j' (by omega) b cK cM
theorem tc_Askip {n c j : Nat} {W K S : Nat → Int32} {M : Int32} (h : tc_A n W K S M (j + 1) c) (hs : K (n + j) = 3 ∨ bt M (n + j) = false) : tc_A n W K S M j c := by
  obtain ⟨h1, h2, h3⟩ := h
  refine ⟨h1, h2, fun j' a b cK cM => ?_⟩
  by_cases e : j' = j
  · subst e
    rcases hs with z | z
    · exact absurd z cK
    · rw [z] at cM; exact absurd cM (by decide)
  · exact h3 j' (by omega) b cK cM
