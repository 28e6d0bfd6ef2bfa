/-! ===== the reference: refuting ===== -/
theorem tc_8p (v : Nat) : (8 : Int32) + nI v = nI (8 + v) := nI_add 8 v
theorem tc_8m {v : Nat} (h : v ≤ 8) : (8 : Int32) - nI v = nI (8 - v) := pk_sub h
theorem tc_m17 (o i : Nat) : nI o * 17 + nI i = nI (o * 17 + i) := by
  rw [show nI o * 17 = nI (o * 17) from pk_mul o 17, nI_add]
theorem tc_nb (b : Bool) : vp_nar .boolean (tc_bi b) = tc_bi b := by cases b <;> rfl
theorem tc_nb0 : vp_nar .boolean 0 = 0 := rfl
theorem tc_nb1 : vp_nar .boolean 1 = 1 := rfl
theorem tc_nar (b : Bool) : narrow .boolean (.int (tc_bi b)) = .int (tc_bi b) := by cases b <;> rfl
/-- the clauses of a set lie in the text -/
def tc_CS (V N : Nat) (W S : Nat → Int32) (cs : Int32) : Prop := ∀ i, i < 24 → bt cs i = true → i < N ∧ tc_Cl V W S i
theorem tc_Cla {V : Nat} (hV : V ≤ 8) {W S : Nat → Int32} {i : Nat} (h : tc_Cl V W S i) : ∃ a : Nat → Nat, (∀ s, s < 4 → a s < 17) ∧ (∀ s, s < 4 → W (i * 4 + s) = tc_w (a s)) ∧ S i = tc_sl (tc_w (a 0)) (tc_w (a 1)) (tc_w (a 2)) (tc_w (a 3)) := by
  obtain ⟨a, h1, h2⟩ := h
  exact ⟨a, fun s hs => by have := h1 s hs; omega, fun s hs => (h1 s hs).2.2, h2⟩
theorem tc_CSlo {V N : Nat} (hV : V ≤ 8) {W S : Nat → Int32} {cs : Int32} (h : tc_CS V N W S cs) : ∀ i, i < 24 → bt cs i = true → tc_lo (S i) := by
  intro i hi hb
  obtain ⟨a, h1, _, h3⟩ := tc_Cla hV (h i hi hb).2
  rw [h3]
  exact tc_losl h1
theorem tc_CSsub {V N : Nat} {W S : Nat → Int32} {cs cs' : Int32} (h : tc_CS V N W S cs) (g : ∀ i, i < 24 → bt cs' i = true → bt cs i = true) : tc_CS V N W S cs' := fun i hi hb => h i hi (g i hi hb)
theorem tc_flcut {S : Nat → Int32} {cs : Int32} : ∀ (d e i : Nat) (F : Int32), (∀ j, i + d ≤ j → j < i + d + e → bt cs j = false) → tc_fl S cs (d + e) i F = tc_fl S cs d i F := by
  intro d
  induction d with
  | zero =>
    intro e i F h
    rw [Nat.zero_add]
    exact tc_flout e i F (fun j a b => h j (by omega) (by omega))
  | succ d ih =>
    intro e i F h
    rw [show d + 1 + e = (d + e) + 1 from by omega]
    have ih' := fun F => ih e (i + 1) F (fun j a b => h j (by omega) (by omega))
    cases hb : bt cs i
    · rw [tc_fl0 hb, tc_fl0 hb, ih']
    · cases es : tc_st F (S i) with
      | none => rw [tc_fln hb es, tc_fln hb es]
      | some F' => rw [tc_fls hb es, tc_fls hb es, ih']
def tc_opn1 (F : Int32) (a : Nat → Nat) (s : Nat) : Prop := a s ≠ 8 ∧ bt F (tc_b (a s)) = false ∧ bt F (tc_b (16 - a s)) = false
def tc_stn1 (F : Int32) (a : Nat → Nat) (s : Nat) : Prop := a s ≠ 8 ∧ bt F (tc_b (a s)) = false ∧ bt F (tc_b (16 - a s)) = true
/-- what the reference knows of a clause after s words -/
def tc_I (F : Int32) (a : Nat → Nat) (s : Nat) (u x5 x6 : Int32) : Prop :=
  (∃ sb : Bool, x6 = tc_bi sb ∧ (sb = true ↔ ∃ t, t < s ∧ tc_stn1 F a t)) ∧
  ((x5 = 0 ∧ u = 0 ∧ ∀ t, t < s → ¬ tc_opn1 F a t) ∨
   (x5 = 1 ∧ ∃ x, x < 17 ∧ u = tc_w x ∧ (∃ t, t < s ∧ tc_opn1 F a t ∧ a t = x) ∧ ∀ t, t < s → tc_opn1 F a t → a t = x) ∨
   (∃ c, 2 ≤ c ∧ c ≤ s ∧ x5 = nI c ∧ ∃ t1 t2, t1 < s ∧ t2 < s ∧ tc_opn1 F a t1 ∧ tc_opn1 F a t2 ∧ a t1 ≠ a t2))
theorem tc_I0 (F : Int32) (a : Nat → Nat) : tc_I F a 0 0 0 0 :=
  ⟨⟨false, rfl, fun z => absurd z (by decide), fun ⟨t, ht, _⟩ => absurd ht (by omega)⟩, Or.inl ⟨rfl, rfl, fun t ht => absurd ht (by omega)⟩⟩
/-- a word that is neither free nor true -/
theorem tc_Ino {F : Int32} {a : Nat → Nat} {s : Nat} {u x5 x6 : Int32} (h : tc_I F a s u x5 x6) (h1 : ¬ tc_opn1 F a s) (h2 : ¬ tc_stn1 F a s) : tc_I F a (s + 1) u x5 x6 := by
  obtain ⟨⟨sb, e6, hs⟩, hc⟩ := h
  refine ⟨⟨sb, e6, fun z => ?_, fun ⟨t, ht, g⟩ => ?_⟩, ?_⟩
  · obtain ⟨t, ht, g⟩ := hs.mp z
    exact ⟨t, by omega, g⟩
  · by_cases e : t = s
    · rw [e] at g; exact absurd g h2
    · exact hs.mpr ⟨t, by omega, g⟩
  · rcases hc with ⟨e5, eu, g⟩ | ⟨e5, x, hx, eu, ⟨t, ht, g1, g2⟩, g3⟩ | ⟨c, c2, cs, e5, t1, t2, q1, q2, g1, g2, g3⟩
    · refine Or.inl ⟨e5, eu, fun t ht => ?_⟩
      by_cases e : t = s
      · rw [e]; exact h1
      · exact g t (by omega)
    · refine Or.inr (Or.inl ⟨e5, x, hx, eu, ⟨t, by omega, g1, g2⟩, fun t ht g => ?_⟩)
      by_cases e : t = s
      · rw [e] at g; exact absurd g h1
      · exact g3 t (by omega) g
    · exact Or.inr (Or.inr ⟨c, c2, by omega, e5, t1, t2, by omega, by omega, g1, g2, g3⟩)
theorem tc_Isat {F : Int32} {a : Nat → Nat} {s : Nat} {u x5 x6 : Int32} (h : tc_I F a s u x5 x6) (h2 : tc_stn1 F a s) : tc_I F a (s + 1) u x5 1 := by
  have h1 : ¬ tc_opn1 F a s := by
    rintro ⟨_, _, z⟩
    rw [h2.2.2] at z
    exact absurd z (by decide)
  obtain ⟨_, hc⟩ := h
  refine ⟨⟨true, rfl, fun _ => ⟨s, by omega, h2⟩, fun _ => rfl⟩, ?_⟩
  rcases hc with ⟨e5, eu, g⟩ | ⟨e5, x, hx, eu, ⟨t, ht, g1, g2⟩, g3⟩ | ⟨c, c2, cs, e5, t1, t2, q1, q2, g1, g2, g3⟩
  · refine Or.inl ⟨e5, eu, fun t ht => ?_⟩
    by_cases e : t = s
    · rw [e]; exact h1
    · exact g t (by omega)
  · refine Or.inr (Or.inl ⟨e5, x, hx, eu, ⟨t, by omega, g1, g2⟩, fun t ht g => ?_⟩)
    by_cases e : t = s
    · rw [e] at g; exact absurd g h1
    · exact g3 t (by omega) g
  · exact Or.inr (Or.inr ⟨c, c2, by omega, e5, t1, t2, by omega, by omega, g1, g2, g3⟩)
theorem tc_Isame {F : Int32} {a : Nat → Nat} {s : Nat} {u x5 x6 : Int32} (ha : a s < 17) (h : tc_I F a s u x5 x6) (h1 : tc_opn1 F a s) (e : tc_w (a s) = u) : tc_I F a (s + 1) u x5 x6 := by
  have h2 : ¬ tc_stn1 F a s := by
    rintro ⟨_, _, z⟩
    rw [h1.2.2] at z
    exact absurd z (by decide)
  obtain ⟨⟨sb, e6, hs⟩, hc⟩ := h
  refine ⟨⟨sb, e6, fun z => ?_, fun ⟨t, ht, g⟩ => ?_⟩, ?_⟩
  · obtain ⟨t, ht, g⟩ := hs.mp z
    exact ⟨t, by omega, g⟩
  · by_cases e : t = s
    · rw [e] at g; exact absurd g h2
    · exact hs.mpr ⟨t, by omega, g⟩
  · rcases hc with ⟨e5, eu, g⟩ | ⟨e5, x, hx, eu, ⟨t, ht, g1, g2⟩, g3⟩ | ⟨c, c2, cs, e5, t1, t2, q1, q2, g1, g2, g3⟩
    · rw [eu] at e
      exact absurd ((tc_w1 _ ha).2.2.1.mp e) h1.1
    · rw [eu, tc_winj ha hx] at e
      refine Or.inr (Or.inl ⟨e5, x, hx, eu, ⟨t, by omega, g1, g2⟩, fun t ht g => ?_⟩)
      by_cases et : t = s
      · rw [et]; exact e
      · exact g3 t (by omega) g
    · exact Or.inr (Or.inr ⟨c, c2, by omega, e5, t1, t2, by omega, by omega, g1, g2, g3⟩)
theorem tc_Inew {F : Int32} {a : Nat → Nat} {s : Nat} {u x5 x6 : Int32} (ha : a s < 17) (h : tc_I F a s u x5 x6) (h1 : tc_opn1 F a s) (e : ¬ tc_w (a s) = u) : tc_I F a (s + 1) (tc_w (a s)) (x5 + 1) x6 := by
  have h2 : ¬ tc_stn1 F a s := by
    rintro ⟨_, _, z⟩
    rw [h1.2.2] at z
    exact absurd z (by decide)
  obtain ⟨⟨sb, e6, hs⟩, hc⟩ := h
  refine ⟨⟨sb, e6, fun z => ?_, fun ⟨t, ht, g⟩ => ?_⟩, ?_⟩
  · obtain ⟨t, ht, g⟩ := hs.mp z
    exact ⟨t, by omega, g⟩
  · by_cases e : t = s
    · rw [e] at g; exact absurd g h2
    · exact hs.mpr ⟨t, by omega, g⟩
  · rcases hc with ⟨e5, eu, g⟩ | ⟨e5, x, hx, eu, ⟨t, ht, g1, g2⟩, g3⟩ | ⟨c, c2, cs, e5, t1, t2, q1, q2, g1, g2, g3⟩
    · refine Or.inr (Or.inl ⟨by rw [e5]; decide, a s, ha, rfl, ⟨s, by omega, h1, rfl⟩, fun t ht g' => ?_⟩)
      by_cases et : t = s
      · rw [et]
      · exact absurd g' (g t (by omega))
    · refine Or.inr (Or.inr ⟨2, by omega, by omega, by rw [e5]; decide, s, t, by omega, by omega, h1, g1, ?_⟩)
      rw [g2]
      intro z
      rw [z] at e
      exact e eu.symm
    · exact Or.inr (Or.inr ⟨c + 1, by omega, by omega, by rw [e5, nI_1], t1, t2, by omega, by omega, g1, g2, g3⟩)
section
variable {vs ma ml ac lc ph cu cf oc : Int32} {W D mk inn obl isf S : Nat → Int32}
theorem ty_r118 {post : Int32 → SY → Prop} {J73 J81 : Int32 → (Nat → Int32) → (Nat → Int32) → (Nat → Int32) → (Nat → Int32) → (Nat → Int32) → (Nat → Int32) → Prop} {x2 F : Int32} {i : Nat} {a : Nat → Nat} (hi : i < 24) (ha : ∀ s, s < 4 → a s < 17) (hw : ∀ s, s < 4 → W (i * 4 + s) = tc_w (a s)) (hS : S i = tc_sl (tc_w (a 0)) (tc_w (a 1)) (tc_w (a 2)) (tc_w (a 3))) (hF : tc_FR F isf) (h0 : tc_st F (S i) = none → post 1 (vs, ma, ml, ac, lc, ph, cu, cf, oc, W, D, mk, inn, obl, isf)) (h1 : ∀ F' isf', tc_st F (S i) = some F' → tc_FR F' isf' → J81 (nI (i + 1)) W D mk inn obl isf') : ∀ (d s : Nat) (u x5 x6 : Int32) (n : Nat), s + d = 4 → d < n → tc_I F a s u x5 x6 → wY_refutes_118 post J73 J81 x2 (nI i) vs ma ml ac lc ph cu cf oc W D mk inn obl isf n u x5 x6 (nI s) := by
  intro d
  induction d with
  | zero =>
    intro s u x5 x6 n hs hn hI
    obtain ⟨n, rfl⟩ : ∃ k, n = k + 1 := ⟨n - 1, by omega⟩
    have e : s = 4 := by omega
    subst e
    refine br_t (nI_le (a := 4) (b := 4) (by omega) (by omega)) ?_
    obtain ⟨⟨sb, e6, hsb⟩, hc⟩ := hI
    cases sb
    · rw [e6]
      refine br_t tc_bif ?_
      have nos : ∀ t, t < 4 → ¬ tc_stn1 F a t := fun t ht g => absurd (hsb.mpr ⟨t, ht, g⟩) (by decide)
      have hop : ∀ t, t < 4 → a t ≠ 8 → bt F (tc_b (a t)) = false → tc_opn1 F a t := by
        intro t ht g8 gf
        refine ⟨g8, gf, ?_⟩
        cases z : bt F (tc_b (16 - a t))
        · rfl
        · exact absurd ⟨g8, gf, z⟩ (nos t ht)
      rcases hc with ⟨e5, eu, g⟩ | ⟨e5, x, hx, eu, ⟨t, ht, g1, g2⟩, g3⟩ | ⟨c, c2, cs, e5, t1, t2, q1, q2, g1, g2, g3⟩
      · refine br_t e5 (h0 (tc_stN ha hS (fun t ht g8 => ?_)))
        cases z : bt F (tc_b (a t))
        · exact absurd (hop t ht g8 z) (g t ht)
        · rfl
      · have hx8 : x ≠ 8 := by rw [← g2]; exact g1.1
        refine br_f (by rw [e5]; decide) (br_t tc_bif (br_t e5 ?_))
        have ex : (8 : Int32) - u = nI (16 - x) := by rw [eu]; exact (tc_w1 x hx).2.1
        refine ⟨by rw [ex]; exact vp_in_nI (by omega) (by omega), nm_r (e' := upd isf (16 - x) 1) (by rw [ex, nI_clamp (by omega)]; rfl) (nm_r (nI_1 i) ?_)⟩
        refine h1 (F ||| tc_ng (tc_lb (tc_w x))) _ ?_ ?_
        · exact tc_st1 ha hS hx hx8 (fun s hs p8 pf => (hop s hs p8 pf).2.2) ⟨t, ht, g2, by rw [← g2]; exact g1.2.1⟩ (fun s hs p8 pf => g3 s hs (hop s hs p8 pf))
        · rw [tc_nglb x hx]
          exact tc_FRset hF (by omega) (by omega)
      · have n0 : ¬ x5 = 0 := by rw [e5]; exact nI_ne0 (by omega) (by omega)
        have n1 : ¬ x5 = 1 := by
          rw [e5]
          intro z
          have := (nI_eq (a := c) (b := 1) (by omega) (by omega)).mp z
          omega
        refine br_f n0 (br_t tc_bif (br_f n1 (nm_r (nI_1 i) (h1 F isf ?_ hF))))
        exact tc_st2 ha hS q1 q2 g1.1 g2.1 g1.2.1 g2.2.1 g3
    · rw [e6]
      obtain ⟨t, ht, g⟩ := hsb.mp rfl
      exact br_f tc_bit (br_f tc_bit (nm_r (nI_1 i) (h1 F isf (tc_stS ha hS ht g.1 g.2.1 g.2.2) hF)))
  | succ d ih =>
    intro s u x5 x6 n hs hn hI
    obtain ⟨n, rfl⟩ : ∃ k, n = k + 1 := ⟨n - 1, by omega⟩
    have hs4 : s < 4 := by omega
    have has := ha s hs4
    refine br_f (nI_ge (b := 4) hs4 (by decide)) ⟨by rw [tc_m4s]; exact vp_in_nI (by omega) (by omega), ?_⟩
    refine nm_r (e' := tc_w (a s)) (by rw [tc_m4s, nI_clamp (by omega)]; exact hw s hs4) ?_
    by_cases c8 : a s = 8
    · exact br_t ((tc_w1 _ has).2.2.1.mpr c8) (nm_r (nI_1 s) (ih (s + 1) u x5 x6 n (by omega) (by omega) (tc_Ino hI (fun z => z.1 c8) (fun z => z.1 c8))))
    · refine br_f (fun z => c8 ((tc_w1 _ has).2.2.1.mp z)) ?_
      rw [(tc_w1 _ has).1, (tc_w1 _ has).2.1, nI_clamp (by omega : a s < 2 ^ 31), nI_clamp (by omega : 16 - a s < 2 ^ 31), hF (a s) has c8, hF (16 - a s) (by omega) (by omega)]
      refine ⟨vp_in_nI has (by omega), ?_⟩
      cases b1 : bt F (tc_b (a s))
      · refine br_t tc_bif ⟨vp_in_nI (by omega) (by omega), ?_⟩
        cases b2 : bt F (tc_b (16 - a s))
        · refine br_t tc_bif ?_
          by_cases e : tc_w (a s) = u
          · exact br_t e (nm_r (nI_1 s) (ih (s + 1) u x5 x6 n (by omega) (by omega) (tc_Isame has hI ⟨c8, b1, b2⟩ e)))
          · exact br_f e (nm_e (nm_r (nI_1 s) (ih (s + 1) _ _ x6 n (by omega) (by omega) (tc_Inew has hI ⟨c8, b1, b2⟩ e))))
        · exact br_f tc_bit (nm_r (nI_1 s) (ih (s + 1) u x5 1 n (by omega) (by omega) (tc_Isat hI ⟨c8, b1, b2⟩)))
      · refine br_f tc_bit (nm_r (nI_1 s) (ih (s + 1) u x5 x6 n (by omega) (by omega) (tc_Ino hI (fun z => ?_) (fun z => ?_))))
        · have := z.2.1; rw [b1] at this; exact absurd this (by decide)
        · have := z.2.1; rw [b1] at this; exact absurd this (by decide)
theorem ty_r81 {post : Int32 → SY → Prop} {J73 : Int32 → (Nat → Int32) → (Nat → Int32) → (Nat → Int32) → (Nat → Int32) → (Nat → Int32) → (Nat → Int32) → Prop} {x2 cs : Int32} {V an m : Nat} (hV : V ≤ 8) (hN : an + m ≤ 24) (hC : tc_CS V (an + m) W S cs) (hin : tc_In cs inn) : ∀ (d i : Nat) (F : Int32) (isf : Nat → Int32) (n : Nat), i + d = an + m → d < n → tc_FR F isf → (tc_fl S cs d i F = none → ∀ isf, post 1 (vs, ma, ml, nI an, nI m, ph, cu, cf, oc, W, D, mk, inn, obl, isf)) → (∀ F' isf, tc_fl S cs d i F = some F' → tc_FR F' isf → J73 (x2 + 1) W D mk inn obl isf) → wY_refutes_81 post J73 x2 vs ma ml (nI an) (nI m) ph cu cf oc n (nI i) W D mk inn obl isf := by
  intro d
  induction d with
  | zero =>
    intro i F isf n hi hn hF h0 h1
    obtain ⟨n, rfl⟩ : ∃ k, n = k + 1 := ⟨n - 1, by omega⟩
    refine br_t ?_ (nm_e (h1 F isf rfl hF))
    rw [nI_add]
    exact nI_le (by omega) (by omega)
  | succ d ih =>
    intro i F isf n hi hn hF h0 h1
    obtain ⟨n, rfl⟩ : ∃ k, n = k + 1 := ⟨n - 1, by omega⟩
    refine br_f (by rw [nI_add]; exact nI_ge (by omega) (by omega)) ⟨vp_in_nI (by omega) (by omega), ?_⟩
    rw [nI_clamp (by omega : i < 2 ^ 31), hin i (by omega)]
    cases hb : bt cs i
    · rw [tc_fl0 hb] at h0 h1
      exact br_t tc_bif (nm_r (nI_1 i) (ih (i + 1) F isf n (by omega) (by omega) hF h0 h1))
    · obtain ⟨a, ha, hw, hs⟩ := tc_Cla hV (hC i (by omega) hb).2
      refine br_f tc_bit ⟨5, ty_r118 (by omega) ha hw hs hF (fun e => h0 (tc_fln hb e) isf) (fun F' isf' e hF' => ?_) 4 0 0 0 0 5 (by omega) (by omega) (tc_I0 F a)⟩
      rw [tc_fls hb e] at h0 h1
      exact ih (i + 1) F' isf' n (by omega) (by omega) hF' h0 h1
theorem ty_r73 {post : Int32 → SY → Prop} {cs : Int32} {V an m : Nat} (hV : V ≤ 8) (hN : an + m ≤ 24) (hC : tc_CS V (an + m) W S cs) (hin : tc_In cs inn) : ∀ (r : Nat) (F : Int32) (isf : Nat → Int32) (n : Nat), r ≤ 9 → r < n → tc_FR F isf → (∀ isf, post (tc_bi (tc_rd S cs r F)) (vs, ma, ml, nI an, nI m, ph, cu, cf, oc, W, D, mk, inn, obl, isf)) → wY_refutes_73 post vs ma ml (nI an) (nI m) ph cu cf oc n (nI (9 - r)) W D mk inn obl isf := by
  intro r
  induction r with
  | zero =>
    intro F isf n _ hn hF h
    obtain ⟨n, rfl⟩ : ∃ k, n = k + 1 := ⟨n - 1, by omega⟩
    exact br_t (nI_le (a := 9) (b := 9) (by omega) (by omega)) (h isf)
  | succ r ih =>
    intro F isf n hr hn hF h
    obtain ⟨n, rfl⟩ : ∃ k, n = k + 1 := ⟨n - 1, by omega⟩
    have cut : tc_fl S cs 24 0 F = tc_fl S cs (an + m) 0 F := by
      have := tc_flcut (S := S) (cs := cs) (an + m) (24 - (an + m)) 0 F (fun j h1 h2 => by
        cases hb : bt cs j
        · rfl
        · have := (hC j (by omega) hb).1
          omega)
      rw [← this]
      exact congrArg (fun z => tc_fl S cs z 0 F) (by omega)
    refine br_f (nI_ge (b := 9) (by omega) (by decide)) ⟨an + m + 1, ?_⟩
    refine ty_r81 hV hN hC hin (an + m) 0 F isf (an + m + 1) (by omega) (by omega) hF (fun e isf => ?_) (fun F' isf e hF' => ?_)
    · rw [tc_rdn (cut.trans e)] at h
      exact h isf
    · rw [nI_1, show 9 - (r + 1) + 1 = 9 - r from by omega]
      rw [tc_rds (cut.trans e)] at h
      exact ih F' isf n (by omega) (by omega) hF' h
theorem ty_r33 {post : Int32 → SY → Prop} (h0 : (∀ v, 1 ≤ v → v ≤ 8 → ¬ isf (8 + v) = 0 → ¬ isf (8 - v) = 0 → False) → ∃ n, wY_refutes_73 post vs ma ml ac lc ph cu cf oc n 0 W D mk inn obl isf) (h1 : ¬ (∀ v, 1 ≤ v → v ≤ 8 → ¬ isf (8 + v) = 0 → ¬ isf (8 - v) = 0 → False) → post 1 (vs, ma, ml, ac, lc, ph, cu, cf, oc, W, D, mk, inn, obl, isf)) : ∀ (d v n : Nat), v + d = 9 → d < n → 1 ≤ v → (∀ t, 1 ≤ t → t < v → ¬ isf (8 + t) = 0 → ¬ isf (8 - t) = 0 → False) → wY_refutes_33 post vs ma ml ac lc ph cu cf oc W D mk inn obl isf n (nI v) := by
  intro d
  induction d with
  | zero =>
    intro v n hv hn _ hI
    obtain ⟨n, rfl⟩ : ∃ k, n = k + 1 := ⟨n - 1, by omega⟩
    have e : v = 9 := by omega
    subst e
    exact br_t (nI_lt (a := 8) (b := 9) (by omega) (by omega)) (h0 (fun t a b => hI t a (by omega)))
  | succ d ih =>
    intro v n hv hn hv1 hI
    obtain ⟨n, rfl⟩ : ∃ k, n = k + 1 := ⟨n - 1, by omega⟩
    refine br_f (nI_nlt (a := 8) (b := v) (by omega) (by omega)) ?_
    rw [tc_8p, tc_8m (by omega), nI_clamp (by omega : 8 + v < 2 ^ 31), nI_clamp (by omega : 8 - v < 2 ^ 31)]
    refine ⟨vp_in_nI (by omega) (by omega), ?_⟩
    have next : (¬ isf (8 + v) = 0 → ¬ isf (8 - v) = 0 → False) → wY_refutes_33 post vs ma ml ac lc ph cu cf oc W D mk inn obl isf n (nI (v + 1)) := by
      intro g
      refine ih (v + 1) n (by omega) (by omega) (by omega) (fun t a b => ?_)
      by_cases e : t = v
      · rw [e]; exact g
      · exact hI t a (by omega)
    refine br_c (fun c => nm_r (nI_1 v) (next (fun z => absurd c z))) (fun c => ⟨vp_in_nI (by omega) (by omega), br_c (fun c2 => nm_r (nI_1 v) (next (fun _ z => absurd c2 z))) (fun c2 => ?_)⟩)
    exact h1 (fun z => z v (by omega) (by omega) c c2)
theorem ty_r2 {post : Int32 → SY → Prop} {o : Nat} {T : Int32} (ho : o < 24) (hT : tc_FR T (tc_row obl o)) (h : ∀ isf, tc_FR T isf → ∃ n, wY_refutes_33 post vs ma ml ac lc ph cu cf oc W D mk inn obl isf n 1) : ∀ (d i : Nat) (isf : Nat → Int32) (n : Nat), i + d = 17 → d < n → (∀ a, a < i → a ≠ 8 → isf a = tc_bi (bt T (tc_b a))) → wY_refutes_2 post (nI o) vs ma ml ac lc ph cu cf oc n (nI i) W D mk inn obl isf := by
  intro d
  induction d with
  | zero =>
    intro i isf n hi hn hI
    obtain ⟨n, rfl⟩ : ∃ k, n = k + 1 := ⟨n - 1, by omega⟩
    have e : i = 17 := by omega
    subst e
    exact br_t (nI_le (a := 17) (b := 17) (by omega) (by omega)) (h isf (fun a ha h8 => hI a ha h8))
  | succ d ih =>
    intro i isf n hi hn hI
    obtain ⟨n, rfl⟩ : ∃ k, n = k + 1 := ⟨n - 1, by omega⟩
    refine br_f (nI_ge (b := 17) (by omega) (by decide)) ?_
    rw [tc_m17, nI_clamp (by omega : o * 17 + i < 2 ^ 31), nI_clamp (by omega : i < 2 ^ 31)]
    refine ⟨vp_in_nI (by omega) (by omega), vp_in_nI (by omega) (by omega), nm_e (nm_r (nI_1 i) (ih (i + 1) _ n (by omega) (by omega) (fun a ha h8 => ?_)))⟩
    by_cases e : a = i
    · subst e
      rw [pk_us, show obl (o * 17 + a) = tc_row obl o a from rfl, hT a (by omega) h8, tc_nb]
    · rw [pk_un e]
      exact hI a (by omega) h8
theorem ty_ref {post : Int32 → SY → Prop} {cs T : Int32} {V an m o : Nat} (hV : V ≤ 8) (hN : an + m ≤ 24) (hC : tc_CS V (an + m) W S cs) (hin : tc_In cs inn) (ho : o < 24) (hl : tc_lo T) (hT : tc_FR T (tc_row obl o)) (h : ∀ isf, post (tc_bi (tc_rf S cs T)) (vs, ma, ml, nI an, nI m, ph, cu, cf, oc, W, D, mk, inn, obl, isf)) : wpY_refutes post (vs, ma, ml, nI an, nI m, ph, cu, cf, oc, W, D, mk, inn, obl, isf) (nI o) := by
  refine ⟨18, ty_r2 ho hT (fun isf hF => ⟨9, ty_r33 (fun g => ?_) (fun g => ?_) 8 1 9 (by omega) (by omega) (by omega) (fun t a b => absurd b (by omega))⟩) 17 0 isf 18 (by omega) (by omega) (fun a ha => absurd ha (by omega))⟩
  · unfold tc_rf at h
    rw [if_pos ((tc_both hF hl).mpr g)] at h
    exact ⟨10, ty_r73 hV hN hC hin 9 T isf 10 (by omega) (by omega) hF h⟩
  · unfold tc_rf at h
    rw [if_neg (fun z => g ((tc_both hF hl).mp z))] at h
    exact h isf
theorem ty_al2 {post : Int32 → SY → Prop} {cs : Int32} {ob : Nat → Int32} {V an m q : Nat} (hV : V ≤ 8) (hN : an + m ≤ 24) (hC : tc_CS V (an + m) W S cs) (hin : tc_In cs inn) (hq : q ≤ 24) (ho : tc_OR ob q obl) : ∀ (d i : Nat) (isf : Nat → Int32) (n : Nat), i + d = q → d < n → (∀ isf, post (tc_bi (tc_al S cs ob d i)) (vs, ma, ml, nI an, nI m, ph, cu, cf, nI q, W, D, mk, inn, obl, isf)) → wY_refutesAll_2 post n (nI i) vs ma ml (nI an) (nI m) ph cu cf (nI q) W D mk inn obl isf := by
  intro d
  induction d with
  | zero =>
    intro i isf n hi hn h
    obtain ⟨n, rfl⟩ : ∃ k, n = k + 1 := ⟨n - 1, by omega⟩
    exact br_t (nI_le (by omega) (by omega)) (h isf)
  | succ d ih =>
    intro i isf n hi hn h
    obtain ⟨n, rfl⟩ : ∃ k, n = k + 1 := ⟨n - 1, by omega⟩
    refine br_f (nI_ge (by omega) (by omega)) ?_
    refine ty_ref hV hN hC hin (by omega) (ho i (by omega)).1 (ho i (by omega)).2 (fun isf => ?_)
    rw [tc_al] at h
    cases e : tc_rf S cs (ob i)
    · rw [e, if_neg (by decide)] at h
      exact br_t tc_bif (h isf)
    · rw [if_pos e] at h
      exact br_f tc_bit (nm_r (nI_1 i) (ih (i + 1) isf n (by omega) (by omega) h))
theorem ty_al {post : Int32 → SY → Prop} {cs : Int32} {ob : Nat → Int32} {V an m q : Nat} (hV : V ≤ 8) (hN : an + m ≤ 24) (hC : tc_CS V (an + m) W S cs) (hin : tc_In cs inn) (hq : q ≤ 24) (ho : tc_OR ob q obl) (h : ∀ isf, post (tc_bi (tc_al S cs ob q 0)) (vs, ma, ml, nI an, nI m, ph, cu, cf, nI q, W, D, mk, inn, obl, isf)) : wpY_refutesAll post (vs, ma, ml, nI an, nI m, ph, cu, cf, nI q, W, D, mk, inn, obl, isf) :=
  ⟨q + 1, ty_al2 hV hN hC hin hq ho q 0 isf (q + 1) (by omega) (by omega) h⟩
end
