/-! ===== evaluating an assignment ===== -/
theorem tc_wsg : ∀ x, x < 17 → (tc_w x ≤ 0 ↔ x ≤ 8) ∧ (0 ≤ tc_w x ↔ 8 ≤ x) ∧ (8 < x → tc_w x - 1 = nI (x - 9)) ∧ (x < 8 → -tc_w x - 1 = nI (7 - x)) := by decide +kernel
theorem tc_hz {a : Nat → Nat} (h : ∀ s, s < 4 → a s < 17) (t : Int32) : tc_sl (tc_w (a 0)) (tc_w (a 1)) (tc_w (a 2)) (tc_w (a 3)) &&& t = 0 ↔ ¬ ∃ s, s < 4 ∧ a s ≠ 8 ∧ bt t (tc_b (a s)) = true := by
  rw [tc_zand]
  constructor
  · rintro g ⟨s, hs, h8, hb⟩
    have := tc_blt (h s hs)
    exact g (tc_b (a s)) (by omega) ((tc_slb h (by omega)).mpr ⟨s, hs, h8, rfl⟩) hb
  · intro g i hi h1 h2
    obtain ⟨s, hs, h8, e⟩ := (tc_slb h hi).mp h1
    exact g ⟨s, hs, h8, by rw [← e]; exact h2⟩
theorem ty_h40 {vs ma ml ac lc ph cu cf oc x1 as : Int32} {W D mk inn obl isf : Nat → Int32} {V i : Nat} {a : Nat → Nat} {b0 : Bool} {post : Int32 → Prop} {J13 : Int32 → Prop} (hV : V ≤ 8) (hi : i < 24) (ha : ∀ s, s < 4 → 8 ≤ a s + V ∧ a s ≤ 8 + V ∧ W (i * 4 + s) = tc_w (a s)) (h0 : ¬ (b0 = true ∨ ∃ s, s < 4 ∧ a s ≠ 8 ∧ bt (tc_tl V as) (tc_b (a s)) = true) → post 0) (h1 : (b0 = true ∨ ∃ s, s < 4 ∧ a s ≠ 8 ∧ bt (tc_tl V as) (tc_b (a s)) = true) → J13 (nI (i + 1))) : ∀ (d s : Nat) (b : Bool) (fu : Nat), s + d = 4 → d < fu → (b = true ↔ b0 = true ∨ ∃ t, t < s ∧ a t ≠ 8 ∧ bt (tc_tl V as) (tc_b (a t)) = true) → wY_holds_40 post J13 x1 as (nI i) vs ma ml ac lc ph cu cf oc W D mk inn obl isf fu (tc_bi b) (nI s) := by
  intro d
  induction d with
  | zero =>
    intro s b fu hs hf hb
    obtain ⟨fu, rfl⟩ : ∃ k, fu = k + 1 := ⟨fu - 1, by omega⟩
    have e : s = 4 := by omega
    subst e
    refine br_t (nI_le (a := 4) (b := 4) (by omega) (by omega)) ?_
    cases b
    · exact br_t tc_bif (h0 (fun z => absurd (hb.mpr z) (by decide)))
    · exact br_f tc_bit (nm_r (nI_1 i) (h1 (hb.mp rfl)))
  | succ d ih =>
    intro s b fu hs hf hb
    obtain ⟨fu, rfl⟩ : ∃ k, fu = k + 1 := ⟨fu - 1, by omega⟩
    have hs4 : s < 4 := by omega
    obtain ⟨a1, a2, aw⟩ := ha s hs4
    have ax : a s < 17 := by omega
    obtain ⟨g1, g2, g3, g4⟩ := tc_wsg (a s) ax
    refine br_f (nI_ge (b := 4) hs4 (by decide)) ⟨by rw [tc_m4s]; exact vp_in_nI (by omega) (by omega), ?_⟩
    refine nm_r (e' := tc_w (a s)) (by rw [tc_m4s, nI_clamp (by omega)]; exact aw) ?_
    -- the flag stays
    have stay : ¬ (a s ≠ 8 ∧ bt (tc_tl V as) (tc_b (a s)) = true) → wY_holds_40 post J13 x1 as (nI i) vs ma ml ac lc ph cu cf oc W D mk inn obl isf fu (tc_bi b) (nI (s + 1)) := by
      intro z
      refine ih (s + 1) b fu (by omega) (by omega) ⟨fun y => ?_, fun y => ?_⟩
      · rcases hb.mp y with y | ⟨t, ht, y⟩
        · exact Or.inl y
        · exact Or.inr ⟨t, by omega, y⟩
      · rcases y with y | ⟨t, ht, y⟩
        · exact hb.mpr (Or.inl y)
        · by_cases e : t = s
          · rw [e] at y; exact absurd y z
          · exact hb.mpr (Or.inr ⟨t, by omega, y⟩)
    have rise : (a s ≠ 8 ∧ bt (tc_tl V as) (tc_b (a s)) = true) → wY_holds_40 post J13 x1 as (nI i) vs ma ml ac lc ph cu cf oc W D mk inn obl isf fu 1 (nI (s + 1)) := by
      intro z
      exact ih (s + 1) true fu (by omega) (by omega) ⟨fun _ => Or.inr ⟨s, by omega, z⟩, fun _ => rfl⟩
    by_cases c8 : a s = 8
    · exact br_t (g1.mpr (by omega)) (br_t (g2.mpr (by omega)) (nm_r (nI_1 s) (stay (fun z => z.1 c8))))
    · have htl := tc_tll hV as a1 a2 c8
      by_cases cp : 8 < a s
      · rw [if_pos cp] at htl
        refine br_f (fun z => absurd (g1.mp z) (by omega)) ?_
        rw [g3 cp, tc_shr1 as (by omega)]
        cases e : bt as (a s - 9)
        · rw [e] at htl
          exact br_f (by decide) (br_t (g2.mpr (by omega)) (nm_r (nI_1 s) (stay (fun z => by rw [htl] at z; exact absurd z.2 (by decide)))))
        · rw [e] at htl
          exact br_t rfl (br_t (g2.mpr (by omega)) (nm_r (nI_1 s) (rise ⟨c8, htl⟩)))
      · rw [if_neg cp] at htl
        refine br_t (g1.mpr (by omega)) (br_f (fun z => absurd (g2.mp z) (by omega)) ?_)
        rw [g4 (by omega), tc_shr1 as (by omega)]
        cases e : bt as (7 - a s)
        · rw [e] at htl
          exact br_t tc_bif (nm_r (nI_1 s) (rise ⟨c8, htl⟩))
        · rw [e] at htl
          exact br_f tc_bit (nm_r (nI_1 s) (stay (fun z => by rw [htl] at z; exact absurd z.2 (by decide))))
theorem tz_h {vc al ll vs ma ml ph cu cf oc ocy M as : Int32} {W K S D mk ob inn obl isf : Nat → Int32} {V n m w : Nat} (hT : tc_Tx V n m W K S) (hM : tc_In M mk) (hw : w ≤ 2) : ∀ (d i : Nat), i + d = n → ∃ r : Int32, (∀ (post : Int32 → Prop) (fu : Nat), d < fu → post r → wX_holds_25 post (tc_pr w n M) (tc_tl V as) vc al ll (nI n) (nI m) ph cu cf M oc W K S ob fu (nI i)) ∧ (∀ (post : Int32 → Prop) (fu : Nat), d < fu → post r → wY_holds_13 post (nI w) as vs ma ml (nI n) (nI m) ph cu cf ocy W D mk inn obl isf fu (nI i)) := by
  have hnm := hT.2.1
  intro d
  induction d with
  | zero =>
    intro i hi
    have e : i = n := by omega
    subst e
    refine ⟨1, fun post fu hf hp => ?_, fun post fu hf hp => ?_⟩
    · obtain ⟨fu, rfl⟩ : ∃ k, fu = k + 1 := ⟨fu - 1, by omega⟩
      exact br_t (nI_le (by omega) (by omega)) hp
    · obtain ⟨fu, rfl⟩ : ∃ k, fu = k + 1 := ⟨fu - 1, by omega⟩
      exact br_t (nI_le (by omega) (by omega)) hp
  | succ d ih =>
    intro i hi
    have nle : ¬ nI n ≤ nI i := nI_ge (by omega) (by omega)
    obtain ⟨r, rx, ry⟩ := ih (i + 1) (by omega)
    have hK : ¬ K i = 3 := by
      rw [hT.2.2.1 i (by omega)]
      decide
    obtain ⟨a, ha, hS⟩ := hT.2.2.2.2.1 i (by omega) hK
    have ha17 : ∀ s, s < 4 → a s < 17 := fun s hs => by have := ha s hs; have := hT.1.2; omega
    have hz := tc_hz ha17 (tc_tl V as)
    rw [← hS] at hz
    -- whether the axiom lets the assignment pass
    by_cases g : bt (tc_pr w n M) i = true ∧ S i &&& tc_tl V as = 0
    · have ng := hz.mp g.2
      refine ⟨0, fun post fu hf hp => ?_, fun post fu hf hp => ?_⟩
      · obtain ⟨fu, rfl⟩ : ∃ k, fu = k + 1 := ⟨fu - 1, by omega⟩
        refine br_f nle (tx_hm (by omega) ?_)
        rw [g.1]
        refine br_f tc_bit ⟨vp_in_nI (by omega) (by omega), ?_⟩
        rw [nI_clamp (by omega : i < 2 ^ 31)]
        exact br_t g.2 hp
      · obtain ⟨fu, rfl⟩ : ∃ k, fu = k + 1 := ⟨fu - 1, by omega⟩
        refine br_f nle (ty_pr hw (by omega) (by omega) hM ?_)
        rw [g.1]
        exact br_f tc_bit ⟨5, ty_h40 (b0 := false) hT.1.2 (by omega) ha (fun _ => hp) (fun z => absurd (z.resolve_left (by decide)) ng) 4 0 false 5 (by omega) (by omega) ⟨fun z => Or.inl z, fun z => z.elim id (fun ⟨t, ht, _⟩ => absurd ht (by omega))⟩⟩
    · refine ⟨r, fun post fu hf hp => ?_, fun post fu hf hp => ?_⟩
      · obtain ⟨fu, rfl⟩ : ∃ k, fu = k + 1 := ⟨fu - 1, by omega⟩
        refine br_f nle (tx_hm (by omega) ?_)
        cases e : bt (tc_pr w n M) i
        · exact br_t tc_bif (nm_r (nI_1 i) (rx post fu (by omega) hp))
        · refine br_f tc_bit ⟨vp_in_nI (by omega) (by omega), ?_⟩
          rw [nI_clamp (by omega : i < 2 ^ 31)]
          exact br_f (fun z => g ⟨e, z⟩) (nm_r (nI_1 i) (rx post fu (by omega) hp))
      · obtain ⟨fu, rfl⟩ : ∃ k, fu = k + 1 := ⟨fu - 1, by omega⟩
        refine br_f nle (ty_pr hw (by omega) (by omega) hM ?_)
        cases e : bt (tc_pr w n M) i
        · exact br_t tc_bif ⟨5, ty_h40 (b0 := true) hT.1.2 (by omega) ha (fun z => absurd (Or.inl rfl) z) (fun _ => ry post fu (by omega) hp) 4 0 true 5 (by omega) (by omega) ⟨fun _ => Or.inl rfl, fun _ => rfl⟩⟩
        · have yes : ∃ s, s < 4 ∧ a s ≠ 8 ∧ bt (tc_tl V as) (tc_b (a s)) = true := by
            by_cases y : ∃ s, s < 4 ∧ a s ≠ 8 ∧ bt (tc_tl V as) (tc_b (a s)) = true
            · exact y
            · exact absurd ⟨e, hz.mpr y⟩ g
          exact br_f tc_bit ⟨5, ty_h40 (b0 := false) hT.1.2 (by omega) ha (fun z => absurd (Or.inr yes) z) (fun _ => ry post fu (by omega) hp) 4 0 false 5 (by omega) (by omega) ⟨fun z => Or.inl z, fun z => z.elim id (fun ⟨t, ht, _⟩ => absurd ht (by omega))⟩⟩
theorem i_vc_holds {k : Nat} {u : SX} {v : SY} (I : i_Rel k u v) (hk : k + 5 ≤ 2563) (v1 : Int32) (v2 : Int32) : wpX_holds (fun r => wpY_holds (fun r' => r' = r ∧ i_Rel (k + 5) u v) v v1 v2) u v1 v2 := by
  have I' := i_up I
  obtain ⟨V, A, L, n, m, cu, ph, cf, W, K, S, D, mk, M, oc, oc', ob, inn, obl, isf, rfl, rfl, h⟩ := I
  obtain ⟨hT, hD, hM, hb, hi, hcu, hp, hc⟩ := h
  unfold wpX_holds
  rcases tc_view v1 with ⟨w, hw, rfl⟩ | ⟨n0, n1, n2, hn⟩
  · have wp0 : ¬ nI w < 0 := nI_pos (by omega)
    have wp2 : nI w ≤ 2 := nI_le (b := 2) hw (by omega)
    obtain ⟨r, rx, ry⟩ := tz_h (vc := nI V) (al := nI A) (ll := nI L) (vs := nI V) (ma := nI A) (ml := nI L) (ph := ph) (cu := nI cu) (cf := cf) (oc := oc) (ocy := oc') (as := v2) (D := D) (ob := ob) (inn := inn) (obl := obl) (isf := isf) hT hM hw n 0 (by omega)
    refine tx_vw hw (br_f (by decide) (tx_pr hw ?_))
    unfold wpX_trueLiterals
    refine nm_e (nm_e (nm_e ⟨n + 1, rx _ (n + 1) (by omega) ?_⟩))
    exact br_f wp0 (br_t wp2 ⟨n + 1, ry _ (n + 1) (by omega) ⟨rfl, I'⟩⟩)
  · refine br_f n0 (br_f n1 (br_f n2 (br_t rfl ?_)))
    rcases hn with z | ⟨z1, z2⟩
    · exact br_t z ⟨rfl, I'⟩
    · exact br_f z1 (br_f z2 ⟨rfl, I'⟩)
