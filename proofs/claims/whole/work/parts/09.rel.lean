/-! ===== the relation ===== -/
def tc_R (V A L n m cu : Nat) (ph cf : Int32) (W K S D mk : Nat → Int32) (M : Int32) : Prop :=
  tc_Tx V n m W K S ∧ tc_De K D ∧ tc_In M mk ∧ (n ≤ A ∧ A ≤ 12 ∧ m ≤ L ∧ L ≤ 12) ∧ (∀ i, i < 24 → bt M i = true → i < n + m ∧ ¬ K i = 3) ∧ cu ≤ m ∧ (ph = 1 → 1 ≤ cu) ∧ (cf = -1 ∨ ∃ c, c ≤ m ∧ cf = nI c)
def i_Rel (k : Nat) (u : SX) (v : SY) : Prop := ∃ (V A L n m cu : Nat) (ph cf : Int32) (W K S D mk : Nat → Int32) (M : Int32) (oc oc' : Int32) (ob inn obl isf : Nat → Int32),
  u = (nI V, nI A, nI L, nI n, nI m, ph, nI cu, cf, M, oc, W, K, S, ob) ∧ v = (nI V, nI A, nI L, nI n, nI m, ph, nI cu, cf, oc', W, D, mk, inn, obl, isf) ∧ tc_R V A L n m cu ph cf W K S D mk M
theorem i_up {k : Nat} {u : SX} {v : SY} (h : i_Rel k u v) : i_Rel (k + 5) u v := h
theorem tc_rel {k : Nat} {V A L n m cu : Nat} {ph cf : Int32} {W K S D mk : Nat → Int32} {M : Int32} {oc oc' : Int32} {ob inn obl isf : Nat → Int32} (h : tc_R V A L n m cu ph cf W K S D mk M) : i_Rel k (nI V, nI A, nI L, nI n, nI m, ph, nI cu, cf, M, oc, W, K, S, ob) (nI V, nI A, nI L, nI n, nI m, ph, nI cu, cf, oc', W, D, mk, inn, obl, isf) :=
  ⟨V, A, L, n, m, cu, ph, cf, W, K, S, D, mk, M, oc, oc', ob, inn, obl, isf, rfl, rfl, h⟩
/-! ===== the constructors ===== -/
theorem tc_clm (p : Int32) (b : Nat) (hb : 1 ≤ b) (hb2 : b ≤ 12) : ∃ j, 1 ≤ j ∧ j ≤ b ∧ ((¬ 1 ≤ p ∧ j = 1) ∨ (1 ≤ p ∧ p ≤ nI b ∧ p = nI j) ∨ (1 ≤ p ∧ ¬ p ≤ nI b ∧ j = b)) := by
  by_cases c1 : 1 ≤ p
  · by_cases c2 : p ≤ nI b
    · have h0 : ¬ p < 0 := fun z => absurd (Int32.lt_of_lt_of_le z (Int32.le_trans (by decide : (0 : Int32) ≤ 1) c1)) (Int32.lt_irrefl)
      obtain ⟨j, hj, rfl⟩ := nI_of h0
      have h1 : 1 ≤ j := (nI_leI (a := 1) (by omega) hj).mp c1
      have h2 : j ≤ b := (nI_leI hj (by omega)).mp c2
      exact ⟨j, h1, h2, Or.inr (Or.inl ⟨c1, c2, rfl⟩)⟩
    · exact ⟨b, hb, Nat.le_refl _, Or.inr (Or.inr ⟨c1, c2, rfl⟩)⟩
  · exact ⟨1, Nat.le_refl _, hb, Or.inl ⟨c1, rfl⟩⟩
theorem tc_cl3 {P : Int32 → Prop} {p : Int32} {b j : Nat} (h : (¬ 1 ≤ p ∧ j = 1) ∨ (1 ≤ p ∧ p ≤ nI b ∧ p = nI j) ∨ (1 ≤ p ∧ ¬ p ≤ nI b ∧ j = b)) (hP : P (nI j)) : (1 ≤ p → ((p ≤ nI b → P p) ∧ (¬ p ≤ nI b → P (nI b)))) ∧ (¬ 1 ≤ p → P 1) := by
  rcases h with ⟨h1, rfl⟩ | ⟨h1, h2, h3⟩ | ⟨h1, h2, rfl⟩
  · exact br_f h1 hP
  · exact br_t h1 (br_t h2 (by rw [h3]; exact hP))
  · exact br_t h1 (br_f h2 hP)
theorem i_vc0 (k0 : Int32) (k1 : Int32) (k2 : Int32) : wpX_init (fun u => wpY_init (fun v => i_Rel 3 u v) k0 k1 k2) k0 k1 k2 := by
  obtain ⟨V, v1, v2, hV⟩ := tc_clm k0 8 (by omega) (by omega)
  obtain ⟨A, a1, a2, hA⟩ := tc_clm k1 12 (by omega) (by omega)
  obtain ⟨L, l1, l2, hL⟩ := tc_clm k2 12 (by omega) (by omega)
  unfold wpX_init
  refine tc_cl3 (P := fun r_1 => wpX_clamp (fun r_2 => (wpX_clamp (fun r_3 => wpY_init (fun v => i_Rel 3 (r_1, r_2, r_3, 0, 0, 0, 0, (-1), 0, 0, (fun _ => 0), (fun _ => 0), (fun _ => 0), (fun _ => 0)) v) k0 k1 k2) k2 12)) k1 12) hV ?_
  refine tc_cl3 (P := fun r_2 => (wpX_clamp (fun r_3 => wpY_init (fun v => i_Rel 3 (nI V, r_2, r_3, 0, 0, 0, 0, (-1), 0, 0, (fun _ => 0), (fun _ => 0), (fun _ => 0), (fun _ => 0)) v) k0 k1 k2) k2 12)) hA ?_
  refine tc_cl3 (P := fun r_3 => wpY_init (fun v => i_Rel 3 (nI V, nI A, r_3, 0, 0, 0, 0, (-1), 0, 0, (fun _ => 0), (fun _ => 0), (fun _ => 0), (fun _ => 0)) v) k0 k1 k2) hL ?_
  refine tc_cl3 (P := fun z => wY_init_85 (fun v => i_Rel 3 (nI V, nI A, nI L, 0, 0, 0, 0, (-1), 0, 0, (fun _ => 0), (fun _ => 0), (fun _ => 0), (fun _ => 0)) v) k1 k2 z 0 0 0 0 0 0 0 (-1) 0 (fun _ => 0) (fun _ => 0) (fun _ => 0) (fun _ => 0) (fun _ => 0) (fun _ => 0)) hV ?_
  refine tc_cl3 (P := fun z => wY_init_110 (fun v => i_Rel 3 (nI V, nI A, nI L, 0, 0, 0, 0, (-1), 0, 0, (fun _ => 0), (fun _ => 0), (fun _ => 0), (fun _ => 0)) v) k2 z (nI V) 0 0 0 0 0 0 (-1) 0 (fun _ => 0) (fun _ => 0) (fun _ => 0) (fun _ => 0) (fun _ => 0) (fun _ => 0)) hA ?_
  refine tc_cl3 (P := fun z => i_Rel 3 (nI V, nI A, nI L, 0, 0, 0, 0, (-1), 0, 0, (fun _ => 0), (fun _ => 0), (fun _ => 0), (fun _ => 0)) (nI V, nI A, z, 0, 0, 0, 0, (-1), 0, (fun _ => 0), (fun _ => 0), (fun _ => 0), (fun _ => 0), (fun _ => 0), (fun _ => 0))) hL ?_
  refine tc_rel (n := 0) (m := 0) (cu := 0) ⟨⟨⟨v1, v2⟩, ⟨by omega, by omega⟩, fun i hi => absurd hi (by omega), fun i _ h2 => absurd h2 (by omega), fun i hi => absurd hi (by omega), fun i _ h2 => absurd h2 (by omega)⟩, fun i _ => rfl, fun i _ => by rw [b_0]; rfl, ⟨by omega, a2, by omega, l2⟩, fun i _ h => by rw [b_0] at h; exact absurd h (by decide), by omega, fun h => absurd h (by decide), Or.inl rfl⟩
/-! ===== the readers ===== -/
theorem i_vc_phase {k : Nat} {u : SX} {v : SY} (I : i_Rel k u v) (hk : k + 5 ≤ 2563) : wpX_phase (fun r => wpY_phase (fun r' => r' = r ∧ i_Rel (k + 5) u v) v) u := by
  have I' := i_up I
  obtain ⟨V, A, L, n, m, cu, ph, cf, W, K, S, D, mk, M, oc, oc', ob, inn, obl, isf, rfl, rfl, h⟩ := I
  exact ⟨rfl, I'⟩
theorem i_vc_cursor {k : Nat} {u : SX} {v : SY} (I : i_Rel k u v) (hk : k + 5 ≤ 2563) : wpX_cursor (fun r => wpY_cursor (fun r' => r' = r ∧ i_Rel (k + 5) u v) v) u := by
  have I' := i_up I
  obtain ⟨V, A, L, n, m, cu, ph, cf, W, K, S, D, mk, M, oc, oc', ob, inn, obl, isf, rfl, rfl, h⟩ := I
  exact ⟨rfl, I'⟩
theorem i_vc_conflict {k : Nat} {u : SX} {v : SY} (I : i_Rel k u v) (hk : k + 5 ≤ 2563) : wpX_conflict (fun r => wpY_conflict (fun r' => r' = r ∧ i_Rel (k + 5) u v) v) u := by
  have I' := i_up I
  obtain ⟨V, A, L, n, m, cu, ph, cf, W, K, S, D, mk, M, oc, oc', ob, inn, obl, isf, rfl, rfl, h⟩ := I
  exact ⟨rfl, I'⟩
/-- a member by any number: one answer for both sides -/
theorem tx_hm0 {post : Int32 → Prop} {cs p : Int32} (h : p < 0 ∨ nI 24 ≤ p) (hp : post 0) : wpX_hasMember post cs p := by
  by_cases c : p < 0
  · exact br_t c hp
  · rcases h with h | h
    · exact absurd h c
    · exact br_f c (br_t h hp)
theorem tc_le24 {a b : Nat} (h : a + b ≤ 24) {p : Int32} (hp : nI 24 ≤ p) : nI a + nI b ≤ p := by
  rw [nI_add]
  exact Int32.le_trans (nI_le h (by omega)) hp
theorem tz_av {V n m k : Nat} {W K S D : Nat → Int32} (hT : tc_Tx V n m W K S) (hD : tc_De K D) (hk : k ≤ m) (p : Int32) : ∃ b : Bool, (∀ post : Int32 → Prop, post (tc_bi b) → wpX_hasMember post (tc_av K W n k) p) ∧ (∀ (post : Int32 → Prop) (vs ma ml ph cu cf oc : Int32) (mk inn obl isf : Nat → Int32), post (tc_bi b) → wpY_aliveAfter post (vs, ma, ml, nI n, nI m, ph, cu, cf, oc, W, D, mk, inn, obl, isf) p (nI k)) ∧ (b = true → ∃ j, j < n + k ∧ p = nI j) := by
  have hnm := hT.2.1
  rcases pk_ix p (n := 24) (by omega) with h | h | ⟨j, hj, rfl⟩
  · exact ⟨false, fun post hp => tx_hm0 (Or.inl h) hp, fun post vs ma ml ph cu cf oc mk inn obl isf hp => br_t h hp, fun z => absurd z (by decide)⟩
  · refine ⟨false, fun post hp => tx_hm0 (Or.inr h) hp, fun post vs ma ml ph cu cf oc mk inn obl isf hp => ?_, fun z => absurd z (by decide)⟩
    by_cases c : p < 0
    · exact br_t c hp
    · exact br_f c (br_t (tc_le24 (by omega) h) hp)
  · exact ⟨bt (tc_av K W n k) j, fun post hp => tx_hm hj hp, fun post vs ma ml ph cu cf oc mk inn obl isf hp => ty_av hT hD hk hj hp, fun z => ⟨j, ((tc_avb hT k hk j hj).mp z).1, rfl⟩⟩
theorem i_vc_alive {k : Nat} {u : SX} {v : SY} (I : i_Rel k u v) (hk : k + 5 ≤ 2563) (v1 : Int32) : wpX_alive (fun r => wpY_alive (fun r' => r' = r ∧ i_Rel (k + 5) u v) v v1) u v1 := by
  have I' := i_up I
  obtain ⟨V, A, L, n, m, cu, ph, cf, W, K, S, D, mk, M, oc, oc', ob, inn, obl, isf, rfl, rfl, h⟩ := I
  obtain ⟨hT, hD, hM, hb, hi, hcu, hp, hc⟩ := h
  have hnm := hT.2.1
  obtain ⟨b, b1, b2, _⟩ := tz_av hT hD hcu v1
  unfold wpX_alive
  refine tx_av (by omega) (b1 _ ⟨tc_nar b, ?_⟩)
  unfold wpY_alive
  exact b2 _ _ _ _ _ _ _ _ _ _ _ _ ⟨tc_nar b, rfl, I'⟩
theorem i_vc_marked {k : Nat} {u : SX} {v : SY} (I : i_Rel k u v) (hk : k + 5 ≤ 2563) (v1 : Int32) : wpX_marked (fun r => wpY_marked (fun r' => r' = r ∧ i_Rel (k + 5) u v) v v1) u v1 := by
  have I' := i_up I
  obtain ⟨V, A, L, n, m, cu, ph, cf, W, K, S, D, mk, M, oc, oc', ob, inn, obl, isf, rfl, rfl, h⟩ := I
  obtain ⟨hT, hD, hM, hb, hi, hcu, hp, hc⟩ := h
  have hnm := hT.2.1
  unfold wpX_marked
  rcases pk_ix v1 (n := 24) (by omega) with h | h | ⟨j, hj, rfl⟩
  · exact tx_hm0 (Or.inl h) ⟨rfl, br_t h ⟨rfl, I'⟩⟩
  · refine tx_hm0 (Or.inr h) ⟨rfl, br_c (fun _ => ⟨rfl, I'⟩) (fun c => br_t (tc_le24 (by omega) h) ⟨rfl, I'⟩)⟩
  · refine tx_hm hj ⟨tc_nar _, br_f (nI_pos (by omega)) (br_c (fun c => ⟨?_, I'⟩) (fun c => ⟨vp_in_nI hj (by omega), ?_⟩))⟩
    · rw [nI_add, nI_leI (by omega) (by omega)] at c
      cases e : bt M j
      · rfl
      · have := (hi j hj e).1
        omega
    · rw [nI_clamp (by omega : j < 2 ^ 31), hM j hj]
      cases e : bt M j
      · exact br_t tc_bif ⟨rfl, I'⟩
      · exact br_f tc_bit ⟨rfl, I'⟩
theorem tx_it {post : Int32 → Prop} {vc al ll ph cu cf M oc : Int32} {W K S ob : Nat → Int32} {n m : Nat} {p : Int32} (hnm : n + m ≤ 24) (h0 : (p < 0 ∨ (¬ p < 0 ∧ nI n + nI m ≤ p)) → post 0) (h1 : ∀ j, j < n + m → p = nI j → post 1) : wpX_isInText post (vc, al, ll, nI n, nI m, ph, cu, cf, M, oc, W, K, S, ob) p := by
  refine br_c (fun c => h0 (Or.inl c)) (fun c => br_c (fun d => h0 (Or.inr ⟨c, d⟩)) (fun d => ?_))
  obtain ⟨j, hj, rfl⟩ := nI_of c
  rw [nI_add, nI_leI (by omega) hj] at d
  exact h1 j (by omega) rfl
theorem i_vc_kind {k : Nat} {u : SX} {v : SY} (I : i_Rel k u v) (hk : k + 5 ≤ 2563) (v1 : Int32) : wpX_kind (fun r => wpY_kind (fun r' => r' = r ∧ i_Rel (k + 5) u v) v v1) u v1 := by
  have I' := i_up I
  obtain ⟨V, A, L, n, m, cu, ph, cf, W, K, S, D, mk, M, oc, oc', ob, inn, obl, isf, rfl, rfl, h⟩ := I
  obtain ⟨hT, hD, hM, hb, hi, hcu, hp, hc⟩ := h
  have hT' := hT
  obtain ⟨_, hnm, hA, hL, _, _⟩ := hT'
  unfold wpX_kind
  refine tx_it (by omega) (fun c => br_t rfl ?_) (fun j hj e => br_f (by decide) ?_)
  · rcases c with c | ⟨c, d⟩
    · exact br_t c ⟨rfl, I'⟩
    · exact br_f c (br_f (Int32.not_lt.mpr d) ⟨rfl, I'⟩)
  · subst e
    refine ⟨vp_in_nI (by omega) (by omega), ?_⟩
    refine br_f (nI_pos (by omega)) (br_t (by rw [nI_add]; exact nI_lt hj (by omega)) ?_)
    rw [nI_clamp (by omega : j < 2 ^ 31), hD j (by omega)]
    refine br_c (fun c => ⟨vp_in_nI (by omega) (by omega), ?_⟩) (fun c => ?_)
    · rw [nI_leI (by omega) (by omega)] at c
      rcases hL j c hj with e | e
      · rw [e]
        exact br_t (by decide) ⟨rfl, I'⟩
      · rw [e]
        exact br_f (by decide) ⟨rfl, I'⟩
    · rw [nI_leI (by omega) (by omega)] at c
      rw [hA j (by omega)]
      exact ⟨rfl, I'⟩
theorem i_vc_word {k : Nat} {u : SX} {v : SY} (I : i_Rel k u v) (hk : k + 5 ≤ 2563) (v1 : Int32) (v2 : Int32) : wpX_word (fun r => wpY_word (fun r' => r' = r ∧ i_Rel (k + 5) u v) v v1 v2) u v1 v2 := by
  have I' := i_up I
  obtain ⟨V, A, L, n, m, cu, ph, cf, W, K, S, D, mk, M, oc, oc', ob, inn, obl, isf, rfl, rfl, h⟩ := I
  obtain ⟨hT, hD, hM, hb, hi, hcu, hp, hc⟩ := h
  have hnm := hT.2.1
  unfold wpX_word
  refine tx_it (by omega) (fun c => br_t rfl ?_) (fun j hj e => br_f (by decide) ?_)
  · rcases c with c | ⟨c, d⟩
    · exact br_t c ⟨rfl, I'⟩
    · exact br_f c (br_t d ⟨rfl, I'⟩)
  · subst e
    have c1 := nI_pos (n := j) (by omega)
    have c2 : ¬ nI n + nI m ≤ nI j := by rw [nI_add]; exact nI_ge hj (by omega)
    refine br_c (fun c => br_f c1 (br_f c2 (br_t c ⟨rfl, I'⟩))) (fun c => ?_)
    obtain ⟨s, hs, rfl⟩ := nI_of c
    refine br_c (fun d => ?_) (fun d => ?_)
    · have d' : s < 4 := (nI_ltI (b := 4) hs (by omega)).mp d
      have d3 : nI s ≤ 3 := nI_le (b := 3) (by omega) (by omega)
      have iw : vp_in (nI j * 4 + nI s) 96 := by rw [tc_m4s]; exact vp_in_nI (by omega) (by omega)
      exact ⟨iw, br_f c1 (br_f c2 (br_f c (br_t d3 ⟨iw, rfl, I'⟩)))⟩
    · have d' : ¬ nI s ≤ 3 := by
        intro z
        have z' : s ≤ 3 := (nI_leI (b := 3) hs (by omega)).mp z
        exact d (nI_lt (b := 4) (by omega) (by omega))
      exact br_f c1 (br_f c2 (br_f c (br_f d' ⟨rfl, I'⟩)))
