/-! ===== the text is written ===== -/
def tc_oor (V : Nat) (w : Int32) : Prop := w < -nI V ∨ ¬ w ≤ nI V
theorem tc_okof {V : Nat} (hV : V ≤ 8) {w : Int32} (h : ¬ tc_oor V w) : tc_ok V w := by
  refine tc_rng hV (fun z => h (Or.inl z)) (fun z => h (Or.inr (fun y => ?_)))
  exact absurd (Int32.lt_of_lt_of_le z y) Int32.lt_irrefl
section
variable {al ll ac lc ph cu cf M oc : Int32} {W K S ob : Nat → Int32} {V : Nat}
theorem tx_oor {post : Int32 → Prop} {w : Int32} (h1 : tc_oor V w → post 1) (h0 : ¬ tc_oor V w → post 0) : wpX_isOutOfRange post (nI V, al, ll, ac, lc, ph, cu, cf, M, oc, W, K, S, ob) w :=
  br_c (fun c => h1 (Or.inl c)) (fun c => br_c (fun d => h0 (fun z => z.elim c (fun y => y d))) (fun d => h1 (Or.inr d)))
theorem tx_any {post : Int32 → Prop} {a b c d : Int32} (h1 : (tc_oor V a ∨ tc_oor V b ∨ tc_oor V c ∨ tc_oor V d) → post 1) (h0 : ¬ tc_oor V a → ¬ tc_oor V b → ¬ tc_oor V c → ¬ tc_oor V d → post 0) : wpX_anyOutOfRange post (nI V, al, ll, ac, lc, ph, cu, cf, M, oc, W, K, S, ob) a b c d := by
  unfold wpX_anyOutOfRange
  refine tx_oor (fun z => br_f (by decide) (h1 (Or.inl z))) (fun ga => br_t rfl ?_)
  refine tx_oor (fun z => br_f (by decide) (h1 (Or.inr (Or.inl z)))) (fun gb => br_t rfl ?_)
  refine tx_oor (fun z => br_f (by decide) (h1 (Or.inr (Or.inr (Or.inl z))))) (fun gc => br_t rfl ?_)
  exact tx_oor (fun z => br_f (by decide) (h1 (Or.inr (Or.inr (Or.inr z))))) (fun gd => br_t rfl (h0 ga gb gc gd))
theorem tx_store {post : SX → Prop} {vc : Int32} {i : Nat} {x a b c d : Int32} (hi : i < 24) (h : post (vc, al, ll, ac, lc, ph, cu, cf, M, oc, tc_put W i a b c d, upd K i x, S, ob)) : wpX_store post (vc, al, ll, ac, lc, ph, cu, cf, M, oc, W, K, S, ob) (nI i) x a b c d := by
  unfold wpX_store
  rw [tc_m43, tc_m42, tc_m41, tc_m4, nI_clamp (by omega : i < 2 ^ 31), nI_clamp (by omega : i * 4 < 2 ^ 31), nI_clamp (by omega : i * 4 + 1 < 2 ^ 31), nI_clamp (by omega : i * 4 + 2 < 2 ^ 31), nI_clamp (by omega : i * 4 + 3 < 2 ^ 31)]
  exact ⟨vp_in_nI hi (by omega), nm_e ⟨vp_in_nI (by omega) (by omega), nm_e ⟨vp_in_nI (by omega) (by omega), nm_e ⟨vp_in_nI (by omega) (by omega), nm_e ⟨vp_in_nI (by omega) (by omega), nm_e h⟩⟩⟩⟩⟩
end
section
variable {ma ml ac lc ph cu cf oc : Int32} {W D mk inn obl isf : Nat → Int32} {V : Nat}
theorem ty_out {post : Int32 → Prop} {w : Int32} (h1 : tc_oor V w → post 1) (h0 : ¬ tc_oor V w → post 0) : wpY_out post (nI V, ma, ml, ac, lc, ph, cu, cf, oc, W, D, mk, inn, obl, isf) w :=
  br_c (fun c => h1 (Or.inl c)) (fun c => br_c (fun d => h0 (fun z => z.elim c (fun y => y d))) (fun d => h1 (Or.inr d)))
theorem ty_put {post : Int32 → SY → Prop} {vs : Int32} {i : Nat} {y : Bool} {a b c d : Int32} (hi : i < 24) (h : post (nI i) (vs, ma, ml, ac, lc, ph, cu, cf, oc, tc_put W i a b c d, upd D i (tc_bi y), mk, inn, obl, isf)) : wpY_put post (vs, ma, ml, ac, lc, ph, cu, cf, oc, W, D, mk, inn, obl, isf) (nI i) a b c d (tc_bi y) := by
  unfold wpY_put
  rw [tc_m43, tc_m42, tc_m41, tc_m4, nI_clamp (by omega : i < 2 ^ 31), nI_clamp (by omega : i * 4 < 2 ^ 31), nI_clamp (by omega : i * 4 + 1 < 2 ^ 31), nI_clamp (by omega : i * 4 + 2 < 2 ^ 31), nI_clamp (by omega : i * 4 + 3 < 2 ^ 31), tc_nb]
  exact ⟨vp_in_nI (by omega) (by omega), nm_e ⟨vp_in_nI (by omega) (by omega), nm_e ⟨vp_in_nI (by omega) (by omega), nm_e ⟨vp_in_nI (by omega) (by omega), nm_e ⟨vp_in_nI hi (by omega), nm_e h⟩⟩⟩⟩⟩
end
theorem i_vc_axiom {k : Nat} {u : SX} {v : SY} (I : i_Rel k u v) (hk : k + 5 ≤ 2563) (v1 : Int32) (v2 : Int32) (v3 : Int32) (v4 : Int32) : wpX_axiom (fun r u' => wpY_axiom (fun r' v' => r' = r ∧ i_Rel (k + 5) u' v') v v1 v2 v3 v4) u v1 v2 v3 v4 := by
  have I' := i_up I
  obtain ⟨V, A, L, n, m, cu, ph, cf, W, K, S, D, mk, M, oc, oc', ob, inn, obl, isf, rfl, rfl, h⟩ := I
  obtain ⟨hT, hD, hM, hb, hi, hcu, hp, hc⟩ := h
  have hnm := hT.2.1
  have hV := hT.1
  refine br_c (fun cp => ?_) (fun cp => br_f cp ⟨rfl, I'⟩)
  refine br_c (fun cm => ?_) (fun cm => br_t cp (br_f cm ⟨rfl, I'⟩))
  have hm0 : m = 0 := by
    have := (nI_leI (a := m) (b := 0) (by omega) (by omega)).mp cm
    omega
  refine tx_any (fun g => br_f (by decide) (br_t cp (br_t cm ?_))) (fun ga gb gc gd => br_t rfl ?_)
  · refine ty_out (fun _ => br_f (by decide) ⟨rfl, I'⟩) (fun ga => br_t rfl ?_)
    refine ty_out (fun _ => br_f (by decide) ⟨rfl, I'⟩) (fun gb => br_t rfl ?_)
    refine ty_out (fun _ => br_f (by decide) ⟨rfl, I'⟩) (fun gc => br_t rfl ?_)
    refine ty_out (fun _ => br_f (by decide) ⟨rfl, I'⟩) (fun gd => ?_)
    exact (g.elim ga (fun g => g.elim gb (fun g => g.elim gc gd))).elim
  · have yy : ∀ P : Prop, P → P := fun _ z => z
    refine br_c (fun ca => ?_) (fun ca => br_t cp (br_t cm (ty_out (fun z => absurd z ga) (fun _ => br_t rfl (ty_out (fun z => absurd z gb) (fun _ => br_t rfl (ty_out (fun z => absurd z gc) (fun _ => br_t rfl (ty_out (fun z => absurd z gd) (fun _ => br_t rfl (br_f ca ⟨rfl, I'⟩)))))))))))
    have hn := (nI_ltI (by omega) (by omega)).mp ca
    refine tx_store (by omega) (tx_sl ⟨vp_in_nI (by omega) (by omega), ?_⟩)
    rw [nI_clamp (by omega : n < 2 ^ 31)]
    refine nm_e (nm_r (nI_1 n) ?_)
    refine br_t cp (br_t cm (ty_out (fun z => absurd z ga) (fun _ => br_t rfl (ty_out (fun z => absurd z gb) (fun _ => br_t rfl (ty_out (fun z => absurd z gc) (fun _ => br_t rfl (ty_out (fun z => absurd z gd) (fun _ => br_t rfl (br_t ca (nm_r (nI_1 n) ?_)))))))))))
    rw [nI_pred]
    refine ty_put (y := false) (by omega) ⟨rfl, ?_⟩
    subst hm0
    refine tc_rel ⟨tc_TxA hT (by omega) (tc_okof hV.2 ga) (tc_okof hV.2 gb) (tc_okof hV.2 gc) (tc_okof hV.2 gd), tc_DeS hD, hM, ⟨by omega, by omega, by omega, by omega⟩, fun i h1 h2 => ?_, hcu, hp, hc⟩
    have := hi i h1 h2
    refine ⟨by omega, ?_⟩
    rw [pk_un (by omega)]
    exact this.2
theorem tc_cfm {cf : Int32} {m m' : Nat} (h : m ≤ m') (hc : cf = -1 ∨ ∃ c, c ≤ m ∧ cf = nI c) : cf = -1 ∨ ∃ c, c ≤ m' ∧ cf = nI c := by
  rcases hc with hc | ⟨c, h1, h2⟩
  · exact Or.inl hc
  · exact Or.inr ⟨c, by omega, h2⟩
theorem i_vc_lemma {k : Nat} {u : SX} {v : SY} (I : i_Rel k u v) (hk : k + 5 ≤ 2563) (v1 : Int32) (v2 : Int32) (v3 : Int32) (v4 : Int32) : wpX_lemma (fun r u' => wpY_lemma (fun r' v' => r' = r ∧ i_Rel (k + 5) u' v') v v1 v2 v3 v4) u v1 v2 v3 v4 := by
  have I' := i_up I
  obtain ⟨V, A, L, n, m, cu, ph, cf, W, K, S, D, mk, M, oc, oc', ob, inn, obl, isf, rfl, rfl, h⟩ := I
  obtain ⟨hT, hD, hM, hb, hi, hcu, hp, hc⟩ := h
  have hnm := hT.2.1
  have hV := hT.1
  refine br_c (fun cp => ?_) (fun cp => br_f cp ⟨rfl, I'⟩)
  refine tx_any (fun g => br_f (by decide) (br_t cp ?_)) (fun ga gb gc gd => br_t rfl ?_)
  · refine ty_out (fun _ => br_f (by decide) ⟨rfl, I'⟩) (fun ga => br_t rfl ?_)
    refine ty_out (fun _ => br_f (by decide) ⟨rfl, I'⟩) (fun gb => br_t rfl ?_)
    refine ty_out (fun _ => br_f (by decide) ⟨rfl, I'⟩) (fun gc => br_t rfl ?_)
    refine ty_out (fun _ => br_f (by decide) ⟨rfl, I'⟩) (fun gd => ?_)
    exact (g.elim ga (fun g => g.elim gb (fun g => g.elim gc gd))).elim
  · refine br_c (fun ca => ?_) (fun ca => br_t cp (ty_out (fun z => absurd z ga) (fun _ => br_t rfl (ty_out (fun z => absurd z gb) (fun _ => br_t rfl (ty_out (fun z => absurd z gc) (fun _ => br_t rfl (ty_out (fun z => absurd z gd) (fun _ => br_t rfl (br_f ca ⟨rfl, I'⟩))))))))))
    have hn := (nI_ltI (by omega) (by omega)).mp ca
    refine nm_r (nI_add n m) (tx_store (by omega) (tx_sl ⟨vp_in_nI (by omega) (by omega), ?_⟩))
    rw [nI_clamp (by omega : n + m < 2 ^ 31)]
    refine nm_e ?_
    unfold wpX_countNewLine
    refine nm_r (nI_1 m) ?_
    refine br_t cp (ty_out (fun z => absurd z ga) (fun _ => br_t rfl (ty_out (fun z => absurd z gb) (fun _ => br_t rfl (ty_out (fun z => absurd z gc) (fun _ => br_t rfl (ty_out (fun z => absurd z gd) (fun _ => br_t rfl (br_t ca (nm_r (nI_1 m) ?_))))))))))
    rw [nI_add, show n + (m + 1) = n + m + 1 from rfl, nI_pred]
    refine ty_put (y := false) (by omega) ⟨rfl, ?_⟩
    refine tc_rel ⟨tc_TxL hT (by omega) (tc_okof hV.2 ga) (tc_okof hV.2 gb) (tc_okof hV.2 gc) (tc_okof hV.2 gd), tc_DeS hD, hM, ⟨by omega, by omega, by omega, by omega⟩, fun i h1 h2 => ?_, by omega, fun _ => by omega, tc_cfm (by omega) hc⟩
    have := hi i h1 h2
    refine ⟨by omega, ?_⟩
    rw [pk_un (by omega)]
    exact this.2
theorem i_vc_delete {k : Nat} {u : SX} {v : SY} (I : i_Rel k u v) (hk : k + 5 ≤ 2563) (v1 : Int32) : wpX_delete (fun r u' => wpY_delete (fun r' v' => r' = r ∧ i_Rel (k + 5) u' v') v v1) u v1 := by
  have I' := i_up I
  obtain ⟨V, A, L, n, m, cu, ph, cf, W, K, S, D, mk, M, oc, oc', ob, inn, obl, isf, rfl, rfl, h⟩ := I
  obtain ⟨hT, hD, hM, hb, hi, hcu, hp, hc⟩ := h
  have hnm := hT.2.1
  have hV := hT.1
  refine br_c (fun cp => ?_) (fun cp => br_f cp ⟨rfl, I'⟩)
  obtain ⟨b, b1, b2, b3⟩ := tz_av hT hD (Nat.le_refl m) v1
  refine tx_av (by omega) (b1 _ ?_)
  cases b
  · exact br_t tc_bif (br_t cp (b2 _ _ _ _ _ _ _ _ _ _ _ _ (br_t tc_bif ⟨rfl, I'⟩)))
  · obtain ⟨t, ht, et⟩ := b3 rfl
    subst et
    refine br_f tc_bit (br_c (fun ca => ?_) (fun ca => br_t cp (b2 _ _ _ _ _ _ _ _ _ _ _ _ (br_f tc_bit (br_f ca ⟨rfl, I'⟩)))))
    have hn := (nI_ltI (by omega) (by omega)).mp ca
    refine nm_r (nI_add n m) (tx_store (by omega) ?_)
    unfold wpX_countNewLine
    refine nm_r (nI_1 m) ?_
    refine br_t cp (b2 _ _ _ _ _ _ _ _ _ _ _ _ (br_f tc_bit (br_t ca (nm_r (nI_1 m) ?_))))
    rw [nI_add, show n + (m + 1) = n + m + 1 from rfl, nI_pred]
    refine ty_put (y := true) (by omega) ⟨rfl, ?_⟩
    refine tc_rel ⟨tc_TxD hT (by omega) ht, tc_DeS hD, hM, ⟨by omega, by omega, by omega, by omega⟩, fun i h1 h2 => ?_, by omega, fun _ => by omega, tc_cfm (by omega) hc⟩
    have := hi i h1 h2
    refine ⟨by omega, ?_⟩
    rw [pk_un (by omega)]
    exact this.2
theorem ty_rw {post : Int32 → SY → Prop} {vs ma ml ac lc ph cu cf oc : Int32} {W D inn obl isf : Nat → Int32} (h : ∀ mk, tc_In 0 mk → post lc (vs, ma, ml, ac, lc, 0, lc, -1, oc, W, D, mk, inn, obl, isf)) : ∀ (d i : Nat) (mk : Nat → Int32) (n : Nat), i + d = 24 → d < n → (∀ j, j < i → mk j = 0) → wY_rewind_32 post vs ma ml ac lc ph cu cf oc n (nI i) W D mk inn obl isf := by
  intro d
  induction d with
  | zero =>
    intro i mk n hi hn h1
    obtain ⟨n, rfl⟩ : ∃ k, n = k + 1 := ⟨n - 1, by omega⟩
    have e : i = 24 := by omega
    subst e
    exact br_t (nI_le (a := 24) (b := 24) (by omega) (by omega)) (h mk (fun j hj => by rw [h1 j hj, b_0]; rfl))
  | succ d ih =>
    intro i mk n hi hn h1
    obtain ⟨n, rfl⟩ : ∃ k, n = k + 1 := ⟨n - 1, by omega⟩
    refine br_f (nI_ge (b := 24) (by omega) (by decide)) ⟨vp_in_nI (by omega) (by omega), ?_⟩
    rw [nI_clamp (by omega : i < 2 ^ 31)]
    refine nm_e (nm_r (nI_1 i) (ih (i + 1) _ n (by omega) (by omega) (fun j hj => ?_)))
    by_cases e : j = i
    · rw [e, pk_us]; rfl
    · rw [pk_un e]; exact h1 j (by omega)
theorem i_vc_rewind {k : Nat} {u : SX} {v : SY} (I : i_Rel k u v) (hk : k + 5 ≤ 2563) (v1 : Int32) : wpX_rewind (fun r u' => wpY_rewind (fun r' v' => r' = r ∧ i_Rel (k + 5) u' v') v v1) u v1 := by
  obtain ⟨V, A, L, n, m, cu, ph, cf, W, K, S, D, mk, M, oc, oc', ob, inn, obl, isf, rfl, rfl, h⟩ := I
  obtain ⟨hT, hD, hM, hb, hi, hcu, hp, hc⟩ := h
  have hnm := hT.2.1
  have new : ∀ (n' m' : Nat) (mk : Nat → Int32), tc_Tx V n' m' W K S → n' ≤ n → m' ≤ m → tc_In 0 mk → tc_R V A L n' m' m' 0 (-1) W K S D mk 0 := by
    intro n' m' mk' hT' h1 h2 h3
    exact ⟨hT', hD, h3, ⟨by omega, by omega, by omega, by omega⟩, fun i _ z => by rw [b_0] at z; exact absurd z (by decide), by omega, fun z => absurd z (by decide), Or.inl rfl⟩
  refine br_c (fun c0 => br_c (fun cm => ?_) (fun cm => ?_)) (fun c0 => ?_)
  · exact br_t c0 (br_t cm ⟨25, ty_rw (fun mk' g => ⟨rfl, tc_rel (new n m mk' hT (by omega) (by omega) g)⟩) 24 0 mk 25 (by omega) (by omega) (fun j hj => absurd hj (by omega))⟩)
  · have h0 : ¬ v1 < 0 := Int32.not_lt.mpr c0
    obtain ⟨j, hj, rfl⟩ := nI_of h0
    have hjm : j < m := by
      rw [nI_leI (by omega) hj] at cm
      omega
    exact br_t c0 (br_f cm ⟨25, ty_rw (fun mk' g => ⟨rfl, tc_rel (new n j mk' (tc_TxR hT (by omega)) (by omega) (by omega) g)⟩) 24 0 mk 25 (by omega) (by omega) (fun j hj => absurd hj (by omega))⟩)
  · exact br_f c0 ⟨25, ty_rw (fun mk' g => ⟨rfl, tc_rel (n := 0) (m := 0) (cu := 0) (new 0 0 mk' (tc_Tx0 hT) (by omega) (by omega) g)⟩) 24 0 mk 25 (by omega) (by omega) (fun j hj => absurd hj (by omega))⟩
