/-! ===== the law: the axioms, the rounds ===== -/
def tq_H13 (J : tq_J13) (g N B : Nat) : Prop := ∀ {k b : Nat} {vc al ll ac lc ph cu cf M oc : Int32} {W K S ob : Nat → Int32}, k + 4 * (N - (g + 1)) + 196 ≤ B → b ≤ 3 + (g + 1) → tq_Z (vc, al, ll, ac, lc, ph, cu, cf, M, oc, W, K, S, ob) → J (nI k) (nI b) (nI (g + 1)) vc al ll ac lc ph cu cf M oc W K S ob
section
variable {post : Int32 → Prop} {L : Nat} {xs : Nat → Int32} {J84 : tq_J15} {J322 : tq_J13} {kc ks r B k a b sz g N v : Nat} {x7 vc al ll ac lc ph cu cf M oc : Int32} {W K S ob : Nat → Int32}
theorem tw_543 (hv : 4 ≤ v) (hv' : v ≤ 6) (hL : L ≤ 260) (hB : B < 100000) (hJ : tq_HJ J84 r B) (hJ' : tq_H13 J322 g N B) (hgN : g < N) (hN : N ≤ 16) (hk : k + 4 * (N - (g + 1)) + 196 ≤ B) (ha : 2 ≤ a) (ha' : a ≤ 4) (hb : b ≤ 3 + g) (hs : sz < 100) (hZ : tq_Z (vc, al, ll, ac, lc, ph, cu, cf, M, oc, W, K, S, ob)) (x12 x18 x19 x20 z0 : Int32) : wL_law_543 post L xs J84 J322 (nI k) (nI v) (nI sz) (nI a) (nI b) (nI r) x12 (nI g) x18 x19 x20 z0 kc ks vc al ll ac lc ph cu cf M oc W K S ob := by
  unfold wL_law_543
  refine tq_axiom hZ (fun q u' hZ' => ?_) _ _ _ _
  obtain ⟨vc, al, ll, ac, lc, ph, cu, cf, M, oc, W, K, S, ob⟩ := u'
  exact br_c (fun _ => nm_r (nI_1 b) (nm_r (nI_1 g) (hJ' hk (by omega) hZ'))) (fun _ => tw_573 hv hv' hL hB hJ (by omega) ha ha' (by omega) hs hZ')
theorem tw_519 (hv : 4 ≤ v) (hv' : v ≤ 6) (hL : L ≤ 260) (hB : B < 100000) (hJ : tq_HJ J84 r B) (hJ' : tq_H13 J322 g N B) (hgN : g < N) (hN : N ≤ 16) (hk : k + 1 + 4 * (N - (g + 1)) + 196 ≤ B) (ha : 2 ≤ a) (ha' : a ≤ 4) (hb : b ≤ 3 + g) (hs : sz < 100) (hZ : tq_Z (vc, al, ll, ac, lc, ph, cu, cf, M, oc, W, K, S, ob)) (x12 x18 x19 z0 : Int32) : wL_law_519 post L xs J84 J322 (nI k) (nI v) (nI sz) (nI a) (nI b) (nI r) x12 (nI g) x18 x19 z0 kc ks vc al ll ac lc ph cu cf M oc W K S ob := by
  unfold wL_law_519
  refine tl_cell hL (by omega) (fun x => nm_r (nI_1 k) (tl_mix 3 (by omega) (by omega) (fun j _ => br_c (fun _ => ?_) (fun _ => ?_))))
  · exact tw_543 hv hv' hL hB hJ hJ' hgN hN (by omega) ha ha' hb hs hZ _ _ _ _ _
  · exact tw_543 hv hv' hL hB hJ hJ' hgN hN (by omega) ha ha' hb hs hZ _ _ _ _ _
theorem tw_467 (hv : 4 ≤ v) (hv' : v ≤ 6) (hL : L ≤ 260) (hB : B < 100000) (hJ : tq_HJ J84 r B) (hJ' : tq_H13 J322 g N B) (hgN : g < N) (hN : N ≤ 16) (hk : k + 1 + 4 * (N - (g + 1)) + 196 ≤ B) (ha : 2 ≤ a) (ha' : a ≤ 4) (hb : b ≤ 3 + g) (hs : sz < 100) (hZ : tq_Z (vc, al, ll, ac, lc, ph, cu, cf, M, oc, W, K, S, ob)) (x12 x15 x16 z0 : Int32) : wL_law_467 post L xs J84 J322 (nI k) (nI v) (nI sz) (nI a) (nI b) (nI r) x12 (nI g) x15 x16 z0 kc ks vc al ll ac lc ph cu cf M oc W K S ob := by
  unfold wL_law_467
  have na : ¬ nI a = 0 := nI_ne0 (by omega) (by omega)
  refine tl_fals (fun _ => ⟨na, tl_fals (fun _ => br_c (fun _ => ?_) (fun _ => ⟨na, tl_fals (fun _ => ?_)⟩))⟩)
  · exact tw_519 hv hv' hL hB hJ hJ' hgN hN hk ha ha' hb hs hZ _ _ _ _
  · exact tw_519 hv hv' hL hB hJ hJ' hgN hN hk ha ha' hb hs hZ _ _ _ _
theorem tw_396 (hv : 4 ≤ v) (hv' : v ≤ 6) (hL : L ≤ 260) (hB : B < 100000) (hJ : tq_HJ J84 r B) (hJ' : tq_H13 J322 g N B) (hgN : g < N) (hN : N ≤ 16) (hk : k + 3 + 4 * (N - (g + 1)) + 196 ≤ B) (ha : 2 ≤ a) (ha' : a ≤ 4) (hb : b ≤ 3 + g) (hs : sz < 100) (hZ : tq_Z (vc, al, ll, ac, lc, ph, cu, cf, M, oc, W, K, S, ob)) (x12 x15 : Int32) : wL_law_396 post L xs J84 J322 (nI k) (nI v) (nI sz) (nI a) (nI b) (nI r) x12 (nI g) x15 kc ks vc al ll ac lc ph cu cf M oc W K S ob := by
  unfold wL_law_396
  refine br_c (fun _ => ?_) (fun _ => tw_573 hv hv' hL hB hJ (by omega) ha ha' (by omega) hs hZ)
  refine tl_cell hL (by omega) (fun x => nm_r (nI_1 k) (tl_mix a (by omega) (by omega) (fun j _ => br_c (fun _ => ?_) (fun _ => br_c (fun _ => br_c (fun _ => ?_) (fun _ => ?_)) (fun _ => ?_)))))
  · refine tl_cell hL (by omega) (fun x => nm_r (nI_1 (k + 1)) (tl_mix 4 (by omega) (by omega) (fun j _ => br_c (fun _ => ?_) (fun _ => ?_))))
    · exact tw_467 hv hv' hL hB hJ hJ' hgN hN (by omega) ha ha' hb hs hZ _ _ _ _
    · exact tw_467 hv hv' hL hB hJ hJ' hgN hN (by omega) ha ha' hb hs hZ _ _ _ _
  · unfold wL_law_466
    exact tw_467 hv hv' hL hB hJ hJ' hgN hN (by omega) ha ha' hb hs hZ _ _ _ _
  · exact tw_467 hv hv' hL hB hJ hJ' hgN hN (by omega) ha ha' hb hs hZ _ _ _ _
  · unfold wL_law_466
    exact tw_467 hv hv' hL hB hJ hJ' hgN hN (by omega) ha ha' hb hs hZ _ _ _ _
theorem tw_351 (hv : 4 ≤ v) (hv' : v ≤ 6) (hL : L ≤ 260) (hB : B < 100000) (hJ : tq_HJ J84 r B) (hJ' : tq_H13 J322 g N B) (hgN : g < N) (hN : N ≤ 16) (hk : k + 3 + 4 * (N - (g + 1)) + 196 ≤ B) (ha : 2 ≤ a) (ha' : a ≤ 4) (hb : b ≤ 3 + g) (hs : sz < 100) (hZ : tq_Z (vc, al, ll, ac, lc, ph, cu, cf, M, oc, W, K, S, ob)) (x12 x14 : Int32) : ∀ (d x fu : Nat) (x15 : Int32), x + d = sz → d < fu → wL_law_351 post L xs J84 J322 (nI k) (nI v) (nI sz) (nI a) (nI b) (nI r) x12 (nI g) x14 kc ks vc al ll ac lc ph cu cf M oc W K S ob fu x15 (nI x) := by
  intro d
  induction d with
  | zero =>
    intro x fu x15 hx hf
    obtain ⟨fu, rfl⟩ : ∃ k, fu = k + 1 := ⟨fu - 1, by omega⟩
    exact br_t (nI_le (by omega) (by omega)) (tw_396 hv hv' hL hB hJ hJ' hgN hN hk ha ha' hb hs hZ _ _)
  | succ d ih =>
    intro x fu x15 hx hf
    obtain ⟨fu, rfl⟩ : ∃ k, fu = k + 1 := ⟨fu - 1, by omega⟩
    refine br_f (nI_ge (by omega) (by omega)) (br_c (fun _ => tw_396 hv hv' hL hB hJ hJ' hgN hN hk ha ha' hb hs hZ _ _) (fun _ => nm_e ?_))
    have n0 := ih (x + 1) fu x15 (by omega) (by omega)
    have n1 := fun y => ih (x + 1) fu y (by omega) (by omega)
    obtain ⟨V, A, Lm, n, m, cu', ph', cf', W', K', S', M', oc', ob', e, hQ⟩ := hZ
    rw [Prod.mk.injEq, Prod.mk.injEq, Prod.mk.injEq, Prod.mk.injEq, Prod.mk.injEq, Prod.mk.injEq, Prod.mk.injEq, Prod.mk.injEq, Prod.mk.injEq, Prod.mk.injEq, Prod.mk.injEq, Prod.mk.injEq, Prod.mk.injEq] at e
    obtain ⟨rfl, rfl, rfl, rfl, rfl, rfl, rfl, rfl, rfl, rfl, rfl, rfl, rfl, rfl⟩ := e
    exact tq_holds (w := 0) hQ (by omega) _ (fun _ => br_f (by decide) (nm_r (nI_1 x) (n1 _))) (br_t rfl (nm_r (nI_1 x) n0))
theorem tw_322 (hv : 4 ≤ v) (hv' : v ≤ 6) (hL : L ≤ 260) (hB : B < 100000) (hJ : tq_HJ J84 r B) (hN : N ≤ 16) (ha : 2 ≤ a) (ha' : a ≤ 4) (hs0 : 0 < sz) (hs : sz < 100) : ∀ (d g fu k b : Nat) (vc al ll ac lc ph cu cf M oc : Int32) (W K S ob : Nat → Int32), tq_Z (vc, al, ll, ac, lc, ph, cu, cf, M, oc, W, K, S, ob) → g + d = N → d < fu → k + 4 * (N - g) + 196 ≤ B → b ≤ 3 + g → wL_law_322 post L xs J84 (nI v) (nI sz) (nI a) (nI r) (nI N) kc ks fu (nI k) (nI b) (nI g) vc al ll ac lc ph cu cf M oc W K S ob := by
  intro d
  induction d with
  | zero =>
    intro g fu k b vc al ll ac lc ph cu cf M oc W K S ob hZ hg hf hk hb
    obtain ⟨fu, rfl⟩ : ∃ k, fu = k + 1 := ⟨fu - 1, by omega⟩
    exact br_t (nI_le (by omega) (by omega)) (tw_573 hv hv' hL hB hJ (by omega) ha ha' (by omega) hs hZ)
  | succ d ih =>
    intro g fu k b vc al ll ac lc ph cu cf M oc W K S ob hZ hg hf hk hb
    obtain ⟨fu, rfl⟩ : ∃ k, fu = k + 1 := ⟨fu - 1, by omega⟩
    have hJ' : tq_H13 (wL_law_322 post L xs J84 (nI v) (nI sz) (nI a) (nI r) (nI N) kc ks fu) g N B := by
      intro k b vc al ll ac lc ph cu cf M oc W K S ob h1 h2 h3
      exact ih (g + 1) fu k b _ _ _ _ _ _ _ _ _ _ _ _ _ _ h3 (by omega) (by omega) (by omega) (by omega)
    refine br_f (nI_ge (by omega) (by omega)) ?_
    refine tl_cell hL (by omega) (fun x => nm_r (nI_1 k) (tl_mix sz hs0 (by omega) (fun j _ => ⟨sz + 1, ?_⟩)))
    exact tw_351 hv hv' hL hB hJ hJ' (by omega) hN (by omega) ha ha' hb hs hZ _ _ sz 0 (sz + 1) _ (by omega) (by omega)
theorem tw_254 {J149 : tq_J13} {i : Nat} (hJ' : ∀ {b : Nat} {vc al ll ac lc ph cu cf M oc : Int32} {W K S ob : Nat → Int32}, b ≤ i + 1 → tq_Z (vc, al, ll, ac, lc, ph, cu, cf, M, oc, W, K, S, ob) → J149 (nI k) (nI b) (nI (i + 1)) vc al ll ac lc ph cu cf M oc W K S ob) (hb : b ≤ i) (hZ : tq_Z (vc, al, ll, ac, lc, ph, cu, cf, M, oc, W, K, S, ob)) (x2 x6 x8 x10 x11 x13 x14 x15 z0 : Int32) : wL_law_254 post L xs J84 J149 (nI k) x2 x6 x8 (nI b) x10 x11 (nI i) x13 x14 x15 z0 kc ks vc al ll ac lc ph cu cf M oc W K S ob := by
  unfold wL_law_254
  refine tq_axiom hZ (fun q u' hZ' => ?_) _ _ _ _
  obtain ⟨vc, al, ll, ac, lc, ph, cu, cf, M, oc, W, K, S, ob⟩ := u'
  exact br_c (fun _ => nm_r (nI_1 i) (hJ' (by omega) hZ')) (fun _ => nm_r (nI_1 b) (nm_r (nI_1 i) (hJ' (by omega) hZ')))
theorem tw_149 {lo : Nat} (hlo : lo ≤ 3) (hv : 4 ≤ v) (hv' : v ≤ 6) (hL : L ≤ 260) (hB : B < 100000) (hJ : tq_HJ J84 r B) (ha : 2 ≤ a) (ha' : a ≤ 4) (hs0 : 0 < sz) (hs : sz < 100) : ∀ (d i fu k b : Nat) (vc al ll ac lc ph cu cf M oc : Int32) (W K S ob : Nat → Int32), tq_Z (vc, al, ll, ac, lc, ph, cu, cf, M, oc, W, K, S, ob) → i + d = lo → d < fu → k + 5 * (lo - i) + 2 + 64 + 196 ≤ B → b ≤ i → wL_law_149 post L xs J84 (nI v) (nI sz) (nI a) (nI r) (nI lo) kc ks fu (nI k) (nI b) (nI i) vc al ll ac lc ph cu cf M oc W K S ob := by
  intro d
  induction d with
  | zero =>
    intro i fu k b vc al ll ac lc ph cu cf M oc W K S ob hZ hi hf hk hb
    obtain ⟨fu, rfl⟩ : ∃ k, fu = k + 1 := ⟨fu - 1, by omega⟩
    refine br_t (nI_le (by omega) (by omega)) ?_
    refine tl_cell hL (by omega) (fun x => nm_r (nI_1 k) (tl_mix 6 (by omega) (by omega) (fun j _ => br_c (fun _ => ?_) (fun _ => ⟨17, ?_⟩))))
    · refine tl_cell hL (by omega) (fun x => nm_r (nI_1 (k + 1)) (tl_mix 6 (by omega) (by omega) (fun N hN => ⟨N + 1, ?_⟩)))
      exact tw_322 hv hv' hL hB hJ (by omega) ha ha' hs0 hs N 0 (N + 1) (k + 1 + 1) b _ _ _ _ _ _ _ _ _ _ _ _ _ _ hZ (by omega) (by omega) (by omega) (by omega)
    · exact tw_322 (N := 16) hv hv' hL hB hJ (by omega) ha ha' hs0 hs 16 0 17 (k + 1) b _ _ _ _ _ _ _ _ _ _ _ _ _ _ hZ (by omega) (by omega) (by omega) (by omega)
  | succ d ih =>
    intro i fu k b vc al ll ac lc ph cu cf M oc W K S ob hZ hi hf hk hb
    obtain ⟨fu, rfl⟩ : ∃ k, fu = k + 1 := ⟨fu - 1, by omega⟩
    have hJ' : ∀ k', k' + 5 * (lo - (i + 1)) + 2 + 64 + 196 ≤ B → ∀ {b : Nat} {vc al ll ac lc ph cu cf M oc : Int32} {W K S ob : Nat → Int32}, b ≤ i + 1 → tq_Z (vc, al, ll, ac, lc, ph, cu, cf, M, oc, W, K, S, ob) → wL_law_149 post L xs J84 (nI v) (nI sz) (nI a) (nI r) (nI lo) kc ks fu (nI k') (nI b) (nI (i + 1)) vc al ll ac lc ph cu cf M oc W K S ob := by
      intro k' h0 b vc al ll ac lc ph cu cf M oc W K S ob h1 h2
      exact ih (i + 1) fu k' b _ _ _ _ _ _ _ _ _ _ _ _ _ _ h2 (by omega) (by omega) (by omega) (by omega)
    have e2 : (2 : Int32) * nI v = nI (2 * v) := pk_mul 2 v
    refine br_f (nI_ge (by omega) (by omega)) ?_
    refine tl_cell hL (by omega) (fun x => nm_r (nI_1 k) (tl_mix (2 * v) (by omega) (by omega) (fun j _ => tl_signed (fun q => ?_)) e2))
    refine tl_cell hL (by omega) (fun x => nm_r (nI_1 (k + 1)) (tl_mix (2 * v) (by omega) (by omega) (fun j _ => tl_signed (fun q => ?_)) e2))
    refine tl_cell hL (by omega) (fun x => nm_r (nI_1 (k + 1 + 1)) (tl_mix (2 * v) (by omega) (by omega) (fun j _ => tl_signed (fun q => ?_)) e2))
    refine tl_cell hL (by omega) (fun x => nm_r (nI_1 (k + 1 + 1 + 1)) (tl_mix 2 (by omega) (by omega) (fun j _ => br_c (fun _ => ?_) (fun _ => ?_))))
    · exact tw_254 (hJ' _ (by omega)) hb hZ _ _ _ _ _ _ _ _ _
    · refine tl_cell hL (by omega) (fun x => nm_r (nI_1 (k + 1 + 1 + 1 + 1)) (tl_mix (2 * v) (by omega) (by omega) (fun j _ => tl_signed (fun q => ?_)) e2))
      exact tw_254 (hJ' _ (by omega)) hb hZ _ _ _ _ _ _ _ _ _
theorem tc_half : ∀ j, j < 4 → ∃ a, 2 ≤ a ∧ a ≤ 4 ∧ (2 : Int32) + ((nI j + 1) / 2) = nI a := by
  intro j hj
  have hj4 : j = 0 ∨ j = 1 ∨ j = 2 ∨ j = 3 := by omega
  rcases hj4 with rfl | rfl | rfl | rfl
  · exact ⟨2, by omega, by omega, by decide⟩
  · exact ⟨3, by omega, by omega, by decide⟩
  · exact ⟨3, by omega, by omega, by decide⟩
  · exact ⟨4, by omega, by omega, by decide⟩
theorem tw_102 (hv : 4 ≤ v) (hv' : v ≤ 6) (hL : L ≤ 260) (hB : B < 100000) (hJ : tq_HJ J84 r B) (hk : k + 300 ≤ B) (ha : 2 ≤ a) (ha' : a ≤ 4) (hb : b ≤ 19) (hs0 : 0 < sz) (hs : sz < 100) (hZ : tq_Z (vc, al, ll, ac, lc, ph, cu, cf, M, oc, W, K, S, ob)) : wL_law_102 post L xs J84 (nI k) (nI v) (nI sz) x7 (nI a) (nI b) (nI r) kc ks vc al ll ac lc ph cu cf M oc W K S ob := by
  unfold wL_law_102
  refine br_c (fun _ => tw_573 hv hv' hL hB hJ (by omega) ha ha' hb hs hZ) (fun _ => ?_)
  refine tl_cell hL (by omega) (fun x => nm_r (nI_1 k) (tl_mix 4 (by omega) (by omega) (fun j hj => ⟨by decide, ?_⟩)))
  obtain ⟨a2, p1, p2, p3⟩ := tc_half j hj
  refine nm_r p3 ?_
  refine tl_cell hL (by omega) (fun x => nm_r (nI_1 (k + 1)) (tl_mix 4 (by omega) (by omega) (fun lo hlo => ⟨lo + 1, ?_⟩)))
  exact tw_149 (by omega) hv hv' hL hB hJ p1 p2 hs0 hs lo 0 (lo + 1) (k + 1 + 1) 0 _ _ _ _ _ _ _ _ _ _ _ _ _ _ hZ (by omega) (by omega) (by omega) (by omega)
theorem tw_84 (hp : post 1) (hv : 4 ≤ v) (hv' : v ≤ 6) (hL : L ≤ 260) (hs0 : 0 < sz) (hs : sz < 100) : ∀ (d r fu k a b : Nat) (x7 vc al ll ac lc ph cu cf M oc : Int32) (W K S ob : Nat → Int32), tq_Z (vc, al, ll, ac, lc, ph, cu, cf, M, oc, W, K, S, ob) → r + d = 4 → d < fu → k ≤ 3 + 300 * r → 2 ≤ a → a ≤ 4 → b ≤ 19 → wL_law_84 post L xs (nI v) (nI sz) kc ks fu (nI k) x7 (nI a) (nI b) (nI r) vc al ll ac lc ph cu cf M oc W K S ob := by
  intro d
  induction d with
  | zero =>
    intro r fu k a b x7 vc al ll ac lc ph cu cf M oc W K S ob hZ hr hf hk ha ha' hb
    obtain ⟨fu, rfl⟩ : ∃ k, fu = k + 1 := ⟨fu - 1, by omega⟩
    have e : r = 4 := by omega
    subst e
    exact br_t (nI_le (a := 4) (b := 4) (by omega) (by omega)) hp
  | succ d ih =>
    intro r fu k a b x7 vc al ll ac lc ph cu cf M oc W K S ob hZ hr hf hk ha ha' hb
    obtain ⟨fu, rfl⟩ : ∃ k, fu = k + 1 := ⟨fu - 1, by omega⟩
    have hJ : tq_HJ (wL_law_84 post L xs (nI v) (nI sz) kc ks fu) r (3 + 300 * (r + 1)) := by
      intro k a b x7 vc al ll ac lc ph cu cf M oc W K S ob h1 h2 h3 h4 h5
      exact ih (r + 1) fu k a b x7 _ _ _ _ _ _ _ _ _ _ _ _ _ _ h5 (by omega) (by omega) h1 h2 h3 h4
    have go := tw_102 (post := post) (L := L) (xs := xs) (kc := kc) (ks := ks) (x7 := x7) hv hv' hL (by omega) hJ (by omega : k + 300 ≤ 3 + 300 * (r + 1)) ha ha' hb hs0 hs hZ
    exact br_f (nI_ge (b := 4) (by omega) (by decide)) (br_c (fun _ => go) (fun _ => br_c (fun _ => hp) (fun _ => go)))
end
theorem tc_sz : ∀ v, v < 7 → ((1 : Int32) <<< (nI v &&& 31)) = nI (2 ^ v) := by decide +kernel
theorem i_vc (xs : Nat → Int32) (L : Nat) (hL : L ≤ 260) : wpL_law (fun r => r = 1) L xs := by
  unfold wpL_law
  refine tl_cell (k := 0) hL (by omega) (fun x => nm_r (e' := nI 1) (by decide) (tl_mix 3 (by omega) (by omega) (fun v hv => nm_r (e' := nI (4 + v)) (nI_add 4 v) ?_)))
  refine tl_cell hL (by omega) (fun x => nm_r (nI_1 1) (tl_mix 3 (by omega) (by omega) (fun p hp => nm_r (e' := nI (11 + p)) (nI_add 11 p) ?_)))
  refine tl_cell hL (by omega) (fun x => nm_r (nI_1 2) (tl_mix 6 (by omega) (by omega) (fun q hq => nm_r (e' := nI (8 + q)) (nI_add 8 q) ?_)))
  refine ⟨4, 168, by omega, by omega, ?_⟩
  obtain ⟨V, v1, v2, hV⟩ := tc_clm (nI (4 + v)) 8 (by omega) (by omega)
  obtain ⟨A, a1, a2, hA⟩ := tc_clm (nI (11 + p)) 12 (by omega) (by omega)
  obtain ⟨Lm, l1, l2, hLm⟩ := tc_clm (nI (8 + q)) 12 (by omega) (by omega)
  have fin : tq_Z (nI V, nI A, nI Lm, 0, 0, 0, 0, (-1), 0, 0, (fun _ => 0), (fun _ => 0), (fun _ => 0), (fun _ => 0)) :=
    tq_mk (n := 0) (m := 0) (cu := 0) ⟨⟨⟨v1, v2⟩, ⟨by omega, by omega⟩, fun i hi => absurd hi (by omega), fun i _ h2 => absurd h2 (by omega), fun i hi => absurd hi (by omega), fun i _ h2 => absurd h2 (by omega)⟩, ⟨by omega, a2, by omega, l2⟩, fun i _ h => by rw [b_0] at h; exact absurd h (by decide), by omega, Or.inl rfl⟩
  have szv : 2 ^ (4 + v) < 100 ∧ 0 < 2 ^ (4 + v) := by
    have hv3 : v = 0 ∨ v = 1 ∨ v = 2 := by omega
    rcases hv3 with rfl | rfl | rfl <;> decide
  have last : ∃ fu84 : Nat, wL_law_84 (fun r => r = 1) L xs (nI (4 + v)) (nI (2 ^ (4 + v))) (1 + 4) (14 + 168) fu84 (nI 3) 1 3 0 0 (nI V) (nI A) (nI Lm) 0 0 0 0 (-1) 0 0 (fun _ => 0) (fun _ => 0) (fun _ => 0) (fun _ => 0) :=
    ⟨5, tw_84 (post := fun r => r = 1) (v := 4 + v) (sz := 2 ^ (4 + v)) rfl (by omega) (by omega) hL szv.2 szv.1 4 0 5 3 3 0 1 _ _ _ _ _ _ _ _ _ _ _ _ _ _ fin (by omega) (by omega) (by omega) (by omega) (by omega) (by omega)⟩
  unfold wpX_init
  refine ⟨by omega, by omega, by omega, by omega, by omega, by omega, by omega, by omega, ?_⟩
  refine tc_cl3 (P := fun r_17 => wpX_clamp (fun r_18 => (wpX_clamp (fun r_19 => ∀ y, y = (1 : Int32) <<< (nI (4 + v) &&& 31) → ∃ fu84 : Nat, wL_law_84 (fun r => r = 1) L xs (nI (4 + v)) y (1 + 4) (14 + 168) fu84 (nI 3) 1 3 0 0 r_17 r_18 r_19 0 0 0 0 (-1) 0 0 (fun _ => 0) (fun _ => 0) (fun _ => 0) (fun _ => 0)) () (nI (8 + q)) 12)) () (nI (11 + p)) 12) hV ?_
  refine tc_cl3 (P := fun r_18 => (wpX_clamp (fun r_19 => ∀ y, y = (1 : Int32) <<< (nI (4 + v) &&& 31) → ∃ fu84 : Nat, wL_law_84 (fun r => r = 1) L xs (nI (4 + v)) y (1 + 4) (14 + 168) fu84 (nI 3) 1 3 0 0 (nI V) r_18 r_19 0 0 0 0 (-1) 0 0 (fun _ => 0) (fun _ => 0) (fun _ => 0) (fun _ => 0)) () (nI (8 + q)) 12)) hA ?_
  refine tc_cl3 (P := fun r_19 => ∀ y, y = (1 : Int32) <<< (nI (4 + v) &&& 31) → ∃ fu84 : Nat, wL_law_84 (fun r => r = 1) L xs (nI (4 + v)) y (1 + 4) (14 + 168) fu84 (nI 3) 1 3 0 0 (nI V) (nI A) r_19 0 0 0 0 (-1) 0 0 (fun _ => 0) (fun _ => 0) (fun _ => 0) (fun _ => 0)) hLm ?_
  exact nm_r (tc_sz (4 + v) (by omega)) last
