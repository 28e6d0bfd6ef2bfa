/-! ===== the law, from its end backwards ===== -/
abbrev tq_J15 : Type := Int32 → Int32 → Int32 → Int32 → Int32 → Int32 → Int32 → Int32 → Int32 → Int32 → Int32 → Int32 → Int32 → Int32 → Int32 → (Nat → Int32) → (Nat → Int32) → (Nat → Int32) → (Nat → Int32) → Prop
abbrev tq_J13 : Type := Int32 → Int32 → Int32 → Int32 → Int32 → Int32 → Int32 → Int32 → Int32 → Int32 → Int32 → Int32 → Int32 → (Nat → Int32) → (Nat → Int32) → (Nat → Int32) → (Nat → Int32) → Prop
abbrev tq_J12 : Type := Int32 → Int32 → Int32 → Int32 → Int32 → Int32 → Int32 → Int32 → Int32 → Int32 → Int32 → Int32 → (Nat → Int32) → (Nat → Int32) → (Nat → Int32) → (Nat → Int32) → Prop
/-- what the next round asks: the place in the script, the two counts, any state that keeps the invariant -/
def tq_HJ (J84 : tq_J15) (r B : Nat) : Prop := ∀ {k a b : Nat} {x7 vc al ll ac lc ph cu cf M oc : Int32} {W K S ob : Nat → Int32}, k ≤ B → 2 ≤ a → a ≤ 4 → b ≤ 19 → tq_Z (vc, al, ll, ac, lc, ph, cu, cf, M, oc, W, K, S, ob) → J84 (nI k) x7 (nI a) (nI b) (nI (r + 1)) vc al ll ac lc ph cu cf M oc W K S ob
def tq_H12 (J : tq_J12) (i B : Nat) : Prop := ∀ {k : Nat} {vc al ll ac lc ph cu cf M oc : Int32} {W K S ob : Nat → Int32}, k + 8 * (24 - (i + 1)) + 3 ≤ B → tq_Z (vc, al, ll, ac, lc, ph, cu, cf, M, oc, W, K, S, ob) → J (nI k) (nI (i + 1)) vc al ll ac lc ph cu cf M oc W K S ob
theorem tl_cell {post : Int32 → Prop} {L : Nat} {xs : Nat → Int32} {k : Nat} (hL : L ≤ 260) (hk : k < 2 ^ 31) (h : ∀ x, post x) : wpL_cell post L xs () (nI k) := by
  refine br_c (fun _ => h 0) (fun c => ⟨?_, h _⟩)
  have c' : ¬ nI L ≤ nI k := c
  rw [nI_leI (by omega) hk] at c'
  exact vp_in_nI (by omega) (by omega)
theorem tl_mix {post : Int32 → Prop} {c k p : Int32} (m : Nat) (h0 : 0 < m) (hm : m < 2 ^ 31) (h : ∀ j, j < m → post (nI j)) (e : p = nI m := by rfl) : wpL_mix post () c k p := by
  subst e
  intro x3 _ y3 _ z3 _
  refine ⟨nI_ne0 h0 hm, ?_⟩
  rw [pk_and (m := 2147483647) _ 31 (by decide), pk_rem (Nat.mod_lt _ (by decide)) h0 hm]
  exact h _ (Nat.mod_lt _ h0)
theorem tl_signed {post : Int32 → Prop} {p : Int32} (h : ∀ r, post r) : wpL_signed post () p := br_c (fun _ => ⟨by decide, h _⟩) (fun _ => ⟨by decide, h _⟩)
theorem tl_fals {post : Int32 → Prop} {p q : Int32} (h : ∀ r, post r) : wpL_falsified post () p q := br_c (fun _ => h _) (fun _ => h _)
theorem tl_in {post : Int32 → Prop} {p a b c d : Int32} (h : ∀ r, post r) : wpL_in post () p a b c d := br_c (fun _ => h _) (fun _ => br_c (fun _ => h _) (fun _ => br_c (fun _ => h _) (fun _ => br_c (fun _ => h _) (fun _ => br_c (fun _ => h _) (fun _ => h _)))))
section
variable {post : Int32 → Prop} {L : Nat} {xs : Nat → Int32} {J84 : tq_J15} {kc ks r B k a b : Nat} {x2 x6 x7 vc al ll ac lc ph cu cf M oc : Int32} {W K S ob : Nat → Int32}
theorem tw_1304 (hJ : tq_HJ J84 r B) (hk : k ≤ B) (ha : 2 ≤ a) (ha' : a ≤ 4) (hb : b ≤ 19) (hZ : tq_Z (vc, al, ll, ac, lc, ph, cu, cf, M, oc, W, K, S, ob)) (z0 : Int32) : wL_law_1304 post L xs J84 (nI k) x2 x6 x7 (nI a) (nI b) (nI r) z0 kc ks vc al ll ac lc ph cu cf M oc W K S ob := by
  unfold wL_law_1304
  refine tq_rewind hZ (fun q u' hZ' => ?_) z0
  obtain ⟨vc, al, ll, ac, lc, ph, cu, cf, M, oc, W, K, S, ob⟩ := u'
  exact nm_r (nI_1 r) (hJ hk ha ha' hb hZ')
theorem tw_1275 (hL : L ≤ 260) (hB : B < 100000) (hJ : tq_HJ J84 r B) (hk : k + 1 ≤ B) (ha : 2 ≤ a) (ha' : a ≤ 4) (hb : b ≤ 19) (hZ : tq_Z (vc, al, ll, ac, lc, ph, cu, cf, M, oc, W, K, S, ob)) {t : Nat} (ht : t ≤ 12) (z0 : Int32) : wL_law_1275 post L xs J84 (nI k) x2 x6 (nI a) (nI b) (nI r) (nI t) z0 kc ks vc al ll ac lc ph cu cf M oc W K S ob := by
  unfold wL_law_1275
  refine br_c (fun _ => tl_cell hL (by omega) (fun x => nm_r (nI_1 k) (tl_mix (t + 1) (by omega) (by omega) (fun j _ => ?_) (nI_1 t)))) (fun _ => ?_)
  · exact tw_1304 hJ (by omega) ha ha' hb hZ _
  · exact tw_1304 hJ (by omega) ha ha' hb hZ _
theorem tw_1254 (hL : L ≤ 260) (hB : B < 100000) (hJ : tq_HJ J84 r B) (hk : k + 2 ≤ B) (ha : 2 ≤ a) (ha' : a ≤ 4) (hb : b ≤ 19) (hZ : tq_Z (vc, al, ll, ac, lc, ph, cu, cf, M, oc, W, K, S, ob)) {t : Nat} (ht : t ≤ 12) : wL_law_1254 post L xs J84 (nI k) x2 x6 (nI a) (nI b) (nI r) (nI t) kc ks vc al ll ac lc ph cu cf M oc W K S ob := by
  unfold wL_law_1254
  refine tl_cell hL (by omega) (fun x => nm_r (nI_1 k) (tl_mix 2 (by omega) (by omega) (fun j _ => br_c (fun _ => ?_) (fun _ => ?_))))
  · exact tw_1275 hL hB hJ (by omega) ha ha' hb hZ ht _
  · exact tw_1275 hL hB hJ (by omega) ha ha' hb hZ ht _
theorem tw_1209 {V A Lm n m c t sz : Nat} {x14 : Int32} (hL : L ≤ 260) (hB : B < 100000) (hJ : tq_HJ J84 r B) (hk : k + 2 ≤ B) (ha : 2 ≤ a) (ha' : a ≤ 4) (hb : b ≤ 19) (hQ : tq_Q V A Lm n m 0 2 cf W K S M) (hc : c ≤ m) (hA : tc_A n W K S M 0 c) (ht : t ≤ 12) (hs : sz < 100) : ∀ (d i fu : Nat), i + d = sz → d < fu → wL_law_1209 post L xs J84 (nI k) x2 (nI sz) (nI a) (nI b) (nI r) (nI t) x14 kc ks (nI V) (nI A) (nI Lm) (nI n) (nI m) 2 (nI 0) cf M oc W K S ob fu (nI i) := by
  intro d
  induction d with
  | zero =>
    intro i fu hi hf
    obtain ⟨fu, rfl⟩ : ∃ k, fu = k + 1 := ⟨fu - 1, by omega⟩
    exact br_t (nI_le (by omega) (by omega)) (tw_1254 hL hB hJ hk ha ha' hb (tq_mk hQ) ht)
  | succ d ih =>
    intro i fu hi hf
    obtain ⟨fu, rfl⟩ : ∃ k, fu = k + 1 := ⟨fu - 1, by omega⟩
    refine br_f (nI_ge (by omega) (by omega)) ?_
    refine tq_holdsA (w := 0) hQ hc hA (by omega) _ (br_t rfl ?_)
    refine tq_holdsA (w := 2) hQ hc hA (by omega) _ (br_t rfl ?_)
    exact nm_r (nI_1 i) (ih (i + 1) fu (by omega) (by omega))
theorem tw_1152 {t sz : Nat} (hL : L ≤ 260) (hB : B < 100000) (hJ : tq_HJ J84 r B) (hk : k + 3 ≤ B) (ha : 2 ≤ a) (ha' : a ≤ 4) (hb : b ≤ 19) (hZ : tq_Z (vc, al, ll, ac, lc, ph, cu, cf, M, oc, W, K, S, ob)) (ht : t ≤ 12) (hs : sz < 100) : wL_law_1152 post L xs J84 (nI k) x2 (nI sz) (nI a) (nI b) (nI r) (nI t) kc ks vc al ll ac lc ph cu cf M oc W K S ob := by
  have hZ' := hZ
  obtain ⟨V, A, Lm, n, m, cu', ph', cf', W', K', S', M', oc', ob', e, hQ⟩ := hZ
  injection e with e1 e
  injection e with e2 e
  injection e with e3 e
  injection e with e4 e
  injection e with e5 e
  injection e with e6 e
  injection e with e7 e
  injection e with e8 e
  injection e with e9 e
  injection e with e10 e
  injection e with e11 e
  injection e with e12 e
  injection e with e13 e14
  subst e1 e2 e3 e4 e5 e6 e7 e8 e9 e10 e11 e12 e13 e14
  unfold wL_law_1152
  refine br_c (fun cp => ?_) (fun cp => tw_1254 hL hB hJ (by omega) ha ha' hb hZ' ht)
  subst cp
  obtain ⟨hcu, c, hc, _, ec, hA⟩ : cu' = 0 ∧ ∃ c, c ≤ m ∧ cu' ≤ c ∧ cf = nI c ∧ tc_A n W K S M cu' c := by
    rcases hQ.2.2.2.2 with z | z | ⟨⟨z, _⟩ | ⟨_, z⟩, h⟩
    · exact absurd z (by decide)
    · exact absurd z (by decide)
    · exact absurd z (by decide)
    · exact ⟨z, h⟩
  subst hcu
  unfold wpX_conflict
  dsimp only
  refine tq_forwardA (w := 1) hQ hc hA (Or.inl rfl) (fun oc ob => br_t ec.symm ?_)
  refine tq_forwardA (w := 2) hQ hc hA (Or.inr rfl) (fun oc ob => br_t ec.symm ?_)
  refine nm_r (nI_1 k) (tl_cell hL (by omega) (fun x => nm_e ⟨sz + 1, ?_⟩))
  exact tw_1209 hL hB hJ (by omega) ha ha' hb hQ hc hA ht hs sz 0 (sz + 1) (by omega) (by omega)
theorem tw_1124 {t sz : Nat} (hL : L ≤ 260) (hB : B < 100000) (hJ : tq_HJ J84 r B) (hk : k + 3 ≤ B) (ha : 2 ≤ a) (ha' : a ≤ 4) (hb : b ≤ 19) (ht : t ≤ 12) (hs : sz < 100) : ∀ (d i fu : Nat) (vc al ll ac lc ph cu cf M oc : Int32) (W K S ob : Nat → Int32), tq_Z (vc, al, ll, ac, lc, ph, cu, cf, M, oc, W, K, S, ob) → i + d = 14 → d < fu → wL_law_1124 post L xs J84 (nI k) x2 (nI sz) (nI a) (nI b) (nI r) (nI t) kc ks fu (nI i) vc al ll ac lc ph cu cf M oc W K S ob := by
  intro d
  induction d with
  | zero =>
    intro i fu vc al ll ac lc ph cu cf M oc W K S ob hZ hi hf
    obtain ⟨fu, rfl⟩ : ∃ k, fu = k + 1 := ⟨fu - 1, by omega⟩
    have e : i = 14 := by omega
    subst e
    exact br_t (nI_le (a := 14) (b := 14) (by omega) (by omega)) (tw_1152 hL hB hJ hk ha ha' hb hZ ht hs)
  | succ d ih =>
    intro i fu vc al ll ac lc ph cu cf M oc W K S ob hZ hi hf
    obtain ⟨fu, rfl⟩ : ∃ k, fu = k + 1 := ⟨fu - 1, by omega⟩
    refine br_f (nI_ge (b := 14) (by omega) (by decide)) ?_
    refine br_c (fun _ => tq_back hZ (fun q u' hZ' => ?_)) (fun _ => tw_1152 hL hB hJ hk ha ha' hb hZ ht hs)
    obtain ⟨vc, al, ll, ac, lc, ph, cu, cf, M, oc, W, K, S, ob⟩ := u'
    exact nm_r (nI_1 i) (ih (i + 1) fu _ _ _ _ _ _ _ _ _ _ _ _ _ _ hZ' (by omega) (by omega))
theorem tq_cur (hZ : tq_Z (vc, al, ll, ac, lc, ph, cu, cf, M, oc, W, K, S, ob)) : ∃ t, t ≤ 12 ∧ cu = nI t := by
  obtain ⟨V, A, Lm, n, m, cu', ph', cf', W', K', S', M', oc', ob', e, hQ⟩ := hZ
  injection e with e1 e
  injection e with e2 e
  injection e with e3 e
  injection e with e4 e
  injection e with e5 e
  injection e with e6 e
  injection e with e7 e
  have h1 := hQ.1.2.1
  have h2 := hQ.2.2.2.1
  exact ⟨cu', by omega, e7⟩
theorem tw_1108 {sz : Nat} (hL : L ≤ 260) (hB : B < 100000) (hJ : tq_HJ J84 r B) (hk : k + 3 ≤ B) (ha : 2 ≤ a) (ha' : a ≤ 4) (hb : b ≤ 19) (hZ : tq_Z (vc, al, ll, ac, lc, ph, cu, cf, M, oc, W, K, S, ob)) (hs : sz < 100) : wL_law_1108 post L xs J84 (nI k) x2 (nI sz) (nI a) (nI b) (nI r) kc ks vc al ll ac lc ph cu cf M oc W K S ob := by
  obtain ⟨t, ht, e⟩ := tq_cur hZ
  subst e
  unfold wL_law_1108 wpX_cursor
  dsimp only
  refine tq_seal hZ (fun q u' hZ' => ?_)
  obtain ⟨vc, al, ll, ac, lc, ph, cu, cf, M, oc, W, K, S, ob⟩ := u'
  exact ⟨15, tw_1124 hL hB hJ hk ha ha' hb ht hs 14 0 15 _ _ _ _ _ _ _ _ _ _ _ _ _ _ hZ' (by omega) (by omega)⟩
end
