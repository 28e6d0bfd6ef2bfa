/-! ===== the law: the attempts to add lines ===== -/
section
variable {post : Int32 → Prop} {L : Nat} {xs : Nat → Int32} {J84 : tq_J15} {J599 : tq_J12} {kc ks r B k a b sz i : Nat} {x2 x7 x11 vc al ll ac lc ph cu cf M oc : Int32} {W K S ob : Nat → Int32}
theorem tw_1060 (hJ' : tq_H12 J599 i B) (hk : k + 8 * (24 - (i + 1)) + 3 ≤ B) (hZ : tq_Z (vc, al, ll, ac, lc, ph, cu, cf, M, oc, W, K, S, ob)) (x6 x8 x9 x10 x13 : Int32) : wL_law_1060 post L xs J84 J599 (nI k) x2 x6 x8 x9 x10 x11 (nI i) x13 kc ks vc al ll ac lc ph cu cf M oc W K S ob := by
  unfold wL_law_1060
  refine tq_rewind hZ (fun q u' hZ' => ?_) x13
  obtain ⟨vc, al, ll, ac, lc, ph, cu, cf, M, oc, W, K, S, ob⟩ := u'
  exact nm_r (nI_1 i) (hJ' hk hZ')
theorem tw_1011 (hL : L ≤ 260) (hB : B < 100000) (hJ : tq_HJ J84 r B) (hJ' : tq_H12 J599 i B) (hk : k + 1 + 8 * (24 - (i + 1)) + 3 ≤ B) (ha : 2 ≤ a) (ha' : a ≤ 4) (hb : b ≤ 19) (hs : sz < 100) (hZ : tq_Z (vc, al, ll, ac, lc, ph, cu, cf, M, oc, W, K, S, ob)) (x13 z0 : Int32) : wL_law_1011 post L xs J84 J599 (nI k) x2 (nI sz) (nI a) (nI b) (nI r) x11 (nI i) x13 z0 kc ks vc al ll ac lc ph cu cf M oc W K S ob := by
  unfold wL_law_1011
  refine br_c (fun _ => ?_) (fun _ => tw_1108 hL hB hJ (by omega) ha ha' hb hZ hs)
  refine tq_forward0 hZ (fun q u' hZ' => ?_)
  obtain ⟨vc, al, ll, ac, lc, ph, cu, cf, M, oc, W, K, S, ob⟩ := u'
  refine br_c (fun _ => br_c (fun _ => ?_) (fun _ => tw_1060 hJ' (by omega) hZ' _ _ _ _ _)) (fun _ => br_c (fun _ => nm_r (nI_1 i) (hJ' (by omega) hZ')) (fun _ => br_c (fun _ => nm_r (nI_1 i) (hJ' (by omega) hZ')) (fun _ => ?_)))
  · refine tl_cell hL (by omega) (fun x => nm_r (nI_1 k) (tl_mix 3 (by omega) (by omega) (fun j _ => br_c (fun _ => nm_r (nI_1 i) (hJ' (by omega) hZ')) (fun _ => tw_1060 hJ' (by omega) hZ' _ _ _ _ _))))
  · refine tl_cell hL (by omega) (fun x => nm_r (nI_1 k) (tl_mix 3 (by omega) (by omega) (fun j _ => br_c (fun _ => nm_r (nI_1 i) (hJ' (by omega) hZ')) (fun _ => tw_1108 hL hB hJ (by omega) ha ha' hb hZ' hs))))
theorem tw_975 (hL : L ≤ 260) (hB : B < 100000) (hJ : tq_HJ J84 r B) (hJ' : tq_H12 J599 i B) (hk : k + 1 + 8 * (24 - (i + 1)) + 3 ≤ B) (ha : 2 ≤ a) (ha' : a ≤ 4) (hb : b ≤ 19) (hs : sz < 100) (hZ : tq_Z (vc, al, ll, ac, lc, ph, cu, cf, M, oc, W, K, S, ob)) (x13 x14 x16 x17 z0 : Int32) : wL_law_975 post L xs J84 J599 (nI k) x2 (nI sz) (nI a) (nI b) (nI r) x11 (nI i) x13 x14 x16 x17 z0 kc ks vc al ll ac lc ph cu cf M oc W K S ob := by
  unfold wL_law_975
  refine br_c (fun _ => tq_lemma hZ (fun q u' hZ' => ?_) _ _ _ _) (fun _ => tq_lemma hZ (fun q u' hZ' => ?_) _ _ _ _)
  · obtain ⟨vc, al, ll, ac, lc, ph, cu, cf, M, oc, W, K, S, ob⟩ := u'
    exact tw_1011 hL hB hJ hJ' hk ha ha' hb hs hZ' _ _
  · obtain ⟨vc, al, ll, ac, lc, ph, cu, cf, M, oc, W, K, S, ob⟩ := u'
    exact tw_1011 hL hB hJ hJ' hk ha ha' hb hs hZ' _ _
theorem tw_945 (hL : L ≤ 260) (hB : B < 100000) (hJ : tq_HJ J84 r B) (hJ' : tq_H12 J599 i B) (hk : k + 2 + 8 * (24 - (i + 1)) + 3 ≤ B) (ha : 2 ≤ a) (ha' : a ≤ 4) (hb : b ≤ 19) (hs : sz < 100) (hZ : tq_Z (vc, al, ll, ac, lc, ph, cu, cf, M, oc, W, K, S, ob)) {p : Nat} (hp : 0 < p) (hp2 : p < 100) (x13 x14 x16 z0 : Int32) : wL_law_945 post L xs J84 J599 (nI k) x2 (nI sz) (nI a) (nI b) (nI r) x11 (nI i) x13 x14 (nI p) x16 z0 kc ks vc al ll ac lc ph cu cf M oc W K S ob := by
  unfold wL_law_945
  refine br_c (fun _ => tl_cell hL (by omega) (fun x => nm_r (nI_1 k) (tl_mix p hp (by omega) (fun j _ => tl_signed (fun q => ?_))))) (fun _ => ?_)
  · exact tw_975 hL hB hJ hJ' (by omega) ha ha' hb hs hZ _ _ _ _ _
  · exact tw_975 hL hB hJ hJ' (by omega) ha ha' hb hs hZ _ _ _ _ _
theorem tw_896 (hL : L ≤ 260) (hB : B < 100000) (hJ : tq_HJ J84 r B) (hJ' : tq_H12 J599 i B) (hk : k + 4 + 8 * (24 - (i + 1)) + 3 ≤ B) (ha : 2 ≤ a) (ha' : a ≤ 4) (hb : b ≤ 19) (hs : sz < 100) (hZ : tq_Z (vc, al, ll, ac, lc, ph, cu, cf, M, oc, W, K, S, ob)) {p : Nat} (hp : 0 < p) (hp2 : p < 40) (x13 x14 : Int32) : wL_law_896 post L xs J84 J599 (nI k) x2 (nI sz) (nI a) (nI b) (nI r) x11 (nI i) x13 x14 (nI p) 2 kc ks vc al ll ac lc ph cu cf M oc W K S ob := by
  unfold wL_law_896
  refine nm_r (e' := nI (2 * p)) (pk_mul 2 p) ?_
  refine tl_cell hL (by omega) (fun x => nm_r (nI_1 k) (tl_mix (2 * p) (by omega) (by omega) (fun j _ => tl_signed (fun q => ?_))))
  refine br_c (fun _ => tl_cell hL (by omega) (fun x => nm_r (nI_1 (k + 1)) (tl_mix (2 * p) (by omega) (by omega) (fun j _ => tl_signed (fun q => ?_))))) (fun _ => ?_)
  · exact tw_945 hL hB hJ hJ' (by omega) ha ha' hb hs hZ (by omega) (by omega) _ _ _ _
  · exact tw_945 hL hB hJ hJ' (by omega) ha ha' hb hs hZ (by omega) (by omega) _ _ _ _
theorem tw_856 (hJ' : tq_H12 J599 i B) (hk : k + 8 * (24 - (i + 1)) + 3 ≤ B) (hZ : tq_Z (vc, al, ll, ac, lc, ph, cu, cf, M, oc, W, K, S, ob)) (x6 x8 x9 x10 x18 : Int32) : wL_law_856 post L xs J84 J599 (nI k) x2 x6 x8 x9 x10 x11 (nI i) x18 kc ks vc al ll ac lc ph cu cf M oc W K S ob := by
  unfold wL_law_856
  refine br_c (fun _ => nm_r (nI_1 i) (hJ' hk hZ)) (fun _ => tq_delete hZ (fun q u' hZ' => ?_) _)
  obtain ⟨vc, al, ll, ac, lc, ph, cu, cf, M, oc, W, K, S, ob⟩ := u'
  exact nm_r (nI_1 i) (hJ' hk hZ')
theorem tw_774 {J689 J736 : Int32 → Int32 → Prop} {e : Nat} (hZ : tq_Z (vc, al, ll, ac, lc, ph, cu, cf, M, oc, W, K, S, ob)) {x1 x6 x8 x9 x10 x12 x15 x16 x17 x18 x19 x20 : Int32} (h : ∀ x, J736 x (nI (e + 1))) : ∀ (d s fu : Nat) (x22 : Int32), s + d = 4 → d < fu → wL_law_774 post L xs J84 J599 J689 J736 x1 x2 x6 x8 x9 x10 x11 x12 x15 x16 x17 x18 x19 x20 (nI e) kc ks vc al ll ac lc ph cu cf M oc W K S ob fu x22 (nI s) := by
  intro d
  induction d with
  | zero =>
    intro s fu x22 hs hf
    obtain ⟨fu, rfl⟩ : ∃ k, fu = k + 1 := ⟨fu - 1, by omega⟩
    have es : s = 4 := by omega
    subst es
    exact br_t (nI_le (a := 4) (b := 4) (by omega) (by omega)) (br_c (fun _ => nm_r (nI_1 e) (h _)) (fun _ => nm_r (nI_1 e) (h _)))
  | succ d ih =>
    intro s fu x22 hs hf
    obtain ⟨fu, rfl⟩ : ∃ k, fu = k + 1 := ⟨fu - 1, by omega⟩
    refine br_f (nI_ge (b := 4) (by omega) (by decide)) ?_
    exact tq_word hZ (fun _ => tq_word hZ (fun _ => tq_word hZ (fun _ => tq_word hZ (fun _ => tq_word hZ (fun _ => tl_in (fun _ => nm_e (nm_r (nI_1 s) (ih (s + 1) fu _ (by omega) (by omega))))) _ _) _ _) _ _) _ _) _ _
theorem tw_736 {J689 : Int32 → Int32 → Prop} {p n : Nat} (hn : n < 100) (hZ : tq_Z (vc, al, ll, ac, lc, ph, cu, cf, M, oc, W, K, S, ob)) {x1 x6 x8 x9 x10 x12 x16 x17 x20 : Int32} (h : ∀ x, J689 x (nI (p + 1))) : ∀ (d e fu : Nat) (x18 : Int32), e + d = n → d < fu → wL_law_736 post L xs J84 J599 J689 x1 x2 x6 x8 x9 x10 x11 x12 (nI n) x16 x17 (nI p) x20 kc ks vc al ll ac lc ph cu cf M oc W K S ob fu x18 (nI e) := by
  intro d
  induction d with
  | zero =>
    intro e fu x18 he hf
    obtain ⟨fu, rfl⟩ : ∃ k, fu = k + 1 := ⟨fu - 1, by omega⟩
    exact br_t (nI_le (by omega) (by omega)) (nm_r (nI_1 p) (h _))
  | succ d ih =>
    intro e fu x18 he hf
    obtain ⟨fu, rfl⟩ : ∃ k, fu = k + 1 := ⟨fu - 1, by omega⟩
    refine br_f (nI_ge (by omega) (by omega)) (br_c (fun _ => nm_r (nI_1 p) (h _)) (fun _ => br_c (fun _ => nm_r (nI_1 e) (ih (e + 1) fu _ (by omega) (by omega))) (fun _ => tq_alive hZ (fun q => br_c (fun _ => nm_r (nI_1 e) (ih (e + 1) fu _ (by omega) (by omega))) (fun _ => ⟨5, ?_⟩)) _)))
    exact tw_774 hZ (fun x => ih (e + 1) fu x (by omega) (by omega)) 4 0 5 1 (by omega) (by omega)
theorem tw_689 {n : Nat} (hn : n < 100) (hJ' : tq_H12 J599 i B) (hk : k + 8 * (24 - (i + 1)) + 3 ≤ B) (hZ : tq_Z (vc, al, ll, ac, lc, ph, cu, cf, M, oc, W, K, S, ob)) {x6 x8 x9 x10 x16 x17 : Int32} : ∀ (d p fu : Nat) (x18 : Int32), p + d = n → d < fu → wL_law_689 post L xs J84 J599 (nI k) x2 x6 x8 x9 x10 x11 (nI i) (nI n) x16 x17 kc ks vc al ll ac lc ph cu cf M oc W K S ob fu x18 (nI p) := by
  intro d
  induction d with
  | zero =>
    intro p fu x18 hp hf
    obtain ⟨fu, rfl⟩ : ∃ k, fu = k + 1 := ⟨fu - 1, by omega⟩
    exact br_t (nI_le (by omega) (by omega)) (tw_856 hJ' hk hZ _ _ _ _ _)
  | succ d ih =>
    intro p fu x18 hp hf
    obtain ⟨fu, rfl⟩ : ∃ k, fu = k + 1 := ⟨fu - 1, by omega⟩
    refine br_f (nI_ge (by omega) (by omega)) (br_c (fun _ => tw_856 hJ' hk hZ _ _ _ _ _) (fun _ => ⟨nI_ne0 (by omega) (by omega), nm_e (tq_alive hZ (fun q => br_c (fun _ => nm_r (nI_1 p) (ih (p + 1) fu _ (by omega) (by omega))) (fun _ => br_c (fun _ => ⟨n + 1, ?_⟩) (fun _ => ⟨n + 1, ?_⟩))) _)⟩))
    · exact tw_736 hn hZ (fun x => ih (p + 1) fu x (by omega) (by omega)) n 0 (n + 1) _ (by omega) (by omega)
    · exact tw_736 hn hZ (fun x => ih (p + 1) fu x (by omega) (by omega)) n 0 (n + 1) _ (by omega) (by omega)
theorem tw_599 {v : Nat} (hv : 4 ≤ v) (hv' : v ≤ 6) (hL : L ≤ 260) (hB : B < 100000) (hJ : tq_HJ J84 r B) (ha : 2 ≤ a) (ha' : a ≤ 4) (hb : b ≤ 19) (hs : sz < 100) : ∀ (d i fu k : Nat) (vc al ll ac lc ph cu cf M oc : Int32) (W K S ob : Nat → Int32), tq_Z (vc, al, ll, ac, lc, ph, cu, cf, M, oc, W, K, S, ob) → i + d = 24 → d < fu → k + 8 * (24 - i) + 3 ≤ B → wL_law_599 post L xs J84 (nI v) (nI sz) (nI a) (nI b) (nI r) x11 kc ks fu (nI k) (nI i) vc al ll ac lc ph cu cf M oc W K S ob := by
  intro d
  induction d with
  | zero =>
    intro i fu k vc al ll ac lc ph cu cf M oc W K S ob hZ hi hf hk
    obtain ⟨fu, rfl⟩ : ∃ k, fu = k + 1 := ⟨fu - 1, by omega⟩
    have e : i = 24 := by omega
    subst e
    exact br_t (nI_le (a := 24) (b := 24) (by omega) (by omega)) (tw_1108 hL hB hJ (by omega) ha ha' hb hZ hs)
  | succ d ih =>
    intro i fu k vc al ll ac lc ph cu cf M oc W K S ob hZ hi hf hk
    obtain ⟨fu, rfl⟩ : ∃ k, fu = k + 1 := ⟨fu - 1, by omega⟩
    obtain ⟨t, ht, e⟩ := tq_cur hZ
    subst e
    have hJ' : tq_H12 (wL_law_599 post L xs J84 (nI v) (nI sz) (nI a) (nI b) (nI r) x11 kc ks fu) i B := by
      intro k vc al ll ac lc ph cu cf M oc W K S ob h1 h2
      exact ih (i + 1) fu k _ _ _ _ _ _ _ _ _ _ _ _ _ _ h2 (by omega) (by omega) (by omega)
    refine br_f (nI_ge (b := 24) (by omega) (by decide)) ?_
    unfold wpX_cursor
    dsimp only
    refine tl_cell hL (by omega) (fun x => nm_r (nI_1 k) (tl_mix 8 (by omega) (by omega) (fun j _ => br_c (fun _ => ?_) (fun _ => ?_))))
    · refine nm_r (nI_add b t) ?_
      refine tl_cell hL (by omega) (fun x => nm_r (nI_1 (k + 1)) (tl_mix (b + t + 1) (by omega) (by omega) (fun fr _ => ?_) (nI_1 (b + t))))
      refine tl_cell hL (by omega) (fun x => nm_r (nI_1 (k + 1 + 1)) (tl_mix 6 (by omega) (by omega) (fun j _ => br_c (fun _ => ⟨b + t + 1, ?_⟩) (fun _ => ⟨b + t + 1, ?_⟩))))
      · exact tw_689 (by omega) hJ' (by omega) hZ (b + t) 0 (b + t + 1) _ (by omega) (by omega)
      · exact tw_689 (by omega) hJ' (by omega) hZ (b + t) 0 (b + t + 1) _ (by omega) (by omega)
    · refine tl_cell hL (by omega) (fun x => nm_r (nI_1 (k + 1)) (tl_mix 6 (by omega) (by omega) (fun j _ => br_c (fun _ => ?_) (fun _ => ?_))))
      · exact tw_896 hL hB hJ hJ' (by omega) ha ha' hb hs hZ (by omega) (by omega) _ _
      · exact tw_896 hL hB hJ hJ' (by omega) ha ha' hb hs hZ (by omega) (by omega) _ _
theorem tw_573 {v : Nat} (hv : 4 ≤ v) (hv' : v ≤ 6) (hL : L ≤ 260) (hB : B < 100000) (hJ : tq_HJ J84 r B) (hk : k + 196 ≤ B) (ha : 2 ≤ a) (ha' : a ≤ 4) (hb : b ≤ 19) (hs : sz < 100) (hZ : tq_Z (vc, al, ll, ac, lc, ph, cu, cf, M, oc, W, K, S, ob)) : wL_law_573 post L xs J84 (nI k) (nI v) (nI sz) (nI a) (nI b) (nI r) kc ks vc al ll ac lc ph cu cf M oc W K S ob := by
  unfold wL_law_573
  refine tl_cell hL (by omega) (fun x => nm_r (nI_1 k) (tl_mix 3 (by omega) (by omega) (fun j _ => br_c (fun _ => ⟨25, ?_⟩) (fun _ => ⟨25, ?_⟩))))
  · exact tw_599 hv hv' hL hB hJ ha ha' hb hs 24 0 25 (k + 1) _ _ _ _ _ _ _ _ _ _ _ _ _ _ hZ (by omega) (by omega) (by omega)
  · exact tw_599 hv hv' hL hB hJ ha ha' hb hs 24 0 25 (k + 1) _ _ _ _ _ _ _ _ _ _ _ _ _ _ hZ (by omega) (by omega) (by omega)
end
