/-! ===== views, going forward ===== -/
theorem tc_alc {S : Nat → Int32} {cs : Int32} {ob ob' : Nat → Int32} : ∀ (d i : Nat), (∀ o, i ≤ o → o < i + d → ob o = ob' o) → tc_al S cs ob d i = tc_al S cs ob' d i := by
  intro d
  induction d with
  | zero => intro i _; rfl
  | succ d ih =>
    intro i h
    rw [tc_al, tc_al, h i (by omega) (by omega), ih (i + 1) (fun o a b => h o (by omega) (by omega))]
theorem tc_ppc {S : Nat → Int32} {cs L P : Int32} : ∀ (d i : Nat) (ob ob' : Nat → Int32) (q : Nat), (∀ o, o < q → ob o = ob' o) → (tc_pp S cs L P d i ob q).2 = (tc_pp S cs L P d i ob' q).2 ∧ ∀ o, o < (tc_pp S cs L P d i ob q).2 → (tc_pp S cs L P d i ob q).1 o = (tc_pp S cs L P d i ob' q).1 o := by
  intro d
  induction d with
  | zero => intro i ob ob' q h; exact ⟨rfl, h⟩
  | succ d ih =>
    intro i ob ob' q h
    rw [tc_pp, tc_pp]
    by_cases c : bt cs i = true ∧ ¬ S i &&& P = 0
    · rw [if_pos c, if_pos c]
      refine ih (i + 1) _ _ (q + 1) (fun o ho => ?_)
      by_cases e : o = q
      · rw [e, pk_us, pk_us]
      · rw [pk_un e, pk_un e]; exact h o (by omega)
    · rw [if_neg c, if_neg c]
      exact ih (i + 1) ob ob' q h
theorem tc_wayv (S : Nat → Int32) (cs L P : Int32) (ob ob' : Nat → Int32) : (tc_way S cs L P ob).1 = (tc_way S cs L P ob').1 := by
  unfold tc_way
  rw [tc_al1, tc_al1]
  by_cases c : tc_rf S cs L = true
  · rw [if_pos c, if_pos c]
  · rw [if_neg c, if_neg c]
    by_cases d : L = 0
    · rw [if_pos d, if_pos d]
    · rw [if_neg d, if_neg d]
      obtain ⟨h1, h2⟩ := tc_ppc (S := S) (cs := cs) (L := L) (P := P) 24 0 (upd ob 0 L) (upd ob' 0 L) 0 (fun o ho => absurd ho (by omega))
      show (if _ then (4 : Int32) else 5) = if _ then (4 : Int32) else 5
      rw [tc_alc _ 0 (fun o _ b => h2 o (by omega)), h1]
def tc_pr (w n : Nat) (M : Int32) : Int32 := if w = 2 then M else if w = 1 then tc_ax n ||| M else 16777215
theorem tc_all : ∀ i, i < 24 → bt 16777215 i = true := by decide +kernel
theorem tx_pr {vc al ll lc ph cu cf M oc : Int32} {W K S ob : Nat → Int32} {post : Int32 → Prop} {w n : Nat} (hw : w ≤ 2) (h : post (tc_pr w n M)) : wpX_presentIn post (vc, al, ll, nI n, lc, ph, cu, cf, M, oc, W, K, S, ob) (nI w) := by
  have hw3 : w = 0 ∨ w = 1 ∨ w = 2 := by omega
  rcases hw3 with rfl | rfl | rfl
  · exact br_f (by decide) (br_f (by decide) h)
  · exact br_f (by decide) (br_t rfl h)
  · exact br_t rfl h
theorem ty_pr {vs ma ml lc ph cu cf oc M : Int32} {W D mk inn obl isf : Nat → Int32} {post : Int32 → Prop} {w n i : Nat} (hw : w ≤ 2) (hn : n ≤ 12) (hi : i < 24) (hM : tc_In M mk) (h : post (tc_bi (bt (tc_pr w n M) i))) : wpY_present post (vs, ma, ml, nI n, lc, ph, cu, cf, oc, W, D, mk, inn, obl, isf) (nI w) (nI i) := by
  have hw3 : w = 0 ∨ w = 1 ∨ w = 2 := by omega
  unfold tc_pr at h
  rcases hw3 with rfl | rfl | rfl
  · refine br_t rfl ?_
    rw [if_neg (by decide), if_neg (by decide), tc_all i hi] at h
    exact h
  · rw [if_neg (by decide), if_pos rfl, b_or, tc_axb n (by omega) i (by omega)] at h
    refine br_f (by decide) ⟨vp_in_nI hi (by omega), ?_⟩
    rw [nI_clamp (by omega : i < 2 ^ 31), hM i hi]
    cases e : bt M i
    · rw [e, Bool.or_false] at h
      refine br_t tc_bif (br_t rfl (br_c (fun c => ?_) (fun c => ?_)))
      · rw [nI_leI (by omega) (by omega)] at c
        rw [decide_eq_false (by omega)] at h
        exact h
      · rw [nI_leI (by omega) (by omega)] at c
        rw [decide_eq_true (by omega)] at h
        exact h
    · rw [e, Bool.or_true] at h
      exact br_f tc_bit h
  · rw [if_pos rfl] at h
    refine br_f (by decide) ⟨vp_in_nI hi (by omega), ?_⟩
    rw [nI_clamp (by omega : i < 2 ^ 31), hM i hi]
    cases e : bt M i
    · rw [e] at h
      exact br_t tc_bif (br_f (by decide) h)
    · rw [e] at h
      exact br_f tc_bit h
theorem tc_Indel {cs : Int32} {inn : Nat → Int32} {t : Nat} (h : tc_In cs inn) (ht : t < 24) : tc_In (cs &&& (tc_1 t ^^^ (-1))) (upd inn t 0) := by
  intro j hj
  rw [tc_del (by omega) (by omega)]
  by_cases e : j = t
  · rw [e, pk_us, decide_eq_true rfl, Bool.not_true, Bool.and_false]; rfl
  · rw [pk_un e, decide_eq_false e, Bool.not_false, Bool.and_true]; exact h j hj
theorem tc_Inadd {cs : Int32} {inn : Nat → Int32} {t : Nat} (h : tc_In cs inn) (ht : t < 24) : tc_In (cs ||| tc_1 t) (upd inn t 1) := by
  intro j hj
  rw [tc_add (by omega) (by omega)]
  by_cases e : j = t
  · rw [e, pk_us, decide_eq_true rfl, Bool.or_true]; rfl
  · rw [pk_un e, decide_eq_false e, Bool.or_false]; exact h j hj
theorem tz_f41 {vc al ll vs ma ml ph cu cf phy cuy cfy M : Int32} {W K S D mk : Nat → Int32} {V n m w : Nat} (hT : tc_Tx V n m W K S) (hD : tc_De K D) (hM : tc_In M mk) (hw : w ≤ 2) : ∀ (d j : Nat) (held : Int32), j + d = m → (∀ i, i < 24 → bt held i = true → i < n + j ∧ ¬ K i = 3) → ∃ r : Int32, (∀ (post : Int32 → SX → Prop) (fu : Nat) (oc : Int32) (ob : Nat → Int32), d < fu → (∀ oc ob, post r (vc, al, ll, nI n, nI m, ph, cu, cf, M, oc, W, K, S, ob)) → wX_forward_41 post (tc_pr w n M) fu held (nI j) vc al ll (nI n) (nI m) ph cu cf M oc W K S ob) ∧ (∀ (post : Int32 → SY → Prop) (fu : Nat) (oc : Int32) (inn obl isf : Nat → Int32), d < fu → tc_In held inn → (∀ oc inn obl isf, post r (vs, ma, ml, nI n, nI m, phy, cuy, cfy, oc, W, D, mk, inn, obl, isf)) → wY_forward_71 post (nI w) fu (nI j) vs ma ml (nI n) (nI m) phy cuy cfy oc W D mk inn obl isf) := by
  have hnm := hT.2.1
  have hCof : ∀ (j : Nat) (held : Int32), j ≤ m → (∀ i, i < 24 → bt held i = true → i < n + j ∧ ¬ K i = 3) → tc_CS V (n + m) W S held := by
    intro j held hj h i hi hb
    obtain ⟨h1, h2⟩ := h i hi hb
    exact ⟨by omega, hT.2.2.2.2.1 i (by omega) h2⟩
  intro d
  induction d with
  | zero =>
    intro j held hj hH
    have hC := hCof j held (by omega) hH
    have e : j = m := by omega
    subst e
    cases e : tc_rf S held 0
    · refine ⟨-4, fun post fu oc ob hf hp => ?_, fun post fu oc inn obl isf hf hin hp => ?_⟩
      · obtain ⟨fu, rfl⟩ : ∃ k, fu = k + 1 := ⟨fu - 1, by omega⟩
        refine br_t (nI_le (by omega) (by omega)) (tx_ref (tc_CSlo hT.1.2 hC) ?_)
        rw [e]
        exact br_t tc_bif (hp oc ob)
      · obtain ⟨fu, rfl⟩ : ∃ k, fu = k + 1 := ⟨fu - 1, by omega⟩
        refine br_f (nI_nlt (by omega) (by omega)) (ty_empty hT.1.2 (by omega) hC hin (fun obl isf _ => ?_))
        rw [e]
        exact br_t tc_bif (br_t rfl (hp 1 inn obl isf))
    · refine ⟨nI j, fun post fu oc ob hf hp => ?_, fun post fu oc inn obl isf hf hin hp => ?_⟩
      · obtain ⟨fu, rfl⟩ : ∃ k, fu = k + 1 := ⟨fu - 1, by omega⟩
        refine br_t (nI_le (by omega) (by omega)) (tx_ref (tc_CSlo hT.1.2 hC) ?_)
        rw [e]
        exact br_f tc_bit (hp oc ob)
      · obtain ⟨fu, rfl⟩ : ∃ k, fu = k + 1 := ⟨fu - 1, by omega⟩
        refine br_f (nI_nlt (by omega) (by omega)) (ty_empty hT.1.2 (by omega) hC hin (fun obl isf _ => ?_))
        rw [e]
        exact br_f tc_bit (hp 1 inn obl isf)
  | succ d ih =>
    intro j held hj hH
    have hC := hCof j held (by omega) hH
    have hlo := tc_CSlo hT.1.2 hC
    have nle : ¬ nI m ≤ nI j := nI_ge (by omega) (by omega)
    have nlt : ¬ nI m < nI j := nI_nlt (by omega) (by omega)
    have nne : ¬ nI j = nI m := by
      rw [nI_eq (by omega) (by omega)]
      omega
    cases e : tc_rf S held 0
    · by_cases cK : K (n + j) = 3
      · obtain ⟨t, ht, hW⟩ := hT.2.2.2.2.2 (n + j) (by omega) (by omega) cK
        obtain ⟨r, rx, ry⟩ := ih (j + 1) (held &&& (tc_1 t ^^^ (-1))) (by omega) (fun i hi hb => by
          rw [b_and, Bool.and_eq_true] at hb
          have := hH i hi hb.1
          exact ⟨by omega, this.2⟩)
        refine ⟨r, fun post fu oc ob hf hp => ?_, fun post fu oc inn obl isf hf hin hp => ?_⟩
        · obtain ⟨fu, rfl⟩ : ∃ k, fu = k + 1 := ⟨fu - 1, by omega⟩
          refine br_f nle (tx_ref hlo ?_)
          rw [e]
          refine br_t tc_bif (nm_r (nI_add n j) ⟨vp_in_nI (by omega) (by omega), ?_⟩)
          rw [nI_clamp (by omega : n + j < 2 ^ 31)]
          refine br_t cK (tx_tgt (by omega) ?_)
          rw [hW]
          exact nm_e (nm_r (nI_1 j) (rx post fu oc ob (by omega) hp))
        · obtain ⟨fu, rfl⟩ : ∃ k, fu = k + 1 := ⟨fu - 1, by omega⟩
          refine br_f nlt (ty_empty hT.1.2 (by omega) hC hin (fun obl isf _ => ?_))
          rw [e]
          refine br_t tc_bif (br_f nne ?_)
          rw [nI_add, tc_m4, nI_clamp (by omega : n + j < 2 ^ 31), nI_clamp (by omega : (n + j) * 4 < 2 ^ 31), hW, nI_clamp (by omega : t < 2 ^ 31), hD (n + j) (by omega), decide_eq_true cK]
          exact ⟨vp_in_nI (by omega) (by omega), br_f tc_bit ⟨vp_in_nI (by omega) (by omega), vp_in_nI (by omega) (by omega), nm_e (nm_r (nI_1 j) (ry post fu 1 _ obl isf (by omega) (tc_Indel hin (by omega)) hp))⟩⟩
      · cases ep : bt (tc_pr w n M) (n + j)
        · obtain ⟨r, rx, ry⟩ := ih (j + 1) held (by omega) (fun i hi hb => by
            have := hH i hi hb
            exact ⟨by omega, this.2⟩)
          refine ⟨r, fun post fu oc ob hf hp => ?_, fun post fu oc inn obl isf hf hin hp => ?_⟩
          · obtain ⟨fu, rfl⟩ : ∃ k, fu = k + 1 := ⟨fu - 1, by omega⟩
            refine br_f nle (tx_ref hlo ?_)
            rw [e]
            refine br_t tc_bif (nm_r (nI_add n j) ⟨vp_in_nI (by omega) (by omega), ?_⟩)
            rw [nI_clamp (by omega : n + j < 2 ^ 31)]
            refine br_f cK (tx_hm (by omega) ?_)
            rw [ep]
            exact br_t tc_bif (nm_r (nI_1 j) (rx post fu oc ob (by omega) hp))
          · obtain ⟨fu, rfl⟩ : ∃ k, fu = k + 1 := ⟨fu - 1, by omega⟩
            refine br_f nlt (ty_empty hT.1.2 (by omega) hC hin (fun obl isf _ => ?_))
            rw [e]
            refine br_t tc_bif (br_f nne ?_)
            rw [nI_add, nI_clamp (by omega : n + j < 2 ^ 31), hD (n + j) (by omega), decide_eq_false cK]
            refine ⟨vp_in_nI (by omega) (by omega), br_t tc_bif (ty_pr hw (by omega) (by omega) hM ?_)⟩
            rw [ep]
            exact br_t tc_bif (nm_r (nI_1 j) (ry post fu 1 inn obl isf (by omega) hin hp))
        · obtain ⟨a, ha, hwa, hSa⟩ := tc_Cla hT.1.2 (hT.2.2.2.2.1 (n + j) (by omega) cK)
          by_cases ev : (tc_way S held (S (n + j)) (tc_ng (tc_lb (tc_w (tc_pv a)))) (fun _ => 0)).1 = 5
          · refine ⟨100 + nI j, fun post fu oc ob hf hp => ?_, fun post fu oc inn obl isf hf hin hp => ?_⟩
            · obtain ⟨fu, rfl⟩ : ∃ k, fu = k + 1 := ⟨fu - 1, by omega⟩
              refine br_f nle (tx_ref hlo ?_)
              rw [e]
              refine br_t tc_bif (nm_r (nI_add n j) ⟨vp_in_nI (by omega) (by omega), ?_⟩)
              rw [nI_clamp (by omega : n + j < 2 ^ 31)]
              refine br_f cK (tx_hm (by omega) ?_)
              rw [ep]
              refine br_f tc_bit (tx_way (by omega) ha hwa hlo ?_)
              exact br_t ((tc_wayv _ _ _ _ _ _).trans ev) (hp _ _)
            · obtain ⟨fu, rfl⟩ : ∃ k, fu = k + 1 := ⟨fu - 1, by omega⟩
              refine br_f nlt (ty_empty hT.1.2 (by omega) hC hin (fun obl isf _ => ?_))
              rw [e]
              refine br_t tc_bif (br_f nne ?_)
              rw [nI_add, nI_clamp (by omega : n + j < 2 ^ 31), hD (n + j) (by omega), decide_eq_false cK]
              refine ⟨vp_in_nI (by omega) (by omega), br_t tc_bif (ty_pr hw (by omega) (by omega) hM ?_)⟩
              rw [ep]
              refine br_f tc_bit (ty_pass (ob := fun _ => 0) hT.1.2 (by omega) hC hin (by omega) ha hwa hSa (fun obl isf _ => ?_))
              exact br_t ev (hp _ _ _ _)
          · obtain ⟨r, rx, ry⟩ := ih (j + 1) (held ||| tc_1 (n + j)) (by omega) (fun i hi hb => by
              rw [tc_add (by omega) (by omega), Bool.or_eq_true, decide_eq_true_eq] at hb
              rcases hb with hb | hb
              · have := hH i hi hb
                exact ⟨by omega, this.2⟩
              · rw [hb]
                exact ⟨by omega, cK⟩)
            refine ⟨r, fun post fu oc ob hf hp => ?_, fun post fu oc inn obl isf hf hin hp => ?_⟩
            · obtain ⟨fu, rfl⟩ : ∃ k, fu = k + 1 := ⟨fu - 1, by omega⟩
              refine br_f nle (tx_ref hlo ?_)
              rw [e]
              refine br_t tc_bif (nm_r (nI_add n j) ⟨vp_in_nI (by omega) (by omega), ?_⟩)
              rw [nI_clamp (by omega : n + j < 2 ^ 31)]
              refine br_f cK (tx_hm (by omega) ?_)
              rw [ep]
              refine br_f tc_bit (tx_way (by omega) ha hwa hlo ?_)
              exact br_f (fun z => ev ((tc_wayv _ _ _ _ _ _).symm.trans z)) (nm_e (nm_r (nI_1 j) (rx post fu _ _ (by omega) hp)))
            · obtain ⟨fu, rfl⟩ : ∃ k, fu = k + 1 := ⟨fu - 1, by omega⟩
              refine br_f nlt (ty_empty hT.1.2 (by omega) hC hin (fun obl isf _ => ?_))
              rw [e]
              refine br_t tc_bif (br_f nne ?_)
              rw [nI_add, nI_clamp (by omega : n + j < 2 ^ 31), hD (n + j) (by omega), decide_eq_false cK]
              refine ⟨vp_in_nI (by omega) (by omega), br_t tc_bif (ty_pr hw (by omega) (by omega) hM ?_)⟩
              rw [ep]
              refine br_f tc_bit (ty_pass (ob := fun _ => 0) hT.1.2 (by omega) hC hin (by omega) ha hwa hSa (fun obl isf _ => ?_))
              refine br_f ev ?_
              rw [nI_add, nI_clamp (by omega : n + j < 2 ^ 31)]
              exact ⟨vp_in_nI (by omega) (by omega), nm_e (nm_r (nI_1 j) (ry post fu _ _ obl isf (by omega) (tc_Inadd hin (by omega)) hp))⟩
    · refine ⟨nI j, fun post fu oc ob hf hp => ?_, fun post fu oc inn obl isf hf hin hp => ?_⟩
      · obtain ⟨fu, rfl⟩ : ∃ k, fu = k + 1 := ⟨fu - 1, by omega⟩
        refine br_f nle (tx_ref hlo ?_)
        rw [e]
        exact br_f tc_bit (hp oc ob)
      · obtain ⟨fu, rfl⟩ : ∃ k, fu = k + 1 := ⟨fu - 1, by omega⟩
        refine br_f nlt (ty_empty hT.1.2 (by omega) hC hin (fun obl isf _ => ?_))
        rw [e]
        exact br_f tc_bit (hp 1 inn obl isf)
theorem ty_f29 {vs ma ml ph cu cf oc M : Int32} {W D mk obl isf : Nat → Int32} {n m w : Nat} (hn : n ≤ 12) (hM : tc_In M mk) (hw : w ≤ 2) {post : Int32 → SY → Prop} (h : ∀ inn, tc_In (tc_pr w n M &&& tc_ax n) inn → ∃ fu, wY_forward_71 post (nI w) fu 0 vs ma ml (nI n) (nI m) ph cu cf oc W D mk inn obl isf) : ∀ (d i : Nat) (inn : Nat → Int32) (fu : Nat), i + d = 24 → d < fu → (∀ j, j < i → inn j = tc_bi (bt (tc_pr w n M &&& tc_ax n) j)) → wY_forward_29 post (nI w) vs ma ml (nI n) (nI m) ph cu cf oc fu (nI i) W D mk inn obl isf := by
  intro d
  induction d with
  | zero =>
    intro i inn fu hi hf hI
    obtain ⟨fu, rfl⟩ : ∃ k, fu = k + 1 := ⟨fu - 1, by omega⟩
    have e : i = 24 := by omega
    subst e
    exact br_t (nI_le (a := 24) (b := 24) (by omega) (by omega)) (h inn hI)
  | succ d ih =>
    intro i inn fu hi hf hI
    obtain ⟨fu, rfl⟩ : ∃ k, fu = k + 1 := ⟨fu - 1, by omega⟩
    have next : ∀ x : Bool, x = (bt (tc_pr w n M) i && decide (i < n)) → ∀ j, j < i + 1 → upd inn i (tc_bi x) j = tc_bi (bt (tc_pr w n M &&& tc_ax n) j) := by
      intro x hx j hj
      by_cases e : j = i
      · rw [e, pk_us, b_and, tc_axb n (by omega) i (by omega), hx]
      · rw [pk_un e]; exact hI j (by omega)
    refine br_f (nI_ge (b := 24) (by omega) (by decide)) ?_
    rw [nI_clamp (by omega : i < 2 ^ 31)]
    refine br_c (fun c => ⟨vp_in_nI (by omega) (by omega), nm_e (nm_r (nI_1 i) (ih (i + 1) _ fu (by omega) (by omega) (next false ?_)))⟩) (fun c => ty_pr hw hn (by omega) hM ?_)
    · rw [nI_leI (by omega) (by omega)] at c
      rw [decide_eq_false (by omega), Bool.and_false]
    · rw [nI_leI (by omega) (by omega)] at c
      cases e : bt (tc_pr w n M) i
      · refine br_t tc_bif ⟨vp_in_nI (by omega) (by omega), nm_e (nm_r (nI_1 i) (ih (i + 1) _ fu (by omega) (by omega) (next false ?_)))⟩
        rw [e]; rfl
      · refine br_f tc_bit ⟨vp_in_nI (by omega) (by omega), nm_e (nm_r (nI_1 i) (ih (i + 1) _ fu (by omega) (by omega) (next true ?_)))⟩
        rw [e, decide_eq_true (by omega)]; rfl
/-- a view, or none -/
theorem tc_view (p : Int32) : (∃ w, w ≤ 2 ∧ p = nI w) ∨ (¬ p = 0 ∧ ¬ p = 1 ∧ ¬ p = 2 ∧ (p < 0 ∨ (¬ p < 0 ∧ ¬ p ≤ 2))) := by
  by_cases c : p < 0
  · refine Or.inr ⟨fun z => ?_, fun z => ?_, fun z => ?_, Or.inl c⟩ <;> (rw [z] at c; exact absurd c (by decide))
  · obtain ⟨j, hj, rfl⟩ := nI_of c
    by_cases h : j ≤ 2
    · exact Or.inl ⟨j, h, rfl⟩
    · refine Or.inr ⟨fun z => ?_, fun z => ?_, fun z => ?_, Or.inr ⟨c, fun z => ?_⟩⟩
      · have := (nI_eq (b := 0) hj (by omega)).mp z; omega
      · have := (nI_eq (b := 1) hj (by omega)).mp z; omega
      · have := (nI_eq (b := 2) hj (by omega)).mp z; omega
      · have := (nI_leI (b := 2) hj (by omega)).mp z; omega
theorem tx_vw {post : Int32 → Prop} {w : Nat} (hw : w ≤ 2) (h : post 1) : wpX_isView post (nI w) := by
  have hw3 : w = 0 ∨ w = 1 ∨ w = 2 := by omega
  rcases hw3 with rfl | rfl | rfl
  · exact br_t rfl h
  · exact br_f (by decide) (br_t rfl h)
  · exact br_f (by decide) (br_f (by decide) (br_t rfl h))
theorem i_vc_forward {k : Nat} {u : SX} {v : SY} (I : i_Rel k u v) (hk : k + 5 ≤ 2563) (v1 : Int32) : wpX_forward (fun r u' => wpY_forward (fun r' v' => r' = r ∧ i_Rel (k + 5) u' v') v v1) u v1 := by
  have I' := i_up I
  obtain ⟨V, A, L, n, m, cu, ph, cf, W, K, S, D, mk, M, oc, oc', ob, inn, obl, isf, rfl, rfl, h⟩ := I
  have hR := h
  obtain ⟨hT, hD, hM, hb, hi, hcu, hp, hc⟩ := h
  have hnm := hT.2.1
  unfold wpX_forward
  rcases tc_view v1 with ⟨w, hw, rfl⟩ | ⟨n0, n1, n2, hn⟩
  · have wp0 : ¬ nI w < 0 := nI_pos (by omega)
    have wp2 : nI w ≤ 2 := nI_le (b := 2) hw (by omega)
    obtain ⟨r, rx, ry⟩ := tz_f41 (vc := nI V) (al := nI A) (ll := nI L) (vs := nI V) (ma := nI A) (ml := nI L) (ph := ph) (cu := nI cu) (cf := cf) (phy := ph) (cuy := nI cu) (cfy := cf) hT hD hM hw m 0 (tc_pr w n M &&& tc_ax n) (by omega) (fun i h24 hbt => by
      rw [b_and, Bool.and_eq_true, tc_axb n (by omega) i (by omega), decide_eq_true_eq] at hbt
      refine ⟨by omega, ?_⟩
      rw [hT.2.2.1 i hbt.2]
      decide)
    have go : ∀ (c : Prop) (yy : ∀ post : Int32 → SY → Prop, (∃ n29 : Nat, wY_forward_29 post (nI w) (nI V) (nI A) (nI L) (nI n) (nI m) ph (nI cu) cf oc' n29 0 W D mk inn obl isf) → wpY_forward post (nI V, nI A, nI L, nI n, nI m, ph, nI cu, cf, oc', W, D, mk, inn, obl, isf) (nI w)), wX_forward_25 (fun r u' => wpY_forward (fun r' v' => r' = r ∧ i_Rel (k + 5) u' v') (nI V, nI A, nI L, nI n, nI m, ph, nI cu, cf, oc', W, D, mk, inn, obl, isf) (nI w)) (nI w) (nI V) (nI A) (nI L) (nI n) (nI m) ph (nI cu) cf M oc W K S ob := by
      intro _ yy
      unfold wX_forward_25
      refine tx_pr hw (nm_e ⟨m + 1, rx _ (m + 1) oc ob (by omega) (fun oc ob => yy _ ⟨25, ?_⟩)⟩)
      exact ty_f29 (by omega) hM hw (fun inn hin => ⟨m + 1, ry _ (m + 1) oc' inn obl isf (by omega) hin (fun oc2 inn obl isf => ⟨rfl, tc_rel hR⟩)⟩) 24 0 inn 25 (by omega) (by omega) (fun j hj => absurd hj (by omega))
    refine tx_vw hw (br_f (by decide) ?_)
    refine br_c (fun c0 => go True (fun post z => br_f wp0 (br_t wp2 (br_t c0 z)))) (fun c0 => br_c (fun c2 => go True (fun post z => br_f wp0 (br_t wp2 (br_f c0 (br_t c2 z))))) (fun c2 => br_f wp0 (br_t wp2 (br_f c0 (br_f c2 ⟨rfl, I'⟩)))))
  · refine br_f n0 (br_f n1 (br_f n2 (br_t rfl ?_)))
    rcases hn with z | ⟨z1, z2⟩
    · exact br_t z ⟨rfl, I'⟩
    · exact br_f z1 (br_f z2 ⟨rfl, I'⟩)
