/-! ===== the class: sets, refuting ===== -/
theorem tc_m4 (i : Nat) : nI i * 4 = nI (i * 4) := pk_mul i 4
theorem tc_m41 (i : Nat) : nI i * 4 + 1 = nI (i * 4 + 1) := by rw [tc_m4, nI_1]
theorem tc_m42 (i : Nat) : nI i * 4 + 2 = nI (i * 4 + 2) := by rw [tc_m4]; exact nI_add _ 2
theorem tc_m43 (i : Nat) : nI i * 4 + 3 = nI (i * 4 + 3) := by rw [tc_m4]; exact nI_add _ 3
theorem tc_m4s (i s : Nat) : nI i * 4 + nI s = nI (i * 4 + s) := by rw [tc_m4, nI_add]
theorem tc_bif : tc_bi false = 0 := rfl
theorem tc_bit : ¬ tc_bi true = 0 := by decide
theorem tx_neg {post : Int32 → Prop} {x : Int32} (h : post (tc_ng x)) : wpX_negated post () x := nm_e (nm_e h)
theorem tx_hm {post : Int32 → Prop} {cs : Int32} {i : Nat} (hi : i < 24) (h : post (tc_bi (bt cs i))) : wpX_hasMember post () cs (nI i) := by
  refine br_f (nI_pos (by omega)) (br_f (nI_ge (b := 24) hi (by decide)) ?_)
  have e : cs &&& tc_1 i = 0 ↔ bt cs i = false := tc_hm (by omega)
  cases hb : bt cs i
  · rw [hb] at h
    exact br_t (e.mpr hb) h
  · rw [hb] at h
    exact br_f (fun z => by rw [e.mp z] at hb; exact absurd hb (by decide)) h
theorem tx_lb {post : Int32 → Prop} {w : Int32} (h : post (tc_lb w)) : wpX_literalBit post () w := by
  unfold tc_lb at h
  refine br_c (fun c => ?_) (fun c => br_c (fun d => ?_) (fun d => ?_))
  · rw [if_pos c] at h; exact h
  · rw [if_neg c, if_pos d] at h; exact h
  · rw [if_neg c, if_neg d] at h; exact h
theorem tx_sl {post : Int32 → Prop} {a b c d : Int32} (h : post (tc_sl a b c d)) : wpX_setOfLiterals post () a b c d := by
  unfold wpX_setOfLiterals
  exact tx_lb (tx_lb (tx_lb (tx_lb h)))
section
variable {vc al ll ac lc ph cu cf M oc : Int32} {W K S ob : Nat → Int32}
theorem tx_r33 {post : Int32 → Prop} {J : Int32 → Int32 → Int32 → Prop} {cs x5 F0 : Int32} (hS : ∀ i, i < 24 → bt cs i = true → tc_lo (S i)) : ∀ (d i : Nat) (F g : Int32) (n : Nat), i + d = 24 → d < n → (g = 0 → F = F0) → (tc_fl S cs d i F = none → post 1) → (∀ F', tc_fl S cs d i F = some F' → (F' = F0 → post 0) ∧ J F' (tc_ng F') (x5 + 1)) → wX_refutes_33 post J cs x5 vc al ll ac lc ph cu cf M oc W K S ob n F (tc_ng F) g (nI i) := by
  intro d
  induction d with
  | zero =>
    intro i F g n hi hn hg h0 h1
    obtain ⟨n, rfl⟩ : ∃ k, n = k + 1 := ⟨n - 1, by omega⟩
    have e : i = 24 := by omega
    subst e
    obtain ⟨p1, p2⟩ := h1 F rfl
    exact br_t (nI_le (a := 24) (b := 24) (by omega) (by omega)) (br_c (fun c => p1 (hg c)) (fun _ => nm_e p2))
  | succ d ih =>
    intro i F g n hi hn hg h0 h1
    obtain ⟨n, rfl⟩ : ∃ k, n = k + 1 := ⟨n - 1, by omega⟩
    refine br_f (nI_ge (b := 24) (by omega) (by decide)) ⟨vp_in_nI (by omega) (by omega), ?_⟩
    refine nm_r (e' := S i &&& (F ^^^ (-1))) (by rw [nI_clamp (by omega)]) ?_
    refine tx_hm (by omega) ?_
    cases hb : bt cs i
    · refine br_t tc_bif (nm_r (nI_1 i) ?_)
      rw [tc_fl0 hb] at h0 h1
      exact ih (i + 1) F g n (by omega) (by omega) hg h0 h1
    · refine br_f tc_bit ?_
      have hl := hS i (by omega) hb
      by_cases c1 : (S i &&& (F ^^^ (-1))) &&& tc_ng F = 0
      · refine br_t c1 ?_
        by_cases c2 : S i &&& (F ^^^ (-1)) = 0
        · refine br_t c2 (h0 (tc_fln hb ?_))
          unfold tc_st
          rw [if_pos c1, if_pos c2]
        · refine br_f c2 ?_
          by_cases c3 : (S i &&& (F ^^^ (-1))) &&& ((S i &&& (F ^^^ (-1))) - 1) = 0
          · refine br_t c3 (nm_e (tx_neg (nm_e (nm_r (nI_1 i) ?_))))
            have es : tc_st F (S i) = some (F ||| tc_ng (S i &&& (F ^^^ (-1)))) := by
              unfold tc_st
              rw [if_pos c1, if_neg c2, if_pos c3]
            rw [tc_fls hb es] at h0 h1
            have e : tc_ng F ||| (S i &&& (F ^^^ (-1))) = tc_ng (F ||| tc_ng (S i &&& (F ^^^ (-1)))) := by
              rw [tc_ngor, tc_ngng (tc_loand hl)]
            rw [e]
            exact ih (i + 1) _ 1 n (by omega) (by omega) (fun z => absurd z (by decide)) h0 h1
          · refine br_f c3 (nm_r (nI_1 i) ?_)
            have es : tc_st F (S i) = some F := by
              unfold tc_st
              rw [if_pos c1, if_neg c2, if_neg c3]
            rw [tc_fls hb es] at h0 h1
            exact ih (i + 1) F g n (by omega) (by omega) hg h0 h1
      · refine br_f c1 (nm_r (nI_1 i) ?_)
        have es : tc_st F (S i) = some F := by
          unfold tc_st
          rw [if_neg c1]
        rw [tc_fls hb es] at h0 h1
        exact ih (i + 1) F g n (by omega) (by omega) hg h0 h1
theorem tx_r20 {post : Int32 → Prop} {cs : Int32} (hS : ∀ i, i < 24 → bt cs i = true → tc_lo (S i)) : ∀ (r : Nat) (F : Int32) (n : Nat), r ≤ 9 → r < n → post (tc_bi (tc_rd S cs r F)) → wX_refutes_20 post cs vc al ll ac lc ph cu cf M oc W K S ob n F (tc_ng F) (nI (9 - r)) := by
  intro r
  induction r with
  | zero =>
    intro F n _ hn h
    obtain ⟨n, rfl⟩ : ∃ k, n = k + 1 := ⟨n - 1, by omega⟩
    exact br_t (nI_lt (a := 8) (b := 9) (by omega) (by omega)) h
  | succ r ih =>
    intro F n hr hn h
    obtain ⟨n, rfl⟩ : ∃ k, n = k + 1 := ⟨n - 1, by omega⟩
    refine br_f (nI_nlt (a := 8) (b := 9 - (r + 1)) (by omega) (by omega)) ⟨25, ?_⟩
    refine tx_r33 (F0 := F) hS 24 0 F 0 25 (by omega) (by omega) (fun _ => rfl) (fun e => ?_) (fun F' e => ⟨fun z => ?_, ?_⟩)
    · rw [tc_rdn e] at h
      exact h
    · rw [z] at e
      rw [tc_rds e, tc_rdfix e] at h
      exact h
    · rw [tc_rds e] at h
      rw [nI_1, show 9 - (r + 1) + 1 = 9 - r from by omega]
      exact ih F' n (by omega) (by omega) h
theorem tx_ref {post : Int32 → Prop} {cs T : Int32} (hS : ∀ i, i < 24 → bt cs i = true → tc_lo (S i)) (h : post (tc_bi (tc_rf S cs T))) : wpX_refutes post (vc, al, ll, ac, lc, ph, cu, cf, M, oc, W, K, S, ob) cs T := by
  unfold wpX_refutes
  refine tx_neg ?_
  unfold tc_rf at h
  by_cases c : T &&& tc_ng T = 0
  · rw [if_pos c] at h
    exact br_t c ⟨10, tx_r20 hS 9 T 10 (by omega) (by omega) h⟩
  · rw [if_neg c] at h
    exact br_f c h
theorem tx_al2 {post : Int32 → Prop} {cs : Int32} {q : Nat} (hq : q ≤ 24) (hS : ∀ i, i < 24 → bt cs i = true → tc_lo (S i)) : ∀ (d i n : Nat), i + d = q → d < n → post (tc_bi (tc_al S cs ob d i)) → wX_refutesAllObligations_2 post cs vc al ll ac lc ph cu cf M (nI q) W K S ob n (nI i) := by
  intro d
  induction d with
  | zero =>
    intro i n hi hn h
    obtain ⟨n, rfl⟩ : ∃ k, n = k + 1 := ⟨n - 1, by omega⟩
    exact br_t (nI_le (by omega) (by omega)) h
  | succ d ih =>
    intro i n hi hn h
    obtain ⟨n, rfl⟩ : ∃ k, n = k + 1 := ⟨n - 1, by omega⟩
    refine br_f (nI_ge (by omega) (by omega)) ⟨vp_in_nI (by omega) (by omega), ?_⟩
    rw [nI_clamp (by omega)]
    refine tx_ref hS ?_
    rw [tc_al] at h
    cases e : tc_rf S cs (ob i)
    · rw [e, if_neg (by decide)] at h
      exact br_t tc_bif h
    · rw [if_pos e] at h
      exact br_f tc_bit (nm_r (nI_1 i) (ih (i + 1) n (by omega) (by omega) h))
theorem tx_al {post : Int32 → Prop} {cs : Int32} {q : Nat} (hq : q ≤ 24) (hS : ∀ i, i < 24 → bt cs i = true → tc_lo (S i)) (h : post (tc_bi (tc_al S cs ob q 0))) : wpX_refutesAllObligations post (vc, al, ll, ac, lc, ph, cu, cf, M, nI q, W, K, S, ob) cs :=
  ⟨q + 1, tx_al2 hq hS q 0 (q + 1) (by omega) (by omega) h⟩
theorem tx_keep5 {post : St2 → Prop} {cs : Int32} {q : Nat} (hq : q ≤ 24) (hS : ∀ i, i < 24 → bt cs i = true → tc_lo (S i)) : ∀ (i : Nat) (k : Int32) (n : Nat), i ≤ 24 → i < n → (∀ j, j < 24 → bt k j = true → bt cs j = true) → post (vc, al, ll, ac, lc, ph, cu, cf, M ||| tc_kp S cs M ob q i k, nI q, W, K, S, ob) → wX_keep_5 post cs vc al ll ac lc ph cu cf M (nI q) W K S ob n k (nI i + (-1)) := by
  intro i
  induction i with
  | zero =>
    intro k n hi hn hk h
    obtain ⟨n, rfl⟩ : ∃ k, n = k + 1 := ⟨n - 1, by omega⟩
    exact br_t (by decide) (nm_e h)
  | succ i ih =>
    intro k n hi hn hk h
    obtain ⟨n, rfl⟩ : ∃ k, n = k + 1 := ⟨n - 1, by omega⟩
    rw [pk_m1]
    refine br_f (nI_pos (by omega)) (tx_hm (by omega) ?_)
    rw [tc_kp] at h
    cases hb : bt cs i
    · rw [if_neg (fun z => by rw [hb] at z; exact absurd z.1 (by decide))] at h
      exact br_t tc_bif (nm_e (ih k n (by omega) (by omega) hk h))
    · refine br_f tc_bit (tx_hm (by omega) ?_)
      cases hm : bt M i
      · rw [if_pos ⟨hb, hm⟩] at h
        refine br_t tc_bif (nm_e ?_)
        have hk' : ∀ j, j < 24 → bt (k &&& (tc_1 i ^^^ (-1))) j = true → bt cs j = true := by
          intro j hj e
          rw [b_and, Bool.and_eq_true] at e
          exact hk j hj e.1
        refine tx_al (cs := k &&& (tc_1 i ^^^ (-1))) hq (fun j hj e => hS j hj (hk' j hj e)) ?_
        cases ea : tc_al S (k &&& (tc_1 i ^^^ (-1))) ob q 0
        · rw [ea, if_neg (by decide)] at h
          exact br_t tc_bif (nm_e (ih k n (by omega) (by omega) hk h))
        · rw [if_pos ea] at h
          exact br_f tc_bit (nm_e (ih _ n (by omega) (by omega) hk' h))
      · rw [if_neg (fun z => by rw [hm] at z; exact absurd z.2 (by decide))] at h
        exact br_f tc_bit (nm_e (ih k n (by omega) (by omega) hk h))
theorem tx_keep {post : St2 → Prop} {cs : Int32} {q : Nat} (hq : q ≤ 24) (hS : ∀ i, i < 24 → bt cs i = true → tc_lo (S i)) (h : post (vc, al, ll, ac, lc, ph, cu, cf, M ||| tc_kp S cs M ob q 24 cs, nI q, W, K, S, ob)) : wpX_keep post (vc, al, ll, ac, lc, ph, cu, cf, M, nI q, W, K, S, ob) cs :=
  ⟨25, tx_keep5 hq hS 24 cs 25 (by omega) (by omega) (fun _ _ e => e) h⟩
theorem tx_tgt {post : Int32 → Prop} {i : Nat} (hi : i < 24) (h : post (W (i * 4))) : wpX_targetOf post (vc, al, ll, ac, lc, ph, cu, cf, M, oc, W, K, S, ob) (nI i) := by
  refine ⟨?_, ?_⟩
  · rw [tc_m4]
    exact vp_in_nI (by omega) (by omega)
  · rw [tc_m4, nI_clamp (by omega)]
    exact h
theorem tx_av7 {post : Int32 → Prop} {an k : Nat} (hk : an + k ≤ 24) : ∀ (d j n : Nat), j + d = k → d < n → post (tc_av K W an k) → wX_aliveAfter_7 post (nI k) vc al ll (nI an) lc ph cu cf M oc W K S ob n (tc_av K W an j) (nI j) := by
  intro d
  induction d with
  | zero =>
    intro j n hj hn h
    obtain ⟨n, rfl⟩ : ∃ k, n = k + 1 := ⟨n - 1, by omega⟩
    have e : j = k := by omega
    subst e
    exact br_t (nI_le (by omega) (by omega)) h
  | succ d ih =>
    intro j n hj hn h
    obtain ⟨n, rfl⟩ : ∃ k, n = k + 1 := ⟨n - 1, by omega⟩
    refine br_f (nI_ge (by omega) (by omega)) (nm_r (nI_add an j) ⟨vp_in_nI (by omega) (by omega), ?_⟩)
    rw [nI_clamp (by omega)]
    by_cases c : K (an + j) = 3
    · refine br_t c (tx_tgt (by omega) (nm_r (e' := tc_av K W an (j + 1)) ?_ (nm_r (nI_1 j) (ih (j + 1) n (by omega) (by omega) h))))
      rw [tc_av, if_pos c]
    · refine br_f c (nm_r (e' := tc_av K W an (j + 1)) ?_ (nm_r (nI_1 j) (ih (j + 1) n (by omega) (by omega) h)))
      rw [tc_av, if_neg c]
      rfl
theorem tx_av {post : Int32 → Prop} {an k : Nat} (hk : an + k ≤ 24) (h : post (tc_av K W an k)) : wpX_aliveAfter post (vc, al, ll, nI an, lc, ph, cu, cf, M, oc, W, K, S, ob) (nI k) :=
  ⟨k + 1, tx_av7 hk k 0 (k + 1) (by omega) (by omega) h⟩
end
