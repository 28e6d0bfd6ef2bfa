/-! ===== the class: passing ===== -/
/-- the place of the pivot (8: there is none) -/
def tc_pv (a : Nat → Nat) : Nat := if a 0 = 8 then (if a 1 = 8 then (if a 2 = 8 then a 3 else a 2) else a 1) else a 0
section
variable {vc al ll ac lc ph cu cf M oc : Int32} {W K S ob : Nat → Int32}
theorem tx_pv2 {post : Int32 → Prop} {i s x n : Nat} (hi : i < 24) (hs : s < 4) (hx : x < 17) (hw : W (i * 4 + s) = tc_w x) (h1 : x = 8 → wX_pivotBit_2 post (nI i) vc al ll ac lc ph cu cf M oc W K S ob n (nI (s + 1))) (h2 : x ≠ 8 → post (tc_lb (tc_w x))) : wX_pivotBit_2 post (nI i) vc al ll ac lc ph cu cf M oc W K S ob (n + 1) (nI s) := by
  refine br_f (nI_ge (b := 4) hs (by decide)) ⟨by rw [tc_m4s]; exact vp_in_nI (by omega) (by omega), ?_⟩
  refine nm_r (e' := tc_w x) (by rw [tc_m4s, nI_clamp (by omega)]; exact hw) ?_
  by_cases c : x = 8
  · exact br_t ((tc_w1 x hx).2.2.1.mpr c) (nm_r (nI_1 s) (h1 c))
  · exact br_f (fun z => c ((tc_w1 x hx).2.2.1.mp z)) (tx_lb (h2 c))
theorem tx_pv {post : Int32 → Prop} {i : Nat} {a : Nat → Nat} (hi : i < 24) (ha : ∀ s, s < 4 → a s < 17) (hw : ∀ s, s < 4 → W (i * 4 + s) = tc_w (a s)) (h : post (tc_lb (tc_w (tc_pv a)))) : wpX_pivotBit post (vc, al, ll, ac, lc, ph, cu, cf, M, oc, W, K, S, ob) (nI i) := by
  refine ⟨5, tx_pv2 hi (s := 0) (by omega) (ha 0 (by omega)) (hw 0 (by omega)) (fun c0 => tx_pv2 hi (s := 1) (by omega) (ha 1 (by omega)) (hw 1 (by omega)) (fun c1 => tx_pv2 hi (s := 2) (by omega) (ha 2 (by omega)) (hw 2 (by omega)) (fun c2 => tx_pv2 hi (s := 3) (by omega) (ha 3 (by omega)) (hw 3 (by omega)) (fun c3 => ?_) (fun c3 => ?_)) (fun c2 => ?_)) (fun c1 => ?_)) (fun c0 => ?_)⟩
  · unfold tc_pv at h
    rw [if_pos c0, if_pos c1, if_pos c2, c3, tc_lb8] at h
    exact br_t (nI_le (a := 4) (b := 4) (by omega) (by omega)) h
  · unfold tc_pv at h
    rw [if_pos c0, if_pos c1, if_pos c2] at h
    exact h
  · unfold tc_pv at h
    rw [if_pos c0, if_pos c1, if_neg c2] at h
    exact h
  · unfold tc_pv at h
    rw [if_pos c0, if_neg c1] at h
    exact h
  · unfold tc_pv at h
    rw [if_neg c0] at h
    exact h
theorem tx_pp20 {post : St2 → Prop} {cs P : Int32} {l : Nat} (hl : l < 24) : ∀ (d i : Nat) (ob : Nat → Int32) (q n : Nat), i + d = 24 → d < n → q ≤ i → post (vc, al, ll, ac, lc, ph, cu, cf, M, nI (tc_pp S cs (S l) P d i ob q).2, W, K, S, (tc_pp S cs (S l) P d i ob q).1) → wX_obligePivotPartners_20 post (nI l) cs P vc al ll ac lc ph cu cf M n (nI i) (nI q) W K S ob := by
  intro d
  induction d with
  | zero =>
    intro i ob q n hi hn hq h
    obtain ⟨n, rfl⟩ : ∃ k, n = k + 1 := ⟨n - 1, by omega⟩
    have e : i = 24 := by omega
    subst e
    exact br_t (nI_le (a := 24) (b := 24) (by omega) (by omega)) h
  | succ d ih =>
    intro i ob q n hi hn hq h
    obtain ⟨n, rfl⟩ : ∃ k, n = k + 1 := ⟨n - 1, by omega⟩
    refine br_f (nI_ge (b := 24) (by omega) (by decide)) (tx_hm (by omega) ?_)
    rw [tc_pp] at h
    cases hb : bt cs i
    · rw [if_neg (fun z => by rw [hb] at z; exact absurd z.1 (by decide))] at h
      exact br_t tc_bif (nm_r (nI_1 i) (ih (i + 1) ob q n (by omega) (by omega) (by omega) h))
    · refine br_f tc_bit ⟨vp_in_nI (by omega) (by omega), ?_⟩
      rw [nI_clamp (by omega : i < 2 ^ 31), nI_clamp (by omega : l < 2 ^ 31), nI_clamp (by omega : q < 2 ^ 31)]
      by_cases c : S i &&& P = 0
      · rw [if_neg (fun z => z.2 c)] at h
        exact br_t c (nm_r (nI_1 i) (ih (i + 1) ob q n (by omega) (by omega) (by omega) h))
      · rw [if_pos ⟨hb, c⟩] at h
        exact br_f c ⟨vp_in_nI hl (by omega), vp_in_nI (by omega) (by omega), vp_in_nI (by omega) (by omega), nm_e (nm_r (nI_1 q) (nm_r (nI_1 i) (ih (i + 1) _ (q + 1) n (by omega) (by omega) (by omega) h)))⟩
theorem tx_pp {post : St2 → Prop} {cs : Int32} {l : Nat} {a : Nat → Nat} (hl : l < 24) (ha : ∀ s, s < 4 → a s < 17) (hw : ∀ s, s < 4 → W (l * 4 + s) = tc_w (a s)) (h : post (vc, al, ll, ac, lc, ph, cu, cf, M, nI (tc_pp S cs (S l) (tc_ng (tc_lb (tc_w (tc_pv a)))) 24 0 ob 0).2, W, K, S, (tc_pp S cs (S l) (tc_ng (tc_lb (tc_w (tc_pv a)))) 24 0 ob 0).1)) : wpX_obligePivotPartners post (vc, al, ll, ac, lc, ph, cu, cf, M, oc, W, K, S, ob) (nI l) cs := by
  unfold wpX_obligePivotPartners
  refine tx_pv hl ha hw (tx_neg ⟨25, ?_⟩)
  exact tx_pp20 hl 24 0 ob 0 25 (by omega) (by omega) (by omega) h
theorem tx_way {post : Int32 → St2 → Prop} {cs : Int32} {l : Nat} {a : Nat → Nat} (hl : l < 24) (ha : ∀ s, s < 4 → a s < 17) (hw : ∀ s, s < 4 → W (l * 4 + s) = tc_w (a s)) (hS : ∀ i, i < 24 → bt cs i = true → tc_lo (S i)) (h : post (tc_way S cs (S l) (tc_ng (tc_lb (tc_w (tc_pv a)))) ob).1 (vc, al, ll, ac, lc, ph, cu, cf, M, nI (tc_way S cs (S l) (tc_ng (tc_lb (tc_w (tc_pv a)))) ob).2.2, W, K, S, (tc_way S cs (S l) (tc_ng (tc_lb (tc_w (tc_pv a)))) ob).2.1)) : wpX_wayOfPassing post (vc, al, ll, ac, lc, ph, cu, cf, M, oc, W, K, S, ob) (nI l) cs := by
  unfold wpX_wayOfPassing
  refine ⟨vp_in_nI hl (by omega), nm_r (e' := S l) (by rw [nI_clamp (by omega)]) ?_⟩
  unfold wpX_obligeOnly
  refine nm_e ?_
  refine tx_al (q := 1) (by omega) hS ?_
  unfold tc_way at h
  cases e : tc_al S cs (upd ob 0 (S l)) 1 0
  · rw [e, if_neg (by decide)] at h
    refine br_t tc_bif ?_
    by_cases c : S l = 0
    · rw [if_pos c] at h
      exact br_t c h
    · rw [if_neg c] at h
      refine br_f c (tx_pp hl ha hw ?_)
      have hq := tc_ppq S cs (S l) (tc_ng (tc_lb (tc_w (tc_pv a)))) 24 0 (upd ob 0 (S l)) 0
      refine tx_al (by omega) hS ?_
      cases e2 : tc_al S cs (tc_pp S cs (S l) (tc_ng (tc_lb (tc_w (tc_pv a)))) 24 0 (upd ob 0 (S l)) 0).1 (tc_pp S cs (S l) (tc_ng (tc_lb (tc_w (tc_pv a)))) 24 0 (upd ob 0 (S l)) 0).2 0
      · rw [e2, if_neg (by decide)] at h
        exact br_t tc_bif h
      · rw [if_pos e2] at h
        exact br_f tc_bit h
  · rw [if_pos e] at h
    exact br_f tc_bit h
end
