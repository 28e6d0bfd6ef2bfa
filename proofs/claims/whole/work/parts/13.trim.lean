/-! ===== the trimmed derivation ===== -/
theorem tz_t15 {vc al ll vs ma ml ph cu oc ocy M x1 : Int32} {W K S D mk ob inn obl isf : Nat → Int32} {V n m c : Nat} (hT : tc_Tx V n m W K S) (hD : tc_De K D) (hM : tc_In M mk) (hc : c ≤ m) : ∀ (d j : Nat) (seen : Int32), j + d = c → ∃ r : Int32, (∀ (post : Int32 → Prop) (fu : Nat), d < fu → post r → wX_trimmed_15 post x1 vc al ll (nI n) (nI m) ph cu (nI c) M oc W K S ob fu seen (nI j)) ∧ (∀ (post : Int32 → Prop) (fu : Nat), d < fu → post r → wY_trimmed_15 post x1 vs ma ml (nI n) (nI m) ph cu (nI c) ocy W D mk inn obl isf fu seen (nI j)) := by
  have hnm := hT.2.1
  intro d
  induction d with
  | zero =>
    intro j seen hj
    have e : j = c := by omega
    subst e
    refine ⟨-2, fun post fu hf hp => ?_, fun post fu hf hp => ?_⟩
    · obtain ⟨fu, rfl⟩ : ∃ k, fu = k + 1 := ⟨fu - 1, by omega⟩
      exact br_t (nI_le (by omega) (by omega)) hp
    · obtain ⟨fu, rfl⟩ : ∃ k, fu = k + 1 := ⟨fu - 1, by omega⟩
      exact br_t (nI_le (by omega) (by omega)) hp
  | succ d ih =>
    intro j seen hj
    have nle : ¬ nI c ≤ nI j := nI_ge (by omega) (by omega)
    -- whether the line is relevant: one answer for both sides
    have key : ∃ b : Bool, (∀ post : Int32 → Prop, post (tc_bi b) → wpX_isRelevant post (vc, al, ll, nI n, nI m, ph, cu, nI c, M, oc, W, K, S, ob) (nI (n + j))) ∧ (∀ (post : Int32 → Prop) (fu : Nat), (b = false → wY_trimmed_15 post x1 vs ma ml (nI n) (nI m) ph cu (nI c) ocy W D mk inn obl isf fu seen (nI (j + 1))) → (b = true → wY_trimmed_83 post (wY_trimmed_15 post x1 vs ma ml (nI n) (nI m) ph cu (nI c) ocy W D mk inn obl isf fu) x1 seen (nI j) vs ma ml (nI n) (nI m) ph cu (nI c) ocy W D mk inn obl isf) → wY_trimmed_15 post x1 vs ma ml (nI n) (nI m) ph cu (nI c) ocy W D mk inn obl isf (fu + 1) seen (nI j)) := by
      have y59 : ∀ (post : Int32 → Prop) (fu t : Nat) (b : Bool), t < 24 → b = (decide (t < n) || bt M t) → (b = false → wY_trimmed_15 post x1 vs ma ml (nI n) (nI m) ph cu (nI c) ocy W D mk inn obl isf fu seen (nI (j + 1))) → (b = true → wY_trimmed_83 post (wY_trimmed_15 post x1 vs ma ml (nI n) (nI m) ph cu (nI c) ocy W D mk inn obl isf fu) x1 seen (nI j) vs ma ml (nI n) (nI m) ph cu (nI c) ocy W D mk inn obl isf) → wY_trimmed_59 post (wY_trimmed_15 post x1 vs ma ml (nI n) (nI m) ph cu (nI c) ocy W D mk inn obl isf fu) x1 seen (nI j) (nI t) vs ma ml (nI n) (nI m) ph cu (nI c) ocy W D mk inn obl isf := by
        intro post fu t b ht hb h0 h1
        refine br_c (fun z => h1 ?_) (fun z => ⟨vp_in_nI ht (by omega), ?_⟩)
        · rw [nI_ltI (by omega) (by omega)] at z
          rw [hb, decide_eq_true z, Bool.true_or]
        · rw [nI_ltI (by omega) (by omega)] at z
          rw [decide_eq_false z, Bool.false_or] at hb
          rw [nI_clamp (by omega : t < 2 ^ 31), hM t ht, ← hb]
          cases b
          · exact br_t tc_bif (nm_r (nI_1 j) (h0 rfl))
          · exact br_f tc_bit (h1 rfl)
      by_cases cK : K (n + j) = 3
      · obtain ⟨t, ht, hW⟩ := hT.2.2.2.2.2 (n + j) (by omega) (by omega) cK
        refine ⟨decide (t < n) || bt M t, fun post hp => ?_, fun post fu h0 h1 => br_f nle ?_⟩
        · refine ⟨vp_in_nI (by omega) (by omega), ?_⟩
          rw [nI_clamp (by omega : n + j < 2 ^ 31)]
          refine br_f (by rw [cK]; decide) (tx_tgt (by omega) ?_)
          rw [hW]
          refine br_c (fun z => ?_) (fun z => tx_hm (by omega) ?_)
          · rw [nI_ltI (by omega) (by omega)] at z
            rw [decide_eq_true z, Bool.true_or] at hp
            exact hp
          · rw [nI_ltI (by omega) (by omega)] at z
            rw [decide_eq_false z, Bool.false_or] at hp
            cases e : bt M t
            · rw [e] at hp
              exact br_t tc_bif hp
            · rw [e] at hp
              exact br_f tc_bit hp
        · rw [nI_add, tc_m4, nI_clamp (by omega : n + j < 2 ^ 31), nI_clamp (by omega : (n + j) * 4 < 2 ^ 31), hD (n + j) (by omega), decide_eq_true cK, hW]
          exact ⟨vp_in_nI (by omega) (by omega), br_f tc_bit ⟨vp_in_nI (by omega) (by omega), y59 post fu t _ (by omega) rfl h0 h1⟩⟩
      · have hK2 : K (n + j) = 2 := by
          rcases hT.2.2.2.1 (n + j) (by omega) (by omega) with z | z
          · exact z
          · exact absurd z cK
        refine ⟨bt M (n + j), fun post hp => ?_, fun post fu h0 h1 => br_f nle ?_⟩
        · refine ⟨vp_in_nI (by omega) (by omega), ?_⟩
          rw [nI_clamp (by omega : n + j < 2 ^ 31)]
          exact br_t hK2 (tx_hm (by omega) ⟨tc_nar _, hp⟩)
        · rw [nI_add, nI_clamp (by omega : n + j < 2 ^ 31), hD (n + j) (by omega), decide_eq_false cK]
          refine ⟨vp_in_nI (by omega) (by omega), br_t tc_bif (y59 post fu (n + j) _ (by omega) ?_ h0 h1)⟩
          rw [decide_eq_false (by omega), Bool.false_or]
    obtain ⟨b, kx, ky⟩ := key
    cases b
    · obtain ⟨r, rx, ry⟩ := ih (j + 1) seen (by omega)
      refine ⟨r, fun post fu hf hp => ?_, fun post fu hf hp => ?_⟩
      · obtain ⟨fu, rfl⟩ : ∃ k, fu = k + 1 := ⟨fu - 1, by omega⟩
        exact br_f nle (nm_r (nI_add n j) (kx _ (br_t tc_bif (nm_r (nI_1 j) (rx post fu (by omega) hp)))))
      · obtain ⟨fu, rfl⟩ : ∃ k, fu = k + 1 := ⟨fu - 1, by omega⟩
        exact ky post fu (fun _ => ry post fu (by omega) hp) (fun z => absurd z (by decide))
    · by_cases es : seen = x1
      · refine ⟨nI (n + j), fun post fu hf hp => ?_, fun post fu hf hp => ?_⟩
        · obtain ⟨fu, rfl⟩ : ∃ k, fu = k + 1 := ⟨fu - 1, by omega⟩
          exact br_f nle (nm_r (nI_add n j) (kx _ (br_f tc_bit (br_t es hp))))
        · obtain ⟨fu, rfl⟩ : ∃ k, fu = k + 1 := ⟨fu - 1, by omega⟩
          refine ky post fu (fun z => absurd z (by decide)) (fun _ => br_t es ?_)
          rw [nI_add]
          exact hp
      · obtain ⟨r, rx, ry⟩ := ih (j + 1) (seen + 1) (by omega)
        refine ⟨r, fun post fu hf hp => ?_, fun post fu hf hp => ?_⟩
        · obtain ⟨fu, rfl⟩ : ∃ k, fu = k + 1 := ⟨fu - 1, by omega⟩
          exact br_f nle (nm_r (nI_add n j) (kx _ (br_f tc_bit (br_f es (nm_e (nm_r (nI_1 j) (rx post fu (by omega) hp)))))))
        · obtain ⟨fu, rfl⟩ : ∃ k, fu = k + 1 := ⟨fu - 1, by omega⟩
          exact ky post fu (fun z => absurd z (by decide)) (fun _ => br_f es (nm_e (nm_r (nI_1 j) (ry post fu (by omega) hp))))
theorem i_vc_trimmed {k : Nat} {u : SX} {v : SY} (I : i_Rel k u v) (hk : k + 5 ≤ 2563) (v1 : Int32) : wpX_trimmed (fun r => wpY_trimmed (fun r' => r' = r ∧ i_Rel (k + 5) u v) v v1) u v1 := by
  have I' := i_up I
  obtain ⟨V, A, L, n, m, cu, ph, cf, W, K, S, D, mk, M, oc, oc', ob, inn, obl, isf, rfl, rfl, h⟩ := I
  obtain ⟨hT, hD, hM, hb, hi, hcu, hp, hc⟩ := h
  refine br_c (fun cp => ?_) (fun cp => br_f cp ⟨rfl, I'⟩)
  rcases hc with rfl | ⟨c, hc, rfl⟩
  · exact ⟨1, br_t (by decide) (br_t cp ⟨1, br_t (by decide) ⟨rfl, I'⟩⟩)⟩
  · obtain ⟨r, rx, ry⟩ := tz_t15 (vc := nI V) (al := nI A) (ll := nI L) (vs := nI V) (ma := nI A) (ml := nI L) (ph := ph) (cu := nI cu) (oc := oc) (ocy := oc') (x1 := v1) (ob := ob) (inn := inn) (obl := obl) (isf := isf) hT hD hM hc c 0 0 (by omega)
    exact ⟨c + 1, rx _ (c + 1) (by omega) (br_t cp ⟨c + 1, ry _ (c + 1) (by omega) ⟨rfl, I'⟩⟩)⟩
