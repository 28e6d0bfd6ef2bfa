/-! ===== the class's calls, from any state that keeps the invariant ===== -/
def tq_Q (V A L n m cu : Nat) (ph cf : Int32) (W K S : Nat → Int32) (M : Int32) : Prop :=
  tc_Tx V n m W K S ∧ (n ≤ A ∧ A ≤ 12 ∧ m ≤ L ∧ L ≤ 12) ∧ (∀ i, i < 24 → bt M i = true → i < n + m ∧ ¬ K i = 3) ∧ cu ≤ m ∧ (ph = 0 ∨ ph = 3 ∨ (((ph = 1 ∧ 1 ≤ cu) ∨ (ph = 2 ∧ cu = 0)) ∧ ∃ c, c ≤ m ∧ cu ≤ c ∧ cf = nI c ∧ tc_A n W K S M cu c))
def tq_Z (u : St2) : Prop := ∃ (V A L n m cu : Nat) (ph cf : Int32) (W K S : Nat → Int32) (M oc : Int32) (ob : Nat → Int32), u = (nI V, nI A, nI L, nI n, nI m, ph, nI cu, cf, M, oc, W, K, S, ob) ∧ tq_Q V A L n m cu ph cf W K S M
theorem tq_mk {V A L n m cu : Nat} {ph cf : Int32} {W K S : Nat → Int32} {M oc : Int32} {ob : Nat → Int32} (h : tq_Q V A L n m cu ph cf W K S M) : tq_Z (nI V, nI A, nI L, nI n, nI m, ph, nI cu, cf, M, oc, W, K, S, ob) := ⟨V, A, L, n, m, cu, ph, cf, W, K, S, M, oc, ob, rfl, h⟩
theorem tq_axiom {u : St2} (hZ : tq_Z u) {post : Int32 → St2 → Prop} (hp : ∀ r u', tq_Z u' → post r u') (a b c d : Int32) : wpX_axiom post u a b c d := by
  have hZ' := hZ
  obtain ⟨V, A, L, n, m, cu, ph, cf, W, K, S, M, oc, ob, rfl, hT, hb, hi, hcu, hph⟩ := hZ
  have hnm := hT.2.1
  have hV := hT.1
  refine br_c (fun cp => br_c (fun cm => ?_) (fun _ => hp _ _ hZ')) (fun _ => hp _ _ hZ')
  have hm0 : m = 0 := by
    have := (nI_leI (a := m) (b := 0) (by omega) (by omega)).mp cm
    omega
  refine tx_any (fun g => br_f (by decide) (hp _ _ hZ')) (fun ga gb gc gd => br_t rfl ?_)
  refine br_c (fun ca => ?_) (fun _ => hp _ _ hZ')
  have hn := (nI_ltI (by omega) (by omega)).mp ca
  refine tx_store (by omega) (tx_sl ⟨vp_in_nI (by omega) (by omega), ?_⟩)
  rw [nI_clamp (by omega : n < 2 ^ 31)]
  refine nm_e (nm_r (nI_1 n) (hp _ _ (tq_mk ?_)))
  subst hm0
  refine ⟨tc_TxA hT (by omega) (tc_okof hV.2 ga) (tc_okof hV.2 gb) (tc_okof hV.2 gc) (tc_okof hV.2 gd), ⟨by omega, by omega, by omega, by omega⟩, fun i h1 h2 => ?_, hcu, Or.inl cp⟩
  have := hi i h1 h2
  refine ⟨by omega, ?_⟩
  rw [pk_un (by omega)]
  exact this.2
theorem tq_lemma {u : St2} (hZ : tq_Z u) {post : Int32 → St2 → Prop} (hp : ∀ r u', tq_Z u' → post r u') (a b c d : Int32) : wpX_lemma post u a b c d := by
  have hZ' := hZ
  obtain ⟨V, A, L, n, m, cu, ph, cf, W, K, S, M, oc, ob, rfl, hT, hb, hi, hcu, hph⟩ := hZ
  have hnm := hT.2.1
  have hV := hT.1
  refine br_c (fun cp => ?_) (fun _ => hp _ _ hZ')
  refine tx_any (fun g => br_f (by decide) (hp _ _ hZ')) (fun ga gb gc gd => br_t rfl ?_)
  refine br_c (fun ca => ?_) (fun _ => hp _ _ hZ')
  have hn := (nI_ltI (by omega) (by omega)).mp ca
  refine nm_r (nI_add n m) (tx_store (by omega) (tx_sl ⟨vp_in_nI (by omega) (by omega), ?_⟩))
  rw [nI_clamp (by omega : n + m < 2 ^ 31)]
  refine nm_e ?_
  unfold wpX_countNewLine
  refine nm_r (nI_1 m) (hp _ _ (tq_mk ?_))
  refine ⟨tc_TxL hT (by omega) (tc_okof hV.2 ga) (tc_okof hV.2 gb) (tc_okof hV.2 gc) (tc_okof hV.2 gd), ⟨by omega, by omega, by omega, by omega⟩, fun i h1 h2 => ?_, by omega, Or.inl cp⟩
  have := hi i h1 h2
  refine ⟨by omega, ?_⟩
  rw [pk_un (by omega)]
  exact this.2
theorem tq_hm {n k V m : Nat} {W K S : Nat → Int32} (hT : tc_Tx V n m W K S) (hk : k ≤ m) {post : Int32 → Prop} (p : Int32) (h0 : post 0) (h1 : ∀ t, t < n + k → p = nI t → post 1) : wpX_hasMember post () (tc_av K W n k) p := by
  rcases pk_ix p (n := 24) (by omega) with h | h | ⟨j, hj, rfl⟩
  · exact tx_hm0 (Or.inl h) h0
  · exact tx_hm0 (Or.inr h) h0
  · refine tx_hm hj ?_
    cases e : bt (tc_av K W n k) j
    · exact h0
    · exact h1 j ((tc_avb hT k hk j hj).mp e).1 rfl
theorem tq_delete {u : St2} (hZ : tq_Z u) {post : Int32 → St2 → Prop} (hp : ∀ r u', tq_Z u' → post r u') (a : Int32) : wpX_delete post u a := by
  have hZ' := hZ
  obtain ⟨V, A, L, n, m, cu, ph, cf, W, K, S, M, oc, ob, rfl, hT, hb, hi, hcu, hph⟩ := hZ
  have hnm := hT.2.1
  refine br_c (fun cp => ?_) (fun _ => hp _ _ hZ')
  refine tx_av (by omega) (tq_hm hT (Nat.le_refl m) a (br_t rfl (hp _ _ hZ')) (fun t ht et => br_f (by decide) ?_))
  subst et
  refine br_c (fun ca => ?_) (fun _ => hp _ _ hZ')
  have hn := (nI_ltI (by omega) (by omega)).mp ca
  refine nm_r (nI_add n m) (tx_store (by omega) ?_)
  unfold wpX_countNewLine
  refine nm_r (nI_1 m) (hp _ _ (tq_mk ?_))
  refine ⟨tc_TxD hT (by omega) ht, ⟨by omega, by omega, by omega, by omega⟩, fun i h1 h2 => ?_, by omega, Or.inl cp⟩
  have := hi i h1 h2
  refine ⟨by omega, ?_⟩
  rw [pk_un (by omega)]
  exact this.2
theorem tq_alive {u : St2} (hZ : tq_Z u) {post : Int32 → Prop} (hp : ∀ r, post r) (a : Int32) : wpX_alive post u a := by
  obtain ⟨V, A, L, n, m, cu, ph, cf, W, K, S, M, oc, ob, rfl, hT, hb, hi, hcu, hph⟩ := hZ
  have hnm := hT.2.1
  unfold wpX_alive
  exact tx_av (by omega) (tq_hm hT hcu a ⟨rfl, hp _⟩ (fun _ _ _ => ⟨rfl, hp _⟩))
theorem tq_word {u : St2} (hZ : tq_Z u) {post : Int32 → Prop} (hp : ∀ r, post r) (a b : Int32) : wpX_word post u a b := by
  obtain ⟨V, A, L, n, m, cu, ph, cf, W, K, S, M, oc, ob, rfl, hT, hb, hi, hcu, hph⟩ := hZ
  have hnm := hT.2.1
  unfold wpX_word
  refine tx_it (by omega) (fun _ => br_t rfl (hp _)) (fun j hj e => br_f (by decide) ?_)
  subst e
  refine br_c (fun _ => hp _) (fun c => br_c (fun d => ?_) (fun _ => hp _))
  obtain ⟨s, hs, rfl⟩ := nI_of c
  have d' : s < 4 := (nI_ltI (b := 4) hs (by omega)).mp d
  exact ⟨by rw [tc_m4s]; exact vp_in_nI (by omega) (by omega), hp _⟩
theorem tq_rewind {u : St2} (hZ : tq_Z u) {post : Int32 → St2 → Prop} (hp : ∀ r u', tq_Z u' → post r u') (a : Int32) : wpX_rewind post u a := by
  obtain ⟨V, A, L, n, m, cu, ph, cf, W, K, S, M, oc, ob, rfl, hT, hb, hi, hcu, hph⟩ := hZ
  have hnm := hT.2.1
  have new : ∀ (n' m' : Nat), tc_Tx V n' m' W K S → n' ≤ n → m' ≤ m → tq_Q V A L n' m' m' 0 (-1) W K S 0 := by
    intro n' m' hT' h1 h2
    exact ⟨hT', ⟨by omega, by omega, by omega, by omega⟩, fun i _ z => by rw [b_0] at z; exact absurd z (by decide), by omega, Or.inl rfl⟩
  refine br_c (fun c0 => br_c (fun cm => hp _ _ (tq_mk (new n m hT (by omega) (by omega)))) (fun cm => ?_)) (fun c0 => hp _ _ (tq_mk (n := 0) (m := 0) (cu := 0) (new 0 0 (tc_Tx0 hT) (by omega) (by omega))))
  obtain ⟨j, hj, rfl⟩ := nI_of (Int32.not_lt.mpr c0)
  have hjm : j < m := by
    rw [nI_leI (by omega) hj] at cm
    omega
  exact hp _ _ (tq_mk (new n j (tc_TxR hT (by omega)) (by omega) (by omega)))
theorem tq_seal {u : St2} (hZ : tq_Z u) {post : Int32 → St2 → Prop} (hp : ∀ r u', tq_Z u' → post r u') : wpX_seal post u := by
  have hZ' := hZ
  obtain ⟨V, A, L, n, m, cu, ph, cf, W, K, S, M, oc, ob, rfl, hT, hb, hi, hcu, hph⟩ := hZ
  have hnm := hT.2.1
  refine br_c (fun cp => ?_) (fun _ => hp _ _ hZ')
  refine tx_fc hT (fun e => br_t rfl (hp _ _ hZ')) (fun x e => br_f ?_ ?_)
  · have := tc_fcb _ _ _ e
    intro z
    have z' : ¬ nI x < 0 := nI_pos (by omega)
    rw [z] at z'
    exact z' (by decide)
  · have hx := tc_fcb _ _ _ e
    refine tx_av (by omega) ?_
    unfold wpX_obligeOnly
    refine nm_e (tx_keep (q := 1) (by omega) (tc_CSlo hT.1.2 (tc_CSav hT (by omega))) ?_)
    have hA := tc_Aseal (M := M) (ob := ob) hT e
    have hM := tc_Mnew (ob := upd ob 0 0) (q := 1) hT (by omega : x ≤ m) hi
    refine br_c (fun z => hp _ _ (tq_mk ⟨hT, hb, hM, by omega, Or.inr (Or.inr ⟨Or.inr ⟨rfl, ?_⟩, x, by omega, Nat.le_refl x, rfl, hA⟩)⟩)) (fun z => hp _ _ (tq_mk ⟨hT, hb, hM, by omega, Or.inr (Or.inr ⟨Or.inl ⟨rfl, ?_⟩, x, by omega, Nat.le_refl x, rfl, hA⟩)⟩))
    · exact (nI_eq (a := x) (b := 0) (by omega) (by omega)).mp z
    · have : ¬ x = 0 := fun y => z (by rw [y]; rfl)
      omega
theorem tq_back {u : St2} (hZ : tq_Z u) {post : Int32 → St2 → Prop} (hp : ∀ r u', tq_Z u' → post r u') : wpX_back post u := by
  have hZ' := hZ
  obtain ⟨V, A, L, n, m, cu, ph, cf, W, K, S, M, oc, ob, rfl, hT, hb, hi, hcu, hph⟩ := hZ
  have hnm := hT.2.1
  refine br_c (fun cp => ?_) (fun _ => hp _ _ hZ')
  obtain ⟨h1, c, hc, hcc, ec, hA⟩ : 1 ≤ cu ∧ ∃ c, c ≤ m ∧ cu ≤ c ∧ cf = nI c ∧ tc_A n W K S M cu c := by
    rcases hph with z | z | ⟨⟨_, z⟩ | ⟨z, _⟩, h⟩
    · rw [z] at cp; exact absurd cp (by decide)
    · rw [z] at cp; exact absurd cp (by decide)
    · exact ⟨z, h⟩
    · rw [z] at cp; exact absurd cp (by decide)
  obtain ⟨j, rfl⟩ : ∃ j, cu = j + 1 := ⟨cu - 1, by omega⟩
  refine nm_r (nI_pred j) (nm_r (nI_add n j) ⟨vp_in_nI (by omega) (by omega), ?_⟩)
  rw [nI_clamp (by omega : n + j < 2 ^ 31)]
  -- the end of each way
  have fin : ∀ (r M' oc : Int32) (ob : Nat → Int32), tc_A n W K S M' j c → (∀ i, i < 24 → bt M' i = true → i < n + m ∧ ¬ K i = 3) → wX_back_85 post (nI j) r (nI V) (nI A) (nI L) (nI n) (nI m) ph (nI (j + 1)) cf M' oc W K S ob := by
    intro r M' oc ob g1 g2
    unfold wX_back_85
    refine br_c (fun z => hp _ _ (tq_mk ⟨hT, hb, g2, by omega, Or.inr (Or.inr ⟨Or.inr ⟨rfl, ?_⟩, c, hc, by omega, ec, g1⟩)⟩)) (fun z => hp _ _ (tq_mk ⟨hT, hb, g2, by omega, Or.inr (Or.inr ⟨Or.inl ⟨cp, ?_⟩, c, hc, by omega, ec, g1⟩)⟩))
    · exact (nI_eq (a := j) (b := 0) (by omega) (by omega)).mp z
    · have : ¬ j = 0 := fun y => z (by rw [y]; rfl)
      omega
  have xst : ∀ (z0 : Int32), wX_back_40 post (nI j) (nI (n + j)) z0 (nI V) (nI A) (nI L) (nI n) (nI m) ph (nI (j + 1)) cf M oc W K S ob := by
    intro z0
    refine tx_hm (by omega) ?_
    cases eM : bt M (n + j)
    · exact br_t tc_bif (fin z0 M oc ob (tc_Askip hA (Or.inr eM)) hi)
    · have hK := (hi (n + j) (by omega) eM).2
      obtain ⟨p1, p2, p3⟩ := tc_Clp hT.1.2 (hT.2.2.2.2.1 (n + j) (by omega) hK)
      have hC : tc_CS V (n + m) W S (tc_av K W n j) := tc_CSav hT (by omega)
      have hlo := tc_CSlo hT.1.2 hC
      refine br_f tc_bit (tx_av (by omega) (tx_way (by omega) p1 p2 hlo ?_))
      have hq := tc_wayq S (tc_av K W n j) (S (n + j)) (tc_P W (n + j)) ob
      refine br_c (fun z => hp _ _ (tq_mk ⟨hT, hb, hi, by omega, Or.inr (Or.inl rfl)⟩)) (fun z => tx_keep hq hlo ?_)
      exact fin _ _ _ _ (tc_Aback hT hc (by omega) hA z) (tc_Mnew hT (by omega) hi)
  exact br_c (fun z => xst 1) (fun z => xst 2)
/-! going forward: an answer, and in an accepted state of the trimmed and of the core view the conflict point -/
theorem tq_f41 {vc al ll ph cu cf M : Int32} {W K S : Nat → Int32} {V n m : Nat} {pr : Int32} (hT : tc_Tx V n m W K S) {post : Int32 → St2 → Prop} (hp : ∀ r oc ob, post r (vc, al, ll, nI n, nI m, ph, cu, cf, M, oc, W, K, S, ob)) : ∀ (d j : Nat) (held : Int32), j + d = m → (∀ i, i < 24 → bt held i = true → i < n + j ∧ ¬ K i = 3) → ∀ (fu : Nat) (oc : Int32) (ob : Nat → Int32), d < fu → wX_forward_41 post pr fu held (nI j) vc al ll (nI n) (nI m) ph cu cf M oc W K S ob := by
  have hnm := hT.2.1
  have hlof : ∀ (j : Nat) (held : Int32), j ≤ m → (∀ i, i < 24 → bt held i = true → i < n + j ∧ ¬ K i = 3) → ∀ i, i < 24 → bt held i = true → tc_lo (S i) := by
    intro j held hj h
    refine tc_CSlo (N := n + m) (W := W) hT.1.2 (fun i hi hb => ?_)
    obtain ⟨h1, h2⟩ := h i hi hb
    exact ⟨by omega, hT.2.2.2.2.1 i (by omega) h2⟩
  intro d
  induction d with
  | zero =>
    intro j held hj hH fu oc ob hf
    obtain ⟨fu, rfl⟩ : ∃ k, fu = k + 1 := ⟨fu - 1, by omega⟩
    exact br_t (nI_le (by omega) (by omega)) (tx_ref (hlof j held (by omega) hH) (br_c (fun _ => hp _ _ _) (fun _ => hp _ _ _)))
  | succ d ih =>
    intro j held hj hH fu oc ob hf
    obtain ⟨fu, rfl⟩ : ∃ k, fu = k + 1 := ⟨fu - 1, by omega⟩
    have hlo := hlof j held (by omega) hH
    refine br_f (nI_ge (by omega) (by omega)) (tx_ref hlo (br_c (fun _ => ?_) (fun _ => hp _ _ _)))
    refine nm_r (nI_add n j) ⟨vp_in_nI (by omega) (by omega), ?_⟩
    rw [nI_clamp (by omega : n + j < 2 ^ 31)]
    refine br_c (fun cK => ?_) (fun cK => ?_)
    · obtain ⟨t, ht, hW⟩ := hT.2.2.2.2.2 (n + j) (by omega) (by omega) cK
      refine tx_tgt (by omega) (nm_e (nm_r (nI_1 j) (ih (j + 1) _ (by omega) (fun i hi hb => ?_) fu oc ob (by omega))))
      rw [b_and, Bool.and_eq_true] at hb
      have := hH i hi hb.1
      exact ⟨by omega, this.2⟩
    · refine tx_hm (by omega) (br_c (fun _ => nm_r (nI_1 j) (ih (j + 1) held (by omega) (fun i hi hb => ?_) fu oc ob (by omega))) (fun _ => ?_))
      · have := hH i hi hb
        exact ⟨by omega, this.2⟩
      · obtain ⟨p1, p2, p3⟩ := tc_Clp hT.1.2 (hT.2.2.2.2.1 (n + j) (by omega) cK)
        refine tx_way (by omega) p1 p2 hlo (br_c (fun _ => hp _ _ _) (fun _ => nm_e (nm_r (nI_1 j) (ih (j + 1) (held ||| tc_1 (n + j)) (by omega) (fun i hi hb => ?_) fu _ _ (by omega)))))
        rw [tc_add (by omega) (by omega), Bool.or_eq_true, decide_eq_true_eq] at hb
        rcases hb with hb | hb
        · have := hH i hi hb
          exact ⟨by omega, this.2⟩
        · rw [hb]
          exact ⟨by omega, cK⟩
theorem tc_h0 {V n m w : Nat} {W K S : Nat → Int32} {M : Int32} (hT : tc_Tx V n m W K S) : ∀ i, i < 24 → bt (tc_pr w n M &&& tc_ax n) i = true → i < n + 0 ∧ ¬ K i = 3 := by
  intro i h24 hbt
  have hnm := hT.2.1
  rw [b_and, Bool.and_eq_true, tc_axb n (by omega) i (by omega), decide_eq_true_eq] at hbt
  refine ⟨by omega, ?_⟩
  rw [hT.2.2.1 i hbt.2]
  decide
theorem tq_forward0 {u : St2} (hZ : tq_Z u) {post : Int32 → St2 → Prop} (hp : ∀ r u', tq_Z u' → post r u') : wpX_forward post u 0 := by
  obtain ⟨V, A, L, n, m, cu, ph, cf, W, K, S, M, oc, ob, rfl, hQ⟩ := hZ
  have hT := hQ.1
  have hnm := hT.2.1
  unfold wpX_forward
  refine tx_vw (w := 0) (by omega) (br_f (by decide) (br_t rfl ?_))
  unfold wX_forward_25
  refine tx_pr (w := 0) (by omega) (nm_e ⟨m + 1, ?_⟩)
  exact tq_f41 hT (fun r oc ob => hp _ _ (tq_mk hQ)) m 0 _ (by omega) (tc_h0 hT) (m + 1) oc ob (by omega)
theorem tq_facc {vc al ll ph cu cf M : Int32} {W K S : Nat → Int32} {V n m c : Nat} {pr : Int32} (hT : tc_Tx V n m W K S) (hc : c ≤ m) (hA : tc_A n W K S M 0 c) (hpr : ∀ i, i < 24 → bt M i = true → bt pr i = true) (hpl : ∀ i, n ≤ i → i < 24 → bt pr i = bt M i) {post : Int32 → St2 → Prop} (hp : ∀ oc ob, post (nI c) (vc, al, ll, nI n, nI m, ph, cu, cf, M, oc, W, K, S, ob)) : ∀ (d j : Nat) (held : Int32), j + d = c → (∀ i, i < 24 → bt held i = (bt (tc_av K W n j) i && bt pr i)) → ∀ (fu : Nat) (oc : Int32) (ob : Nat → Int32), d < fu → wX_forward_41 post pr fu held (nI j) vc al ll (nI n) (nI m) ph cu cf M oc W K S ob := by
  have hnm := hT.2.1
  obtain ⟨h1, h2, h3⟩ := hA
  have sub : ∀ j held, (∀ i, i < 24 → bt held i = (bt (tc_av K W n j) i && bt pr i)) → ∀ i, i < 24 → bt held i = true → bt (tc_av K W n j) i = true := by
    intro j held hH i hi e
    rw [hH i hi, Bool.and_eq_true] at e
    exact e.1
  have sup : ∀ j held, (∀ i, i < 24 → bt held i = (bt (tc_av K W n j) i && bt pr i)) → ∀ i, i < 24 → bt (tc_av K W n j &&& M) i = true → bt held i = true := by
    intro j held hH i hi e
    rw [b_and, Bool.and_eq_true] at e
    rw [hH i hi, e.1, hpr i hi e.2]
    rfl
  intro d
  induction d with
  | zero =>
    intro j held hj hH fu oc ob hf
    obtain ⟨fu, rfl⟩ : ∃ k, fu = k + 1 := ⟨fu - 1, by omega⟩
    have e : j = c := by omega
    subst e
    have hlo : ∀ i, i < 24 → bt held i = true → tc_lo (S i) := fun i hi e => tc_avL hT hc i hi (sub j held hH i hi e)
    have hr : tc_rf S held 0 = true := tc_mono hlo tc_lo0 (sup j held hH) h2
    refine br_c (fun z => tx_ref hlo ?_) (fun z => tx_ref hlo ?_)
    · rw [hr]
      have : m = j := by
        rw [nI_leI (by omega) (by omega)] at z
        omega
      refine br_f tc_bit ?_
      rw [this] at hp ⊢
      exact hp oc ob
    · rw [hr]
      exact br_f tc_bit (hp oc ob)
  | succ d ih =>
    intro j held hj hH fu oc ob hf
    obtain ⟨fu, rfl⟩ : ∃ k, fu = k + 1 := ⟨fu - 1, by omega⟩
    have hlo : ∀ i, i < 24 → bt held i = true → tc_lo (S i) := fun i hi e => tc_avL hT (by omega) i hi (sub j held hH i hi e)
    have hr : tc_rf S held 0 = false := by
      cases e : tc_rf S held 0
      · rfl
      · have := tc_mono (tc_avL hT (by omega)) tc_lo0 (sub j held hH) e
        rw [h1 j (by omega)] at this
        exact absurd this (by decide)
    refine br_f (nI_ge (by omega) (by omega)) (tx_ref hlo ?_)
    rw [hr]
    refine br_t tc_bif (nm_r (nI_add n j) ⟨vp_in_nI (by omega) (by omega), ?_⟩)
    rw [nI_clamp (by omega : n + j < 2 ^ 31)]
    refine br_c (fun cK => ?_) (fun cK => ?_)
    · obtain ⟨t, ht, hW⟩ := hT.2.2.2.2.2 (n + j) (by omega) (by omega) cK
      refine tx_tgt (by omega) (nm_e (nm_r (nI_1 j) (ih (j + 1) _ (by omega) (fun i hi => ?_) fu oc ob (by omega))))
      rw [tc_av, if_pos cK, b_and, b_and, hH i hi]
      cases bt (tc_av K W n j) i <;> cases bt pr i <;> simp
    · have hnj : bt (tc_av K W n j) (n + j) = false := by
        cases e : bt (tc_av K W n j) (n + j)
        · rfl
        · have := ((tc_avb hT j (by omega) (n + j) (by omega)).mp e).1
          omega
      refine tx_hm (by omega) ?_
      cases ep : bt pr (n + j)
      · refine br_t tc_bif (nm_r (nI_1 j) (ih (j + 1) held (by omega) (fun i hi => ?_) fu oc ob (by omega)))
        rw [tc_av, if_neg cK, tc_add (by omega) (by omega), hH i hi]
        by_cases e : i = n + j
        · rw [e, ep, Bool.and_false, Bool.and_false]
        · rw [decide_eq_false e, Bool.or_false]
      · obtain ⟨p1, p2, p3⟩ := tc_Clp hT.1.2 (hT.2.2.2.2.1 (n + j) (by omega) cK)
        have hloL : tc_lo (S (n + j)) := by rw [p3]; exact tc_losl p1
        have hM : bt M (n + j) = true := by
          rw [← hpl (n + j) (by omega) (by omega)]
          exact ep
        have hps : tc_ps S held held (S (n + j)) (tc_P W (n + j)) := tc_psm hlo hlo hloL (sup j held hH) (sub j held hH) (h3 j (by omega) (by omega) cK hM)
        refine br_f tc_bit (tx_way (by omega) p1 p2 hlo (br_f (tc_psway hps) (nm_e (nm_r (nI_1 j) (ih (j + 1) (held ||| tc_1 (n + j)) (by omega) (fun i hi => ?_) fu _ _ (by omega))))))
        rw [tc_av, if_neg cK, tc_add (by omega) (by omega), tc_add (by omega) (by omega), hH i hi]
        by_cases e : i = n + j
        · rw [e, decide_eq_true rfl, Bool.or_true, Bool.or_true, ep]
          rfl
        · rw [decide_eq_false e, Bool.or_false, Bool.or_false]
theorem tq_forwardA {V A L n m c w : Nat} {cf : Int32} {W K S : Nat → Int32} {M oc : Int32} {ob : Nat → Int32} (hQ : tq_Q V A L n m 0 2 cf W K S M) (hc : c ≤ m) (hA : tc_A n W K S M 0 c) (hw : w = 1 ∨ w = 2) {post : Int32 → St2 → Prop} (hp : ∀ oc ob, post (nI c) (nI V, nI A, nI L, nI n, nI m, 2, nI 0, cf, M, oc, W, K, S, ob)) : wpX_forward post (nI V, nI A, nI L, nI n, nI m, 2, nI 0, cf, M, oc, W, K, S, ob) (nI w) := by
  have hT := hQ.1
  have hnm := hT.2.1
  unfold wpX_forward
  refine tx_vw (by omega) (br_f (by decide) (br_f (nI_ne0 (by omega) (by omega)) (br_t rfl ?_)))
  unfold wX_forward_25
  refine tx_pr (by omega) (nm_e ⟨m + 1, ?_⟩)
  have hpr : ∀ i, i < 24 → bt M i = true → bt (tc_pr w n M) i = true := by
    intro i hi e
    unfold tc_pr
    rcases hw with rfl | rfl
    · rw [if_neg (by decide), if_pos rfl, b_or, e, Bool.or_true]
    · rw [if_pos rfl]; exact e
  have hpl : ∀ i, n ≤ i → i < 24 → bt (tc_pr w n M) i = bt M i := by
    intro i h1 hi
    unfold tc_pr
    rcases hw with rfl | rfl
    · rw [if_neg (by decide), if_pos rfl, b_or, tc_axb n (by omega) i (by omega), decide_eq_false (by omega), Bool.false_or]
    · rw [if_pos rfl]
  refine tq_facc hT hc hA hpr hpl hp c 0 _ (by omega) (fun i hi => ?_) (m + 1) oc ob (by omega)
  show bt (tc_pr w n M &&& tc_ax n) i = (bt (tc_ax n) i && bt (tc_pr w n M) i)
  rw [b_and, Bool.and_comm]
theorem tq_h25 {vc al ll lc ph cu cf M oc pr tl : Int32} {W K S ob : Nat → Int32} {n : Nat} (hn : n ≤ 12) {post : Int32 → Prop} (h1 : (∀ i, i < n → bt pr i = true → ¬ S i &&& tl = 0) → post 1) (h0 : post 0) : ∀ (d i fu : Nat), i + d = n → d < fu → (∀ j, j < i → bt pr j = true → ¬ S j &&& tl = 0) → wX_holds_25 post pr tl vc al ll (nI n) lc ph cu cf M oc W K S ob fu (nI i) := by
  intro d
  induction d with
  | zero =>
    intro i fu hi hf hI
    obtain ⟨fu, rfl⟩ : ∃ k, fu = k + 1 := ⟨fu - 1, by omega⟩
    have e : i = n := by omega
    subst e
    exact br_t (nI_le (by omega) (by omega)) (h1 hI)
  | succ d ih =>
    intro i fu hi hf hI
    obtain ⟨fu, rfl⟩ : ∃ k, fu = k + 1 := ⟨fu - 1, by omega⟩
    refine br_f (nI_ge (by omega) (by omega)) (tx_hm (by omega) ?_)
    cases e : bt pr i
    · refine br_t tc_bif (nm_r (nI_1 i) (ih (i + 1) fu (by omega) (by omega) (fun j hj ej => ?_)))
      by_cases z : j = i
      · rw [z, e] at ej; exact absurd ej (by decide)
      · exact hI j (by omega) ej
    · refine br_f tc_bit ⟨vp_in_nI (by omega) (by omega), ?_⟩
      rw [nI_clamp (by omega : i < 2 ^ 31)]
      refine br_c (fun _ => h0) (fun c => nm_r (nI_1 i) (ih (i + 1) fu (by omega) (by omega) (fun j hj ej => ?_)))
      by_cases z : j = i
      · rw [z]; exact c
      · exact hI j (by omega) ej
theorem tq_holds {V A L n m cu w : Nat} {ph cf : Int32} {W K S : Nat → Int32} {M oc : Int32} {ob : Nat → Int32} (hQ : tq_Q V A L n m cu ph cf W K S M) (hw : w ≤ 2) (as : Int32) {post : Int32 → Prop} (h1 : (∀ i, i < n → bt (tc_pr w n M) i = true → ¬ S i &&& tc_tl V as = 0) → post 1) (h0 : post 0) : wpX_holds post (nI V, nI A, nI L, nI n, nI m, ph, nI cu, cf, M, oc, W, K, S, ob) (nI w) as := by
  have hT := hQ.1
  have hnm := hT.2.1
  unfold wpX_holds
  refine tx_vw hw (br_f (by decide) (tx_pr hw ?_))
  unfold wpX_trueLiterals
  exact nm_e (nm_e (nm_e ⟨n + 1, tq_h25 (by omega) h1 h0 n 0 (n + 1) (by omega) (by omega) (fun j hj => absurd hj (by omega))⟩))
theorem tq_holdsA {V A L n m c w : Nat} {cf : Int32} {W K S : Nat → Int32} {M oc : Int32} {ob : Nat → Int32} (hQ : tq_Q V A L n m 0 2 cf W K S M) (hc : c ≤ m) (hA : tc_A n W K S M 0 c) (hw : w ≤ 2) (as : Int32) {post : Int32 → Prop} (h0 : post 0) : wpX_holds post (nI V, nI A, nI L, nI n, nI m, 2, nI 0, cf, M, oc, W, K, S, ob) (nI w) as := by
  have hT := hQ.1
  have hnm := hT.2.1
  refine tq_holds hQ hw as (fun h => ?_) h0
  refine absurd (tc_unsat hT hc hA.2.1 (fun j hj => hA.2.2 j (by omega) hj) as (fun i hi e => h i hi ?_)) id
  unfold tc_pr
  by_cases c2 : w = 2
  · rw [if_pos c2]; exact e
  · rw [if_neg c2]
    by_cases c1 : w = 1
    · rw [if_pos c1, b_or, e, Bool.or_true]
    · rw [if_neg c1]; exact tc_all i (by omega)
