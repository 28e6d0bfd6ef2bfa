/-! ===== sealing and going back ===== -/
def tc_fc (S K W : Nat → Int32) (n : Nat) : Nat → Nat → Option Nat
  | 0, _ => none
  | d + 1, c => if tc_rf S (tc_av K W n c) 0 = true then some c else tc_fc S K W n d (c + 1)
theorem tc_fcb {S K W : Nat → Int32} {n : Nat} : ∀ (d c x : Nat), tc_fc S K W n d c = some x → c ≤ x ∧ x < c + d := by
  intro d
  induction d with
  | zero => intro c x h; exact absurd h (by simp [tc_fc])
  | succ d ih =>
    intro c x h
    rw [tc_fc] at h
    by_cases e : tc_rf S (tc_av K W n c) 0 = true
    · rw [if_pos e] at h
      have := Option.some.inj h
      omega
    · rw [if_neg e] at h
      have := ih (c + 1) x h
      omega
theorem tc_CSav {V n m : Nat} {W K S : Nat → Int32} (hT : tc_Tx V n m W K S) {k : Nat} (hk : k ≤ m) : tc_CS V (n + m) W S (tc_av K W n k) := by
  intro i hi hb
  obtain ⟨h1, h2, _⟩ := (tc_avb hT k hk i hi).mp hb
  exact ⟨by omega, hT.2.2.2.2.1 i (by omega) h2⟩
theorem tc_kps {S : Nat → Int32} {cs M : Int32} {ob : Nat → Int32} {q : Nat} : ∀ (i : Nat) (k : Int32) (j : Nat), bt (tc_kp S cs M ob q i k) j = true → bt k j = true := by
  intro i
  induction i with
  | zero => intro k j h; exact h
  | succ i ih =>
    intro k j h
    rw [tc_kp] at h
    by_cases c : bt cs i = true ∧ bt M i = false
    · rw [if_pos c] at h
      by_cases e : tc_al S (k &&& (tc_1 i ^^^ (-1))) ob q 0 = true
      · rw [if_pos e] at h
        have := ih _ j h
        rw [b_and, Bool.and_eq_true] at this
        exact this.1
      · rw [if_neg e] at h
        exact ih k j h
    · rw [if_neg c] at h
      exact ih k j h
theorem tx_fc {vc al ll ph cu cf M oc : Int32} {W K S ob : Nat → Int32} {V n m : Nat} (hT : tc_Tx V n m W K S) {post : Int32 → Prop} (h0 : tc_fc S K W n (m + 1) 0 = none → post (-1)) (h1 : ∀ x, tc_fc S K W n (m + 1) 0 = some x → post (nI x)) : wpX_firstConflict post (vc, al, ll, nI n, nI m, ph, cu, cf, M, oc, W, K, S, ob) := by
  have hnm := hT.2.1
  have main : ∀ (d c fu : Nat), c + d = m + 1 → d < fu → (tc_fc S K W n d c = none → post (-1)) → (∀ x, tc_fc S K W n d c = some x → post (nI x)) → wX_firstConflict_2 post vc al ll (nI n) (nI m) ph cu cf M oc W K S ob fu (nI c) := by
    intro d
    induction d with
    | zero =>
      intro c fu hc hf g0 g1
      obtain ⟨fu, rfl⟩ : ∃ k, fu = k + 1 := ⟨fu - 1, by omega⟩
      exact br_t (nI_lt (by omega) (by omega)) (g0 rfl)
    | succ d ih =>
      intro c fu hc hf g0 g1
      obtain ⟨fu, rfl⟩ : ∃ k, fu = k + 1 := ⟨fu - 1, by omega⟩
      refine br_f (nI_nlt (by omega) (by omega)) (tx_av (by omega) (tx_ref (tc_CSlo hT.1.2 (tc_CSav hT (by omega))) ?_))
      rw [tc_fc] at g0 g1
      cases e : tc_rf S (tc_av K W n c) 0
      · rw [e, if_neg (by decide)] at g0 g1
        exact br_t tc_bif (nm_r (nI_1 c) (ih (c + 1) fu (by omega) (by omega) g0 g1))
      · rw [if_pos e] at g1
        exact br_f tc_bit (g1 c rfl)
  exact ⟨m + 2, main (m + 1) 0 (m + 2) (by omega) (by omega) h0 h1⟩
theorem ty_seal {vs ma ml ph cu cf M : Int32} {W K S D mk ob : Nat → Int32} {V n m : Nat} (hT : tc_Tx V n m W K S) (hD : tc_De K D) (hM : tc_In M mk) {post : Int32 → SY → Prop} : ∀ (d c : Nat) (oc : Int32) (inn obl isf : Nat → Int32) (fu : Nat), c + d = m + 1 → d < fu → (tc_fc S K W n d c = none → ∀ oc inn obl isf, post (-4) (vs, ma, ml, nI n, nI m, ph, cu, cf, oc, W, D, mk, inn, obl, isf)) → (∀ x, tc_fc S K W n d c = some x → ∀ oc mk inn obl isf, tc_In (M ||| tc_kp S (tc_av K W n x) M (upd ob 0 0) 1 24 (tc_av K W n x)) mk → (x = 0 → post (nI x) (vs, ma, ml, nI n, nI m, 2, nI x, nI x, oc, W, D, mk, inn, obl, isf)) ∧ (¬ x = 0 → post (nI x) (vs, ma, ml, nI n, nI m, 1, nI x, nI x, oc, W, D, mk, inn, obl, isf))) → wY_seal_12 post fu (nI c) vs ma ml (nI n) (nI m) ph cu cf oc W D mk inn obl isf := by
  have hnm := hT.2.1
  intro d
  induction d with
  | zero =>
    intro c oc inn obl isf fu hc hf g0 g1
    obtain ⟨fu, rfl⟩ : ∃ k, fu = k + 1 := ⟨fu - 1, by omega⟩
    exact br_t (nI_lt (by omega) (by omega)) (g0 rfl oc inn obl isf)
  | succ d ih =>
    intro c oc inn obl isf fu hc hf g0 g1
    obtain ⟨fu, rfl⟩ : ∃ k, fu = k + 1 := ⟨fu - 1, by omega⟩
    have hC : tc_CS V (n + m) W S (tc_av K W n c) := tc_CSav hT (by omega)
    refine br_f (nI_nlt (by omega) (by omega)) (ty_fill hT hD (by omega) (fun inn hin => ?_))
    refine ty_empty hT.1.2 (by omega) hC hin (fun obl isf hF => ?_)
    rw [tc_fc] at g0 g1
    cases e : tc_rf S (tc_av K W n c) 0
    · rw [e, if_neg (by decide)] at g0 g1
      exact br_t tc_bif (nm_r (nI_1 c) (ih (c + 1) 1 inn obl isf fu (by omega) (by omega) g0 g1))
    · rw [if_pos e] at g1
      refine br_f tc_bit (ty_keep (q := 1) (ob := upd ob 0 0) hT.1.2 (by omega) hC hin (by omega) (tc_OR1 tc_lo0 hF) hM (fun mk inn isf hmk => ?_))
      obtain ⟨p0, p1⟩ := g1 c rfl 1 mk inn obl isf hmk
      by_cases z : c = 0
      · exact br_t (by rw [z]; rfl) (p0 z)
      · exact br_f (nI_ne0 (by omega) (by omega)) (p1 z)
theorem tc_Mnew {V n m : Nat} {W K S ob : Nat → Int32} (hT : tc_Tx V n m W K S) {M : Int32} {q x : Nat} (hx : x ≤ m) (hi : ∀ i, i < 24 → bt M i = true → i < n + m ∧ ¬ K i = 3) : ∀ i, i < 24 → bt (M ||| tc_kp S (tc_av K W n x) M ob q 24 (tc_av K W n x)) i = true → i < n + m ∧ ¬ K i = 3 := by
  intro i h24 h
  rw [b_or, Bool.or_eq_true] at h
  rcases h with h | h
  · exact hi i h24 h
  · obtain ⟨h1, h2, _⟩ := (tc_avb hT x hx i h24).mp (tc_kps _ _ _ h)
    exact ⟨by omega, h2⟩
theorem i_vc_seal {k : Nat} {u : SX} {v : SY} (I : i_Rel k u v) (hk : k + 5 ≤ 2563) : wpX_seal (fun r u' => wpY_seal (fun r' v' => r' = r ∧ i_Rel (k + 5) u' v') v) u := by
  have I' := i_up I
  obtain ⟨V, A, L, n, m, cu, ph, cf, W, K, S, D, mk, M, oc, oc', ob, inn, obl, isf, rfl, rfl, h⟩ := I
  obtain ⟨hT, hD, hM, hb, hi, hcu, hp, hc⟩ := h
  have hnm := hT.2.1
  refine br_c (fun cp => ?_) (fun cp => br_f cp ⟨rfl, I'⟩)
  refine tx_fc hT (fun e => br_t rfl ?_) (fun x e => br_f ?_ ?_)
  · refine br_t cp ⟨m + 2, ty_seal (ob := ob) hT hD hM (m + 1) 0 oc' inn obl isf (m + 2) (by omega) (by omega) (fun _ oc2 inn2 obl2 isf2 => ⟨rfl, ?_⟩) (fun x e2 => ?_)⟩
    · exact tc_rel ⟨hT, hD, hM, hb, hi, hcu, hp, hc⟩
    · rw [e] at e2
      exact absurd e2 (by simp)
  · have := tc_fcb _ _ _ e
    intro z
    have z' : ¬ nI x < 0 := nI_pos (by omega)
    rw [z] at z'
    exact z' (by decide)
  · have hx := tc_fcb _ _ _ e
    refine tx_av (by omega) ?_
    unfold wpX_obligeOnly
    refine nm_e (tx_keep (q := 1) (by omega) (tc_CSlo hT.1.2 (tc_CSav hT (by omega))) ?_)
    have fin : ∀ (ph' : Int32) (oc oc' : Int32) (ob' mk inn obl isf : Nat → Int32), (ph' = 1 → 1 ≤ x) → tc_In (M ||| tc_kp S (tc_av K W n x) M (upd ob 0 0) 1 24 (tc_av K W n x)) mk → i_Rel (k + 5) (nI V, nI A, nI L, nI n, nI m, ph', nI x, nI x, M ||| tc_kp S (tc_av K W n x) M (upd ob 0 0) 1 24 (tc_av K W n x), oc, W, K, S, ob') (nI V, nI A, nI L, nI n, nI m, ph', nI x, nI x, oc', W, D, mk, inn, obl, isf) := by
      intro ph' oc oc' ob' mk inn obl isf h1 h2
      exact tc_rel ⟨hT, hD, h2, hb, tc_Mnew hT (by omega) hi, by omega, h1, Or.inr ⟨x, by omega, rfl⟩⟩
    refine br_c (fun z => ?_) (fun z => ?_)
    · have z0 : x = 0 := by
        have := (nI_eq (a := x) (b := 0) (by omega) (by omega)).mp z
        exact this
      refine br_t cp ⟨m + 2, ty_seal (ob := ob) hT hD hM (m + 1) 0 oc' inn obl isf (m + 2) (by omega) (by omega) (fun e2 => ?_) (fun y e2 oc2 mk2 inn2 obl2 isf2 hmk => ?_)⟩
      · rw [e] at e2
        exact absurd e2 (by simp)
      · rw [e] at e2
        have := Option.some.inj e2
        subst this
        exact ⟨fun _ => ⟨rfl, fin 2 _ _ _ _ _ _ _ (fun y => absurd y (by decide)) hmk⟩, fun y => absurd z0 y⟩
    · have z0 : ¬ x = 0 := fun y => z (by rw [y]; rfl)
      refine br_t cp ⟨m + 2, ty_seal (ob := ob) hT hD hM (m + 1) 0 oc' inn obl isf (m + 2) (by omega) (by omega) (fun e2 => ?_) (fun y e2 oc2 mk2 inn2 obl2 isf2 hmk => ?_)⟩
      · rw [e] at e2
        exact absurd e2 (by simp)
      · rw [e] at e2
        have := Option.some.inj e2
        subst this
        exact ⟨fun y => absurd y z0, fun _ => ⟨rfl, fin 1 _ _ _ _ _ _ _ (fun _ => by omega) hmk⟩⟩
theorem tc_wayq (S : Nat → Int32) (cs L P : Int32) (ob : Nat → Int32) : (tc_way S cs L P ob).2.2 ≤ 24 := by
  unfold tc_way
  by_cases c : tc_al S cs (upd ob 0 L) 1 0 = true
  · rw [if_pos c]
    show 1 ≤ 24
    omega
  · rw [if_neg c]
    by_cases d : L = 0
    · rw [if_pos d]
      show 1 ≤ 24
      omega
    · rw [if_neg d]
      have := tc_ppq S cs L P 24 0 (upd ob 0 L) 0
      show (tc_pp S cs L P 24 0 (upd ob 0 L) 0).2 ≤ 24
      omega
theorem i_vc_back {k : Nat} {u : SX} {v : SY} (I : i_Rel k u v) (hk : k + 5 ≤ 2563) : wpX_back (fun r u' => wpY_back (fun r' v' => r' = r ∧ i_Rel (k + 5) u' v') v) u := by
  have I' := i_up I
  obtain ⟨V, A, L, n, m, cu, ph, cf, W, K, S, D, mk, M, oc, oc', ob, inn, obl, isf, rfl, rfl, h⟩ := I
  obtain ⟨hT, hD, hM, hb, hi, hcu, hp, hc⟩ := h
  have hnm := hT.2.1
  refine br_c (fun cp => ?_) (fun cp => br_f cp ⟨rfl, I'⟩)
  obtain ⟨c, rfl⟩ : ∃ c, cu = c + 1 := ⟨cu - 1, by have := hp cp; omega⟩
  refine nm_r (nI_pred c) (nm_r (nI_add n c) ⟨vp_in_nI (by omega) (by omega), ?_⟩)
  rw [nI_clamp (by omega : n + c < 2 ^ 31)]
  -- the end of both ways
  have fin : ∀ (r : Int32) (M' : Int32) (oc oc' : Int32) (ob mk inn obl isf : Nat → Int32), tc_In M' mk → (∀ i, i < 24 → bt M' i = true → i < n + m ∧ ¬ K i = 3) → wX_back_85 (fun r u' => wY_back_85 (fun r' v' => r' = r ∧ i_Rel (k + 5) u' v') (nI c) r (nI V) (nI A) (nI L) (nI n) (nI m) ph (nI (c + 1)) cf oc' W D mk inn obl isf) (nI c) r (nI V) (nI A) (nI L) (nI n) (nI m) ph (nI (c + 1)) cf M' oc W K S ob := by
    intro r M' oc oc' ob mk inn obl isf h1 h2
    refine br_c (fun z => br_t z ⟨rfl, ?_⟩) (fun z => br_f z ⟨rfl, ?_⟩)
    · exact tc_rel ⟨hT, hD, h1, hb, h2, by omega, fun y => absurd y (by decide), hc⟩
    · refine tc_rel ⟨hT, hD, h1, hb, h2, by omega, fun _ => ?_, hc⟩
      have : ¬ c = 0 := fun y => z (by rw [y]; rfl)
      omega
  have yst : ∀ (post : Int32 → SY → Prop), (K (n + c) = 3 → wY_back_85 post (nI c) 1 (nI V) (nI A) (nI L) (nI n) (nI m) ph (nI (c + 1)) cf oc' W D mk inn obl isf) → (¬ K (n + c) = 3 → bt M (n + c) = false → wY_back_85 post (nI c) 2 (nI V) (nI A) (nI L) (nI n) (nI m) ph (nI (c + 1)) cf oc' W D mk inn obl isf) → (¬ K (n + c) = 3 → bt M (n + c) = true → ∀ a : Nat → Nat, (∀ s, s < 4 → a s < 17) → (∀ s, s < 4 → W ((n + c) * 4 + s) = tc_w (a s)) → S (n + c) = tc_sl (tc_w (a 0)) (tc_w (a 1)) (tc_w (a 2)) (tc_w (a 3)) → ∀ r ob' q, tc_way S (tc_av K W n c) (S (n + c)) (tc_ng (tc_lb (tc_w (tc_pv a)))) ob = (r, ob', q) → (r = 5 → ∀ oc inn obl isf, post r (nI V, nI A, nI L, nI n, nI m, 3, nI (c + 1), cf, oc, W, D, mk, inn, obl, isf)) ∧ (¬ r = 5 → ∀ oc mk inn obl isf, tc_In (M ||| tc_kp S (tc_av K W n c) M ob' q 24 (tc_av K W n c)) mk → wY_back_85 post (nI c) r (nI V) (nI A) (nI L) (nI n) (nI m) ph (nI (c + 1)) cf oc W D mk inn obl isf)) → wpY_back post (nI V, nI A, nI L, nI n, nI m, ph, nI (c + 1), cf, oc', W, D, mk, inn, obl, isf) := by
    intro post y1 y2 y3
    refine br_t cp (nm_r (nI_pred c) ?_)
    rw [nI_add, nI_clamp (by omega : n + c < 2 ^ 31), hD (n + c) (by omega), hM (n + c) (by omega)]
    refine ⟨vp_in_nI (by omega) (by omega), ?_⟩
    by_cases cK : K (n + c) = 3
    · rw [decide_eq_true cK]
      exact br_f tc_bit (y1 cK)
    · rw [decide_eq_false cK]
      refine br_t tc_bif ⟨vp_in_nI (by omega) (by omega), ?_⟩
      cases eM : bt M (n + c)
      · exact br_t tc_bif (y2 cK eM)
      · obtain ⟨a, ha, hw, hS⟩ := tc_Cla hT.1.2 (hT.2.2.2.2.1 (n + c) (by omega) cK)
        have hC : tc_CS V (n + m) W S (tc_av K W n c) := tc_CSav hT (by omega)
        refine br_f tc_bit (ty_fill hT hD (by omega) (fun inn hin => ?_))
        show wpY_passes _ _ (nI n + nI c)
        rw [nI_add]
        refine ty_pass (ob := ob) hT.1.2 (by omega) hC hin (by omega) ha hw hS (fun obl isf hO => ?_)
        have hq := tc_wayq S (tc_av K W n c) (S (n + c)) (tc_ng (tc_lb (tc_w (tc_pv a)))) ob
        obtain ⟨z1, z2⟩ := y3 cK eM a ha hw hS _ _ _ rfl
        refine br_c (fun z => z1 z _ _ _ _) (fun z => ty_keep hT.1.2 (by omega) hC hin hq hO hM (fun mk inn isf hmk => z2 z _ _ _ _ _ hmk))
  have xst : ∀ (z0 : Int32), (K (n + c) = 3 → z0 = 1) → (¬ K (n + c) = 3 → z0 = 2) → wX_back_40 (fun r u' => wpY_back (fun r' v' => r' = r ∧ i_Rel (k + 5) u' v') (nI V, nI A, nI L, nI n, nI m, ph, nI (c + 1), cf, oc', W, D, mk, inn, obl, isf)) (nI c) (nI (n + c)) z0 (nI V) (nI A) (nI L) (nI n) (nI m) ph (nI (c + 1)) cf M oc W K S ob := by
    intro z0 e3 e2
    refine tx_hm (by omega) ?_
    cases eM : bt M (n + c)
    · refine br_t tc_bif ?_
      unfold wX_back_85 wpX_moveCursorBackTo
      refine br_c (fun z => yst _ (fun cK => br_t z ⟨?_, ?_⟩) (fun cK _ => br_t z ⟨?_, ?_⟩) (fun _ y => ?_)) (fun z => yst _ (fun cK => br_f z ⟨?_, ?_⟩) (fun cK _ => br_f z ⟨?_, ?_⟩) (fun _ y => ?_))
      · exact (e3 cK).symm
      · exact tc_rel ⟨hT, hD, hM, hb, hi, by omega, fun y => absurd y (by decide), hc⟩
      · exact (e2 cK).symm
      · exact tc_rel ⟨hT, hD, hM, hb, hi, by omega, fun y => absurd y (by decide), hc⟩
      · rw [eM] at y
        exact absurd y (by decide)
      · exact (e3 cK).symm
      · refine tc_rel ⟨hT, hD, hM, hb, hi, by omega, fun _ => ?_, hc⟩
        have : ¬ c = 0 := fun y => z (by rw [y]; rfl)
        omega
      · exact (e2 cK).symm
      · refine tc_rel ⟨hT, hD, hM, hb, hi, by omega, fun _ => ?_, hc⟩
        have : ¬ c = 0 := fun y => z (by rw [y]; rfl)
        omega
      · rw [eM] at y
        exact absurd y (by decide)
    · have hK := (hi (n + c) (by omega) eM).2
      obtain ⟨a, ha, hw, hS⟩ := tc_Cla hT.1.2 (hT.2.2.2.2.1 (n + c) (by omega) hK)
      have hC : tc_CS V (n + m) W S (tc_av K W n c) := tc_CSav hT (by omega)
      have hlo := tc_CSlo hT.1.2 hC
      refine br_f tc_bit (tx_av (by omega) (tx_way (by omega) ha hw hlo ?_))
      have hq := tc_wayq S (tc_av K W n c) (S (n + c)) (tc_ng (tc_lb (tc_w (tc_pv a)))) ob
      obtain ⟨r, ob', q, ew⟩ : ∃ r ob' q, tc_way S (tc_av K W n c) (S (n + c)) (tc_ng (tc_lb (tc_w (tc_pv a)))) ob = (r, ob', q) := ⟨_, _, _, rfl⟩
      rw [ew] at hq ⊢
      have same : ∀ a' : Nat → Nat, (∀ s, s < 4 → a' s < 17) → (∀ s, s < 4 → W ((n + c) * 4 + s) = tc_w (a' s)) → tc_pv a' = tc_pv a := by
        intro a' ha' hw'
        have e : ∀ s, s < 4 → a' s = a s := fun s hs => (tc_winj (ha' s hs) (ha s hs)).mp ((hw' s hs).symm.trans (hw s hs))
        unfold tc_pv
        rw [e 0 (by omega), e 1 (by omega), e 2 (by omega), e 3 (by omega)]
      refine br_c (fun z => ?_) (fun z => tx_keep hq hlo ?_)
      · refine yst _ (fun y => absurd y hK) (fun _ y => ?_) (fun _ _ a' ha' hw' _ r' ob2 q' ew' => ?_)
        · rw [eM] at y
          exact absurd y (by decide)
        · rw [same a' ha' hw', ew] at ew'
          injection ew' with e1 e2
          injection e2 with e3 e4
          subst e1 e3 e4
          refine ⟨fun _ oc inn obl isf => ⟨z, ?_⟩, fun y => absurd z y⟩
          exact tc_rel ⟨hT, hD, hM, hb, hi, by omega, fun y => absurd y (by decide), hc⟩
      · have h2 : ∀ i, i < 24 → bt (M ||| tc_kp S (tc_av K W n c) M ob' q 24 (tc_av K W n c)) i = true → i < n + m ∧ ¬ K i = 3 := tc_Mnew hT (by omega) hi
        unfold wX_back_85 wpX_moveCursorBackTo
        refine br_c (fun y0 => yst _ (fun y => absurd y hK) (fun _ y => ?_) (fun _ _ a' ha' hw' _ r' ob2 q' ew' => ?_)) (fun y0 => yst _ (fun y => absurd y hK) (fun _ y => ?_) (fun _ _ a' ha' hw' _ r' ob2 q' ew' => ?_))
        · rw [eM] at y
          exact absurd y (by decide)
        · rw [same a' ha' hw', ew] at ew'
          injection ew' with e1 e2
          injection e2 with e3 e4
          subst e1 e3 e4
          refine ⟨fun y => absurd y z, fun _ oc mk inn obl isf h1 => br_t y0 ⟨rfl, ?_⟩⟩
          exact tc_rel ⟨hT, hD, h1, hb, h2, by omega, fun y => absurd y (by decide), hc⟩
        · rw [eM] at y
          exact absurd y (by decide)
        · rw [same a' ha' hw', ew] at ew'
          injection ew' with e1 e2
          injection e2 with e3 e4
          subst e1 e3 e4
          refine ⟨fun y => absurd y z, fun _ oc mk inn obl isf h1 => br_f y0 ⟨rfl, ?_⟩⟩
          refine tc_rel ⟨hT, hD, h1, hb, h2, by omega, fun _ => ?_, hc⟩
          have : ¬ c = 0 := fun y => y0 (by rw [y]; rfl)
          omega
  exact br_c (fun z => xst 1 (fun _ => rfl) (fun y => absurd z y)) (fun z => xst 2 (fun y => absurd y z) (fun _ => rfl))
