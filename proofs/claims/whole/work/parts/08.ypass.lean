/-! ===== the reference: alive, filling, clearing, uniting, passing, keeping ===== -/
def tc_oth (o : Nat) (obl obl' : Nat → Int32) : Prop := ∀ o', o' ≠ o → ∀ j, j < 17 → tc_row obl' o' j = tc_row obl o' j
theorem tc_othr {o : Nat} {obl : Nat → Int32} : tc_oth o obl obl := fun _ _ _ _ => rfl
theorem tc_otht {o : Nat} {a b c : Nat → Int32} (h : tc_oth o a b) (g : tc_oth o b c) : tc_oth o a c := fun o' ho j hj => (g o' ho j hj).trans (h o' ho j hj)
theorem tc_othu {o x : Nat} {obl : Nat → Int32} {v : Int32} (hx : x < 17) : tc_oth o obl (upd obl (o * 17 + x) v) := fun o' ho j hj => tc_rowN (fun z => ho z.symm) hx hj
theorem tc_ORoth {ob : Nat → Int32} {q : Nat} {obl obl' : Nat → Int32} (h : tc_OR ob q obl) (g : tc_oth q obl obl') : tc_OR ob q obl' := fun o ho => ⟨(h o ho).1, tc_FRc (h o ho).2 (fun j hj => g o (by omega) j hj)⟩
theorem tc_ORadd {ob : Nat → Int32} {q : Nat} {obl : Nat → Int32} {T : Int32} (h : tc_OR ob q obl) (hl : tc_lo T) (hT : tc_FR T (tc_row obl q)) : tc_OR (upd ob q T) (q + 1) obl := by
  intro o ho
  by_cases e : o = q
  · rw [e, pk_us]; exact ⟨hl, hT⟩
  · rw [pk_un e]; exact h o (by omega)
theorem tc_OR1 {ob : Nat → Int32} {obl : Nat → Int32} {T : Int32} (hl : tc_lo T) (hT : tc_FR T (tc_row obl 0)) : tc_OR (upd ob 0 T) 1 obl := tc_ORadd (q := 0) (fun o ho => absurd ho (by omega)) hl hT
theorem tc_pp0 {S : Nat → Int32} {cs L P : Int32} {d i : Nat} {ob : Nat → Int32} {q : Nat} (h : bt cs i = false) : tc_pp S cs L P (d + 1) i ob q = tc_pp S cs L P d (i + 1) ob q := by
  rw [tc_pp, if_neg (fun z => by rw [h] at z; exact absurd z.1 (by decide))]
theorem tc_ppcut {S : Nat → Int32} {cs L P : Int32} : ∀ (d e i : Nat) (ob : Nat → Int32) (q : Nat), (∀ j, i + d ≤ j → j < i + d + e → bt cs j = false) → tc_pp S cs L P (d + e) i ob q = tc_pp S cs L P d i ob q := by
  intro d
  induction d with
  | zero =>
    intro e
    induction e with
    | zero => intro i ob q _; rfl
    | succ e ih =>
      intro i ob q h
      exact (tc_pp0 (d := 0 + e) (h i (by omega) (by omega))).trans (ih (i + 1) ob q (fun j a b => h j (by omega) (by omega)))
  | succ d ih =>
    intro e i ob q h
    rw [show d + 1 + e = (d + e) + 1 from by omega, tc_pp, tc_pp]
    have ih' := fun ob q => ih e (i + 1) ob q (fun j a b => h j (by omega) (by omega))
    rw [ih', ih']
section
variable {vs ma ml ac lc ph cu cf oc : Int32} {W D mk inn obl isf S K : Nat → Int32}
theorem ty_av40 {post : Int32 → Prop} {an m k i : Nat} (hD : tc_De K D) (hk : k ≤ m) (hN : an + m ≤ 24) (hi : i < 24) (h1 : (∀ t, t < k → K (an + t) = 3 → ¬ W ((an + t) * 4) = nI i) → post 1) (h0 : ¬ (∀ t, t < k → K (an + t) = 3 → ¬ W ((an + t) * 4) = nI i) → post 0) : ∀ (d j n : Nat), j + d = k → d < n → (∀ t, t < j → K (an + t) = 3 → ¬ W ((an + t) * 4) = nI i) → wY_aliveAfter_40 post (nI i) (nI k) vs ma ml (nI an) (nI m) ph cu cf oc W D mk inn obl isf n (nI j) := by
  intro d
  induction d with
  | zero =>
    intro j n hj hn hI
    obtain ⟨n, rfl⟩ : ∃ k, n = k + 1 := ⟨n - 1, by omega⟩
    have e : j = k := by omega
    subst e
    exact br_t (nI_le (by omega) (by omega)) (h1 hI)
  | succ d ih =>
    intro j n hj hn hI
    obtain ⟨n, rfl⟩ : ∃ k, n = k + 1 := ⟨n - 1, by omega⟩
    refine br_f (nI_ge (by omega) (by omega)) (br_f (nI_ge (by omega) (by omega)) ?_)
    rw [nI_add, tc_m4, nI_clamp (by omega : an + j < 2 ^ 31), nI_clamp (by omega : (an + j) * 4 < 2 ^ 31), hD (an + j) (by omega)]
    refine ⟨vp_in_nI (by omega) (by omega), ?_⟩
    by_cases c : K (an + j) = 3
    · rw [decide_eq_true c]
      refine br_f tc_bit ⟨vp_in_nI (by omega) (by omega), br_c (fun e => h0 (fun z => z j (by omega) c e)) (fun e => nm_r (nI_1 j) (ih (j + 1) n (by omega) (by omega) (fun t ht hK => ?_)))⟩
      by_cases et : t = j
      · rw [et]; exact e
      · exact hI t (by omega) hK
    · rw [decide_eq_false c]
      refine br_t tc_bif (nm_r (nI_1 j) (ih (j + 1) n (by omega) (by omega) (fun t ht hK => ?_)))
      by_cases et : t = j
      · rw [et] at hK; exact absurd hK c
      · exact hI t (by omega) hK
theorem ty_av {post : Int32 → Prop} {V an m k i : Nat} (hT : tc_Tx V an m W K S) (hD : tc_De K D) (hk : k ≤ m) (hi : i < 24) (h : post (tc_bi (bt (tc_av K W an k) i))) : wpY_aliveAfter post (vs, ma, ml, nI an, nI m, ph, cu, cf, oc, W, D, mk, inn, obl, isf) (nI i) (nI k) := by
  have hb := tc_avb hT k hk i hi
  obtain ⟨_, ⟨hn, hm⟩, _⟩ := hT
  have hf : ¬ (i < an + k ∧ ¬ K i = 3 ∧ ∀ j, j < k → K (an + j) = 3 → ¬ W ((an + j) * 4) = nI i) → post 0 := by
    intro z
    rw [← hb, Bool.not_eq_true] at z
    rw [z] at h
    exact h
  have ht : (i < an + k ∧ ¬ K i = 3 ∧ ∀ j, j < k → K (an + j) = 3 → ¬ W ((an + j) * 4) = nI i) → post 1 := by
    intro z
    rw [← hb] at z
    rw [z] at h
    exact h
  refine br_f (nI_pos (by omega)) ?_
  rw [nI_add, nI_add]
  refine br_c (fun c => ?_) (fun _ => br_c (fun c => ?_) (fun c => ⟨vp_in_nI hi (by omega), ?_⟩))
  · rw [nI_leI (by omega) (by omega)] at c
    exact hf (fun z => by omega)
  · rw [nI_leI (by omega) (by omega)] at c
    exact hf (fun z => by omega)
  · rw [nI_leI (by omega) (by omega)] at c
    rw [nI_clamp (by omega : i < 2 ^ 31), hD i hi]
    by_cases cK : K i = 3
    · rw [decide_eq_true cK]
      exact br_f tc_bit (hf (fun z => z.2.1 cK))
    · rw [decide_eq_false cK]
      exact br_t tc_bif ⟨k + 1, ty_av40 hD hk (by omega) hi (fun z => ht ⟨by omega, cK, z⟩) (fun z => hf (fun y => z y.2.2)) k 0 (k + 1) (by omega) (by omega) (fun t ht => absurd ht (by omega))⟩
theorem ty_fill {post : SY → Prop} {V an m k : Nat} (hT : tc_Tx V an m W K S) (hD : tc_De K D) (hk : k ≤ m) (h : ∀ inn, tc_In (tc_av K W an k) inn → post (vs, ma, ml, nI an, nI m, ph, cu, cf, oc, W, D, mk, inn, obl, isf)) : wpY_fill post (vs, ma, ml, nI an, nI m, ph, cu, cf, oc, W, D, mk, inn, obl, isf) (nI k) := by
  have main : ∀ (d i : Nat) (inn : Nat → Int32) (n : Nat), i + d = 24 → d < n → (∀ j, j < i → inn j = tc_bi (bt (tc_av K W an k) j)) → wY_fill_2 post (nI k) vs ma ml (nI an) (nI m) ph cu cf oc n (nI i) W D mk inn obl isf := by
    intro d
    induction d with
    | zero =>
      intro i inn n hi hn hI
      obtain ⟨n, rfl⟩ : ∃ k, n = k + 1 := ⟨n - 1, by omega⟩
      have e : i = 24 := by omega
      subst e
      exact br_t (nI_le (a := 24) (b := 24) (by omega) (by omega)) (h inn hI)
    | succ d ih =>
      intro i inn n hi hn hI
      obtain ⟨n, rfl⟩ : ∃ k, n = k + 1 := ⟨n - 1, by omega⟩
      refine br_f (nI_ge (b := 24) (by omega) (by decide)) (ty_av hT hD hk (by omega) ⟨vp_in_nI (by omega) (by omega), nm_r (e' := upd inn i (tc_bi (bt (tc_av K W an k) i))) (by rw [nI_clamp (by omega), tc_nb]) (nm_r (nI_1 i) (ih (i + 1) _ n (by omega) (by omega) (fun j hj => ?_)))⟩)
      by_cases e : j = i
      · rw [e, pk_us]
      · rw [pk_un e]; exact hI j (by omega)
  exact ⟨25, main 24 0 inn 25 (by omega) (by omega) (fun j hj => absurd hj (by omega))⟩
theorem ty_clear {post : SY → Prop} {o : Nat} (ho : o < 24) (h : ∀ obl', tc_FR 0 (tc_row obl' o) → tc_oth o obl obl' → post (vs, ma, ml, ac, lc, ph, cu, cf, oc, W, D, mk, inn, obl', isf)) : wpY_clear post (vs, ma, ml, ac, lc, ph, cu, cf, oc, W, D, mk, inn, obl, isf) (nI o) := by
  have main : ∀ (d i : Nat) (obl' : Nat → Int32) (n : Nat), i + d = 17 → d < n → (∀ j, j < i → tc_row obl' o j = 0) → tc_oth o obl obl' → wY_clear_2 post (nI o) vs ma ml ac lc ph cu cf oc n (nI i) W D mk inn obl' isf := by
    intro d
    induction d with
    | zero =>
      intro i obl' n hi hn hI hO
      obtain ⟨n, rfl⟩ : ∃ k, n = k + 1 := ⟨n - 1, by omega⟩
      have e : i = 17 := by omega
      subst e
      exact br_t (nI_le (a := 17) (b := 17) (by omega) (by omega)) (h obl' (tc_FR0 hI) hO)
    | succ d ih =>
      intro i obl' n hi hn hI hO
      obtain ⟨n, rfl⟩ : ∃ k, n = k + 1 := ⟨n - 1, by omega⟩
      refine br_f (nI_ge (b := 17) (by omega) (by decide)) ?_
      rw [tc_m17, nI_clamp (by omega : o * 17 + i < 2 ^ 31)]
      refine ⟨vp_in_nI (by omega) (by omega), nm_e (nm_r (nI_1 i) (ih (i + 1) _ n (by omega) (by omega) (fun j hj => ?_) (tc_otht hO (tc_othu (by omega)))))⟩
      rw [tc_rowS]
      by_cases e : j = i
      · rw [e, pk_us]; rfl
      · rw [pk_un e]; exact hI j (by omega)
  exact ⟨18, main 17 0 obl 18 (by omega) (by omega) (fun j hj => absurd hj (by omega)) tc_othr⟩
theorem ty_un1 {post : SY → Prop} {o l s x e n : Nat} {G : Int32} {obl' : Nat → Int32} (ho : o < 24) (hl : l < 24) (hs : s < 4) (hx : x < 17) (he : e < 17) (hw : W (l * 4 + s) = tc_w x) (hG : tc_FR G (tc_row obl' o)) (hO : tc_oth o obl obl') (h : ∀ obl', tc_FR (G ||| tc_g e x) (tc_row obl' o) → tc_oth o obl obl' → wY_unite_3 post (nI o) (nI l) (tc_w e) vs ma ml ac lc ph cu cf oc n (nI (s + 1)) W D mk inn obl' isf) : wY_unite_3 post (nI o) (nI l) (tc_w e) vs ma ml ac lc ph cu cf oc (n + 1) (nI s) W D mk inn obl' isf := by
  refine br_f (nI_ge (b := 4) hs (by decide)) ⟨by rw [tc_m4s]; exact vp_in_nI (by omega) (by omega), ?_⟩
  refine nm_r (e' := tc_w x) (by rw [tc_m4s, nI_clamp (by omega)]; exact hw) ?_
  by_cases c8 : x = 8
  · refine br_t ((tc_w1 x hx).2.2.1.mpr c8) (nm_r (nI_1 s) (h obl' ?_ hO))
    unfold tc_g
    rw [if_pos (Or.inl c8), tc_or0]
    exact hG
  · refine br_f (fun z => c8 ((tc_w1 x hx).2.2.1.mp z)) ?_
    by_cases ce : x = e
    · refine br_t ((tc_winj hx he).mpr ce) (nm_r (nI_1 s) (h obl' ?_ hO))
      unfold tc_g
      rw [if_pos (Or.inr ce), tc_or0]
      exact hG
    · have ei : nI o * 17 + 8 + tc_w x = nI (o * 17 + x) := by
        rw [Int32.add_assoc, (tc_w1 x hx).1, tc_m17]
      rw [ei, nI_clamp (by omega : o * 17 + x < 2 ^ 31)]
      refine br_f (fun z => ce ((tc_winj hx he).mp z)) ⟨vp_in_nI (by omega) (by omega), nm_e (nm_r (nI_1 s) (h _ ?_ (tc_otht hO (tc_othu hx))))⟩
      rw [tc_rowS]
      unfold tc_g
      rw [if_neg (fun z => z.elim c8 ce)]
      exact tc_FRset hG hx c8
theorem ty_unite {post : SY → Prop} {o l e : Nat} {a : Nat → Nat} {F : Int32} (ho : o < 24) (hl : l < 24) (he : e < 17) (ha : ∀ s, s < 4 → a s < 17) (hw : ∀ s, s < 4 → W (l * 4 + s) = tc_w (a s)) (hS : S l = tc_sl (tc_w (a 0)) (tc_w (a 1)) (tc_w (a 2)) (tc_w (a 3))) (hF : tc_FR F (tc_row obl o)) (h : ∀ obl', tc_FR (F ||| (S l &&& (tc_lb (tc_w e) ^^^ (-1)))) (tc_row obl' o) → tc_oth o obl obl' → post (vs, ma, ml, ac, lc, ph, cu, cf, oc, W, D, mk, inn, obl', isf)) : wpY_unite post (vs, ma, ml, ac, lc, ph, cu, cf, oc, W, D, mk, inn, obl, isf) (nI o) (nI l) (tc_w e) := by
  refine ⟨5, ty_un1 (s := 0) ho hl (by omega) (ha 0 (by omega)) he (hw 0 (by omega)) hF tc_othr (fun o1 g1 t1 => ty_un1 (s := 1) ho hl (by omega) (ha 1 (by omega)) he (hw 1 (by omega)) g1 t1 (fun o2 g2 t2 => ty_un1 (s := 2) ho hl (by omega) (ha 2 (by omega)) he (hw 2 (by omega)) g2 t2 (fun o3 g3 t3 => ty_un1 (s := 3) ho hl (by omega) (ha 3 (by omega)) he (hw 3 (by omega)) g3 t3 (fun o4 g4 t4 => ?_))))⟩
  refine br_t (nI_le (a := 4) (b := 4) (by omega) (by omega)) (h o4 ?_ t4)
  rw [hS, ← tc_g4 ha he F]
  exact g4
theorem tc_al1 {S : Nat → Int32} {cs T : Int32} {ob : Nat → Int32} : tc_al S cs (upd ob 0 T) 1 0 = tc_rf S cs T := by
  rw [tc_al, tc_al, pk_us]
  cases tc_rf S cs T <;> rfl
theorem ty_empty {post : Int32 → SY → Prop} {cs : Int32} {V an m : Nat} (hV : V ≤ 8) (hN : an + m ≤ 24) (hC : tc_CS V (an + m) W S cs) (hin : tc_In cs inn) (h : ∀ obl isf, tc_FR 0 (tc_row obl 0) → post (tc_bi (tc_rf S cs 0)) (vs, ma, ml, nI an, nI m, ph, cu, cf, 1, W, D, mk, inn, obl, isf)) : wpY_refutesEmpty post (vs, ma, ml, nI an, nI m, ph, cu, cf, oc, W, D, mk, inn, obl, isf) := by
  unfold wpY_refutesEmpty
  refine ty_clear (o := 0) (by omega) (fun obl' g _ => ?_)
  refine ty_al (q := 1) (ob := upd (fun _ => 0) 0 0) hV hN hC hin (by omega) (tc_OR1 tc_lo0 g) (fun isf => ?_)
  rw [tc_al1]
  exact ⟨tc_nar _, h obl' isf g⟩
/-! ===== passing ===== -/
theorem ty_p100 {post : Int32 → SY → Prop} {J69 : Int32 → Int32 → Int32 → Int32 → Int32 → Int32 → Int32 → Int32 → Int32 → Int32 → (Nat → Int32) → (Nat → Int32) → (Nat → Int32) → (Nat → Int32) → (Nat → Int32) → (Nat → Int32) → Prop} {l i p q : Nat} {a b : Nat → Nat} (hl : l < 24) (hi : i < 24) (hp : p < 17) (hq : q < 24) (ha : ∀ s, s < 4 → a s < 17) (hwa : ∀ s, s < 4 → W (l * 4 + s) = tc_w (a s)) (hSa : S l = tc_sl (tc_w (a 0)) (tc_w (a 1)) (tc_w (a 2)) (tc_w (a 3))) (hb : ∀ s, s < 4 → b s < 17) (hwb : ∀ s, s < 4 → W (i * 4 + s) = tc_w (b s)) (hSb : S i = tc_sl (tc_w (b 0)) (tc_w (b 1)) (tc_w (b 2)) (tc_w (b 3)))
    (h0 : (∀ s, s < 4 → b s ≠ 16 - p) → J69 (nI (i + 1)) vs ma ml ac lc ph cu cf (nI q) W D mk inn obl isf) (h1 : (∃ s, s < 4 ∧ b s = 16 - p) → ∀ obl', tc_FR (S l ||| (S i &&& (tc_lb (tc_w (16 - p)) ^^^ (-1)))) (tc_row obl' q) → tc_oth q obl obl' → J69 (nI (i + 1)) vs ma ml ac lc ph cu cf (nI (q + 1)) W D mk inn obl' isf) : ∀ (d s : Nat) (x4 : Bool) (n : Nat), s + d = 4 → d < n → (x4 = true ↔ ∃ t, t < s ∧ b t = 16 - p) → wY_passes_100 post J69 (nI l) (tc_w p) (nI i) vs ma ml ac lc ph cu cf (nI q) W D mk inn obl isf n (tc_bi x4) (nI s) := by
  intro d
  induction d with
  | zero =>
    intro s x4 n hs hn hx
    obtain ⟨n, rfl⟩ : ∃ k, n = k + 1 := ⟨n - 1, by omega⟩
    have e : s = 4 := by omega
    subst e
    refine br_t (nI_le (a := 4) (b := 4) (by omega) (by omega)) ?_
    cases x4
    · exact br_t tc_bif (nm_r (nI_1 i) (h0 (fun t ht z => absurd (hx.mpr ⟨t, ht, z⟩) (by decide))))
    · refine br_f tc_bit (ty_clear hq (fun o1 g1 t1 => ?_))
      refine ty_unite (e := 8) hq hl (by omega) ha hwa hSa g1 (fun o2 g2 t2 => ?_)
      rw [tc_lb8, tc_not0, tc_0or] at g2
      rw [(tc_w1 p hp).2.2.2]
      refine ty_unite (e := 16 - p) hq hi (by omega) hb hwb hSb g2 (fun o3 g3 t3 => ?_)
      exact nm_r (nI_1 q) (nm_r (nI_1 i) (h1 (hx.mp rfl) o3 g3 (tc_otht t1 (tc_otht t2 t3))))
  | succ d ih =>
    intro s x4 n hs hn hx
    obtain ⟨n, rfl⟩ : ∃ k, n = k + 1 := ⟨n - 1, by omega⟩
    have hs4 : s < 4 := by omega
    refine br_f (nI_ge (b := 4) hs4 (by decide)) ⟨by rw [tc_m4s]; exact vp_in_nI (by omega) (by omega), ?_⟩
    have ew : W (nI i * 4 + nI s).toNatClampNeg = - tc_w p ↔ b s = 16 - p := by
      rw [tc_m4s, nI_clamp (by omega), hwb s hs4, (tc_w1 p hp).2.2.2]
      exact tc_winj (hb s hs4) (by omega)
    refine br_c (fun c => nm_r (nI_1 s) (ih (s + 1) true n (by omega) (by omega) ⟨fun _ => ⟨s, by omega, ew.mp c⟩, fun _ => rfl⟩)) (fun c => nm_r (nI_1 s) (ih (s + 1) x4 n (by omega) (by omega) ⟨fun z => ?_, fun ⟨t, ht, z⟩ => ?_⟩))
    · obtain ⟨t, ht, g⟩ := hx.mp z
      exact ⟨t, by omega, g⟩
    · by_cases e : t = s
      · rw [e] at z; exact absurd (ew.mpr z) c
      · exact hx.mpr ⟨t, by omega, z⟩
theorem ty_p69 {post : Int32 → SY → Prop} {cs : Int32} {V an m l p : Nat} {a : Nat → Nat} (hV : V ≤ 8) (hN : an + m ≤ 24) (hC : tc_CS V (an + m) W S cs) (hin : tc_In cs inn) (hl : l < 24) (hp : p < 17) (hp8 : p ≠ 8) (ha : ∀ s, s < 4 → a s < 17) (hwa : ∀ s, s < 4 → W (l * 4 + s) = tc_w (a s)) (hSa : S l = tc_sl (tc_w (a 0)) (tc_w (a 1)) (tc_w (a 2)) (tc_w (a 3))) : ∀ (d i : Nat) (ob : Nat → Int32) (q : Nat) (obl isf : Nat → Int32) (n : Nat), i + d = an + m → d < n → q ≤ i → tc_OR ob q obl → (∀ obl isf, tc_OR (tc_pp S cs (S l) (tc_ng (tc_lb (tc_w p))) d i ob q).1 (tc_pp S cs (S l) (tc_ng (tc_lb (tc_w p))) d i ob q).2 obl → post (if tc_al S cs (tc_pp S cs (S l) (tc_ng (tc_lb (tc_w p))) d i ob q).1 (tc_pp S cs (S l) (tc_ng (tc_lb (tc_w p))) d i ob q).2 0 = true then 4 else 5) (vs, ma, ml, nI an, nI m, ph, cu, cf, nI (tc_pp S cs (S l) (tc_ng (tc_lb (tc_w p))) d i ob q).2, W, D, mk, inn, obl, isf)) → wY_passes_69 post (nI l) (tc_w p) n (nI i) vs ma ml (nI an) (nI m) ph cu cf (nI q) W D mk inn obl isf := by
  intro d
  induction d with
  | zero =>
    intro i ob q obl isf n hi hn hq hO h
    obtain ⟨n, rfl⟩ : ∃ k, n = k + 1 := ⟨n - 1, by omega⟩
    refine br_t (by rw [nI_add]; exact nI_le (by omega) (by omega)) (ty_al hV hN hC hin (by omega) hO (fun isf => ?_))
    have h' := h obl isf hO
    rw [tc_pp] at h'
    cases e : tc_al S cs ob q 0
    · simp only [e, Bool.false_eq_true, if_false] at h'
      exact br_t tc_bif h'
    · simp only [e, if_true] at h'
      exact br_f tc_bit h'
  | succ d ih =>
    intro i ob q obl isf n hi hn hq hO h
    obtain ⟨n, rfl⟩ : ∃ k, n = k + 1 := ⟨n - 1, by omega⟩
    refine br_f (by rw [nI_add]; exact nI_ge (by omega) (by omega)) ⟨vp_in_nI (by omega) (by omega), ?_⟩
    rw [nI_clamp (by omega : i < 2 ^ 31), hin i (by omega)]
    rw [tc_pp] at h
    cases hbt : bt cs i
    · rw [if_neg (fun z => by rw [hbt] at z; exact absurd z.1 (by decide))] at h
      exact br_t tc_bif (nm_r (nI_1 i) (ih (i + 1) ob q obl isf n (by omega) (by omega) (by omega) hO h))
    · obtain ⟨b, hb, hwb, hSb⟩ := tc_Cla hV (hC i (by omega) hbt).2
      have hz : S i &&& tc_ng (tc_lb (tc_w p)) = 0 ↔ ∀ s, s < 4 → b s ≠ 16 - p := by
        rw [tc_nglb p hp, hSb]
        exact tc_hasz hb (by omega) (by omega)
      refine br_f tc_bit ⟨5, ty_p100 hl (by omega) hp (by omega) ha hwa hSa hb hwb hSb (fun g => ?_) (fun g obl' gF gO => ?_) 4 0 false 5 (by omega) (by omega) ⟨fun z => absurd z (by decide), fun ⟨t, ht, _⟩ => absurd ht (by omega)⟩⟩
      · rw [if_neg (fun z => z.2 (hz.mpr g))] at h
        exact ih (i + 1) ob q obl isf n (by omega) (by omega) (by omega) hO h
      · rw [if_pos ⟨hbt, fun z => by obtain ⟨t, ht, e⟩ := g; exact hz.mp z t ht e⟩] at h
        refine ih (i + 1) _ (q + 1) obl' isf n (by omega) (by omega) (by omega) (tc_ORadd (tc_ORoth hO gO) ?_ ?_) h
        · refine tc_loor ?_ (tc_loand ?_)
          · rw [hSa]; exact tc_losl ha
          · rw [hSb]; exact tc_losl hb
        · rw [tc_nglb p hp]
          exact gF
theorem ty_p30 {post : Int32 → SY → Prop} {l s y : Nat} {x : Nat} {n : Nat} (hl : l < 24) (hs : s < 4) (hx : x < 17) (hy : y < 17) (hw : W (l * 4 + s) = tc_w x) (h : wY_passes_30 post (nI l) vs ma ml ac lc ph cu cf oc W D mk inn obl isf n (tc_w (if y = 8 then x else y)) (nI (s + 1))) : wY_passes_30 post (nI l) vs ma ml ac lc ph cu cf oc W D mk inn obl isf (n + 1) (tc_w y) (nI s) := by
  refine br_f (nI_ge (b := 4) hs (by decide)) ?_
  by_cases c : y = 8
  · rw [if_pos c] at h
    refine br_t ((tc_w1 y hy).2.2.1.mpr c) ⟨by rw [tc_m4s]; exact vp_in_nI (by omega) (by omega), nm_r (e' := tc_w x) (by rw [tc_m4s, nI_clamp (by omega)]; exact hw) (nm_r (nI_1 s) h)⟩
  · rw [if_neg c] at h
    exact br_f (fun z => c ((tc_w1 y hy).2.2.1.mp z)) (nm_r (nI_1 s) h)
theorem tc_pvlt {a : Nat → Nat} (ha : ∀ s, s < 4 → a s < 17) : tc_pv a < 17 := by
  unfold tc_pv
  split
  · split
    · split
      · exact ha 3 (by omega)
      · exact ha 2 (by omega)
    · exact ha 1 (by omega)
  · exact ha 0 (by omega)
theorem tc_pv8 {a : Nat → Nat} : tc_pv a = 8 ↔ ∀ s, s < 4 → a s = 8 := by
  unfold tc_pv
  constructor
  · intro h s hs
    have hs4 : s = 0 ∨ s = 1 ∨ s = 2 ∨ s = 3 := by omega
    by_cases c0 : a 0 = 8
    · rw [if_pos c0] at h
      by_cases c1 : a 1 = 8
      · rw [if_pos c1] at h
        by_cases c2 : a 2 = 8
        · rw [if_pos c2] at h
          rcases hs4 with rfl | rfl | rfl | rfl <;> assumption
        · rw [if_neg c2] at h
          exact absurd h c2
      · rw [if_neg c1] at h
        exact absurd h c1
    · rw [if_neg c0] at h
      exact absurd h c0
  · intro h
    rw [if_pos (h 0 (by omega)), if_pos (h 1 (by omega)), if_pos (h 2 (by omega))]
    exact h 3 (by omega)
theorem tc_pvs {a : Nat → Nat} : (if (if (if (if 8 = 8 then a 0 else 8) = 8 then a 1 else (if 8 = 8 then a 0 else 8)) = 8 then a 2 else (if (if 8 = 8 then a 0 else 8) = 8 then a 1 else (if 8 = 8 then a 0 else 8))) = 8 then a 3 else (if (if (if 8 = 8 then a 0 else 8) = 8 then a 1 else (if 8 = 8 then a 0 else 8)) = 8 then a 2 else (if (if 8 = 8 then a 0 else 8) = 8 then a 1 else (if 8 = 8 then a 0 else 8)))) = tc_pv a := by
  unfold tc_pv
  by_cases c0 : a 0 = 8 <;> by_cases c1 : a 1 = 8 <;> by_cases c2 : a 2 = 8 <;> simp [c0, c1, c2]
theorem tc_if17 {c : Prop} [Decidable c] {x y : Nat} (hx : x < 17) (hy : y < 17) : (if c then x else y) < 17 := by
  split <;> assumption
theorem ty_pass {post : Int32 → SY → Prop} {cs : Int32} {ob : Nat → Int32} {V an m l : Nat} {a : Nat → Nat} (hV : V ≤ 8) (hN : an + m ≤ 24) (hC : tc_CS V (an + m) W S cs) (hin : tc_In cs inn) (hl : l < 24) (ha : ∀ s, s < 4 → a s < 17) (hwa : ∀ s, s < 4 → W (l * 4 + s) = tc_w (a s)) (hSa : S l = tc_sl (tc_w (a 0)) (tc_w (a 1)) (tc_w (a 2)) (tc_w (a 3))) (h : ∀ obl isf, tc_OR (tc_way S cs (S l) (tc_ng (tc_lb (tc_w (tc_pv a)))) ob).2.1 (tc_way S cs (S l) (tc_ng (tc_lb (tc_w (tc_pv a)))) ob).2.2 obl → post (tc_way S cs (S l) (tc_ng (tc_lb (tc_w (tc_pv a)))) ob).1 (vs, ma, ml, nI an, nI m, ph, cu, cf, nI (tc_way S cs (S l) (tc_ng (tc_lb (tc_w (tc_pv a)))) ob).2.2, W, D, mk, inn, obl, isf)) : wpY_passes post (vs, ma, ml, nI an, nI m, ph, cu, cf, oc, W, D, mk, inn, obl, isf) (nI l) := by
  unfold wpY_passes
  have hlo : tc_lo (S l) := by rw [hSa]; exact tc_losl ha
  refine ty_clear (o := 0) (by omega) (fun o1 g1 _ => ?_)
  refine ty_unite (o := 0) (e := 8) (by omega) hl (by omega) ha hwa hSa g1 (fun o2 g2 _ => ?_)
  rw [tc_lb8, tc_not0, tc_0or] at g2
  have hO := tc_OR1 (ob := ob) hlo g2
  refine ty_al (q := 1) hV hN hC hin (by omega) hO (fun isf => ?_)
  unfold tc_way at h
  cases e : tc_al S cs (upd ob 0 (S l)) 1 0
  · rw [e, if_neg (by decide)] at h
    have key : wY_passes_30 post (nI l) vs ma ml (nI an) (nI m) ph cu cf (nI 1) W D mk inn o2 isf 5 (tc_w 8) (nI 0) → wY_passes_30 post (nI l) vs ma ml (nI an) (nI m) ph cu cf (nI 1) W D mk inn o2 isf 5 0 0 := by
      intro z
      rw [tc_w8] at z
      exact z
    refine br_t tc_bif ⟨5, key ?_⟩
    have hy1 : (if 8 = 8 then a 0 else 8) < 17 := tc_if17 (ha 0 (by omega)) (by omega)
    have hy2 : (if (if 8 = 8 then a 0 else 8) = 8 then a 1 else (if 8 = 8 then a 0 else 8)) < 17 := tc_if17 (ha 1 (by omega)) hy1
    have hy3 : (if (if (if 8 = 8 then a 0 else 8) = 8 then a 1 else (if 8 = 8 then a 0 else 8)) = 8 then a 2 else (if (if 8 = 8 then a 0 else 8) = 8 then a 1 else (if 8 = 8 then a 0 else 8))) < 17 := tc_if17 (ha 2 (by omega)) hy2
    refine ty_p30 (s := 0) (y := 8) hl (by omega) (ha 0 (by omega)) (by omega) (hwa 0 (by omega)) ?_
    refine ty_p30 (s := 1) hl (by omega) (ha 1 (by omega)) hy1 (hwa 1 (by omega)) ?_
    refine ty_p30 (s := 2) hl (by omega) (ha 2 (by omega)) hy2 (hwa 2 (by omega)) ?_
    refine ty_p30 (s := 3) hl (by omega) (ha 3 (by omega)) hy3 (hwa 3 (by omega)) ?_
    rw [tc_pvs]
    have hpl := tc_pvlt ha
    refine br_t (nI_le (a := 4) (b := 4) (by omega) (by omega)) ?_
    by_cases c : tc_pv a = 8
    · have z : S l = 0 := by
        rw [hSa]
        exact (tc_slz ha).mpr (tc_pv8.mp c)
      rw [if_pos z] at h
      exact br_t ((tc_w1 _ hpl).2.2.1.mpr c) (h o2 isf hO)
    · have z : ¬ S l = 0 := by
        rw [hSa]
        exact fun y => c (tc_pv8.mpr ((tc_slz ha).mp y))
      rw [if_neg z] at h
      refine br_f (fun y => c ((tc_w1 _ hpl).2.2.1.mp y)) ⟨an + m + 1, ?_⟩
      have cut : tc_pp S cs (S l) (tc_ng (tc_lb (tc_w (tc_pv a)))) 24 0 (upd ob 0 (S l)) 0 = tc_pp S cs (S l) (tc_ng (tc_lb (tc_w (tc_pv a)))) (an + m) 0 (upd ob 0 (S l)) 0 := by
        have := tc_ppcut (S := S) (cs := cs) (L := S l) (P := tc_ng (tc_lb (tc_w (tc_pv a)))) (an + m) (24 - (an + m)) 0 (upd ob 0 (S l)) 0 (fun j h1 h2 => by
          cases hb : bt cs j
          · rfl
          · have := (hC j (by omega) hb).1
            omega)
        rw [← this]
        exact congrArg (fun z => tc_pp S cs (S l) (tc_ng (tc_lb (tc_w (tc_pv a)))) z 0 (upd ob 0 (S l)) 0) (by omega)
      rw [cut] at h
      exact ty_p69 hV hN hC hin hl hpl c ha hwa hSa (an + m) 0 _ 0 o2 isf (an + m + 1) (by omega) (by omega) (by omega) (fun o ho => absurd ho (by omega)) h
  · rw [if_pos e] at h
    exact br_f tc_bit (h o2 isf hO)
/-! ===== keeping ===== -/
theorem ty_k57 {post : SY → Prop} {M k : Int32} (hin : tc_In k inn) (h : ∀ mk, tc_In (M ||| k) mk → post (vs, ma, ml, ac, lc, ph, cu, cf, oc, W, D, mk, inn, obl, isf)) : ∀ (d i : Nat) (mk : Nat → Int32) (n : Nat), i + d = 24 → d < n → (∀ j, j < i → mk j = tc_bi (bt (M ||| k) j)) → (∀ j, i ≤ j → j < 24 → mk j = tc_bi (bt M j)) → wY_keep_57 post vs ma ml ac lc ph cu cf oc n (nI i) W D mk inn obl isf := by
  intro d
  induction d with
  | zero =>
    intro i mk n hi hn h1 h2
    obtain ⟨n, rfl⟩ : ∃ k, n = k + 1 := ⟨n - 1, by omega⟩
    have e : i = 24 := by omega
    subst e
    exact br_t (nI_le (a := 24) (b := 24) (by omega) (by omega)) (h mk h1)
  | succ d ih =>
    intro i mk n hi hn h1 h2
    obtain ⟨n, rfl⟩ : ∃ k, n = k + 1 := ⟨n - 1, by omega⟩
    refine br_f (nI_ge (b := 24) (by omega) (by decide)) ⟨vp_in_nI (by omega) (by omega), ?_⟩
    rw [nI_clamp (by omega : i < 2 ^ 31), hin i (by omega)]
    cases hb : bt k i
    · refine br_t tc_bif (nm_r (nI_1 i) (ih (i + 1) mk n (by omega) (by omega) (fun j hj => ?_) (fun j a b => h2 j (by omega) b)))
      by_cases e : j = i
      · rw [e, b_or, hb, Bool.or_false]
        exact h2 i (by omega) (by omega)
      · exact h1 j (by omega)
    · refine br_f tc_bit ⟨vp_in_nI (by omega) (by omega), nm_e (nm_r (nI_1 i) (ih (i + 1) _ n (by omega) (by omega) (fun j hj => ?_) (fun j a b => ?_)))⟩
      · by_cases e : j = i
        · rw [e, pk_us, b_or, hb, Bool.or_true]; rfl
        · rw [pk_un e]; exact h1 j (by omega)
      · rw [pk_un (by omega)]; exact h2 j (by omega) b
theorem ty_k3 {post : SY → Prop} {cs M : Int32} {ob : Nat → Int32} {V an m q : Nat} (hV : V ≤ 8) (hN : an + m ≤ 24) (hC : tc_CS V (an + m) W S cs) (hq : q ≤ 24) (hO : tc_OR ob q obl) (hM : tc_In M mk) : ∀ (i : Nat) (k : Int32) (inn isf : Nat → Int32) (n : Nat), i ≤ 24 → i < n → tc_In k inn → (∀ j, j < 24 → bt k j = true → bt cs j = true) → (∀ j, j < i → bt k j = bt cs j) → (∀ mk inn isf, tc_In (M ||| tc_kp S cs M ob q i k) mk → post (vs, ma, ml, nI an, nI m, ph, cu, cf, nI q, W, D, mk, inn, obl, isf)) → wY_keep_3 post n (nI i + (-1)) vs ma ml (nI an) (nI m) ph cu cf (nI q) W D mk inn obl isf := by
  intro i
  induction i with
  | zero =>
    intro k inn isf n hi hn hin hk hj h
    obtain ⟨n, rfl⟩ : ∃ k, n = k + 1 := ⟨n - 1, by omega⟩
    exact br_t (by decide) ⟨25, ty_k57 hin (fun mk g => h mk inn isf g) 24 0 mk 25 (by omega) (by omega) (fun j hj => absurd hj (by omega)) (fun j _ b => hM j b)⟩
  | succ i ih =>
    intro k inn isf n hi hn hin hk hj h
    obtain ⟨n, rfl⟩ : ∃ k, n = k + 1 := ⟨n - 1, by omega⟩
    rw [pk_m1]
    refine br_f (nI_pos (by omega)) ⟨vp_in_nI (by omega) (by omega), ?_⟩
    rw [nI_clamp (by omega : i < 2 ^ 31), hin i (by omega), hM i (by omega), hj i (by omega)]
    rw [tc_kp] at h
    have hj' : ∀ j, j < i → bt k j = bt cs j := fun j a => hj j (by omega)
    cases hb : bt cs i
    · rw [if_neg (fun z => by rw [hb] at z; exact absurd z.1 (by decide))] at h
      exact br_t tc_bif (nm_e (ih k inn isf n (by omega) (by omega) hin hk hj' h))
    · refine br_f tc_bit ⟨vp_in_nI (by omega) (by omega), ?_⟩
      cases hm : bt M i
      · rw [if_pos ⟨hb, hm⟩] at h
        have hk' : ∀ j, j < 24 → bt (k &&& (tc_1 i ^^^ (-1))) j = true → bt cs j = true := by
          intro j hj e
          rw [b_and, Bool.and_eq_true] at e
          exact hk j hj e.1
        have hin' : tc_In (k &&& (tc_1 i ^^^ (-1))) (upd inn i 0) := by
          intro j hj
          rw [tc_del (by omega) (by omega)]
          by_cases e : j = i
          · rw [e, pk_us, decide_eq_true rfl, Bool.not_true, Bool.and_false]; rfl
          · rw [pk_un e, decide_eq_false e, Bool.not_false, Bool.and_true]; exact hin j hj
        refine br_t tc_bif ⟨vp_in_nI (by omega) (by omega), nm_e ?_⟩
        refine ty_al (cs := k &&& (tc_1 i ^^^ (-1))) hV hN (tc_CSsub hC hk') hin' hq hO (fun isf => ?_)
        cases ea : tc_al S (k &&& (tc_1 i ^^^ (-1))) ob q 0
        · rw [ea, if_neg (by decide)] at h
          refine br_t tc_bif ⟨vp_in_nI (by omega) (by omega), nm_e (nm_e (ih k _ isf n (by omega) (by omega) (fun j hj2 => ?_) hk hj' h))⟩
          by_cases e : j = i
          · rw [e, pk_us, hj i (by omega), hb]; rfl
          · rw [pk_un e, pk_un e]; exact hin j hj2
        · rw [if_pos ea] at h
          refine br_f tc_bit (nm_e (ih _ _ isf n (by omega) (by omega) hin' hk' (fun j a => ?_) h))
          rw [tc_del (by omega) (by omega), decide_eq_false (by omega : ¬ j = i), Bool.not_false, Bool.and_true]
          exact hj' j a
      · rw [if_neg (fun z => by rw [hm] at z; exact absurd z.2 (by decide))] at h
        exact br_f tc_bit (nm_e (ih k inn isf n (by omega) (by omega) hin hk hj' h))
theorem ty_keep {post : SY → Prop} {cs M : Int32} {ob : Nat → Int32} {V an m q : Nat} (hV : V ≤ 8) (hN : an + m ≤ 24) (hC : tc_CS V (an + m) W S cs) (hin : tc_In cs inn) (hq : q ≤ 24) (hO : tc_OR ob q obl) (hM : tc_In M mk) (h : ∀ mk inn isf, tc_In (M ||| tc_kp S cs M ob q 24 cs) mk → post (vs, ma, ml, nI an, nI m, ph, cu, cf, nI q, W, D, mk, inn, obl, isf)) : wpY_keep post (vs, ma, ml, nI an, nI m, ph, cu, cf, nI q, W, D, mk, inn, obl, isf) :=
  ⟨25, ty_k3 hV hN hC hq hO hM 24 cs inn isf 25 (by omega) (by omega) hin (fun _ _ e => e) (fun _ _ => rfl) h⟩
end
