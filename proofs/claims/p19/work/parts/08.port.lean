/-! ===== rows of the claim whole that serve here too ===== -/
theorem tc_nar (b : Bool) : narrow .boolean (.int (tc_bi b)) = .int (tc_bi b) := by cases b <;> rfl
def tc_CS (V N : Nat) (W S : Nat → Int32) (cs : Int32) : Prop := ∀ i, i < 24 → bt cs i = true → i < N ∧ tc_Cl V W S i
theorem tc_Cla {V : Nat} (hV : V ≤ 8) {W S : Nat → Int32} {i : Nat} (h : tc_Cl V W S i) : ∃ a : Nat → Nat, (∀ s, s < 4 → a s < 17) ∧ (∀ s, s < 4 → W (i * 4 + s) = tc_w (a s)) ∧ S i = tc_sl (tc_w (a 0)) (tc_w (a 1)) (tc_w (a 2)) (tc_w (a 3)) := by
  obtain ⟨a, h1, h2⟩ := h
  exact ⟨a, fun s hs => by have := h1 s hs; omega, fun s hs => (h1 s hs).2.2, h2⟩
theorem tc_CSlo {V N : Nat} (hV : V ≤ 8) {W S : Nat → Int32} {cs : Int32} (h : tc_CS V N W S cs) : ∀ i, i < 24 → bt cs i = true → tc_lo (S i) := by
  intro i hi hb
  obtain ⟨a, h1, _, h3⟩ := tc_Cla hV (h i hi hb).2
  rw [h3]
  exact tc_losl h1
theorem tc_CSsub {V N : Nat} {W S : Nat → Int32} {cs cs' : Int32} (h : tc_CS V N W S cs) (g : ∀ i, i < 24 → bt cs' i = true → bt cs i = true) : tc_CS V N W S cs' := fun i hi hb => h i hi (g i hi hb)
theorem tc_al1 {S : Nat → Int32} {cs T : Int32} {ob : Nat → Int32} : tc_al S cs (upd ob 0 T) 1 0 = tc_rf S cs T := by
  rw [tc_al, tc_al, pk_us]
  cases tc_rf S cs T <;> rfl
theorem tc_clm (p : Int32) (b : Nat) (hb : 1 ≤ b) (hb2 : b ≤ 12) : ∃ j, 1 ≤ j ∧ j ≤ b ∧ ((¬ 1 ≤ p ∧ j = 1) ∨ (1 ≤ p ∧ p ≤ nI b ∧ p = nI j) ∨ (1 ≤ p ∧ ¬ p ≤ nI b ∧ j = b)) := by
  by_cases c1 : 1 ≤ p
  · by_cases c2 : p ≤ nI b
    · have h0 : ¬ p < 0 := fun z => absurd (Int32.lt_of_lt_of_le z (Int32.le_trans (by decide : (0 : Int32) ≤ 1) c1)) (Int32.lt_irrefl)
      obtain ⟨j, hj, rfl⟩ := nI_of h0
      have h1 : 1 ≤ j := (nI_leI (a := 1) (by omega) hj).mp c1
      have h2 : j ≤ b := (nI_leI hj (by omega)).mp c2
      exact ⟨j, h1, h2, Or.inr (Or.inl ⟨c1, c2, rfl⟩)⟩
    · exact ⟨b, hb, Nat.le_refl _, Or.inr (Or.inr ⟨c1, c2, rfl⟩)⟩
  · exact ⟨1, Nat.le_refl _, hb, Or.inl ⟨c1, rfl⟩⟩
theorem tc_cl3 {P : Int32 → Prop} {p : Int32} {b j : Nat} (h : (¬ 1 ≤ p ∧ j = 1) ∨ (1 ≤ p ∧ p ≤ nI b ∧ p = nI j) ∨ (1 ≤ p ∧ ¬ p ≤ nI b ∧ j = b)) (hP : P (nI j)) : (1 ≤ p → ((p ≤ nI b → P p) ∧ (¬ p ≤ nI b → P (nI b)))) ∧ (¬ 1 ≤ p → P 1) := by
  rcases h with ⟨h1, rfl⟩ | ⟨h1, h2, h3⟩ | ⟨h1, h2, rfl⟩
  · exact br_f h1 hP
  · exact br_t h1 (br_t h2 (by rw [h3]; exact hP))
  · exact br_t h1 (br_f h2 hP)
theorem tx_hm0 {post : Int32 → Prop} {cs p : Int32} (h : p < 0 ∨ nI 24 ≤ p) (hp : post 0) : wpX_hasMember post () cs p := by
  by_cases c : p < 0
  · exact br_t c hp
  · rcases h with h | h
    · exact absurd h c
    · exact br_f c (br_t h hp)
theorem tc_le24 {a b : Nat} (h : a + b ≤ 24) {p : Int32} (hp : nI 24 ≤ p) : nI a + nI b ≤ p := by
  rw [nI_add]
  exact Int32.le_trans (nI_le h (by omega)) hp
theorem tx_it {post : Int32 → Prop} {vc al ll ph cu cf M oc : Int32} {W K S ob : Nat → Int32} {n m : Nat} {p : Int32} (hnm : n + m ≤ 24) (h0 : (p < 0 ∨ (¬ p < 0 ∧ nI n + nI m ≤ p)) → post 0) (h1 : ∀ j, j < n + m → p = nI j → post 1) : wpX_isInText post (vc, al, ll, nI n, nI m, ph, cu, cf, M, oc, W, K, S, ob) p := by
  refine br_c (fun c => h0 (Or.inl c)) (fun c => br_c (fun d => h0 (Or.inr ⟨c, d⟩)) (fun d => ?_))
  obtain ⟨j, hj, rfl⟩ := nI_of c
  rw [nI_add, nI_leI (by omega) hj] at d
  exact h1 j (by omega) rfl
def tc_oor (V : Nat) (w : Int32) : Prop := w < -nI V ∨ ¬ w ≤ nI V
theorem tc_okof {V : Nat} (hV : V ≤ 8) {w : Int32} (h : ¬ tc_oor V w) : tc_ok V w := by
  refine tc_rng hV (fun z => h (Or.inl z)) (fun z => h (Or.inr (fun y => ?_)))
  exact absurd (Int32.lt_of_lt_of_le z y) Int32.lt_irrefl
section
variable {al ll ac lc ph cu cf M oc : Int32} {W K S ob : Nat → Int32} {V : Nat}
theorem tx_oor {post : Int32 → Prop} {w : Int32} (h1 : tc_oor V w → post 1) (h0 : ¬ tc_oor V w → post 0) : wpX_isOutOfRange post (nI V, al, ll, ac, lc, ph, cu, cf, M, oc, W, K, S, ob) w :=
  br_c (fun c => h1 (Or.inl c)) (fun c => br_c (fun d => h0 (fun z => z.elim c (fun y => y d))) (fun d => h1 (Or.inr d)))
theorem tx_any {post : Int32 → Prop} {a b c d : Int32} (h1 : (tc_oor V a ∨ tc_oor V b ∨ tc_oor V c ∨ tc_oor V d) → post 1) (h0 : ¬ tc_oor V a → ¬ tc_oor V b → ¬ tc_oor V c → ¬ tc_oor V d → post 0) : wpX_anyOutOfRange post (nI V, al, ll, ac, lc, ph, cu, cf, M, oc, W, K, S, ob) a b c d := by
  unfold wpX_anyOutOfRange
  refine tx_oor (fun z => br_f (by decide) (h1 (Or.inl z))) (fun ga => br_t rfl ?_)
  refine tx_oor (fun z => br_f (by decide) (h1 (Or.inr (Or.inl z)))) (fun gb => br_t rfl ?_)
  refine tx_oor (fun z => br_f (by decide) (h1 (Or.inr (Or.inr (Or.inl z))))) (fun gc => br_t rfl ?_)
  exact tx_oor (fun z => br_f (by decide) (h1 (Or.inr (Or.inr (Or.inr z))))) (fun gd => br_t rfl (h0 ga gb gc gd))
theorem tx_store {post : St2 → Prop} {vc : Int32} {i : Nat} {x a b c d : Int32} (hi : i < 24) (h : post (vc, al, ll, ac, lc, ph, cu, cf, M, oc, tc_put W i a b c d, upd K i x, S, ob)) : wpX_store post (vc, al, ll, ac, lc, ph, cu, cf, M, oc, W, K, S, ob) (nI i) x a b c d := by
  unfold wpX_store
  rw [tc_m43, tc_m42, tc_m41, tc_m4, nI_clamp (by omega : i < 2 ^ 31), nI_clamp (by omega : i * 4 < 2 ^ 31), nI_clamp (by omega : i * 4 + 1 < 2 ^ 31), nI_clamp (by omega : i * 4 + 2 < 2 ^ 31), nI_clamp (by omega : i * 4 + 3 < 2 ^ 31)]
  exact ⟨vp_in_nI hi (by omega), nm_e ⟨vp_in_nI (by omega) (by omega), nm_e ⟨vp_in_nI (by omega) (by omega), nm_e ⟨vp_in_nI (by omega) (by omega), nm_e ⟨vp_in_nI (by omega) (by omega), nm_e h⟩⟩⟩⟩⟩
end
theorem tc_cfm {cf : Int32} {m m' : Nat} (h : m ≤ m') (hc : cf = -1 ∨ ∃ c, c ≤ m ∧ cf = nI c) : cf = -1 ∨ ∃ c, c ≤ m' ∧ cf = nI c := by
  rcases hc with hc | ⟨c, h1, h2⟩
  · exact Or.inl hc
  · exact Or.inr ⟨c, by omega, h2⟩
def tc_fc (S K W : Nat → Int32) (n : Nat) : Nat → Nat → Option Nat
  | 0, _ => none
  | d + 1, c => if tc_rf S (tc_av K W n c) 0 = true then some c else tc_fc S K W n d (c + 1)
theorem tc_fcb {S K W : Nat → Int32} {n : Nat} : ∀ (d c x : Nat), tc_fc S K W n d c = some x → c ≤ x ∧ x < c + d := by
  intro d
  induction d with
  | zero => intro c x h; exact absurd h (by simp [tc_fc])
  | succ d ih =>
    intro c x h
    rw [tc_fc] at h
    by_cases e : tc_rf S (tc_av K W n c) 0 = true
    · rw [if_pos e] at h
      have := Option.some.inj h
      omega
    · rw [if_neg e] at h
      have := ih (c + 1) x h
      omega
theorem tc_CSav {V n m : Nat} {W K S : Nat → Int32} (hT : tc_Tx V n m W K S) {k : Nat} (hk : k ≤ m) : tc_CS V (n + m) W S (tc_av K W n k) := by
  intro i hi hb
  obtain ⟨h1, h2, _⟩ := (tc_avb hT k hk i hi).mp hb
  exact ⟨by omega, hT.2.2.2.2.1 i (by omega) h2⟩
theorem tc_kps {S : Nat → Int32} {cs M : Int32} {ob : Nat → Int32} {q : Nat} : ∀ (i : Nat) (k : Int32) (j : Nat), bt (tc_kp S cs M ob q i k) j = true → bt k j = true := by
  intro i
  induction i with
  | zero => intro k j h; exact h
  | succ i ih =>
    intro k j h
    rw [tc_kp] at h
    by_cases c : bt cs i = true ∧ bt M i = false
    · rw [if_pos c] at h
      by_cases e : tc_al S (k &&& (tc_1 i ^^^ (-1))) ob q 0 = true
      · rw [if_pos e] at h
        have := ih _ j h
        rw [b_and, Bool.and_eq_true] at this
        exact this.1
      · rw [if_neg e] at h
        exact ih k j h
    · rw [if_neg c] at h
      exact ih k j h
theorem tx_fc {vc al ll ph cu cf M oc : Int32} {W K S ob : Nat → Int32} {V n m : Nat} (hT : tc_Tx V n m W K S) {post : Int32 → Prop} (h0 : tc_fc S K W n (m + 1) 0 = none → post (-1)) (h1 : ∀ x, tc_fc S K W n (m + 1) 0 = some x → post (nI x)) : wpX_firstConflict post (vc, al, ll, nI n, nI m, ph, cu, cf, M, oc, W, K, S, ob) := by
  have hnm := hT.2.1
  have main : ∀ (d c fu : Nat), c + d = m + 1 → d < fu → (tc_fc S K W n d c = none → post (-1)) → (∀ x, tc_fc S K W n d c = some x → post (nI x)) → wX_firstConflict_2 post vc al ll (nI n) (nI m) ph cu cf M oc W K S ob fu (nI c) := by
    intro d
    induction d with
    | zero =>
      intro c fu hc hf g0 g1
      obtain ⟨fu, rfl⟩ : ∃ k, fu = k + 1 := ⟨fu - 1, by omega⟩
      exact br_t (nI_lt (by omega) (by omega)) (g0 rfl)
    | succ d ih =>
      intro c fu hc hf g0 g1
      obtain ⟨fu, rfl⟩ : ∃ k, fu = k + 1 := ⟨fu - 1, by omega⟩
      refine br_f (nI_nlt (by omega) (by omega)) (tx_av (by omega) (tx_ref (tc_CSlo hT.1.2 (tc_CSav hT (by omega))) ?_))
      rw [tc_fc] at g0 g1
      cases e : tc_rf S (tc_av K W n c) 0
      · rw [e, if_neg (by decide)] at g0 g1
        exact br_t tc_bif (nm_r (nI_1 c) (ih (c + 1) fu (by omega) (by omega) g0 g1))
      · rw [if_pos e] at g1
        exact br_f tc_bit (g1 c rfl)
  exact ⟨m + 2, main (m + 1) 0 (m + 2) (by omega) (by omega) h0 h1⟩
theorem tc_Mnew {V n m : Nat} {W K S ob : Nat → Int32} (hT : tc_Tx V n m W K S) {M : Int32} {q x : Nat} (hx : x ≤ m) (hi : ∀ i, i < 24 → bt M i = true → i < n + m ∧ ¬ K i = 3) : ∀ i, i < 24 → bt (M ||| tc_kp S (tc_av K W n x) M ob q 24 (tc_av K W n x)) i = true → i < n + m ∧ ¬ K i = 3 := by
  intro i h24 h
  rw [b_or, Bool.or_eq_true] at h
  rcases h with h | h
  · exact hi i h24 h
  · obtain ⟨h1, h2, _⟩ := (tc_avb hT x hx i h24).mp (tc_kps _ _ _ h)
    exact ⟨by omega, h2⟩
theorem tc_wayq (S : Nat → Int32) (cs L P : Int32) (ob : Nat → Int32) : (tc_way S cs L P ob).2.2 ≤ 24 := by
  unfold tc_way
  by_cases c : tc_al S cs (upd ob 0 L) 1 0 = true
  · rw [if_pos c]
    show 1 ≤ 24
    omega
  · rw [if_neg c]
    by_cases d : L = 0
    · rw [if_pos d]
      show 1 ≤ 24
      omega
    · rw [if_neg d]
      have := tc_ppq S cs L P 24 0 (upd ob 0 L) 0
      show (tc_pp S cs L P 24 0 (upd ob 0 L) 0).2 ≤ 24
      omega
theorem tc_alc {S : Nat → Int32} {cs : Int32} {ob ob' : Nat → Int32} : ∀ (d i : Nat), (∀ o, i ≤ o → o < i + d → ob o = ob' o) → tc_al S cs ob d i = tc_al S cs ob' d i := by
  intro d
  induction d with
  | zero => intro i _; rfl
  | succ d ih =>
    intro i h
    rw [tc_al, tc_al, h i (by omega) (by omega), ih (i + 1) (fun o a b => h o (by omega) (by omega))]
theorem tc_ppc {S : Nat → Int32} {cs L P : Int32} : ∀ (d i : Nat) (ob ob' : Nat → Int32) (q : Nat), (∀ o, o < q → ob o = ob' o) → (tc_pp S cs L P d i ob q).2 = (tc_pp S cs L P d i ob' q).2 ∧ ∀ o, o < (tc_pp S cs L P d i ob q).2 → (tc_pp S cs L P d i ob q).1 o = (tc_pp S cs L P d i ob' q).1 o := by
  intro d
  induction d with
  | zero => intro i ob ob' q h; exact ⟨rfl, h⟩
  | succ d ih =>
    intro i ob ob' q h
    rw [tc_pp, tc_pp]
    by_cases c : bt cs i = true ∧ ¬ S i &&& P = 0
    · rw [if_pos c, if_pos c]
      refine ih (i + 1) _ _ (q + 1) (fun o ho => ?_)
      by_cases e : o = q
      · rw [e, pk_us, pk_us]
      · rw [pk_un e, pk_un e]; exact h o (by omega)
    · rw [if_neg c, if_neg c]
      exact ih (i + 1) ob ob' q h
theorem tc_wayv (S : Nat → Int32) (cs L P : Int32) (ob ob' : Nat → Int32) : (tc_way S cs L P ob).1 = (tc_way S cs L P ob').1 := by
  unfold tc_way
  rw [tc_al1, tc_al1]
  by_cases c : tc_rf S cs L = true
  · rw [if_pos c, if_pos c]
  · rw [if_neg c, if_neg c]
    by_cases d : L = 0
    · rw [if_pos d, if_pos d]
    · rw [if_neg d, if_neg d]
      obtain ⟨h1, h2⟩ := tc_ppc (S := S) (cs := cs) (L := L) (P := P) 24 0 (upd ob 0 L) (upd ob' 0 L) 0 (fun o ho => absurd ho (by omega))
      show (if _ then (4 : Int32) else 5) = if _ then (4 : Int32) else 5
      rw [tc_alc _ 0 (fun o _ b => h2 o (by omega)), h1]
def tc_pr (w n : Nat) (M : Int32) : Int32 := if w = 2 then M else if w = 1 then tc_ax n ||| M else 16777215
theorem tc_all : ∀ i, i < 24 → bt 16777215 i = true := by decide +kernel
theorem tx_pr {vc al ll lc ph cu cf M oc : Int32} {W K S ob : Nat → Int32} {post : Int32 → Prop} {w n : Nat} (hw : w ≤ 2) (h : post (tc_pr w n M)) : wpX_presentIn post (vc, al, ll, nI n, lc, ph, cu, cf, M, oc, W, K, S, ob) (nI w) := by
  have hw3 : w = 0 ∨ w = 1 ∨ w = 2 := by omega
  rcases hw3 with rfl | rfl | rfl
  · exact br_f (by decide) (br_f (by decide) h)
  · exact br_f (by decide) (br_t rfl h)
  · exact br_t rfl h
theorem tc_view (p : Int32) : (∃ w, w ≤ 2 ∧ p = nI w) ∨ (¬ p = 0 ∧ ¬ p = 1 ∧ ¬ p = 2 ∧ (p < 0 ∨ (¬ p < 0 ∧ ¬ p ≤ 2))) := by
  by_cases c : p < 0
  · refine Or.inr ⟨fun z => ?_, fun z => ?_, fun z => ?_, Or.inl c⟩ <;> (rw [z] at c; exact absurd c (by decide))
  · obtain ⟨j, hj, rfl⟩ := nI_of c
    by_cases h : j ≤ 2
    · exact Or.inl ⟨j, h, rfl⟩
    · refine Or.inr ⟨fun z => ?_, fun z => ?_, fun z => ?_, Or.inr ⟨c, fun z => ?_⟩⟩
      · have := (nI_eq (b := 0) hj (by omega)).mp z; omega
      · have := (nI_eq (b := 1) hj (by omega)).mp z; omega
      · have := (nI_eq (b := 2) hj (by omega)).mp z; omega
      · have := (nI_leI (b := 2) hj (by omega)).mp z; omega
theorem tx_vw {post : Int32 → Prop} {w : Nat} (hw : w ≤ 2) (h : post 1) : wpX_isView post () (nI w) := by
  have hw3 : w = 0 ∨ w = 1 ∨ w = 2 := by omega
  rcases hw3 with rfl | rfl | rfl
  · exact br_t rfl h
  · exact br_f (by decide) (br_t rfl h)
  · exact br_f (by decide) (br_f (by decide) (br_t rfl h))
theorem tc_hz {a : Nat → Nat} (h : ∀ s, s < 4 → a s < 17) (t : Int32) : tc_sl (tc_w (a 0)) (tc_w (a 1)) (tc_w (a 2)) (tc_w (a 3)) &&& t = 0 ↔ ¬ ∃ s, s < 4 ∧ a s ≠ 8 ∧ bt t (tc_b (a s)) = true := by
  rw [tc_zand]
  constructor
  · rintro g ⟨s, hs, h8, hb⟩
    have := tc_blt (h s hs)
    exact g (tc_b (a s)) (by omega) ((tc_slb h (by omega)).mpr ⟨s, hs, h8, rfl⟩) hb
  · intro g i hi h1 h2
    obtain ⟨s, hs, h8, e⟩ := (tc_slb h hi).mp h1
    exact g ⟨s, hs, h8, by rw [← e]; exact h2⟩
