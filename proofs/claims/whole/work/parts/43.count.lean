-- the colorings
def qn_isc (n s k : Nat) (t : Nat → Nat → Nat) (g : Nat → Int32) (code : Nat) : Bool := decide (∀ i, i < s → qn_tc n t g (qn_dg n s code) k i = qn_dg n s code i)
def qn_iss (n s k m : Nat) (t w : Nat → Nat → Nat) (g : Nat → Int32) (W code : Nat) : Bool := qn_isc n s k t g code && decide (qn_tw m n t w g (qn_dg n s code) k % m = W)
theorem q_ctT {p : Nat → Bool} {i : Nat} (h : p i = true) : nI (fb_ct p i) + 1 = nI (fb_ct p (i + 1)) := by
  rw [fb_ct_succ, h]
  exact nI_1 _
theorem q_ctF {p : Nat → Bool} {i : Nat} (h : p i = false) : fb_ct p (i + 1) = fb_ct p i := by
  rw [fb_ct_succ, h]
  rfl
theorem q_ctF0 {p : Nat → Bool} {i : Nat} (h : p i = false) : nI (fb_ct p i) + 0 = nI (fb_ct p (i + 1)) := by
  rw [q_ctF h]
  exact nI_add _ 0
theorem s_countAll {post : Int32 → Int32 → (Nat → Int32) → (Nat → Int32) → Prop} {n s k m : Nat} {t w : Nat → Nat → Nat} {g : Nat → Int32} {T : Int32} {a c p q cr wv : Nat → Int32} (hE : qn_ev n s k m t w g) (hp : qn_tb n 0 t p) (hq : qn_qt n t q) (hg : ∀ j, j < k → cr j = g j) (hwv : qn_tb n 0 w wv) (h : ∀ T a' c', post (nI (fb_ct (qn_isc n s k t g) (n ^ s))) T a' c') : wp_X7_countAll post T a c (nI n) p q (nI s) (nI k) cr (nI m) wv := by
  obtain ⟨⟨g1, g2, g3, g4, g5, g6, g7, g8, g9, g10⟩, hi⟩ := id hE
  have h1296 := q_n4 n (by omega) s (by omega)
  refine s_start g4 (fun a' ha' => ?_)
  have hadv := q_adv n (by omega) (by omega) s (by omega) g3
  generalize hA : n ^ s = A at h h1296 hadv ⊢
  refine pk_loop (σ := Int32 × (Nat → Int32) × (Nat → Int32)) (fun f i b => wp_X7_countAll_L11 (fun x1 x2 x3 x4 => post x1 x2 x3 x4) (nI A) (nI n) p q (nI s) (nI k) cr (nI m) wv f (nI (fb_ct (qn_isc n s k t g) i)) (nI i) b.1 b.2.1 b.2.2) (fun i b => ∀ j, j < 4 → b.2.1 j = nI (qn_dg n s i j)) A 0 (T, a', c) (Nat.zero_le _) (fun j hj => by rw [q_dg0]; exact ha' j hj) (fun f b hI => pk_le A A (fun _ => h _ _ _) (fun z => absurd z (by omega))) (fun f i b hi2 hI hk => pk_le A i (fun z => absurd z (by omega)) (fun _ => s_closes hE hp hq hg hwv hI (q_dgl (by omega)) (fun hall c' => ⟨fun z => absurd z (by decide), fun _ => nm_r (q_ctT (decide_eq_true hall)) ?_⟩) (fun hall c' => ⟨fun _ => ?_, fun z => absurd rfl z⟩)))
  · exact s_adv g2 g4 hI (fun j _ => Nat.lt_of_lt_of_le (q_dgl (by omega) j) g2) (hadv i hi2) (fun a'' ha'' => nm_r (nI_1 i) (hk (_, a'', c') ha''))
  · rw [← q_ctF (p := qn_isc n s k t g) (i := i) (decide_eq_false hall)]
    exact s_adv g2 g4 hI (fun j _ => Nat.lt_of_lt_of_le (q_dgl (by omega) j) g2) (hadv i hi2) (fun a'' ha'' => nm_r (nI_1 i) (hk (_, a'', c') ha''))
theorem s_countTot {post : Int32 → Int32 → (Nat → Int32) → (Nat → Int32) → Prop} {n s k m W : Nat} {t w : Nat → Nat → Nat} {g : Nat → Int32} {T : Int32} {a c p q cr wv : Nat → Int32} (hE : qn_ev n s k m t w g) (hp : qn_tb n 0 t p) (hq : qn_qt n t q) (hg : ∀ j, j < k → cr j = g j) (hwv : qn_tb n 0 w wv) (hW : W < m) (h : ∀ T a' c', post (nI (fb_ct (qn_iss n s k m t w g W) (n ^ s))) T a' c') : wp_X7_countWithTotal post T a c (nI n) p q (nI s) (nI k) cr (nI m) wv (nI W) := by
  obtain ⟨⟨g1, g2, g3, g4, g5, g6, g7, g8, g9, g10⟩, hi⟩ := id hE
  have h1296 := q_n4 n (by omega) s (by omega)
  refine s_start g4 (fun a' ha' => ?_)
  have hadv := q_adv n (by omega) (by omega) s (by omega) g3
  generalize hA : n ^ s = A at h h1296 hadv ⊢
  refine pk_loop (σ := Int32 × (Nat → Int32) × (Nat → Int32)) (fun f i b => wp_X7_countWithTotal_L12 (fun x1 x2 x3 x4 => post x1 x2 x3 x4) (nI W) (nI A) (nI n) p q (nI s) (nI k) cr (nI m) wv f (nI (fb_ct (qn_iss n s k m t w g W) i)) (nI i) b.1 b.2.1 b.2.2) (fun i b => ∀ j, j < 4 → b.2.1 j = nI (qn_dg n s i j)) A 0 (T, a', c) (Nat.zero_le _) (fun j hj => by rw [q_dg0]; exact ha' j hj) (fun f b hI => pk_le A A (fun _ => h _ _ _) (fun z => absurd z (by omega))) (fun f i b hi2 hI hk => pk_le A i (fun z => absurd z (by omega)) (fun _ => ?_))
  have hml := Nat.mod_lt (qn_tw m n t w g (qn_dg n s i) k) (show m > 0 by omega)
  have hT6 : ∀ j, j < 4 → qn_dg n s i j < 6 := fun j _ => Nat.lt_of_lt_of_le (q_dgl (by omega) j) g2
  refine s_closes hE hp hq hg hwv hI (q_dgl (by omega)) (fun hall c' => ⟨fun z => absurd z (by decide), fun _ => q_ne (qn_tw m n t w g (qn_dg n s i) k % m) W (fun e => nm_r (q_ctT ?_) ?_) (fun e => ?_) (ha := by omega) (hb := by omega)⟩) (fun hall c' => ⟨fun _ => ?_, fun z => absurd rfl z⟩)
  · show (decide _ && decide _) = true
    rw [decide_eq_true hall, decide_eq_true e]
    rfl
  · exact s_adv g2 g4 hI hT6 (hadv i hi2) (fun a'' ha'' => nm_r (nI_1 i) (hk (_, a'', c') ha''))
  · have e1 : qn_iss n s k m t w g W i = false := by
      show (decide _ && decide _) = false
      rw [decide_eq_false e, Bool.and_false]
    rw [← q_ctF (p := qn_iss n s k m t w g W) (i := i) e1]
    exact s_adv g2 g4 hI hT6 (hadv i hi2) (fun a'' ha'' => nm_r (nI_1 i) (hk (_, a'', c') ha''))
  · have e1 : qn_iss n s k m t w g W i = false := by
      show (decide _ && decide _) = false
      rw [decide_eq_false hall, Bool.false_and]
    rw [← q_ctF (p := qn_iss n s k m t w g W) (i := i) e1]
    exact s_adv g2 g4 hI hT6 (hadv i hi2) (fun a'' ha'' => nm_r (nI_1 i) (hk (_, a'', c') ha''))
def qn_nf (p : Nat → Bool) (F A : Nat) : Nat := fa_first (fun c => decide (F ≤ c) && p c) A
def qn_nr (p : Nat → Bool) (F A : Nat) : Int32 := if qn_nf p F A < A then nI (qn_nf p F A) else (-4)
theorem q_nfY {p : Nat → Bool} {F A : Nat} (h : qn_nf p F A < A) : F ≤ qn_nf p F A ∧ p (qn_nf p F A) = true := by
  have h1 : (decide (F ≤ qn_nf p F A) && p (qn_nf p F A)) = true := fa_first_yes (fun c => decide (F ≤ c) && p c) A h
  rw [Bool.and_eq_true] at h1
  exact ⟨of_decide_eq_true h1.1, h1.2⟩
theorem q_nfN {p : Nat → Bool} {F A i : Nat} (h : i < qn_nf p F A) (hF : F ≤ i) : p i = false := by
  have h1 : (decide (F ≤ i) && p i) = false := fa_first_no (fun c => decide (F ≤ c) && p c) A i h
  rwa [decide_eq_true hF, Bool.true_and] at h1
theorem s_firstFrom {post : Int32 → Int32 → (Nat → Int32) → (Nat → Int32) → Prop} {n s k m F : Nat} {t w : Nat → Nat → Nat} {g : Nat → Int32} {T : Int32} {a c p q cr wv : Nat → Int32} (hE : qn_ev n s k m t w g) (hp : qn_tb n 0 t p) (hq : qn_qt n t q) (hg : ∀ j, j < k → cr j = g j) (hwv : qn_tb n 0 w wv) (hF : F < 2 ^ 31) (h : ∀ T a' c', post (qn_nr (qn_isc n s k t g) F (n ^ s)) T a' c') : wp_X7_firstFrom post T a c (nI n) p q (nI s) (nI k) cr (nI m) wv (nI F) := by
  obtain ⟨⟨g1, g2, g3, g4, g5, g6, g7, g8, g9, g10⟩, hi⟩ := id hE
  have h1296 := q_n4 n (by omega) s (by omega)
  refine s_start g4 (fun a' ha' => ?_)
  have hadv := q_adv n (by omega) (by omega) s (by omega) g3
  generalize hA : n ^ s = A at h h1296 hadv ⊢
  have hle : qn_nf (qn_isc n s k t g) F A ≤ A := fa_first_le _ _
  have hr : ∀ q, qn_nf (qn_isc n s k t g) F A = q → qn_nr (qn_isc n s k t g) F A = if q < A then nI q else (-4) := fun q e => by unfold qn_nr; rw [e]
  have hY := q_nfY (p := qn_isc n s k t g) (F := F) (A := A)
  have hN := fun i => q_nfN (p := qn_isc n s k t g) (F := F) (A := A) (i := i)
  generalize qn_nf (qn_isc n s k t g) F A = e at hle hr hY hN
  have hr := hr e rfl
  refine pk_loop (σ := Int32 × (Nat → Int32) × (Nat → Int32)) (fun f i b => wp_X7_firstFrom_L9 post (fun x2 x3 x4 => post (-4) x2 x3 x4) (nI F) (nI A) (nI n) p q (nI s) (nI k) cr (nI m) wv f (nI i) b.1 b.2.1 b.2.2) (fun i b => ∀ j, j < 4 → b.2.1 j = nI (qn_dg n s i j)) e 0 (T, a', c) (Nat.zero_le _) (fun j hj => by rw [q_dg0]; exact ha' j hj) (fun f b hI => pk_le A e (fun z => ?_) (fun z => pk_lt e F (fun z2 => absurd z2 ?_) (fun _ => s_closes hE hp hq hg hwv hI (q_dgl (by omega)) (fun hall c' => ⟨fun z => absurd z (by decide), fun _ => ?_⟩) (fun hall c' => absurd (of_decide_eq_true (hY z).2) hall)))) (fun f i b hi2 hI hk => pk_le A i (fun z => absurd z (by omega)) (fun _ => ?_))
  · have h9 := h b.1 b.2.1 b.2.2
    rw [hr, if_neg (by omega)] at h9
    exact h9
  · have := (hY z).1
    omega
  · have h9 := h (nI (qn_tw m n t w g (qn_dg n s e) k % m)) b.2.1 c'
    rw [hr, if_pos z] at h9
    exact h9
  · have hT6 : ∀ j, j < 4 → qn_dg n s i j < 6 := fun j _ => Nat.lt_of_lt_of_le (q_dgl (by omega) j) g2
    refine pk_lt i F (fun z => ?_) (fun z => s_closes hE hp hq hg hwv hI (q_dgl (by omega)) (fun hall c' => absurd hall (of_decide_eq_false (hN i hi2 z))) (fun hall c' => ⟨fun _ => ?_, fun z => absurd rfl z⟩))
    · exact s_adv g2 g4 hI hT6 (hadv i (by omega)) (fun a'' ha'' => nm_r (nI_1 i) (hk (_, a'', _) ha''))
    · exact s_adv g2 g4 hI hT6 (hadv i (by omega)) (fun a'' ha'' => nm_r (nI_1 i) (hk (_, a'', c') ha''))
-- the reference
theorem s_mCount {K : Int32 → Int32 → (Nat → Int32) → Prop} {n s k m : Nat} {t w : Nat → Nat → Nat} {g : Nat → Int32} {T : Int32} {N o c : Nat → Int32} (hE : qn_ev n s k m t w g) (hM : qn_M n s k m t w g N) (ho : qn_qt n t o) (h : ∀ T c', K (nI (fb_ct (qn_isc n s k t g) (n ^ s))) T c') : ∃ f, wp_X10_coloringCount_L21 K (nI (n ^ s)) N o f 0 0 T c := by
  obtain ⟨⟨g1, g2, g3, g4, g5, g6, g7, g8, g9, g10⟩, hi⟩ := id hE
  have h1296 := q_n4 n (by omega) s (by omega)
  have hcol := fun (code : Nat) (post : Int32 → Int32 → (Nat → Int32) → Prop) (c : Nat → Int32) (hc : code < n ^ s) => s_isCol (post := post) (c := c) hE hM ho hc
  generalize n ^ s = A at h h1296 hcol ⊢
  refine pk_loop (σ := Int32 × (Nat → Int32)) (fun f i b => wp_X10_coloringCount_L21 K (nI A) N o f (nI (fb_ct (qn_isc n s k t g) i)) (nI i) b.1 b.2) (fun _ _ => True) A 0 (T, c) (Nat.zero_le _) trivial (fun f b _ => pk_le A A (fun _ => h _ _) (fun z => absurd z (by omega))) (fun f i b hi2 _ hk => pk_le A i (fun z => absurd z (by omega)) (fun _ => hcol i _ _ hi2 (fun hall c' => ⟨fun z => absurd z (by decide), fun _ => nm_r (q_ctT (decide_eq_true hall)) (nm_r (nI_1 i) (hk (_, c') trivial))⟩) (fun hall c' => ⟨fun _ => nm_r (q_ctF0 (decide_eq_false hall)) (nm_r (nI_1 i) (hk (_, c') trivial)), fun z => absurd rfl z⟩)))
theorem s_mSum {K : Int32 → Int32 → (Nat → Int32) → Prop} {n s k m W : Nat} {t w : Nat → Nat → Nat} {g : Nat → Int32} {T : Int32} {N o c : Nat → Int32} (hE : qn_ev n s k m t w g) (hM : qn_M n s k m t w g N) (ho : qn_qt n t o) (hW : W < m) (h : ∀ T c', K (nI (fb_ct (qn_iss n s k m t w g W) (n ^ s))) T c') : ∃ f, wp_X10_stateSum_L41 K (nI W) (nI (n ^ s)) N o f 0 0 T c := by
  obtain ⟨⟨g1, g2, g3, g4, g5, g6, g7, g8, g9, g10⟩, hi⟩ := id hE
  have h1296 := q_n4 n (by omega) s (by omega)
  have hcol := fun (code : Nat) (post : Int32 → Int32 → (Nat → Int32) → Prop) (c : Nat → Int32) (hc : code < n ^ s) => s_isCol (post := post) (c := c) hE hM ho hc
  generalize n ^ s = A at h h1296 hcol ⊢
  refine pk_loop (σ := Int32 × (Nat → Int32)) (fun f i b => wp_X10_stateSum_L41 K (nI W) (nI A) N o f (nI (fb_ct (qn_iss n s k m t w g W) i)) (nI i) b.1 b.2) (fun _ _ => True) A 0 (T, c) (Nat.zero_le _) trivial (fun f b _ => pk_le A A (fun _ => h _ _) (fun z => absurd z (by omega))) (fun f i b hi2 _ hk => pk_le A i (fun z => absurd z (by omega)) (fun _ => ?_))
  have hml := Nat.mod_lt (qn_tw m n t w g (qn_dg n s i) k) (show m > 0 by omega)
  refine hcol i _ _ hi2 (fun hall c' => ⟨fun z => absurd z (by decide), fun _ => q_ne (qn_tw m n t w g (qn_dg n s i) k % m) W (fun e => nm_r (q_ctT ?_) (nm_r (nI_1 i) (hk (_, c') trivial))) (fun e => nm_r (q_ctF0 ?_) (nm_r (nI_1 i) (hk (_, c') trivial))) (ha := by omega) (hb := by omega)⟩) (fun hall c' => ⟨fun _ => nm_r (q_ctF0 ?_) (nm_r (nI_1 i) (hk (_, c') trivial)), fun z => absurd rfl z⟩)
  · show (decide _ && decide _) = true
    rw [decide_eq_true hall, decide_eq_true e]
    rfl
  · show (decide _ && decide _) = false
    rw [decide_eq_false e, Bool.and_false]
  · show (decide _ && decide _) = false
    rw [decide_eq_false hall, Bool.false_and]
theorem s_mNext {post : Int32 → Int32 → (Nat → Int32) → (Nat → Int32) → Prop} {n s k m F : Nat} {t w : Nat → Nat → Nat} {g : Nat → Int32} {T : Int32} {N o c : Nat → Int32} (hE : qn_ev n s k m t w g) (hM : qn_M n s k m t w g N) (ho : qn_qt n t o) (hF : F < 2 ^ 31) (h : ∀ T c', post (qn_nr (qn_isc n s k t g) F (n ^ s)) T o c') : ∃ f, wp_X10_nextColoring_L25 post (fun x y => post (-4) x o y) (nI (n ^ s)) N o f (nI F) T c := by
  obtain ⟨⟨g1, g2, g3, g4, g5, g6, g7, g8, g9, g10⟩, hi⟩ := id hE
  have h1296 := q_n4 n (by omega) s (by omega)
  have hcol := fun (code : Nat) (post : Int32 → Int32 → (Nat → Int32) → Prop) (c : Nat → Int32) (hc : code < n ^ s) => s_isCol (post := post) (c := c) hE hM ho hc
  generalize n ^ s = A at h h1296 hcol ⊢
  have hle : qn_nf (qn_isc n s k t g) F A ≤ A := fa_first_le _ _
  have hr : ∀ q, qn_nf (qn_isc n s k t g) F A = q → qn_nr (qn_isc n s k t g) F A = if q < A then nI q else (-4) := fun q e => by unfold qn_nr; rw [e]
  have hY := q_nfY (p := qn_isc n s k t g) (F := F) (A := A)
  have hN := fun i => q_nfN (p := qn_isc n s k t g) (F := F) (A := A) (i := i)
  generalize qn_nf (qn_isc n s k t g) F A = e at hle hr hY hN
  have hr := hr e rfl
  by_cases hFA : A ≤ F
  · refine ⟨1, pk_le A F (fun _ => ?_) (fun z => absurd z (by omega))⟩
    have h9 := h T c
    rw [hr, if_neg (fun z => absurd (hY z).1 (by omega))] at h9
    exact h9
  · have hFe : F ≤ e := by
      by_cases q : e < A
      · exact (hY q).1
      · omega
    refine pk_loop (σ := Int32 × (Nat → Int32)) (fun f i b => wp_X10_nextColoring_L25 post (fun x y => post (-4) x o y) (nI A) N o f (nI i) b.1 b.2) (fun i _ => F ≤ i) e F (T, c) hFe (Nat.le_refl F) (fun f b _ => pk_le A e (fun z => ?_) (fun z => hcol e _ _ z (fun hall c' => ⟨fun z => absurd z (by decide), fun _ => ?_⟩) (fun hall c' => absurd (of_decide_eq_true (hY z).2) hall))) (fun f i b hi2 hI hk => pk_le A i (fun z => absurd z (by omega)) (fun z => hcol i _ _ z (fun hall c' => absurd hall (of_decide_eq_false (hN i hi2 hI))) (fun hall c' => ⟨fun _ => nm_r (nI_1 i) (hk (_, c') (Nat.le_succ_of_le hI)), fun z => absurd rfl z⟩)))
    · have h9 := h b.1 b.2
      rw [hr, if_neg (by omega)] at h9
      exact h9
    · have h9 := h (nI (qn_tw m n t w g (qn_dg n s e) k % m)) c'
      rw [hr, if_pos z] at h9
      exact h9
