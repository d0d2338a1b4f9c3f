-- crossings, passed
def qn_gq (g : Int32) : Nat := g.toInt.natAbs
def qn_gb (g : Int32) : Bool := decide (0 < g.toInt)
theorem q_gqP {r : Nat} (h : r < 2 ^ 31) : qn_gq (nI r) = r := by
  unfold qn_gq
  rw [nI_toInt h, Int.natAbs_natCast]
theorem q_gqN {r : Nat} (h : r < 2 ^ 31) : qn_gq (-nI r) = r := by
  unfold qn_gq
  rw [q_neg h, Int.natAbs_neg, Int.natAbs_natCast]
theorem q_gbP {r : Nat} (h1 : 1 ≤ r) (h : r < 2 ^ 31) : qn_gb (nI r) = true := decide_eq_true (by rw [nI_toInt h]; omega)
theorem q_gbN {r : Nat} (h : r < 2 ^ 31) : qn_gb (-nI r) = false := decide_eq_false (by rw [q_neg h]; omega)
theorem q_z0 : (0 : Int32).toInt = 0 := by decide
theorem q_nle0 {r : Nat} (h : r < 2 ^ 31) : -nI r ≤ 0 := by
  rw [fa_le, q_neg h, q_z0]
  omega
theorem q_n0le {r : Nat} (h1 : 1 ≤ r) (h : r < 2 ^ 31) : ¬ (0 : Int32) ≤ -nI r := by
  rw [fa_le, q_neg h, q_z0]
  omega
theorem q_0n (r : Nat) : (0 : Int32) - -nI r = nI r := by rw [Int32.sub_eq_add_neg, Int32.neg_neg, Int32.zero_add]
def qn_ps (n : Nat) (t : Nat → Nat → Nat) (g : Int32) (C : Nat → Nat) : Nat → Nat := fun i =>
  if i = qn_gq g - 1 then (if qn_gb g then C (qn_gq g) else qn_dv n t (C (qn_gq g)) (C (qn_gq g - 1)))
  else if i = qn_gq g then (if qn_gb g then t (C (qn_gq g - 1)) (C (qn_gq g)) else C (qn_gq g - 1))
  else C i
def qn_wt (m n : Nat) (t w : Nat → Nat → Nat) (g : Int32) (C : Nat → Nat) : Nat :=
  if qn_gb g then w (C (qn_gq g - 1)) (C (qn_gq g)) else m - w (qn_dv n t (C (qn_gq g)) (C (qn_gq g - 1))) (C (qn_gq g - 1))
def qn_tc (n : Nat) (t : Nat → Nat → Nat) (g : Nat → Int32) (C : Nat → Nat) : Nat → Nat → Nat
  | 0 => C
  | j + 1 => qn_ps n t (g j) (qn_tc n t g C j)
def qn_tw (m n : Nat) (t w : Nat → Nat → Nat) (g : Nat → Int32) (C : Nat → Nat) : Nat → Nat
  | 0 => 0
  | j + 1 => qn_tw m n t w g C j + qn_wt m n t w (g j) (qn_tc n t g C j)
theorem q_psl {n s : Nat} {t : Nat → Nat → Nat} {g : Int32} {C : Nat → Nat} (ht : ∀ x y, x < n → y < n → t x y < n) (hi : ∀ y, y < n → qn_inj n t y) (hs : s ≤ 4) (hg : qn_cr s g) (hC : ∀ i, i < s → C i < n) : ∀ i, i < s → qn_ps n t g C i < n := by
  intro i hi2
  obtain ⟨r, h1, h2, e⟩ := hg
  have hq : qn_gq g = r := by
    rcases e with e | e
    · rw [e]; exact q_gqP (by omega)
    · rw [e]; exact q_gqN (by omega)
  unfold qn_ps
  rw [hq]
  have a1 := hC r h2
  have a2 := hC (r - 1) (by omega)
  split
  · split
    · exact a1
    · exact (q_dv ht (hi _ a2) a1 a2).1
  · split
    · split
      · exact ht _ _ a2 a1
      · exact a2
    · exact hC i hi2
theorem q_pso {n s i : Nat} {t : Nat → Nat → Nat} {g : Int32} {C : Nat → Nat} (hs : s ≤ 4) (hg : qn_cr s g) (hi : s ≤ i) : qn_ps n t g C i = C i := by
  obtain ⟨r, h1, h2, e⟩ := hg
  have hq : qn_gq g = r := by
    rcases e with e | e
    · rw [e]; exact q_gqP (by omega)
    · rw [e]; exact q_gqN (by omega)
  unfold qn_ps
  rw [hq, if_neg (by omega), if_neg (by omega)]
theorem q_wtl {m n s : Nat} {t w : Nat → Nat → Nat} {g : Int32} {C : Nat → Nat} (hm : m ≤ 12) (hw : ∀ x y, x < n → y < n → w x y < m) (hs : s ≤ 4) (hg : qn_cr s g) (hC : ∀ i, i < s → C i < n) : qn_wt m n t w g C ≤ 12 := by
  obtain ⟨r, h1, h2, e⟩ := hg
  have hq : qn_gq g = r := by
    rcases e with e | e
    · rw [e]; exact q_gqP (by omega)
    · rw [e]; exact q_gqN (by omega)
  unfold qn_wt
  rw [hq]
  split
  · have := hw _ _ (hC (r - 1) (by omega)) (hC r h2)
    omega
  · omega
/-- what is given of a colouring's run -/
def qn_ev (n s k m : Nat) (t w : Nat → Nat → Nat) (g : Nat → Int32) : Prop := qn_Good n s k m t w g ∧ ∀ y, y < n → qn_inj n t y
theorem q_tcl {n s k m : Nat} {t w : Nat → Nat → Nat} {g : Nat → Int32} {C : Nat → Nat} (hE : qn_ev n s k m t w g) (hC : ∀ i, i < s → C i < n) : ∀ j, j ≤ k → ∀ i, i < s → qn_tc n t g C j i < n
  | 0, _ => hC
  | j + 1, hj => by
    obtain ⟨⟨g1, g2, g3, g4, g5, g6, g7, g8, g9, g10⟩, hi⟩ := id hE
    exact q_psl g8 hi g4 (g10 j (by omega)) (q_tcl hE hC j (by omega))
theorem q_tco {n s k m : Nat} {t w : Nat → Nat → Nat} {g : Nat → Int32} {C : Nat → Nat} (hE : qn_ev n s k m t w g) : ∀ j, j ≤ k → ∀ i, s ≤ i → qn_tc n t g C j i = C i
  | 0, _ => fun _ _ => rfl
  | j + 1, hj => fun i hi => by
    obtain ⟨⟨g1, g2, g3, g4, g5, g6, g7, g8, g9, g10⟩, -⟩ := id hE
    exact (q_pso g4 (g10 j (by omega)) hi).trans (q_tco hE j (by omega) i hi)
theorem q_twl {n s k m : Nat} {t w : Nat → Nat → Nat} {g : Nat → Int32} {C : Nat → Nat} (hE : qn_ev n s k m t w g) (hC : ∀ i, i < s → C i < n) : ∀ j, j ≤ k → qn_tw m n t w g C j ≤ 12 * j
  | 0, _ => Nat.le_refl 0
  | j + 1, hj => by
    obtain ⟨⟨g1, g2, g3, g4, g5, g6, g7, g8, g9, g10⟩, -⟩ := id hE
    have h1 := q_twl hE hC j (by omega)
    have h2 := q_wtl (t := t) g7 g9 g4 (g10 j (by omega)) (q_tcl hE hC j (by omega))
    show qn_tw m n t w g C j + qn_wt m n t w (g j) (qn_tc n t g C j) ≤ 12 * (j + 1)
    omega
-- the class
theorem s_pass {post : Int32 → (Nat → Int32) → Prop} {n s m T : Nat} {t w : Nat → Nat → Nat} {C : Nat → Nat} {g : Int32} {c p q wv : Nat → Int32} (hn : n ≤ 6) (hm : m ≤ 12) (hs : s ≤ 4) (ht : ∀ x y, x < n → y < n → t x y < n) (hw : ∀ x y, x < n → y < n → w x y < m) (hi : ∀ y, y < n → qn_inj n t y) (hp : qn_tb n 0 t p) (hq : qn_qt n t q) (hwv : qn_tb n 0 w wv) (hg : qn_cr s g) (hC : ∀ i, i < s → C i < n) (hc : ∀ i, i < 4 → c i = nI (C i)) (hT : T < m) (h : ∀ c', (∀ i, i < 4 → c' i = nI (qn_ps n t g C i)) → post (nI ((T + qn_wt m n t w g C) % m)) c') : wp_X7_pass post (nI T) c p q (nI m) wv g := by
  obtain ⟨r, h1, h2, e⟩ := hg
  have a1 := hC r h2
  have a2 := hC (r - 1) (by omega)
  have er : nI r - 1 = nI (r - 1) := q_pred h1
  rcases e with rfl | rfl
  · have hb := q_gbP h1 (show r < 2 ^ 31 by omega)
    have hqr := q_gqP (show r < 2 ^ 31 by omega)
    have ew : qn_wt m n t w (nI r) C = w (C (r - 1)) (C r) := by unfold qn_wt; rw [hqr, if_pos hb]
    rw [ew] at h
    refine nm_r (if_pos (nI_pos' (by omega))) (pk_lt r 1 (fun z => absurd z (by omega)) (fun _ => pk_lt r 4 (fun _ => ⟨pk_in (r - 1) 4 (by omega) (hx := er), nm_r (e' := nI (C (r - 1))) (by rw [pk_cl (r - 1) er]; exact hc _ (by omega)) ⟨pk_in r 4 (by omega), nm_r (e' := nI (C r)) (by rw [pk_cl r]; exact hc _ (by omega)) (pk_le r 0 (fun z => absurd z (by omega)) (fun _ => s_get (by omega) (by omega) ?_))⟩⟩) (fun z => absurd z (by omega))))
    rw [q_tb0 hwv a2 a1]
    refine s_plus hm hT (hw _ _ a2 a1) ⟨pk_in (r - 1) 4 (by omega) (hx := er), nm_r (by rw [pk_cl (r - 1) er]) (s_product hn hp a2 a1 ⟨pk_in r 4 (by omega), nm_r (by rw [pk_cl r]) (h _ (fun i hi4 => ?_))⟩)⟩
    unfold qn_ps
    rw [hqr, hb]
    by_cases e1 : i = r - 1
    · rw [if_pos e1, if_pos rfl, pk_un (by omega), e1, pk_us]
    · rw [if_neg e1]
      by_cases e2 : i = r
      · rw [if_pos e2, if_pos rfl, e2, pk_us]
      · rw [if_neg e2, pk_un e2, pk_un e1]
        exact hc i hi4
  · have hb := q_gbN (show r < 2 ^ 31 by omega)
    have hqr := q_gqN (show r < 2 ^ 31 by omega)
    have hd := q_dv ht (hi _ a2) a1 a2
    have ew : qn_wt m n t w (-nI r) C = m - w (qn_dv n t (C r) (C (r - 1))) (C (r - 1)) := by unfold qn_wt; rw [hqr, hb]; rfl
    rw [ew] at h
    refine nm_r ((if_neg (q_n0le h1 (by omega))).trans (q_0n r)) (pk_lt r 1 (fun z => absurd z (by omega)) (fun _ => pk_lt r 4 (fun _ => ⟨pk_in (r - 1) 4 (by omega) (hx := er), nm_r (e' := nI (C (r - 1))) (by rw [pk_cl (r - 1) er]; exact hc _ (by omega)) ⟨pk_in r 4 (by omega), nm_r (e' := nI (C r)) (by rw [pk_cl r]; exact hc _ (by omega)) ⟨fun _ => s_divide hn ht hq (hi _ a2) a1 a2 (s_get (by omega) (by omega) ?_), fun z => absurd (q_nle0 (by omega)) z⟩⟩⟩) (fun z => absurd z (by omega))))
    rw [q_tb0 hwv hd.1 a2]
    refine s_minus hm hT (hw _ _ hd.1 a2) ⟨pk_in (r - 1) 4 (by omega) (hx := er), nm_r (by rw [pk_cl (r - 1) er]) ⟨pk_in r 4 (by omega), nm_r (by rw [pk_cl r]) (h _ (fun i hi4 => ?_))⟩⟩
    unfold qn_ps
    rw [hqr, hb]
    by_cases e1 : i = r - 1
    · rw [if_pos e1, pk_un (by omega), e1, pk_us]
      rfl
    · rw [if_neg e1]
      by_cases e2 : i = r
      · rw [if_pos e2, e2, pk_us]
        rfl
      · rw [if_neg e2, pk_un e2, pk_un e1]
        exact hc i hi4
-- the reference
theorem s_mPass {BL : Int32 → Int32 → (Nat → Int32) → Prop} {n s m T j : Nat} {t w : Nat → Nat → Nat} {C : Nat → Nat} {g z0 : Int32} {c N o : Nat → Int32} (hn : n ≤ 6) (hm : m ≤ 12) (hs : s ≤ 4) (ht : ∀ x y, x < n → y < n → t x y < n) (hw : ∀ x y, x < n → y < n → w x y < m) (hi : ∀ y, y < n → qn_inj n t y) (hp : qn_tb n 0 t N) (hq : qn_qt n t o) (hwv : qn_tb n 36 w N) (h87 : N 87 = nI m) (hg : qn_cr s g) (hz : (0 ≤ g ∧ z0 = g) ∨ (¬ 0 ≤ g ∧ z0 = -g)) (hC : ∀ i, i < s → C i < n) (hc : ∀ i, i < s → c i = nI (C i)) (h : ∀ c', (∀ i, i < s → c' i = nI (qn_ps n t g C i)) → BL (nI (j + 1)) (nI (T + qn_wt m n t w g C)) c') : wp_X10_isColoring_J89 BL (nI j) g z0 (nI T) N o c := by
  obtain ⟨r, h1, h2, e⟩ := hg
  have a1 := hC r h2
  have a2 := hC (r - 1) (by omega)
  have er : nI r - 1 = nI (r - 1) := q_pred h1
  rcases e with rfl | rfl
  · have hb := q_gbP h1 (show r < 2 ^ 31 by omega)
    have hqr := q_gqP (show r < 2 ^ 31 by omega)
    have ew : qn_wt m n t w (nI r) C = w (C (r - 1)) (C r) := by unfold qn_wt; rw [hqr, if_pos hb]
    rw [ew] at h
    have ez : z0 = nI r := by
      rcases hz with ⟨_, q⟩ | ⟨q, _⟩
      · exact q
      · exact absurd (nI_pos' (by omega)) q
    subst ez
    refine ⟨pk_in (r - 1) 4 (by omega) (hx := er), nm_r (e' := nI (C (r - 1))) (by rw [pk_cl (r - 1) er]; exact hc _ (by omega)) ⟨pk_in r 4 (by omega), nm_r (e' := nI (C r)) (by rw [pk_cl r]; exact hc _ (by omega)) (pk_le r 0 (fun z => absurd z (by omega)) (fun _ => ⟨pk_in (r - 1) 4 (by omega) (hx := er), nm_r (by rw [pk_cl (r - 1) er]) (s_of hn hp a2 a1 ⟨pk_in r 4 (by omega), nm_r (by rw [pk_cl r]) (s_wOf hn hwv a2 a1 (nm_r (nI_add T _) (nm_r (nI_1 j) (h _ (fun i hi4 => ?_)))))⟩)⟩))⟩⟩
    unfold qn_ps
    rw [hqr, hb]
    by_cases e1 : i = r - 1
    · rw [if_pos e1, if_pos rfl, pk_un (by omega), e1, pk_us]
    · rw [if_neg e1]
      by_cases e2 : i = r
      · rw [if_pos e2, if_pos rfl, e2, pk_us]
      · rw [if_neg e2, pk_un e2, pk_un e1]
        exact hc i hi4
  · have hb := q_gbN (show r < 2 ^ 31 by omega)
    have hqr := q_gqN (show r < 2 ^ 31 by omega)
    have hd := q_dv ht (hi _ a2) a1 a2
    have ew : qn_wt m n t w (-nI r) C = m - w (qn_dv n t (C r) (C (r - 1))) (C (r - 1)) := by unfold qn_wt; rw [hqr, hb]; rfl
    rw [ew] at h
    have ez : z0 = nI r := by
      rcases hz with ⟨q, _⟩ | ⟨_, q⟩
      · exact absurd q (q_n0le h1 (by omega))
      · rw [q, Int32.neg_neg]
    subst ez
    have hwd := hw _ _ hd.1 a2
    refine ⟨pk_in (r - 1) 4 (by omega) (hx := er), nm_r (e' := nI (C (r - 1))) (by rw [pk_cl (r - 1) er]; exact hc _ (by omega)) ⟨pk_in r 4 (by omega), nm_r (e' := nI (C r)) (by rw [pk_cl r]; exact hc _ (by omega)) ⟨fun _ => ⟨pk_in (6 * C r + C (r - 1)) 36 (by omega) (hx := q_ix _ _), nm_r (e' := nI (qn_dv n t (C r) (C (r - 1)))) (by rw [pk_cl (6 * C r + C (r - 1)) (q_ix _ _), q_qt ht hq (hi _ a2) a1 a2]) ⟨pk_in (r - 1) 4 (by omega) (hx := er), nm_r (by rw [pk_cl (r - 1) er]) ⟨pk_in r 4 (by omega), nm_r (by rw [pk_cl r]) ⟨pk_in 87 88 (by omega), s_wOf hn hwv hd.1 a2 (nm_r (e' := nI (T + (m - w (qn_dv n t (C r) (C (r - 1))) (C (r - 1))))) (by rw [q87, h87, pk_sub (by omega), nI_add]) (nm_r (nI_1 j) (h _ (fun i hi4 => ?_))))⟩⟩⟩⟩, fun z => absurd (q_nle0 (by omega)) z⟩⟩⟩
    unfold qn_ps
    rw [hqr, hb]
    by_cases e1 : i = r - 1
    · rw [if_pos e1, pk_un (by omega), e1, pk_us]
      rfl
    · rw [if_neg e1]
      by_cases e2 : i = r
      · rw [if_pos e2, e2, pk_us]
        rfl
      · rw [if_neg e2, pk_un e2, pk_un e1]
        exact hc i hi4
