-- the reference's reads
theorem q84 : ((84 : Int32)).toNatClampNeg = 84 := by decide
theorem q85 : ((85 : Int32)).toNatClampNeg = 85 := by decide
theorem q86 : ((86 : Int32)).toNatClampNeg = 86 := by decide
theorem q87 : ((87 : Int32)).toNatClampNeg = 87 := by decide
theorem q_pred {n : Nat} (h : 1 ≤ n) : nI n - 1 = nI (n - 1) := by
  obtain ⟨k, rfl⟩ : ∃ k, n = k + 1 := ⟨n - 1, by omega⟩
  exact nI_pred k
theorem s_isElT {post : Int32 → Prop} {N : Nat → Int32} {n x : Nat} (hN : N 84 = nI n) (hn : n ≤ 6) (hx : x < n) (h : post 1) : wp_X10_isElement post N (nI x) :=
  ⟨pk_in 84 88 (by omega), by
    rw [q84, hN, q_pred (by omega)]
    exact pk_lt x 0 (fun z => absurd z (by omega)) (fun _ => pk_lt (n - 1) x (fun z => absurd z (by omega)) (fun _ => ⟨Or.inr rfl, h⟩))⟩
theorem q_lt_of_le {n : Nat} (hn : 1 ≤ n) (hn6 : n < 2 ^ 31) {x : Int32} (h : nI n ≤ x) : nI (n - 1) < x := by
  rw [fa_le, nI_toInt hn6] at h
  rw [fa_lt, nI_toInt (by omega)]
  omega
theorem s_isElF {post : Int32 → Prop} {N : Nat → Int32} {n : Nat} {x : Int32} (hN : N 84 = nI n) (hn1 : 1 ≤ n) (hn : n ≤ 6) (hx : x < 0 ∨ nI n ≤ x) (h : post 0) : wp_X10_isElement post N x :=
  ⟨pk_in 84 88 (by omega), by
    rw [q84, hN, q_pred hn1]
    rcases hx with q | q
    · exact ⟨fun _ => ⟨Or.inl rfl, h⟩, fun z => absurd q z⟩
    · exact ⟨fun _ => ⟨Or.inl rfl, h⟩, fun _ => ⟨fun _ => ⟨Or.inl rfl, h⟩, fun z => absurd (q_lt_of_le hn1 (by omega) q) z⟩⟩⟩
-- a copy of a state
def qn_cp (u v : qn_St) : Prop := u.1 = v.1 ∧ u.2.1 = v.2.1 ∧ (∀ j, j < 36 → u.2.2.1 j = v.2.2.1 j) ∧ (∀ j, j < 36 → u.2.2.2.1 j = v.2.2.2.1 j) ∧ u.2.2.2.2.1 = v.2.2.2.2.1 ∧ u.2.2.2.2.2.1 = v.2.2.2.2.2.1 ∧ (∀ j, j < 12 → u.2.2.2.2.2.2.1 j = v.2.2.2.2.2.2.1 j) ∧ u.2.2.2.2.2.2.2.1 = v.2.2.2.2.2.2.2.1 ∧ ∀ j, j < 36 → u.2.2.2.2.2.2.2.2 j = v.2.2.2.2.2.2.2.2 j
theorem q_Xcp {n s k m : Nat} {t w : Nat → Nat → Nat} {g : Nat → Int32} {u v : qn_St} (hG : qn_Good n s k m t w g) (h : qn_X n s k m t w g v) (hc : qn_cp u v) : qn_X n s k m t w g u := by
  obtain ⟨g1, g2, g3, g4, g5, g6, g7, g8, g9, g10⟩ := hG
  obtain ⟨h1, h2, h3, h4, h5, h6, h7, h8, h9⟩ := h
  obtain ⟨c1, c2, c3, c4, c5, c6, c7, c8, c9⟩ := hc
  refine ⟨c1.trans h1, by rw [c2]; exact h2, fun x y hx hy => ?_, fun y hy hi x hx => ?_, c5.trans h5, c6.trans h6, fun j hj => (c7 j (by omega)).trans (h7 j hj), c8.trans h8, fun x y hx hy => ?_⟩
  · rw [c3 _ (by omega)]; exact h3 x y hx hy
  · rw [c4 _ (by have := g8 x y hx hy; omega)]; exact h4 y hy hi x hx
  · rw [c9 _ (by omega)]; exact h9 x y hx hy
theorem q_Mcp {n s k m : Nat} {t w : Nat → Nat → Nat} {g : Nat → Int32} {N N' : Nat → Int32} (hG : qn_Good n s k m t w g) (h : qn_M n s k m t w g N) (hc : ∀ j, j < 88 → N' j = N j) : qn_M n s k m t w g N' := by
  obtain ⟨g1, g2, g3, g4, g5, g6, g7, g8, g9, g10⟩ := hG
  obtain ⟨h1, h2, h3, h4, h5, h6, h7⟩ := h
  refine ⟨(hc 84 (by omega)).trans h1, fun x y hx hy => ?_, (hc 85 (by omega)).trans h3, (hc 86 (by omega)).trans h4, fun j hj => (hc _ (by omega)).trans (h5 j hj), (hc 87 (by omega)).trans h6, fun x y hx hy => ?_⟩
  · rw [hc _ (by omega)]; exact h2 x y hx hy
  · rw [hc _ (by omega)]; exact h7 x y hx hy
theorem q_Rcp {u v : qn_St} {N N' : Nat → Int32} (h : qn_R v N) (hc : qn_cp u v) (hc2 : ∀ j, j < 88 → N' j = N j) : qn_R u N' := by
  obtain ⟨n, s, k, m, t, w, g, hG, hX, hM⟩ := h
  exact ⟨n, s, k, m, t, w, g, hG, q_Xcp hG hX hc, q_Mcp hG hM hc2⟩
-- State.copyFrom
theorem s_braidCopy {post : Int32 → Int32 → (Nat → Int32) → Prop} {a b : Nat → Int32} {x y : Int32} (h : ∀ c, (∀ j, j < 12 → c j = b j) → post x y c) : wp_X1_copyFrom post a x y b :=
  pk_loop (fun n i s => wp_X1_copyFrom_L18 (fun c => post x y c) b n (nI i) s) (fun i s => ∀ j, j < i → s j = b j) 12 0 a (by omega) (fun j hj => absurd hj (by omega))
    (fun n s hI => pk_le 12 12 (fun _ => h s hI) (fun z => absurd z (by omega)))
    (fun n i s hi hI hk => pk_le 12 i (fun z => absurd z (by omega)) (fun _ => ⟨pk_in i 12 hi, pk_in i 12 hi, nm_e (nm_r (nI_1 i) (hk _ (fun j hj => by
      rw [pk_cl i]
      by_cases e : j = i
      · rw [e, pk_us]
      · rw [pk_un e]; exact hI j (by omega))))⟩))
theorem s_stCopy {post : Int32 → Int32 → (Nat → Int32) → (Nat → Int32) → Int32 → Int32 → (Nat → Int32) → Int32 → (Nat → Int32) → Prop} {a1 a2 a3 a4 : Nat → Int32} {b0 b1 : Int32} {b2 b3 : Nat → Int32} {b4 b5 : Int32} {b6 : Nat → Int32} {b7 : Int32} {b8 : Nat → Int32}
    (h : ∀ c2 c3 c6 c8, qn_cp (b0, b1, c2, c3, b4, b5, c6, b7, c8) (b0, b1, b2, b3, b4, b5, b6, b7, b8) → post b0 b1 c2 c3 b4 b5 c6 b7 c8) : wp_X6_copyFrom post a1 a2 a3 a4 b0 b1 b2 b3 b4 b5 b6 b7 b8 :=
  s_copy (fun c2 h2 => s_copy (fun c3 h3 => s_braidCopy (fun c6 h6 => s_copy (fun c8 h8 => h c2 c3 c6 c8 ⟨rfl, rfl, h2, h3, rfl, rfl, h6, rfl, h8⟩))))
-- remember, edit
def qn_Pst (c : Nat) (P : Nat → qn_St) (v : qn_St) (P' : Nat → qn_St) : Prop := (c < 5 → (∀ i, i < c → P' i = P i) ∧ qn_cp (P' c) v) ∧ (c = 5 → (∀ i, i < 4 → P' i = P (i + 1)) ∧ qn_cp (P' 4) v)
def qn_Hst (c : Nat) (H N H' : Nat → Int32) : Prop := (c < 5 → (∀ j, j < 88 * c → H' j = H j) ∧ ∀ j, j < 88 → H' (88 * c + j) = N j) ∧ (c = 5 → (∀ j, j < 352 → H' j = H (j + 88)) ∧ ∀ j, j < 88 → H' (352 + j) = N j)
def qn_nx (c : Nat) : Nat := if c < 5 then c + 1 else 5
def qn_Hs (c : Nat) (P : Nat → qn_St) (H : Nat → Int32) : Prop := ∀ i, i < c → qn_R (P i) (fun k => H (88 * i + k))
theorem q_push {c : Nat} {P P' : Nat → qn_St} {v : qn_St} {H H' N : Nat → Int32} (hc : c ≤ 5) (hR : qn_R v N) (hH : qn_Hs c P H) (hP : qn_Pst c P v P') (hE : qn_Hst c H N H') : qn_Hs (qn_nx c) P' H' := by
  intro i hi
  rcases Nat.lt_or_ge c 5 with q | q
  · have e : qn_nx c = c + 1 := if_pos q
    rw [e] at hi
    obtain ⟨p1, p2⟩ := hP.1 q
    obtain ⟨e1, e2⟩ := hE.1 q
    by_cases hic : i = c
    · subst hic
      exact q_Rcp hR p2 (fun j hj => e2 j hj)
    · rw [p1 i (by omega)]
      refine q_Rcp (hH i (by omega)) ⟨rfl, rfl, fun _ _ => rfl, fun _ _ => rfl, rfl, rfl, fun _ _ => rfl, rfl, fun _ _ => rfl⟩ (fun j hj => e1 _ (by omega))
  · have e : qn_nx c = 5 := if_neg (by omega)
    have ec : c = 5 := by omega
    rw [e] at hi
    obtain ⟨p1, p2⟩ := hP.2 ec
    obtain ⟨e1, e2⟩ := hE.2 ec
    by_cases hic : i = 4
    · subst hic
      exact q_Rcp hR p2 (fun j hj => e2 j hj)
    · rw [p1 i (by omega)]
      refine q_Rcp (hH (i + 1) (by omega)) ⟨rfl, rfl, fun _ _ => rfl, fun _ _ => rfl, rfl, rfl, fun _ _ => rfl, rfl, fun _ _ => rfl⟩ (fun j hj => ?_)
      show H' (88 * i + j) = H (88 * (i + 1) + j)
      rw [e1 _ (by omega)]
      congr 1
      omega
theorem s_remember {post : Int32 → (Nat → Nat → Nat) → (Nat → qn_St) → Prop} {c : Nat} {pa : Nat → Nat → Nat} {P : Nat → qn_St} {b0 b1 : Int32} {b2 b3 : Nat → Int32} {b4 b5 : Int32} {b6 : Nat → Int32} {b7 : Int32} {b8 : Nat → Int32} (hc : c ≤ 5)
    (h : ∀ pa' P', qn_Pst c P (b0, b1, b2, b3, b4, b5, b6, b7, b8) P' → post (nI (qn_nx c)) pa' P') : wp_X3_remember post (nI c) pa P b0 b1 b2 b3 b4 b5 b6 b7 b8 := by
  have hne : ∀ i, i ≠ c → ∀ x, va_up P c x i = P i := fun i hi x => if_neg hi
  rcases (show c = 0 ∨ c = 1 ∨ c = 2 ∨ c = 3 ∨ c = 4 ∨ c = 5 by omega) with rfl | rfl | rfl | rfl | rfl | rfl
  · exact Or.inl ⟨rfl, s_stCopy (fun c2 c3 c6 c8 hcp => h _ _ ⟨fun _ => ⟨fun i hi => absurd hi (by omega), hcp⟩, fun z => absurd z (by omega)⟩)⟩
  · exact Or.inr (Or.inl ⟨rfl, s_stCopy (fun c2 c3 c6 c8 hcp => h _ _ ⟨fun _ => ⟨fun i hi => if_neg (by omega), hcp⟩, fun z => absurd z (by omega)⟩)⟩)
  · exact Or.inr (Or.inr (Or.inl ⟨rfl, s_stCopy (fun c2 c3 c6 c8 hcp => h _ _ ⟨fun _ => ⟨fun i hi => if_neg (by omega), hcp⟩, fun z => absurd z (by omega)⟩)⟩))
  · exact Or.inr (Or.inr (Or.inr (Or.inl ⟨rfl, s_stCopy (fun c2 c3 c6 c8 hcp => h _ _ ⟨fun _ => ⟨fun i hi => if_neg (by omega), hcp⟩, fun z => absurd z (by omega)⟩)⟩)))
  · exact Or.inr (Or.inr (Or.inr (Or.inr (Or.inl ⟨rfl, s_stCopy (fun c2 c3 c6 c8 hcp => h _ _ ⟨fun _ => ⟨fun i hi => if_neg (by omega), hcp⟩, fun z => absurd z (by omega)⟩)⟩))))
  · exact Or.inr (Or.inr (Or.inr (Or.inr (Or.inr ⟨rfl, s_stCopy (fun c2 c3 c6 c8 hcp => h _ _ ⟨fun z => absurd z (by omega), fun _ => ⟨fun i hi => by
      rcases (show i = 0 ∨ i = 1 ∨ i = 2 ∨ i = 3 by omega) with rfl | rfl | rfl | rfl <;> rfl, hcp⟩⟩)⟩))))
theorem s_edit1 {K : (Nat → Int32) → Prop} {c : Nat} {N H : Nat → Int32} (hc : c < 5) (h : ∀ H', (∀ j, j < 88 * c → H' j = H j) → (∀ j, j < 88 → H' (88 * c + j) = N j) → K H') : ∃ n, wp_X10_edit_L50 K (nI c) N n 0 H :=
  pk_loop (fun n i s => wp_X10_edit_L50 K (nI c) N n (nI i) s) (fun i s => (∀ j, j < 88 * c → s j = H j) ∧ ∀ j, j < i → s (88 * c + j) = N j) 88 0 H (by omega) ⟨fun _ _ => rfl, fun j hj => absurd hj (by omega)⟩
    (fun n s hI => pk_le 88 88 (fun _ => h s hI.1 hI.2) (fun z => absurd z (by omega)))
    (fun n i s hi hI hk => by
      have e : (88 : Int32) * nI c + nI i = nI (88 * c + i) := by rw [show (88 : Int32) = nI 88 from rfl, pk_mul, nI_add]
      refine pk_le 88 i (fun z => absurd z (by omega)) (fun _ => ⟨pk_in i 88 hi, pk_in (88 * c + i) 440 (by omega) (hx := e), nm_r (by rw [pk_cl (88 * c + i) e, pk_cl i]) (nm_r (nI_1 i) (hk _ ⟨fun j hj => ?_, fun j hj => ?_⟩))⟩)
      · rw [pk_un (by omega)]; exact hI.1 j hj
      · by_cases e2 : j = i
        · rw [e2, pk_us]
        · rw [pk_un (by omega)]; exact hI.2 j (by omega))
theorem s_edit {post : Int32 → (Nat → Int32) → Prop} {c : Nat} {N H : Nat → Int32} (hc : c ≤ 5) (h : ∀ H', qn_Hst c H N H' → post (nI (qn_nx c)) H') : wp_X10_edit post (nI c) N H := by
  refine pk_eq c 5 (fun z => ?_) (fun z => ?_) |> fun q => ⟨q.2, q.1⟩
  · subst z
    refine q_loop (fun K n i s => wp_X10_edit_L10 K n (nI i) s) (fun i s => (∀ j, j < i → s j = H (j + 88)) ∧ ∀ j, i ≤ j → s j = H j) 352 0 H (by omega) ⟨fun j hj => absurd hj (by omega), fun _ _ => rfl⟩
      (fun n s hI => pk_le 352 352 (fun _ => ?_) (fun z => absurd z (by omega))) (fun n i s hi hI hk => ?_)
    · refine nm_r (nI_pred 4) (s_edit1 (c := 4) (by omega) (fun H' h1 h2 => nm_r (nI_1 4) (h H' ⟨fun z => absurd z (by omega), fun _ => ⟨fun j hj => ?_, fun j hj => h2 j hj⟩⟩)))
      rw [h1 j (by omega)]
      exact hI.1 j hj
    · have e : nI i + 88 = nI (i + 88) := nI_add i 88
      refine pk_le 352 i (fun z => absurd z (by omega)) (fun _ => ⟨pk_in (i + 88) 440 (by omega) (hx := e), pk_in i 440 (by omega), nm_r (by rw [pk_cl (i + 88) e, pk_cl i]) (nm_r (nI_1 i) (hk _ ⟨fun j hj => ?_, fun j hj => ?_⟩))⟩)
      · by_cases e2 : j = i
        · rw [e2, pk_us]; exact hI.2 _ (by omega)
        · rw [pk_un (by omega)]; exact hI.1 j (by omega)
      · rw [pk_un (by omega)]; exact hI.2 j (by omega)
  · refine s_edit1 (by omega) (fun H' h1 h2 => nm_r (nI_1 c) ?_)
    have h3 := h H' ⟨fun _ => ⟨h1, h2⟩, fun z => absurd z (by omega)⟩
    rwa [show qn_nx c = c + 1 from if_pos (by omega)] at h3
-- undo
theorem s_restore {post : Int32 → Int32 → Int32 → (Nat → Int32) → (Nat → Int32) → Int32 → Int32 → (Nat → Int32) → Int32 → (Nat → Int32) → Prop} {c : Nat} {P : Nat → qn_St} {b0 b1 : Int32} {b2 b3 : Nat → Int32} {b4 b5 : Int32} {b6 : Nat → Int32} {b7 : Int32} {b8 : Nat → Int32} (hc : c < 5)
    (h : ∀ u : qn_St, qn_cp u (P c) → post (nI c) u.1 u.2.1 u.2.2.1 u.2.2.2.1 u.2.2.2.2.1 u.2.2.2.2.2.1 u.2.2.2.2.2.2.1 u.2.2.2.2.2.2.2.1 u.2.2.2.2.2.2.2.2) : wp_X3_restoreLatest post (nI (c + 1)) P b0 b1 b2 b3 b4 b5 b6 b7 b8 := by
  rcases (show c = 0 ∨ c = 1 ∨ c = 2 ∨ c = 3 ∨ c = 4 by omega) with rfl | rfl | rfl | rfl | rfl
  · exact Or.inl ⟨rfl, s_stCopy (fun c2 c3 c6 c8 hcp => h (_, _, c2, c3, _, _, c6, _, c8) hcp)⟩
  · exact Or.inr (Or.inl ⟨rfl, s_stCopy (fun c2 c3 c6 c8 hcp => h (_, _, c2, c3, _, _, c6, _, c8) hcp)⟩)
  · exact Or.inr (Or.inr (Or.inl ⟨rfl, s_stCopy (fun c2 c3 c6 c8 hcp => h (_, _, c2, c3, _, _, c6, _, c8) hcp)⟩))
  · exact Or.inr (Or.inr (Or.inr (Or.inl ⟨rfl, s_stCopy (fun c2 c3 c6 c8 hcp => h (_, _, c2, c3, _, _, c6, _, c8) hcp)⟩)))
  · exact Or.inr (Or.inr (Or.inr (Or.inr ⟨rfl, s_stCopy (fun c2 c3 c6 c8 hcp => h (_, _, c2, c3, _, _, c6, _, c8) hcp)⟩)))
