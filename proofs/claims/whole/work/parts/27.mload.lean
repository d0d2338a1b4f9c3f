-- what a load leaves in the reference's row
def qn_Ld (n : Nat) (T : Nat → Nat → Nat) (N N' : Nat → Int32) : Prop := N' 84 = nI n ∧ qn_tb n 0 T N' ∧ (∀ j, 36 ≤ j → j < 72 → N' j = 0) ∧ ∀ j, 72 ≤ j → j ≠ 84 → N' j = N j
theorem q_Ld {n n0 s k m : Nat} {T t w : Nat → Nat → Nat} {g : Nat → Int32} {N N' : Nat → Int32} (hn : n ≤ 6) (hk : k ≤ 12) (h : qn_M n0 s k m t w g N) (hL : qn_Ld n T N N') : qn_M n s k m T (fun _ _ => 0) g N' := by
  obtain ⟨h1, h2, h3, h4, h5, h6, h7⟩ := h
  obtain ⟨l1, l2, l3, l4⟩ := hL
  exact ⟨l1, l2, (l4 85 (by omega) (by omega)).trans h3, (l4 86 (by omega) (by omega)).trans h4, fun j hj => (l4 _ (by omega) (by omega)).trans (h5 j hj), (l4 87 (by omega) (by omega)).trans h6, fun x y hx hy => l3 _ (by omega) (by omega)⟩
/-- behind a load the two objects agree -/
theorem q_loaded {c n n0 s k m : Nat} {T t w : Nat → Nat → Nat} {g : Nat → Int32} {P P' : Nat → qn_St} {N N' H H' : Nat → Int32} {v : qn_St} {b : Int32} {p' q' r' cr : Nat → Int32} (hc : c ≤ 5) (hn1 : 1 ≤ n) (hn : n ≤ 6) (hT : ∀ x y, x < n → y < n → T x y < n) (hG : qn_Good n0 s k m t w g) (hX : qn_X n0 s k m t w g v) (hM : qn_M n0 s k m t w g N) (hH : qn_Hs c P H) (hP : qn_Pst c P v P') (hE : qn_Hst c H N H') (hL : qn_Ld n T N N') (hb : qn_IsBad n T b) (hp : qn_tb n 0 T p') (hq : qn_qt n T q') (hr : ∀ j, j < 36 → r' j = 0) (hcr : ∀ j, j < k → cr j = g j) :
    qn_Inv (nI n, b, p', q', nI s, nI k, cr, nI m, r') (nI (qn_nx c)) P' N' H' (nI (qn_nx c)) := by
  have hh := q_push hc ⟨n0, s, k, m, t, w, g, hG, hX, hM⟩ hH hP hE
  obtain ⟨g1, g2, g3, g4, g5, g6, g7, g8, g9, g10⟩ := hG
  refine ⟨qn_nx c, by unfold qn_nx; split <;> omega, rfl, rfl, ⟨n, s, k, m, T, fun _ _ => 0, g, ⟨hn1, hn, g3, g4, g5, g6, g7, hT, fun _ _ _ _ => (show 0 < m by omega), g10⟩, ⟨rfl, hb, hp, hq, rfl, rfl, hcr, rfl, fun x y hx hy => hr _ (by omega)⟩, q_Ld hn g5 hM hL⟩, hh⟩
-- the class
theorem s_sizeT {post : Int32 → Prop} {n : Nat} (h1 : 1 ≤ n) (h6 : n ≤ 6) (h : post 1) : wp_X9_isSize post (nI n) :=
  pk_lt n 1 (fun z => absurd z (by omega)) (fun _ => pk_lt 6 n (fun z => absurd z (by omega)) (fun _ => h))
theorem s_sizeF {post : Int32 → Prop} {x : Int32} (hx : x < nI 1 ∨ nI 6 < x) (h : post 0) : wp_X9_isSize post x := by
  rcases hx with q | q
  · exact ⟨fun _ => h, fun z => absurd q z⟩
  · exact ⟨fun _ => h, fun _ => ⟨fun _ => h, fun z => absurd q z⟩⟩
theorem s_begin {post : (Nat → Int32) → Int32 → (Nat → Nat → Nat) → (Nat → qn_St) → Prop} {c : Nat} {pa : Nat → Nat → Nat} {P : Nat → qn_St} {b0 b1 : Int32} {b2 b3 : Nat → Int32} {b4 b5 : Int32} {b6 : Nat → Int32} {b7 : Int32} {b8 : Nat → Int32} (hc : c ≤ 5)
    (h : ∀ r' pa' P', (∀ j, j < 36 → r' j = 0) → qn_Pst c P (b0, b1, b2, b3, b4, b5, b6, b7, b8) P' → post r' (nI (qn_nx c)) pa' P') : wp_X9_beginLoad post b0 b1 b2 b3 b4 b5 b6 b7 b8 (nI c) pa P :=
  s_remember hc (fun pa' P' hP => s_clear (fun r' hr => h r' pa' P' hr hP))
theorem s_loadLin {post : Int32 → Int32 → Int32 → (Nat → Int32) → (Nat → Int32) → (Nat → Int32) → Int32 → (Nat → Nat → Nat) → (Nat → qn_St) → Prop} {c n : Nat} {T : Nat → Nat → Nat} {xF yF sh : Int32} {pa : Nat → Nat → Nat} {P : Nat → qn_St} {b0 b1 : Int32} {b2 b3 : Nat → Int32} {b4 b5 : Int32} {b6 : Nat → Int32} {b7 : Int32} {b8 : Nat → Int32} (hc : c ≤ 5) (hn1 : 1 ≤ n) (hn : n ≤ 6) (hT : ∀ x y, x < n → y < n → qn_fmd (xF * nI x + yF * nI y + sh) (nI n) = nI (T x y)) (hTn : ∀ x y, x < n → y < n → T x y < n)
    (h : ∀ b p' q' r' pa' P', qn_IsBad n T b → qn_tb n 0 T p' → qn_qt n T q' → (∀ j, j < 36 → r' j = 0) → qn_Pst c P (b0, b1, b2, b3, b4, b5, b6, b7, b8) P' → post (nI n) (nI n) b p' q' r' (nI (qn_nx c)) pa' P') : wp_X9_loadLinear post b0 b1 b2 b3 b4 b5 b6 b7 b8 (nI c) pa P (nI n) xF yF sh :=
  s_sizeT hn1 hn ⟨fun _ => s_begin hc (fun r' pa' P' hr hP => s_linear hn1 hn hT hTn (fun b p' q' hb hp hq => h b p' q' r' pa' P' hb hp hq hr hP)), fun z => absurd z (by decide)⟩
-- the reference's loads
theorem q_trst {BL : Int32 → (Nat → Int32) → Prop} {i n : Nat} {s N1 : Nat → Int32} (hi : i < 36) (hI : (∀ j, j < i → j / 6 < n → j % 6 < n → s j = nI (j / 6)) ∧ ∀ j, 36 ≤ j → s j = N1 j) (hk : ∀ s', ((∀ j, j < i + 1 → j / 6 < n → j % 6 < n → s' j = nI (j / 6)) ∧ ∀ j, 36 ≤ j → s' j = N1 j) → BL (nI (i + 1)) s') (v : Int32) (hv : i / 6 < n → i % 6 < n → v = nI (i / 6)) : vp_in (nI i) 88 ∧ ∀ a : Nat → Int32, a = upd s (nI i).toNatClampNeg v → ∀ x2 : Int32, x2 = nI i + 1 → BL x2 a :=
  ⟨pk_in i 88 (by omega), nm_r (by rw [pk_cl i]) (nm_r (nI_1 i) (hk _ ⟨fun j hj h1 h2 => by
    by_cases e : j = i
    · rw [e, pk_us]; rw [e] at h1 h2; exact hv h1 h2
    · rw [pk_un e]; exact hI.1 j (by omega) h1 h2, fun j hj => by rw [pk_un (by omega)]; exact hI.2 j hj⟩))⟩
theorem s_mTriv {post : Int32 → Int32 → (Nat → Int32) → (Nat → Int32) → Prop} {c n : Nat} {N H : Nat → Int32} (hc : c ≤ 5) (hn1 : 1 ≤ n) (hn : n ≤ 6) (h : ∀ N' H', qn_Hst c H N H' → qn_Ld n (fun x _ => x) N N' → post (nI n) (nI (qn_nx c)) N' H') : wp_X10_loadTrivial post (nI c) N H (nI n) := by
  refine s_inT (b := 1) (c := 6) hn1 hn (by decide) ⟨fun _ => s_loads hc (fun N1 H' hH h84 hz ho => ?_), fun z => absurd z (by decide)⟩
  refine q_loop (fun K f i s => wp_X10_loadTrivial_L19 K (nI n) f (nI i) s) (fun i s => (∀ j, j < i → j / 6 < n → j % 6 < n → s j = nI (j / 6)) ∧ ∀ j, 36 ≤ j → s j = N1 j) 36 0 N1 (by omega) ⟨fun j hj => absurd hj (by omega), fun _ _ => rfl⟩
    (fun f s hI => pk_le 36 36 (fun _ => h s H' hH ⟨(hI.2 84 (by omega)).trans h84, fun x y hx hy => ?_, fun j h1 h2 => (hI.2 j h1).trans (hz j h2), fun j h1 h2 => (hI.2 j (by omega)).trans (ho j h1 h2)⟩) (fun z => absurd z (by omega))) (fun f i s hi hI hk => ?_)
  · have e1 : (0 + (6 * x + y)) / 6 = x := by omega
    have e2 : (0 + (6 * x + y)) % 6 = y := by omega
    rw [hI.1 _ (by omega) (by omega) (by omega), e1]
  · have e1 : nI i / 6 = nI (i / 6) := pk_div (d := 6) (by omega) (by decide) (by decide)
    have e2 : nI i - nI i / 6 * 6 = nI (i % 6) := pk_rem (d := 6) (by omega) (by decide) (by decide)
    exact pk_le 36 i (fun z => absurd z (by omega)) (fun _ => nm_r e1 (pk_le n (i / 6) (fun z => q_trst hi hI hk 0 (fun h1 => absurd h1 (by omega))) (fun _ => nm_r e2 (pk_le n (i % 6) (fun z => q_trst hi hI hk 0 (fun _ h1 => absurd h1 (by omega))) (fun _ => nm_r e1 (q_trst hi hI hk _ (fun _ _ => rfl)))))))
theorem s_mAlex {post : Int32 → (Nat → Int32) → (Nat → Int32) → Prop} {c n : Nat} {T : Nat → Nat → Nat} {a : Int32} {N H : Nat → Int32} (hc : c ≤ 5) (hn1 : 1 ≤ n) (hn : n ≤ 6) (hT : ∀ x y, x < n → y < n → (((a * nI x) + ((1 - a) * nI y)) + (36 * nI n)) - (((a * nI x) + ((1 - a) * nI y)) + (36 * nI n)) / nI n * nI n = nI (T x y)) (h : ∀ N' H', qn_Hst c H N H' → qn_Ld n T N N' → post (nI (qn_nx c)) N' H') : wp_X10_alexander post (nI c) N H (nI n) a := by
  refine s_loads hc (fun N1 H' hH h84 hz ho => ?_)
  refine q_loop (fun K f i s => wp_X10_alexander_L7 K (nI n) a f (nI i) s) (fun i s => (∀ x y, x < i → y < n → s (6 * x + y) = nI (T x y)) ∧ ∀ j, 36 ≤ j → s j = N1 j) n 0 N1 (by omega) ⟨fun x y hx => absurd hx (by omega), fun _ _ => rfl⟩
    (fun f s hI => pk_le n n (fun _ => h s H' hH ⟨(hI.2 84 (by omega)).trans h84, q_tbI (fun x y hx hy => hI.1 x y hx hy), fun j h1 h2 => (hI.2 j h1).trans (hz j h2), fun j h1 h2 => (hI.2 j (by omega)).trans (ho j h1 h2)⟩) (fun z => absurd z (by omega))) (fun f i s hi hI hk => pk_le n i (fun z => absurd z (by omega)) (fun _ => ?_))
  refine q_loop (fun K f j s => wp_X10_alexander_L15 K (nI n) a (nI i) f (nI j) s) (fun j s => (∀ x y, x < i → y < n → s (6 * x + y) = nI (T x y)) ∧ (∀ y, y < j → s (6 * i + y) = nI (T i y)) ∧ ∀ j, 36 ≤ j → s j = N1 j) n 0 s (by omega) ⟨hI.1, fun y hy => absurd hy (by omega), hI.2⟩
    (fun f s hJ => pk_le n n (fun _ => nm_r (nI_1 i) (hk s ⟨fun x y hx hy => ?_, hJ.2.2⟩)) (fun z => absurd z (by omega))) (fun f j s hj hJ hk2 => pk_le n j (fun z => absurd z (by omega)) (fun _ => ⟨nI_ne0 (by omega) (by omega), nm_r (hT i j hi hj) ⟨pk_in (6 * i + j) 88 (by omega) (hx := q_ix i j), nm_r (by rw [pk_cl (6 * i + j) (q_ix i j)]) (nm_r (nI_1 j) (hk2 _ ⟨fun x y hx hy => ?_, fun y hy => ?_, fun l hl => ?_⟩))⟩⟩))
  · by_cases e : x = i
    · rw [e]; exact hJ.2.1 y hy
    · exact hJ.1 x y (by omega) hy
  · rw [pk_un (by omega)]; exact hJ.1 x y hx hy
  · by_cases e : y = j
    · rw [e, pk_us]
    · rw [pk_un (by omega)]; exact hJ.2.1 y (by omega)
  · rw [pk_un (by omega)]; exact hJ.2.2 l hl
theorem s_mCyc {post : Int32 → Int32 → (Nat → Int32) → (Nat → Int32) → Prop} {c n : Nat} {N H : Nat → Int32} (hc : c ≤ 5) (hn1 : 1 ≤ n) (hn : n ≤ 6) (h : ∀ N' H', qn_Hst c H N H' → qn_Ld n (qn_Cyc n) N N' → post (nI n) (nI (qn_nx c)) N' H') : wp_X10_loadCyclicRack post (nI c) N H (nI n) := by
  refine s_inT (b := 1) (c := 6) hn1 hn (by decide) ⟨fun _ => s_loads hc (fun N1 H' hH h84 hz ho => ?_), fun z => absurd z (by decide)⟩
  refine q_loop (fun K f i s => wp_X10_loadCyclicRack_L19 K (nI n) f (nI i) s) (fun i s => (∀ x y, x < i → y < n → s (6 * x + y) = nI (qn_Cyc n x y)) ∧ ∀ j, 36 ≤ j → s j = N1 j) n 0 N1 (by omega) ⟨fun x y hx => absurd hx (by omega), fun _ _ => rfl⟩
    (fun f s hI => pk_le n n (fun _ => h s H' hH ⟨(hI.2 84 (by omega)).trans h84, q_tbI (fun x y hx hy => hI.1 x y hx hy), fun j h1 h2 => (hI.2 j h1).trans (hz j h2), fun j h1 h2 => (hI.2 j (by omega)).trans (ho j h1 h2)⟩) (fun z => absurd z (by omega))) (fun f i s hi hI hk => pk_le n i (fun z => absurd z (by omega)) (fun _ => ?_))
  refine q_loop (fun K f j s => wp_X10_loadCyclicRack_L26 K (nI n) (nI i) f (nI j) s) (fun j s => (∀ x y, x < i → y < n → s (6 * x + y) = nI (qn_Cyc n x y)) ∧ (∀ y, y < j → s (6 * i + y) = nI (qn_Cyc n i y)) ∧ ∀ j, 36 ≤ j → s j = N1 j) n 0 s (by omega) ⟨hI.1, fun y hy => absurd hy (by omega), hI.2⟩
    (fun f s hJ => pk_le n n (fun _ => nm_r (nI_1 i) (hk s ⟨fun x y hx hy => ?_, hJ.2.2⟩)) (fun z => absurd z (by omega))) (fun f j s hj hJ hk2 => pk_le n j (fun z => absurd z (by omega)) (fun _ => ⟨nI_ne0 (by omega) (by omega), nm_r (q_rC n (by omega) (by omega) i hi) ⟨pk_in (6 * i + j) 88 (by omega) (hx := q_ix i j), nm_r (by rw [pk_cl (6 * i + j) (q_ix i j)]) (nm_r (nI_1 j) (hk2 _ ⟨fun x y hx hy => ?_, fun y hy => ?_, fun l hl => ?_⟩))⟩⟩))
  · by_cases e : x = i
    · rw [e]; exact hJ.2.1 y hy
    · exact hJ.1 x y (by omega) hy
  · rw [pk_un (by omega)]; exact hJ.1 x y hx hy
  · by_cases e : y = j
    · rw [e, pk_us]; rfl
    · rw [pk_un (by omega)]; exact hJ.2.1 y (by omega)
  · rw [pk_un (by omega)]; exact hJ.2.2 l hl
-- common divisors
theorem s_gcd {K : Int32 → Prop} : ∀ (b a : Nat), a < 2 ^ 31 → b < 2 ^ 31 → K (nI (Nat.gcd b a)) → ∃ f, wp_X10_divisor_L4 K f (nI a) (nI b) := by
  intro b
  induction b using Nat.strongRecOn with
  | ind b ih =>
    intro a ha hb hK
    by_cases e : b = 0
    · subst e
      refine ⟨1, fun _ => ?_, fun z => absurd rfl z⟩
      rwa [Nat.gcd_zero_left] at hK
    · have hr := Nat.mod_lt a (Nat.pos_of_ne_zero e)
      obtain ⟨f, hf⟩ := ih (a % b) hr b hb (by omega) (by rwa [Nat.gcd_rec] at hK)
      exact ⟨f + 1, fun z => absurd z (nI_ne0 (by omega) hb), fun _ => ⟨nI_ne0 (by omega) hb, nm_r (pk_rem ha (by omega) hb) hf⟩⟩
def qn_hc (n a : Nat) : Nat := fa_first (fun i => (n % (i + 2) == 0) && (a % (i + 2) == 0)) (n - 1)
theorem q_hc : ∀ n, n < 7 → 0 < n → ∀ a, a < n → (qn_hc n a < n - 1 ↔ 1 < Nat.gcd a n) := by decide +kernel
theorem s_common {post : Int32 → Prop} {n a : Nat} (hn1 : 1 ≤ n) (hn : n ≤ 6) (ha : a < n) (h1 : qn_hc n a < n - 1 → post 1) (h0 : ¬ qn_hc n a < n - 1 → post 0) : wp_X9_haveCommonDivisor post (nI n) (nI a) := by
  have hle : qn_hc n a ≤ n - 1 := fa_first_le _ _
  refine pk_loop (σ := Unit) (fun f i _ => wp_X9_haveCommonDivisor_L2 post (post 0) (nI n) (nI a) f (nI (i + 2))) (fun _ _ => True) (qn_hc n a) 0 () (by omega) trivial (fun f _ _ => ?_) (fun f i _ hi _ hk => ?_)
  · refine pk_lt n (qn_hc n a + 2) (fun z => h0 (by omega)) (fun z => ⟨nI_ne0 (by omega) (by omega), nm_r (pk_rem (by omega) (by omega) (by omega)) ?_⟩)
    have hy := fa_first_yes (fun i => (n % (i + 2) == 0) && (a % (i + 2) == 0)) (n - 1) (show qn_hc n a < n - 1 by omega)
    simp only [Bool.and_eq_true, beq_iff_eq] at hy
    have hy1 : n % (qn_hc n a + 2) = 0 := hy.1
    have hy2 : a % (qn_hc n a + 2) = 0 := hy.2
    rw [hy1]
    refine ⟨fun z => absurd rfl z, fun _ => ⟨nI_ne0 (by omega) (by omega), nm_r (pk_rem (by omega) (by omega) (by omega)) ?_⟩⟩
    rw [hy2]
    exact ⟨fun z => absurd rfl z, fun _ => h1 (by omega)⟩
  · have hno := fa_first_no (fun i => (n % (i + 2) == 0) && (a % (i + 2) == 0)) (n - 1) i hi
    have enx : nI (i + 2) + 1 = nI (i + 1 + 2) := nI_1 (i + 2)
    refine pk_lt n (i + 2) (fun z => absurd z (by omega)) (fun z => ⟨nI_ne0 (by omega) (by omega), nm_r (pk_rem (by omega) (by omega) (by omega)) ?_⟩)
    have hm1 := Nat.mod_lt n (show i + 2 > 0 by omega)
    have hm2 := Nat.mod_lt a (show i + 2 > 0 by omega)
    refine (pk_eq (n % (i + 2)) 0 (fun z1 => ⟨nI_ne0 (by omega) (by omega), nm_r (pk_rem (by omega) (by omega) (by omega)) ?_⟩) (fun z1 => nm_r enx (hk () trivial)) (ha := by omega)) |> fun r => ⟨r.2, r.1⟩
    refine (pk_eq (a % (i + 2)) 0 (fun z2 => ?_) (fun z2 => nm_r enx (hk () trivial)) (ha := by omega)) |> fun r => ⟨r.2, r.1⟩
    exfalso
    simp [z1, z2] at hno
