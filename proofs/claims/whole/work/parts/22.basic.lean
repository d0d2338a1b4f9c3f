theorem q_loop {κ σ : Type} {K : κ} (W : κ → Nat → Nat → σ → Prop) (I : Nat → σ → Prop) (e i0 : Nat) (s : σ) (hi : i0 ≤ e) (h0 : I i0 s) (hx : ∀ n s, I e s → W K (n + 1) e s) (hs : ∀ n i s, i < e → I i s → (∀ s', I (i + 1) s' → W K n (i + 1) s') → W K (n + 1) i s) : ∃ n, W K n i0 s := pk_loop (W K) I e i0 s hi h0 hx hs
-- numbers of the rows
theorem q_ix (x y : Nat) : (6 : Int32) * nI x + nI y = nI (6 * x + y) := by
  rw [show (6 : Int32) = nI 6 from rfl, pk_mul, nI_add]
theorem q_ab {P : Prop} {a b : Nat} (h : a < b) (h2 : b ≤ a) : P := absurd h (by omega)
theorem q_tb0 {n : Nat} {t : Nat → Nat → Nat} {f : Nat → Int32} (h : qn_tb n 0 t f) {x y : Nat} (hx : x < n) (hy : y < n) : f (6 * x + y) = nI (t x y) := by
  have h1 := h x y hx hy
  rwa [Nat.zero_add] at h1
theorem q_tbI {n : Nat} {t : Nat → Nat → Nat} {f : Nat → Int32} (h : ∀ x y, x < n → y < n → f (6 * x + y) = nI (t x y)) : qn_tb n 0 t f := fun x y hx hy => by
  rw [Nat.zero_add]
  exact h x y hx hy
-- Grid
theorem s_holds {post : Int32 → Prop} {x y : Nat} (hx : x < 6) (hy : y < 6) (h : post 1) : wp_X2_holds post (nI x) (nI y) :=
  pk_lt x 0 (fun z => absurd z (by omega)) (fun _ => pk_le 6 x (fun z => absurd z (by omega)) (fun _ => pk_lt y 0 (fun z => absurd z (by omega)) (fun _ => pk_le 6 y (fun z => absurd z (by omega)) (fun _ => h))))
theorem s_get {post : Int32 → Prop} {a : Nat → Int32} {x y : Nat} (hx : x < 6) (hy : y < 6) (h : post (a (6 * x + y))) : wp_X2_get post a (nI x) (nI y) :=
  s_holds hx hy ⟨fun z => absurd z (by decide), fun _ => ⟨pk_in (6 * x + y) 36 (by omega) (hx := q_ix x y), by rw [pk_cl (6 * x + y) (q_ix x y)]; exact h⟩⟩
theorem s_put {post : (Nat → Int32) → Prop} {a : Nat → Int32} {x y : Nat} {v : Int32} (hx : x < 6) (hy : y < 6) (h : post (upd a (6 * x + y) v)) : wp_X2_put post a (nI x) (nI y) v :=
  s_holds hx hy ⟨fun z => absurd z (by decide), fun _ => ⟨pk_in (6 * x + y) 36 (by omega) (hx := q_ix x y), nm_r (by rw [pk_cl (6 * x + y) (q_ix x y)]) h⟩⟩
theorem s_clear {post : (Nat → Int32) → Prop} {a : Nat → Int32} (h : ∀ b, (∀ j, j < 36 → b j = 0) → post b) : wp_X2_clear post a :=
  pk_loop (fun n i s => wp_X2_clear_L2 (fun b => post b) n (nI i) s) (fun i s => ∀ j, j < i → s j = 0) 36 0 a (by omega) (fun j hj => absurd hj (by omega))
    (fun n s hI => pk_le 36 36 (fun _ => h s hI) (fun z => absurd z (by omega)))
    (fun n i s hi hI hk => pk_le 36 i (fun z => absurd z (by omega)) (fun _ => ⟨pk_in i 36 hi, nm_e (nm_r (nI_1 i) (hk _ (fun j hj => by
      rw [pk_cl i]
      by_cases e : j = i
      · rw [e, pk_us]
      · rw [pk_un e]; exact hI j (by omega))))⟩))
theorem s_copy {post : (Nat → Int32) → Prop} {a b : Nat → Int32} (h : ∀ c, (∀ j, j < 36 → c j = b j) → post c) : wp_X2_copyFrom post a b :=
  pk_loop (fun n i s => wp_X2_copyFrom_L2 (fun c => post c) b n (nI i) s) (fun i s => ∀ j, j < i → s j = b j) 36 0 a (by omega) (fun j hj => absurd hj (by omega))
    (fun n s hI => pk_le 36 36 (fun _ => h s hI) (fun z => absurd z (by omega)))
    (fun n i s hi hI hk => pk_le 36 i (fun z => absurd z (by omega)) (fun _ => ⟨pk_in i 36 hi, pk_in i 36 hi, nm_e (nm_r (nI_1 i) (hk _ (fun j hj => by
      rw [pk_cl i]
      by_cases e : j = i
      · rw [e, pk_us]
      · rw [pk_un e]; exact hI j (by omega))))⟩))
-- Operation's reads
theorem s_product {post : Int32 → Prop} {n : Nat} {t : Nat → Nat → Nat} {a : Nat → Int32} {x y : Nat} (hn : n ≤ 6) (ht : qn_tb n 0 t a) (hx : x < n) (hy : y < n) (h : post (nI (t x y))) : wp_X5_product post a (nI x) (nI y) :=
  s_get (by omega) (by omega) (by rw [q_tb0 ht hx hy]; exact h)
theorem s_hasT {post : Int32 → Prop} {n x : Nat} (hn : n ≤ 6) (hx : x < n) (h : post 1) : wp_X5_hasElement post (nI n) (nI x) :=
  pk_lt x 0 (fun z => absurd z (by omega)) (fun _ => pk_le n x (fun z => absurd z (by omega)) (fun _ => h))
theorem s_hasF {post : Int32 → Prop} {n : Nat} {x : Int32} (hx : x < 0 ∨ nI n ≤ x) (h : post 0) : wp_X5_hasElement post (nI n) x := by
  rcases hx with q | q
  · exact ⟨fun _ => h, fun z => absurd q z⟩
  · exact ⟨fun _ => h, fun _ => ⟨fun _ => h, fun z => absurd q z⟩⟩
theorem s_has2T {post : Int32 → Prop} {n x y : Nat} (hn : n ≤ 6) (hx : x < n) (hy : y < n) (h : post 1) : wp_X5_hasElements post (nI n) (nI x) (nI y) :=
  s_hasT hn hx ⟨fun z => absurd z (by decide), fun _ => s_hasT hn hy ⟨fun z => absurd z (by decide), fun _ => h⟩⟩
theorem s_has2F1 {post : Int32 → Prop} {n : Nat} {x y : Int32} (hx : x < 0 ∨ nI n ≤ x) (h : post 0) : wp_X5_hasElements post (nI n) x y :=
  s_hasF hx ⟨fun _ => h, fun z => absurd rfl z⟩
theorem s_has2F2 {post : Int32 → Prop} {n x : Nat} {y : Int32} (hn : n ≤ 6) (hx : x < n) (hy : y < 0 ∨ nI n ≤ y) (h : post 0) : wp_X5_hasElements post (nI n) (nI x) y :=
  s_hasT hn hx ⟨fun z => absurd z (by decide), fun _ => s_hasF hy ⟨fun _ => h, fun z => absurd rfl z⟩⟩
-- division
def qn_dv (n : Nat) (t : Nat → Nat → Nat) (u y : Nat) : Nat := fa_first (fun x => t x y == u) n
theorem q_dv {n : Nat} {t : Nat → Nat → Nat} {u y : Nat} (ht : ∀ x y, x < n → y < n → t x y < n) (hi : qn_inj n t y) (hu : u < n) (hy : y < n) : qn_dv n t u y < n ∧ t (qn_dv n t u y) y = u := by
  obtain ⟨x, hx, e⟩ := fb_onto (n := n) (f := fun x => t x y) (fun i h => ht i y h hy) (fun i j h1 h2 e => absurd (hi i j (by omega) h2 e) (by omega)) hu
  have hlt : qn_dv n t u y < n := by
    rcases Nat.lt_or_ge (qn_dv n t u y) n with q | q
    · exact q
    · have h1 := fa_first_no (fun x => t x y == u) n x (Nat.lt_of_lt_of_le hx q)
      simp at h1
      exact absurd e h1
  have h2 := fa_first_yes (fun x => t x y == u) n hlt
  exact ⟨hlt, eq_of_beq h2⟩
theorem q_dvx {n : Nat} {t : Nat → Nat → Nat} {x y : Nat} (ht : ∀ x y, x < n → y < n → t x y < n) (hi : qn_inj n t y) (hx : x < n) (hy : y < n) : qn_dv n t (t x y) y = x := by
  obtain ⟨h1, h2⟩ := q_dv ht hi (ht x y hx hy) hy
  exact hi _ _ h1 hx h2
theorem q_qt {n : Nat} {t : Nat → Nat → Nat} {f : Nat → Int32} {u y : Nat} (ht : ∀ x y, x < n → y < n → t x y < n) (hq : qn_qt n t f) (hi : qn_inj n t y) (hu : u < n) (hy : y < n) : f (6 * u + y) = nI (qn_dv n t u y) := by
  obtain ⟨h1, h2⟩ := q_dv ht hi hu hy
  have h3 := hq y hy hi _ h1
  rwa [h2] at h3
theorem s_divide {post : Int32 → Prop} {n : Nat} {t : Nat → Nat → Nat} {a : Nat → Int32} {u y : Nat} (hn : n ≤ 6) (ht : ∀ x y, x < n → y < n → t x y < n) (hq : qn_qt n t a) (hi : qn_inj n t y) (hu : u < n) (hy : y < n) (h : post (nI (qn_dv n t u y))) : wp_X5_divide post a (nI u) (nI y) :=
  s_get (by omega) (by omega) (by rw [q_qt ht hq hi hu hy]; exact h)
theorem q_bad1 {n : Nat} {t : Nat → Nat → Nat} {b c : Int32} (hn : n ≤ 6) (h : qn_IsBad n t b) (h2 : qn_IsBad n t c) : b = c := by
  rcases h with ⟨e, h⟩ | ⟨y, hy, e, h, hz⟩
  · rcases h2 with ⟨e2, h2⟩ | ⟨y2, hy2, e2, h2, hz2⟩
    · rw [e, e2]
    · exact absurd (h y2 hy2) h2
  · rcases h2 with ⟨e2, h2⟩ | ⟨y2, hy2, e2, h2, hz2⟩
    · exact absurd (h2 y hy) h
    · have : y = y2 := by
        rcases Nat.lt_trichotomy y y2 with q | q | q
        · exact absurd (hz2 y q) h
        · exact q
        · exact absurd (hz y2 q) h2
      rw [e, e2, this]
theorem q_badI {n : Nat} {t : Nat → Nat → Nat} {b : Int32} (hn : n ≤ 6) (h : qn_IsBad n t b) : (b = (-4) ∧ ∀ y, y < n → qn_inj n t y) ∨ (b ≠ (-4) ∧ ¬ ∀ y, y < n → qn_inj n t y) := by
  rcases h with ⟨e, h⟩ | ⟨y, hy, e, h, hz⟩
  · exact Or.inl ⟨e, h⟩
  · refine Or.inr ⟨?_, fun h2 => h (h2 y hy)⟩
    rw [e]
    intro h3
    have h4 := congrArg Int32.toInt h3
    rw [nI_toInt (by omega)] at h4
    have h5 : ((-4) : Int32).toInt = -4 := by decide
    rw [h5] at h4
    omega
theorem s_invT {post : Int32 → Prop} (h : post 1) : wp_X5_isInvertible post (-4) := ⟨fun z => absurd rfl z, fun _ => h⟩
theorem s_invF {post : Int32 → Prop} {b : Int32} (hb : b ≠ (-4)) (h : post 0) : wp_X5_isInvertible post b := ⟨fun _ => h, fun z => absurd z hb⟩
