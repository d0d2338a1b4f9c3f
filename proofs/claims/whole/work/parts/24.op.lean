-- masks
theorem q_sh1 : ∀ k, k < 31 → (1 : Int32) <<< (nI k &&& 31) = nI (2 ^ k) := by decide +kernel
def qn_mk (n : Nat) (f : Nat → Nat) (M : Nat) : Prop := ∀ b, M.testBit b = true ↔ ∃ a, a < n ∧ f a = b
theorem q_mk0 (f : Nat → Nat) : qn_mk 0 f 0 := fun b => by
  constructor
  · intro h; simp at h
  · rintro ⟨a, h, -⟩; omega
theorem q_mks {i : Nat} {f : Nat → Nat} {M : Nat} (h : qn_mk i f M) : qn_mk (i + 1) f (M ||| 2 ^ f i) := fun b => by
  rw [fb_bit_set, Bool.or_eq_true, h b, decide_eq_true_eq]
  constructor
  · rintro (⟨a, ha, e⟩ | e)
    · exact ⟨a, by omega, e⟩
    · exact ⟨i, by omega, e.symm⟩
  · rintro ⟨a, ha, e⟩
    by_cases q : a = i
    · exact Or.inr (by rw [← e, q])
    · exact Or.inl ⟨a, by omega, e⟩
theorem q_mklt {n m : Nat} {f : Nat → Nat} {M : Nat} (hf : ∀ a, a < n → f a < m) (h : qn_mk n f M) : M < 2 ^ m := by
  refine Nat.lt_pow_two_of_testBit M (fun i hi => ?_)
  cases hb : M.testBit i with
  | false => rfl
  | true =>
    obtain ⟨a, ha, e⟩ := (h i).mp hb
    have := hf a ha
    omega
theorem q_surj_inj {n : Nat} {f : Nat → Nat} (h : ∀ b, b < n → ∃ a, a < n ∧ f a = b) : ∀ a b, a < n → b < n → f a = f b → a = b := by
  have hr : ∀ b, b < n → fa_first (fun a => f a == b) n < n ∧ f (fa_first (fun a => f a == b) n) = b := by
    intro b hb
    obtain ⟨a, ha, e⟩ := h b hb
    have hlt : fa_first (fun a => f a == b) n < n := by
      rcases Nat.lt_or_ge (fa_first (fun a => f a == b) n) n with q | q
      · exact q
      · have h1 := fa_first_no (fun a => f a == b) n a (Nat.lt_of_lt_of_le ha q)
        simp [e] at h1
    exact ⟨hlt, eq_of_beq (fa_first_yes (fun a => f a == b) n hlt)⟩
  intro a b ha hb e
  have hinj : ∀ i j, i < j → j < n → fa_first (fun a => f a == i) n ≠ fa_first (fun a => f a == j) n := by
    intro i j h1 h2 e2
    have e3 := (hr i (by omega)).2
    rw [e2, (hr j h2).2] at e3
    omega
  obtain ⟨u, hu, eu⟩ := fb_onto (f := fun b => fa_first (fun a => f a == b) n) (fun i hi => (hr i hi).1) hinj ha
  obtain ⟨v, hv, ev⟩ := fb_onto (f := fun b => fa_first (fun a => f a == b) n) (fun i hi => (hr i hi).1) hinj hb
  have e1 := (hr u hu).2
  have e2 := (hr v hv).2
  try dsimp only at eu ev
  rw [eu] at e1
  rw [ev] at e2
  rw [← eu, ← ev, ← e1, ← e2, e]
theorem q_mkfull {n : Nat} {f : Nat → Nat} {M : Nat} (hf : ∀ a, a < n → f a < n) (h : qn_mk n f M) : M = 2 ^ n - 1 ↔ ∀ a b, a < n → b < n → f a = f b → a = b := by
  constructor
  · intro e
    refine q_surj_inj (fun b hb => (h b).mp ?_)
    rw [e, Nat.testBit_two_pow_sub_one]
    simpa using hb
  · intro hi
    refine Nat.eq_of_testBit_eq (fun b => ?_)
    rw [Nat.testBit_two_pow_sub_one]
    by_cases hb : b < n
    · obtain ⟨a, ha, e⟩ := fb_onto (f := f) hf (fun i j h1 h2 e => absurd (hi i j (by omega) h2 e) (by omega)) hb
      rw [(h b).mpr ⟨a, ha, e⟩]
      simp [hb]
    · cases hM : M.testBit b with
      | false => simp [hb]
      | true =>
        obtain ⟨a, ha, e⟩ := (h b).mp hM
        have := hf a ha
        omega
theorem q_predN {k : Nat} (h : 0 < k) : nI k - 1 = nI (k - 1) := by
  obtain ⟨j, rfl⟩ : ∃ j, k = j + 1 := ⟨k - 1, by omega⟩
  exact nI_pred j
-- a column's inverse
def qn_col (n : Nat) (t : Nat → Nat → Nat) (y : Nat) (q q' : Nat → Int32) : Prop := (∀ u z, z < 6 → z ≠ y → q' (6 * u + z) = q (6 * u + z)) ∧ (qn_inj n t y → ∀ x, x < n → q' (6 * t x y + y) = nI x)
theorem s_invert {post : Int32 → (Nat → Int32) → Prop} {n y : Nat} {t : Nat → Nat → Nat} {p q : Nat → Int32} (hn : n ≤ 6) (hy : y < n) (ht : ∀ x y, x < n → y < n → t x y < n) (hp : qn_tb n 0 t p) (h1 : qn_inj n t y → ∀ q', qn_col n t y q q' → post 1 q') (h0 : ¬ qn_inj n t y → ∀ q', qn_col n t y q q' → post 0 q') : wp_X5_invertColumn post (nI n) p q (nI y) :=
  q_loop (σ := Int32 × (Nat → Int32)) (fun K f i s => wp_X5_invertColumn_L4 K (nI y) (nI n) p f s.1 (nI i) s.2)
    (fun i s => ∃ M, s.1 = nI M ∧ qn_mk i (fun a => t a y) M ∧ (∀ u z, z < 6 → z ≠ y → s.2 (6 * u + z) = q (6 * u + z)) ∧ ∀ a, a < i → (∀ b, b < i → t b y = t a y → b = a) → s.2 (6 * t a y + y) = nI a) n 0 (0, q) (by omega)
    ⟨0, rfl, q_mk0 _, fun _ _ _ _ => rfl, fun a ha => absurd ha (by omega)⟩
    (fun f s hI => by
      obtain ⟨M, e, hM, ho, hq⟩ := hI
      have hlt := q_mklt (m := 6) (fun a ha => Nat.lt_of_lt_of_le (ht a y ha hy) hn) hM
      have hfull := q_mkfull (fun a ha => ht a y ha hy) hM
      have hpw : 2 ^ n ≤ 64 := by
        have := Nat.pow_le_pow_right (n := 2) (by decide) hn
        exact this
      have hpos : 0 < 2 ^ n := Nat.two_pow_pos n
      refine pk_le n n (fun _ => ?_) (fun z => absurd z (by omega))
      have ee : (1 : Int32) <<< (nI n &&& 31) - 1 = nI (2 ^ n - 1) := by
        rw [q_sh1 n (by omega)]
        exact q_predN hpos
      rw [e, ee]
      refine (pk_eq M (2 ^ n - 1) (fun z => ?_) (fun z => ?_) (ha := by omega) (hb := by omega)) |> fun r => ⟨r.2, r.1⟩
      · have hi : qn_inj n t y := hfull.mp z
        exact h1 hi _ ⟨ho, fun _ x hx => hq x hx (fun b hb e2 => hi b x hb hx e2)⟩
      · have hi : ¬ qn_inj n t y := fun h9 => z (hfull.mpr h9)
        exact h0 hi _ ⟨ho, fun h9 => absurd h9 hi⟩)
    (fun f i s hi hI hk => by
      obtain ⟨M, e, hM, ho, hq⟩ := hI
      have hti := ht i y hi hy
      refine pk_le n i (fun z => absurd z (by omega)) (fun _ => s_get (by omega) (by omega) ?_)
      rw [q_tb0 hp hi hy]
      refine s_put (by omega) (by omega) (nm_r (e' := nI (M ||| 2 ^ t i y)) (by rw [e, q_sh1 _ (by omega), fa_or]) (nm_r (nI_1 i) (hk (nI (M ||| 2 ^ t i y), upd s.2 (6 * t i y + y) (nI i)) ⟨_, rfl, q_mks hM, fun u z hz hne => ?_, fun a ha hu => ?_⟩)))
      · show upd s.2 (6 * t i y + y) (nI i) (6 * u + z) = _
        rw [pk_un (by omega)]
        exact ho u z hz hne
      · show upd s.2 (6 * t i y + y) (nI i) (6 * t a y + y) = nI a
        by_cases ea : a = i
        · rw [ea, pk_us]
        · have hne : t a y ≠ t i y := fun e2 => ea (hu i (by omega) e2.symm).symm
          rw [pk_un (by omega)]
          exact hq a (by omega) (fun b hb => hu b (by omega)))
-- all columns
theorem s_refresh {post : Int32 → (Nat → Int32) → Prop} {n : Nat} {t : Nat → Nat → Nat} {p q : Nat → Int32} (hn1 : 1 ≤ n) (hn : n ≤ 6) (ht : ∀ x y, x < n → y < n → t x y < n) (hp : qn_tb n 0 t p) (h : ∀ b q', qn_IsBad n t b → qn_qt n t q' → post b q') : wp_X5_refreshQuotients post (nI n) p q := by
  refine fun x1 ex => ⟨n + 1, ?_⟩
  rw [ex]
  refine pk_loopD (σ := Int32 × (Nat → Int32)) (fun f i s => wp_X5_refreshQuotients_L13 (fun b q => post b q) (nI n) p f (nI i - 1) s.1 s.2)
    (fun i s => i ≤ n ∧ ((s.1 = (-4) ∧ ∀ y, i ≤ y → y < n → qn_inj n t y) ∨ ∃ y, i ≤ y ∧ y < n ∧ s.1 = nI y ∧ ¬ qn_inj n t y ∧ ∀ z, i ≤ z → z < y → qn_inj n t z) ∧ ∀ y, i ≤ y → y < n → qn_inj n t y → ∀ x, x < n → s.2 (6 * t x y + y) = nI x) ?_ ?_ n ((-4), q) ⟨by omega, Or.inl ⟨rfl, fun y h1 h2 => absurd h2 (by omega)⟩, fun y h1 h2 => absurd h2 (by omega)⟩
  · intro f s hI
    obtain ⟨-, hb, hq⟩ := hI
    refine ⟨fun _ => h _ _ ?_ (fun y hy hi x hx => hq y (by omega) hy hi x hx), fun z => absurd (by decide) z⟩
    rcases hb with ⟨e, h1⟩ | ⟨y, h1, h2, e, h3, h4⟩
    · exact Or.inl ⟨e, fun y hy => h1 y (by omega) hy⟩
    · exact Or.inr ⟨y, h2, e, h3, fun z hz => h4 z (by omega) hz⟩
  · intro f i s hI hk
    obtain ⟨hin, hb, hq⟩ := hI
    try dsimp only
    rw [nI_pred i]
    have em : nI i + (-1) = nI i - 1 := by
      rw [Int32.sub_eq_add_neg]
    refine pk_lt i 0 (fun z => absurd z (by omega)) (fun _ => s_invert hn (by omega) ht hp (fun hi q' hc => ?_) (fun hi q' hc => ?_))
    · refine ⟨fun _ => nm_r em (hk (s.1, q') ⟨by omega, ?_, ?_⟩), fun z => absurd z (by decide)⟩
      · rcases hb with ⟨e, h1⟩ | ⟨y, h1, h2, e, h3, h4⟩
        · refine Or.inl ⟨e, fun y h5 h6 => ?_⟩
          by_cases ey : y = i
          · rw [ey]; exact hi
          · exact h1 y (by omega) h6
        · refine Or.inr ⟨y, by omega, h2, e, h3, fun z h5 h6 => ?_⟩
          by_cases ey : z = i
          · rw [ey]; exact hi
          · exact h4 z (by omega) h6
      · intro y h5 h6 h7 x hx
        show q' (6 * t x y + y) = nI x
        by_cases ey : y = i
        · rw [ey]; exact hc.2 hi x hx
        · rw [hc.1 _ y (by omega) ey]
          exact hq y (by omega) h6 h7 x hx
    · refine ⟨fun z => absurd rfl z, fun _ => nm_r em (hk (nI i, q') ⟨by omega, Or.inr ⟨i, by omega, by omega, rfl, hi, fun z h5 h6 => absurd h6 (by omega)⟩, ?_⟩)⟩
      intro y h5 h6 h7 x hx
      show q' (6 * t x y + y) = nI x
      by_cases ey : y = i
      · exact absurd (ey ▸ h7) hi
      · rw [hc.1 _ y (by omega) ey]
        exact hq y (by omega) h6 h7 x hx
