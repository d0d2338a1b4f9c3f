-- the least triple at which a law does not hold
def qn_tv (n : Nat) (p : Nat → Nat → Nat → Bool) (r : Int32) : Prop := (r = (-4) ∧ ∀ x y z, x < n → y < n → z < n → p x y z = true) ∨ ∃ x y z, x < n ∧ y < n ∧ z < n ∧ r = nI (36 * x + 6 * y + z) ∧ p x y z = false ∧ ∀ a b c, a < n → b < n → c < n → 36 * a + 6 * b + c < 36 * x + 6 * y + z → p a b c = true
theorem q_tv1 {n : Nat} {p : Nat → Nat → Nat → Bool} {r r' : Int32} (h : qn_tv n p r) (h2 : qn_tv n p r') : r = r' := by
  rcases h with ⟨e, h⟩ | ⟨x, y, z, hx, hy, hz, e, hf, hl⟩
  · rcases h2 with ⟨e2, h2⟩ | ⟨x2, y2, z2, hx2, hy2, hz2, e2, hf2, hl2⟩
    · rw [e, e2]
    · exact absurd ((h x2 y2 z2 hx2 hy2 hz2).symm.trans hf2) (by decide)
  · rcases h2 with ⟨e2, h2⟩ | ⟨x2, y2, z2, hx2, hy2, hz2, e2, hf2, hl2⟩
    · exact absurd ((h2 x y z hx hy hz).symm.trans hf) (by decide)
    · have : 36 * x + 6 * y + z = 36 * x2 + 6 * y2 + z2 := by
        rcases Nat.lt_trichotomy (36 * x + 6 * y + z) (36 * x2 + 6 * y2 + z2) with q | q | q
        · exact absurd ((hl2 x y z hx hy hz q).symm.trans hf) (by decide)
        · exact q
        · exact absurd ((hl x2 y2 z2 hx2 hy2 hz2 q).symm.trans hf2) (by decide)
      rw [e, e2, this]
theorem q_tvf {n x y z : Nat} {p : Nat → Nat → Nat → Bool} (hn : n ≤ 6) (hx : x < n) (hy : y < n) (hz : z < n) (hI : ∀ a b c, a < x → b < n → c < n → p a b c = true) (hJ : ∀ b c, b < y → c < n → p x b c = true) (hL : ∀ c, c < z → p x y c = true) (hf : p x y z = false) : qn_tv n p (nI (36 * x + 6 * y + z)) := by
  refine Or.inr ⟨x, y, z, hx, hy, hz, rfl, hf, fun a b c h1 h2 h3 h4 => ?_⟩
  by_cases e1 : a < x
  · exact hI a b c e1 h2 h3
  · have ea : a = x := by omega
    subst ea
    by_cases e2 : b < y
    · exact hJ b c e2 h3
    · have eb : b = y := by omega
      subst eb
      exact hL c (by omega)
def qn_lw (t : Nat → Nat → Nat) (x y z : Nat) : Bool := decide (t (t x y) z = t (t x z) (t y z))
theorem q_tc (x y z : Nat) : ((36 : Int32) * nI x + 6 * nI y) + nI z = nI (36 * x + 6 * y + z) := by
  rw [show (36 : Int32) = nI 36 from rfl, show (6 : Int32) = nI 6 from rfl, pk_mul, pk_mul, nI_add, nI_add]
theorem s_undist {post : Int32 → Prop} {n : Nat} {t : Nat → Nat → Nat} {a : Nat → Int32} (hn : n ≤ 6) (ht : ∀ x y, x < n → y < n → t x y < n) (hp : qn_tb n 0 t a) (h : ∀ r, qn_tv n (qn_lw t) r → post r) : wp_X5_firstUndistributive post (nI n) a := by
  refine pk_loop (σ := Unit) (fun f i _ => wp_X5_firstUndistributive_L2 post (post (-4)) (nI n) a f (nI i)) (fun i _ => ∀ x y z, x < i → y < n → z < n → qn_lw t x y z = true) n 0 () (by omega) (fun x y z hx => absurd hx (by omega)) (fun f _ hI => pk_le n n (fun _ => h _ (Or.inl ⟨rfl, fun x y z hx hy hz => hI x y z hx hy hz⟩)) (fun z => absurd z (by omega))) (fun f x _ hx hI hk => pk_le n x (fun z => absurd z (by omega)) (fun _ => ?_))
  refine q_loop (σ := Unit) (fun K f i _ => wp_X5_firstUndistributive_L12 post K (nI x) (nI n) a f (nI i)) (fun i _ => ∀ y z, y < i → z < n → qn_lw t x y z = true) n 0 () (by omega) (fun y z hy => absurd hy (by omega)) (fun f _ hJ => pk_le n n (fun _ => nm_r (nI_1 x) (hk () ?_)) (fun z => absurd z (by omega))) (fun f y _ hy hJ hk2 => pk_le n y (fun z => absurd z (by omega)) (fun _ => ?_))
  · intro x' y z hx' hy hz
    by_cases e : x' = x
    · rw [e]; exact hJ y z hy hz
    · exact hI x' y z (by omega) hy hz
  refine q_loop (σ := Unit) (fun K f i _ => wp_X5_firstUndistributive_L22 post K (nI x) (nI y) (nI n) a f (nI i)) (fun i _ => ∀ z, z < i → qn_lw t x y z = true) n 0 () (by omega) (fun z hz => absurd hz (by omega)) (fun f _ hL => pk_le n n (fun _ => nm_r (nI_1 y) (hk2 () ?_)) (fun z => absurd z (by omega))) (fun f z _ hz hL hk3 => pk_le n z (fun z => absurd z (by omega)) (fun _ => ?_))
  · intro y' z hy' hz
    by_cases e : y' = y
    · rw [e]; exact hL z hz
    · exact hJ y' z (by omega) hz
  refine s_product hn hp hx hy (s_product hn hp (ht x y hx hy) hz (s_product hn hp hx hz (s_product hn hp hy hz (s_product hn hp (ht x z hx hz) (ht y z hy hz) ?_))))
  have b1 := ht _ _ (ht x y hx hy) hz
  have b2 := ht _ _ (ht x z hx hz) (ht y z hy hz)
  refine pk_eq (t (t x y) z) (t (t x z) (t y z)) (fun e => nm_r (nI_1 z) (hk3 () (lt_s hL (decide_eq_true e)))) (fun e => ?_) (ha := by omega) (hb := by omega)
  unfold wp_X9_tripleCode
  rw [q_tc]
  exact h _ (q_tvf hn hx hy hz hI hJ hL (decide_eq_false e))
def qn_cc (m : Nat) (t w : Nat → Nat → Nat) (x y z : Nat) : Bool := decide ((w x y + w (t x y) z) % m = (w x z + w (t x z) (t y z)) % m)
theorem s_closed {post : Int32 → Prop} {n m x y z : Nat} {t w : Nat → Nat → Nat} {a b : Nat → Int32} (hn : n ≤ 6) (hm1 : 2 ≤ m) (hm : m ≤ 12) (ht : ∀ x y, x < n → y < n → t x y < n) (hw : ∀ x y, x < n → y < n → w x y < m) (hp : qn_tb n 0 t b) (hq : qn_tb n 0 w a) (hx : x < n) (hy : y < n) (hz : z < n) (h1 : qn_cc m t w x y z = true → post 1) (h0 : qn_cc m t w x y z = false → post 0) : wp_X8_isClosedAt post (nI m) a b (nI x) (nI y) (nI z) := by
  have txy := ht x y hx hy
  have txz := ht x z hx hz
  have tyz := ht y z hy hz
  refine s_get (by omega) (by omega) ?_
  rw [q_tb0 hq hx hy]
  refine s_product hn hp hx hy (s_get (by omega) (by omega) ?_)
  rw [q_tb0 hq txy hz]
  refine s_plus hm (hw _ _ hx hy) (hw _ _ txy hz) (s_product hn hp hx hz (s_product hn hp hy hz (s_get (by omega) (by omega) ?_)))
  rw [q_tb0 hq txz tyz]
  refine s_get (by omega) (by omega) ?_
  rw [q_tb0 hq hx hz]
  refine s_plus hm (hw _ _ hx hz) (hw _ _ txz tyz) ?_
  have b1 := Nat.mod_lt (w x y + w (t x y) z) (show m > 0 by omega)
  have b2 := Nat.mod_lt (w x z + w (t x z) (t y z)) (show m > 0 by omega)
  exact (pk_eq _ _ (fun e => h1 (decide_eq_true e)) (fun e => h0 (decide_eq_false e)) (ha := by omega) (hb := by omega)) |> fun r => ⟨r.2, r.1⟩
theorem s_unclosed {post : Int32 → Prop} {n m : Nat} {t w : Nat → Nat → Nat} {a b : Nat → Int32} (hn : n ≤ 6) (hm1 : 2 ≤ m) (hm : m ≤ 12) (ht : ∀ x y, x < n → y < n → t x y < n) (hw : ∀ x y, x < n → y < n → w x y < m) (hp : qn_tb n 0 t b) (hq : qn_tb n 0 w a) (h : ∀ r, qn_tv n (qn_cc m t w) r → post r) : wp_X8_firstUnclosed post (nI m) a (nI n) b := by
  refine pk_loop (σ := Unit) (fun f i _ => wp_X8_firstUnclosed_L2 post (post (-4)) (nI m) a (nI n) b f (nI i)) (fun i _ => ∀ x y z, x < i → y < n → z < n → qn_cc m t w x y z = true) n 0 () (by omega) (fun x y z hx => absurd hx (by omega)) (fun f _ hI => pk_le n n (fun _ => h _ (Or.inl ⟨rfl, fun x y z hx hy hz => hI x y z hx hy hz⟩)) (fun z => absurd z (by omega))) (fun f x _ hx hI hk => pk_le n x (fun z => absurd z (by omega)) (fun _ => ?_))
  refine q_loop (σ := Unit) (fun K f i _ => wp_X8_firstUnclosed_L12 post K (nI x) (nI m) a (nI n) b f (nI i)) (fun i _ => ∀ y z, y < i → z < n → qn_cc m t w x y z = true) n 0 () (by omega) (fun y z hy => absurd hy (by omega)) (fun f _ hJ => pk_le n n (fun _ => nm_r (nI_1 x) (hk () ?_)) (fun z => absurd z (by omega))) (fun f y _ hy hJ hk2 => pk_le n y (fun z => absurd z (by omega)) (fun _ => ?_))
  · intro x' y z hx' hy hz
    by_cases e : x' = x
    · rw [e]; exact hJ y z hy hz
    · exact hI x' y z (by omega) hy hz
  refine q_loop (σ := Unit) (fun K f i _ => wp_X8_firstUnclosed_L23 post K (nI x) (nI y) (nI m) a (nI n) b f (nI i)) (fun i _ => ∀ z, z < i → qn_cc m t w x y z = true) n 0 () (by omega) (fun z hz => absurd hz (by omega)) (fun f _ hL => pk_le n n (fun _ => nm_r (nI_1 y) (hk2 () ?_)) (fun z => absurd z (by omega))) (fun f z _ hz hL hk3 => pk_le n z (fun z => absurd z (by omega)) (fun _ => ?_))
  · intro y' z hy' hz
    by_cases e : y' = y
    · rw [e]; exact hL z hz
    · exact hJ y' z (by omega) hz
  refine s_closed hn hm1 hm ht hw hp hq hx hy hz (fun e => ⟨fun _ => nm_r (nI_1 z) (hk3 () (lt_s hL e)), fun q => absurd q (by decide)⟩) (fun e => ⟨fun q => absurd rfl q, fun _ => ?_⟩)
  unfold wp_X9_tripleCode
  rw [q_tc]
  exact h _ (q_tvf hn hx hy hz hI hJ hL e)
-- the reference
theorem q_tvk {n : Nat} {p : Nat → Nat → Nat → Bool} {k : Nat} (hn : n ≤ 6) (hk : k < 216) (h1 : k / 36 < n) (h2 : k / 6 % 6 < n) (h3 : k % 6 < n) (hI : ∀ x y z, x < n → y < n → z < n → 36 * x + 6 * y + z < k → p x y z = true) (hf : p (k / 36) (k / 6 % 6) (k % 6) = false) : qn_tv n p (nI k) := by
  have e : 36 * (k / 36) + 6 * (k / 6 % 6) + k % 6 = k := by omega
  refine Or.inr ⟨k / 36, k / 6 % 6, k % 6, h1, h2, h3, by rw [e], hf, fun a b c ha hb hc h4 => hI a b c ha hb hc (by omega)⟩
theorem q_tvs {n : Nat} {p : Nat → Nat → Nat → Bool} {k : Nat} (hn : n ≤ 6) (hI : ∀ x y z, x < n → y < n → z < n → 36 * x + 6 * y + z < k → p x y z = true) (hs : k / 36 < n → k / 6 % 6 < n → k % 6 < n → p (k / 36) (k / 6 % 6) (k % 6) = true) : ∀ x y z, x < n → y < n → z < n → 36 * x + 6 * y + z < k + 1 → p x y z = true := by
  intro x y z hx hy hz h
  by_cases e : 36 * x + 6 * y + z = k
  · have e1 : k / 36 = x := by omega
    have e2 : k / 6 % 6 = y := by omega
    have e3 : k % 6 = z := by omega
    rw [e1, e2, e3] at hs
    exact hs hx hy hz
  · exact hI x y z hx hy hz (by omega)
theorem q_cyc : ∀ A, A < 24 → ∀ C, C < 24 → ∀ m, m < 13 → 0 < m → ((nI A - nI C) - (nI A - nI C) / nI m * nI m = 0 ↔ A % m = C % m) := by decide +kernel
theorem s_viol0 {post : Int32 → Prop} {n : Nat} {t : Nat → Nat → Nat} {N : Nat → Int32} (hn : n ≤ 6) (ht : ∀ x y, x < n → y < n → t x y < n) (h84 : N 84 = nI n) (hp : qn_tb n 0 t N) (h : ∀ r, qn_tv n (qn_lw t) r → post r) : wp_X10_violation post N 0 := by
  refine ⟨pk_in 84 88 (by omega), nm_r (by rw [q84, h84]) ?_⟩
  refine pk_loop (σ := Unit) (fun f i _ => wp_X10_violation_L10 post (post (-4)) 0 (nI n) N f (nI i)) (fun i _ => ∀ x y z, x < n → y < n → z < n → 36 * x + 6 * y + z < i → qn_lw t x y z = true) 216 0 () (by omega) (fun x y z hx hy hz q => absurd q (by omega)) (fun f _ hI => pk_le 216 216 (fun _ => h _ (Or.inl ⟨rfl, fun x y z hx hy hz => hI x y z hx hy hz (by omega)⟩)) (fun z => absurd z (by omega))) (fun f k _ hk hI hk2 => pk_le 216 k (fun z => absurd z (by omega)) (fun _ => ?_))
  refine nm_r (pk_div (d := 36) (by omega) (by decide) (by decide)) (nm_r (pk_div (d := 6) (by omega) (by decide) (by decide)) (nm_r (pk_rem (d := 6) (by omega) (by decide) (by decide)) (nm_r (pk_rem (d := 6) (by omega) (by decide) (by decide)) ?_)))
  refine pk_le n (k / 36) (fun q => nm_r (nI_1 k) (hk2 () (q_tvs hn hI (fun q1 => absurd q1 (by omega))))) (fun h1 => pk_le n (k / 6 % 6) (fun q => nm_r (nI_1 k) (hk2 () (q_tvs hn hI (fun _ q1 => absurd q1 (by omega))))) (fun h2 => pk_le n (k % 6) (fun q => nm_r (nI_1 k) (hk2 () (q_tvs hn hI (fun _ _ q1 => absurd q1 (by omega))))) (fun h3 => ⟨fun _ => ?_, fun q => absurd rfl q⟩)))
  refine s_of hn hp h1 h2 (s_of hn hp (ht _ _ h1 h2) h3 (s_of hn hp h1 h3 (s_of hn hp h2 h3 (s_of hn hp (ht _ _ h1 h3) (ht _ _ h2 h3) ?_))))
  have b1 := ht _ _ (ht _ _ h1 h2) h3
  have b2 := ht _ _ (ht _ _ h1 h3) (ht _ _ h2 h3)
  refine (pk_eq _ _ (fun e => ⟨fun _ => nm_r (nI_1 k) (hk2 () (q_tvs hn hI (fun _ _ _ => decide_eq_true e))), fun q => absurd q (by decide)⟩) (fun e => ⟨fun q => absurd rfl q, fun _ => h _ (q_tvk hn hk h1 h2 h3 hI (decide_eq_false e))⟩) (ha := by omega) (hb := by omega)) |> fun r => ⟨r.2, r.1⟩
theorem s_viol1 {post : Int32 → Prop} {n m : Nat} {t w : Nat → Nat → Nat} {N : Nat → Int32} (hn : n ≤ 6) (hm1 : 2 ≤ m) (hm : m ≤ 12) (ht : ∀ x y, x < n → y < n → t x y < n) (hw : ∀ x y, x < n → y < n → w x y < m) (h84 : N 84 = nI n) (h87 : N 87 = nI m) (hp : qn_tb n 0 t N) (hq : qn_tb n 36 w N) (h : ∀ r, qn_tv n (qn_cc m t w) r → post r) : wp_X10_violation post N 1 := by
  refine ⟨pk_in 84 88 (by omega), nm_r (by rw [q84, h84]) ?_⟩
  refine pk_loop (σ := Unit) (fun f i _ => wp_X10_violation_L10 post (post (-4)) 1 (nI n) N f (nI i)) (fun i _ => ∀ x y z, x < n → y < n → z < n → 36 * x + 6 * y + z < i → qn_cc m t w x y z = true) 216 0 () (by omega) (fun x y z hx hy hz q => absurd q (by omega)) (fun f _ hI => pk_le 216 216 (fun _ => h _ (Or.inl ⟨rfl, fun x y z hx hy hz => hI x y z hx hy hz (by omega)⟩)) (fun z => absurd z (by omega))) (fun f k _ hk hI hk2 => pk_le 216 k (fun z => absurd z (by omega)) (fun _ => ?_))
  refine nm_r (pk_div (d := 36) (by omega) (by decide) (by decide)) (nm_r (pk_div (d := 6) (by omega) (by decide) (by decide)) (nm_r (pk_rem (d := 6) (by omega) (by decide) (by decide)) (nm_r (pk_rem (d := 6) (by omega) (by decide) (by decide)) ?_)))
  refine pk_le n (k / 36) (fun q => nm_r (nI_1 k) (hk2 () (q_tvs hn hI (fun q1 => absurd q1 (by omega))))) (fun h1 => pk_le n (k / 6 % 6) (fun q => nm_r (nI_1 k) (hk2 () (q_tvs hn hI (fun _ q1 => absurd q1 (by omega))))) (fun h2 => pk_le n (k % 6) (fun q => nm_r (nI_1 k) (hk2 () (q_tvs hn hI (fun _ _ q1 => absurd q1 (by omega))))) (fun h3 => ⟨fun q => absurd q (by decide), fun _ => ?_⟩)))
  have t1 := ht _ _ h1 h2
  have t2 := ht _ _ h1 h3
  have t3 := ht _ _ h2 h3
  have w1 := hw _ _ h1 h2
  have w2 := hw _ _ t1 h3
  have w3 := hw _ _ h1 h3
  have w4 := hw _ _ t2 t3
  refine s_wOf hn hq h1 h2 (s_of hn hp h1 h2 (s_wOf hn hq t1 h3 (s_wOf hn hq h1 h3 (s_of hn hp h1 h3 (s_of hn hp h2 h3 (s_wOf hn hq t2 t3 ⟨pk_in 87 88 (by omega), ?_⟩))))))
  have esb : ∀ a b c : Nat, nI a - nI b - nI c = nI a - nI (b + c) := fun a b c => by rw [Int32.sub_sub, nI_add]
  rw [q87, h87, nI_add, esb]
  refine ⟨nI_ne0 (by omega) (by omega), fun z ez => ?_⟩
  have hz := q_cyc (w (k / 36) (k / 6 % 6) + w (t (k / 36) (k / 6 % 6)) (k % 6)) (by omega) (w (k / 36) (k % 6) + w (t (k / 36) (k % 6)) (t (k / 6 % 6) (k % 6))) (by omega) m (by omega) (by omega)
  rw [← ez] at hz
  refine ⟨fun q => ⟨fun q1 => absurd rfl q1, fun _ => h _ (q_tvk hn hk h1 h2 h3 hI (decide_eq_false (fun e => q (hz.mpr e))))⟩, fun q => ⟨fun _ => nm_r (nI_1 k) (hk2 () (q_tvs hn hI (fun _ _ _ => decide_eq_true (hz.mp q)))), fun q1 => absurd q1 (by decide)⟩⟩
