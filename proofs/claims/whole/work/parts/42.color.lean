-- the digits of a code, the first strand's first
def qn_dg (n s k i : Nat) : Nat := if i < s then k / n ^ (s - 1 - i) % n else 0
def qn_ad (n : Nat) : Nat → (Nat → Nat) → Nat → Nat
  | 0, T => T
  | i + 1, T => if T i + 1 < n then (fun j => if j = i then T i + 1 else T j) else qn_ad n i (fun j => if j = i then 0 else T j)
def qn_avk (n s k : Nat) : Bool := (qn_ad n s (qn_dg n s k) 0 == qn_dg n s (k + 1) 0) && (qn_ad n s (qn_dg n s k) 1 == qn_dg n s (k + 1) 1) && (qn_ad n s (qn_dg n s k) 2 == qn_dg n s (k + 1) 2) && (qn_ad n s (qn_dg n s k) 3 == qn_dg n s (k + 1) 3)
theorem q_avk : ∀ n, n < 6 → ∀ s, s < 3 → ∀ k, k < (n + 1) ^ (s + 2) → qn_avk (n + 1) (s + 2) k = true := by decide +kernel
theorem q_adv : ∀ n, n < 7 → 0 < n → ∀ s, s < 5 → 2 ≤ s → ∀ k, k < n ^ s → ∀ i, i < 4 → qn_ad n s (qn_dg n s k) i = qn_dg n s (k + 1) i := by
  intro n h1 h2 s h3 h4 k hk
  obtain ⟨n', rfl⟩ : ∃ n', n = n' + 1 := ⟨n - 1, by omega⟩
  obtain ⟨s', rfl⟩ : ∃ s', s = s' + 2 := ⟨s - 2, by omega⟩
  have h9 := q_avk n' (by omega) s' (by omega) k hk
  unfold qn_avk at h9
  rw [Bool.and_eq_true, Bool.and_eq_true, Bool.and_eq_true] at h9
  intro i hi
  rcases (show i = 0 ∨ i = 1 ∨ i = 2 ∨ i = 3 by omega) with rfl | rfl | rfl | rfl
  · exact eq_of_beq h9.1.1.1
  · exact eq_of_beq h9.1.1.2
  · exact eq_of_beq h9.1.2
  · exact eq_of_beq h9.2
theorem q_n4 : ∀ n, n < 7 → ∀ s, s < 5 → n ^ s ≤ 1296 := by decide +kernel
theorem q_dgl {n s k : Nat} (hn : 0 < n) (i : Nat) : qn_dg n s k i < n := by
  unfold qn_dg
  split
  · exact Nat.mod_lt _ hn
  · exact hn
theorem q_dg0 (n s i : Nat) : qn_dg n s 0 i = 0 := by
  unfold qn_dg
  split
  · rw [Nat.zero_div, Nat.zero_mod]
  · rfl
theorem s_adv {post : (Nat → Int32) → Prop} {n s : Nat} {D T : Nat → Nat} {a : Nat → Int32} (hn : n ≤ 6) (hs : s ≤ 4) (ha : ∀ j, j < 4 → a j = nI (T j)) (hT : ∀ j, j < 4 → T j < 6) (hD : ∀ j, j < 4 → qn_ad n s T j = D j) (h : ∀ a', (∀ j, j < 4 → a' j = nI (D j)) → post a') : wp_X7_advance post a (nI n) (nI s) := by
  have ez : (if (4 : Int32) < nI s then (4 : Int32) else nI s) = nI s := if_neg (nI_nlt (a := 4) hs (by decide))
  refine nm_r ez (nm_e ⟨s + 1, ?_⟩)
  refine pk_loopD (fun f i b => wp_X7_advance_L14 post (fun a => post a) (nI n) f (nI i - 1) b) (fun i b => i ≤ 4 ∧ ∃ T : Nat → Nat, (∀ j, j < 4 → b j = nI (T j)) ∧ (∀ j, j < 4 → T j < 6) ∧ ∀ j, j < 4 → qn_ad n i T j = D j) ?_ ?_ s a ⟨hs, T, ha, hT, hD⟩
  · intro f b hI
    obtain ⟨-, T, h1, h2, h3⟩ := hI
    exact ⟨fun _ => h b (fun j hj => by rw [h1 j hj]; exact congrArg nI (h3 j hj)), fun z => absurd (by decide) z⟩
  · intro f i b hI hk
    obtain ⟨hi, T, h1, h2, h3⟩ := hI
    show wp_X7_advance_L14 post (fun a => post a) (nI n) (f + 1) (nI (i + 1) - 1) b
    rw [nI_pred i]
    have em : nI i + (-1) = nI i - 1 := by rw [Int32.sub_eq_add_neg]
    have hTi := h2 i (by omega)
    refine pk_lt i 0 (fun z => absurd z (by omega)) (fun _ => ⟨pk_in i 4 (by omega), pk_in i 4 (by omega), nm_r (e' := upd b i (nI (T i + 1))) (by rw [pk_cl i, h1 i (by omega), nI_1]) ⟨pk_in i 4 (by omega), ?_⟩⟩)
    rw [pk_cl i, pk_us]
    refine pk_le n (T i + 1) (fun z => ⟨pk_in i 4 (by omega), nm_e (nm_r em (hk _ ⟨by omega, fun j => if j = i then 0 else T j, fun j hj => ?_, fun j hj => ?_, fun j hj => ?_⟩))⟩) (fun z => h _ (fun j hj => ?_))
    · by_cases e : j = i
      · rw [e, pk_us]
        show (0 : Int32) = nI (if i = i then 0 else T i)
        rw [if_pos rfl]
        rfl
      · rw [pk_un e, pk_un e]
        show b j = nI (if j = i then 0 else T j)
        rw [if_neg e]
        exact h1 j hj
    · show (if j = i then 0 else T j) < 6
      split
      · omega
      · exact h2 j hj
    · have h4 := h3 j hj
      rwa [show qn_ad n (i + 1) T = qn_ad n i (fun j => if j = i then 0 else T j) from if_neg (by omega)] at h4
    · have h4 := h3 j hj
      rw [show qn_ad n (i + 1) T = (fun j => if j = i then T i + 1 else T j) from if_pos z] at h4
      rw [← h4]
      show _ = nI (if j = i then T i + 1 else T j)
      by_cases e : j = i
      · rw [e, pk_us, if_pos rfl]
      · rw [pk_un e, if_neg e]
        exact h1 j hj
theorem s_start {post : Int32 → (Nat → Int32) → Prop} {n s : Nat} {a : Nat → Int32} (hs : s ≤ 4) (h : ∀ a', (∀ j, j < 4 → a' j = 0) → post (nI (n ^ s)) a') : wp_X7_startAtFirst post a (nI n) (nI s) := by
  refine pk_loop (σ := Int32 × (Nat → Int32)) (fun f i b => wp_X7_startAtFirst_L4 (fun x y => post x y) (nI n) (nI s) f b.1 (nI i) b.2) (fun i b => b.1 = nI (n ^ (if i ≤ s then i else s)) ∧ ∀ j, j < i → b.2 j = 0) 4 0 (1, a) (by omega) ⟨by rw [if_pos (Nat.zero_le s), Nat.pow_zero]; rfl, fun j hj => absurd hj (by omega)⟩ (fun f b hI => pk_le 4 4 (fun _ => ?_) (fun z => absurd z (by omega))) (fun f i b hi hI hk => pk_le 4 i (fun z => absurd z (by omega)) (fun _ => ⟨pk_in i 4 hi, nm_r (by rw [pk_cl i]) ?_⟩))
  · have e : (if 4 ≤ s then 4 else s) = s := by split <;> omega
    rw [hI.1, e]
    exact h b.2 hI.2
  · have hu : ∀ j, j < i + 1 → upd b.2 i 0 j = 0 := fun j hj => by
      by_cases e : j = i
      · rw [e, pk_us]
      · rw [pk_un e]; exact hI.2 j (by omega)
    rw [hI.1]
    refine pk_le s i (fun z => nm_r (nI_1 i) (hk (_, _) ⟨?_, hu⟩)) (fun z => nm_e (nm_r (nI_1 i) (hk (_, _) ⟨?_, hu⟩)))
    · show nI (n ^ (if i ≤ s then i else s)) = nI (n ^ (if i + 1 ≤ s then i + 1 else s))
      rw [show (if i + 1 ≤ s then i + 1 else s) = (if i ≤ s then i else s) by split <;> split <;> omega]
    · show nI (n ^ (if i ≤ s then i else s)) * nI n = nI (n ^ (if i + 1 ≤ s then i + 1 else s))
      rw [if_pos (by omega), if_pos (by omega), pk_mul, Nat.pow_succ]
theorem s_codes {post : Int32 → Prop} {n s : Nat} {N : Nat → Int32} (hs : s ≤ 4) (h84 : N 84 = nI n) (h85 : N 85 = nI s) (h : post (nI (n ^ s))) : wp_X10_codes post N := by
  refine pk_loop (σ := Unit) (fun f i _ => wp_X10_codes_L4 (fun x => post x) N f (nI (n ^ i)) (nI i)) (fun _ _ => True) s 0 () (by omega) trivial (fun f _ _ => ⟨pk_in 85 88 (by omega), ?_⟩) (fun f i _ hi _ hk => ⟨pk_in 85 88 (by omega), ?_⟩)
  · rw [q85, h85]
    exact pk_le s s (fun _ => h) (fun z => absurd z (by omega))
  · rw [q85, h85]
    exact pk_le s i (fun z => absurd z (by omega)) (fun _ => ⟨pk_in 84 88 (by omega), nm_r (e' := nI (n ^ (i + 1))) (by rw [q84, h84, pk_mul, Nat.pow_succ]) (nm_r (nI_1 i) (hk () trivial))⟩)
-- one assignment, in the class
theorem s_closes {post : Int32 → Int32 → (Nat → Int32) → Prop} {n s k m : Nat} {t w : Nat → Nat → Nat} {g : Nat → Int32} {C : Nat → Nat} {a c p q cr wv : Nat → Int32} (hE : qn_ev n s k m t w g) (hp : qn_tb n 0 t p) (hq : qn_qt n t q) (hg : ∀ j, j < k → cr j = g j) (hwv : qn_tb n 0 w wv) (ha : ∀ i, i < 4 → a i = nI (C i)) (hC : ∀ i, C i < n) (h1 : (∀ i, i < s → qn_tc n t g C k i = C i) → ∀ c', post 1 (nI (qn_tw m n t w g C k % m)) c') (h0 : (¬ ∀ i, i < s → qn_tc n t g C k i = C i) → ∀ c', post 0 (nI (qn_tw m n t w g C k % m)) c') : wp_X7_closes post a c p q (nI k) cr (nI m) wv := by
  obtain ⟨⟨g1, g2, g3, g4, g5, g6, g7, g8, g9, g10⟩, hi⟩ := id hE
  refine q_loop (fun K f i b => wp_X7_closes_L2 K a f (nI i) b) (fun i b => ∀ j, j < i → b j = a j) 4 0 c (by omega) (fun j hj => absurd hj (by omega)) (fun f b hI => pk_le 4 4 (fun _ => ?_) (fun z => absurd z (by omega))) (fun f i b hi4 hI hk => pk_le 4 i (fun z => absurd z (by omega)) (fun _ => ⟨pk_in i 4 hi4, pk_in i 4 hi4, nm_r (by rw [pk_cl i]) (nm_r (nI_1 i) (hk _ (fun j hj => ?_)))⟩))
  · refine q_loop (σ := Int32 × (Nat → Int32)) (fun K f j b => wp_X7_closes_L32 K p q (nI k) cr (nI m) wv f (nI j) b.1 b.2) (fun j b => b.1 = nI (qn_tw m n t w g C j % m) ∧ ∀ i, i < 4 → b.2 i = nI (qn_tc n t g C j i)) k 0 (0, b) (by omega) ⟨by show (0 : Int32) = nI (0 % m); rw [Nat.zero_mod]; rfl, fun i hi => (hI i hi).trans (ha i hi)⟩ (fun f b hJ => pk_le k k (fun _ => ?_) (fun z => absurd z (by omega))) (fun f j b hj hJ hk => pk_le k j (fun z => absurd z (by omega)) (fun _ => s_at (by omega) hj ?_))
    · by_cases hall : ∀ i, i < s → qn_tc n t g C k i = C i
      · have hA : ∀ i, i < 4 → qn_tc n t g C k i = C i := fun i hi4 => by
          by_cases e : i < s
          · exact hall i e
          · exact q_tco hE k (Nat.le_refl k) i (by omega)
        refine q_loop (σ := Unit) (fun K f i _ => wp_X7_closes_L64 post K b.1 a b.2 f (nI i)) (fun _ _ => True) 4 0 () (by omega) trivial (fun f _ _ => pk_le 4 4 (fun _ => ?_) (fun z => absurd z (by omega))) (fun f i _ hi4 _ hk => pk_le 4 i (fun z => absurd z (by omega)) (fun _ => ⟨pk_in i 4 hi4, pk_in i 4 hi4, ?_⟩))
        · rw [hJ.1]
          exact h1 hall _
        · rw [pk_cl i, hJ.2 i hi4, ha i hi4, hA i hi4]
          exact ⟨fun _ => nm_r (nI_1 i) (hk () trivial), fun z => absurd rfl z⟩
      · have hex : ∃ i, i < s ∧ qn_tc n t g C k i ≠ C i := Classical.byContradiction (fun hn => hall (fun i hi => Classical.byContradiction (fun hne => hn ⟨i, hi, hne⟩)))
        obtain ⟨e, he, hne, hlt⟩ := fb_first hex
        have b1 := q_tcl hE (fun i _ => hC i) k (Nat.le_refl k) e he
        have b2 := hC e
        refine q_loop (σ := Unit) (fun K f i _ => wp_X7_closes_L64 post K b.1 a b.2 f (nI i)) (fun _ _ => True) e 0 () (by omega) trivial (fun f _ _ => pk_le 4 e (fun z => absurd z (by omega)) (fun _ => ⟨pk_in e 4 (by omega), pk_in e 4 (by omega), ?_⟩)) (fun f i _ hi4 _ hk => pk_le 4 i (fun z => absurd z (by omega)) (fun _ => ⟨pk_in i 4 (by omega), pk_in i 4 (by omega), ?_⟩))
        · rw [pk_cl e, hJ.2 e (by omega), ha e (by omega)]
          refine pk_eq (qn_tc n t g C k e) (C e) (fun z => absurd z hne) (fun _ => ?_) (ha := by omega) (hb := by omega)
          rw [hJ.1]
          exact h0 hall _
        · have e3 : qn_tc n t g C k i = C i := Decidable.not_not.mp (hlt i hi4)
          rw [pk_cl i, hJ.2 i (by omega), ha i (by omega), e3]
          exact ⟨fun _ => nm_r (nI_1 i) (hk () trivial), fun z => absurd rfl z⟩
    · rw [hJ.1, hg j hj]
      refine s_pass g2 g7 g4 g8 g9 hi hp hq hwv (g10 j hj) (q_tcl hE (fun i _ => hC i) j (by omega)) hJ.2 (Nat.mod_lt _ (by omega)) (fun c' hc' => nm_r (nI_1 j) (hk (_, c') ⟨?_, hc'⟩))
      show nI ((qn_tw m n t w g C j % m + qn_wt m n t w (g j) (qn_tc n t g C j)) % m) = nI ((qn_tw m n t w g C j + qn_wt m n t w (g j) (qn_tc n t g C j)) % m)
      rw [Nat.mod_add_mod]
  · by_cases e : j = i
    · rw [e, pk_us]
    · rw [pk_un e]; exact hI j (by omega)
-- one assignment, in the reference
theorem s_digits {K : (Nat → Int32) → Prop} {n s code : Nat} {N c : Nat → Int32} (hn1 : 1 ≤ n) (hn : n ≤ 6) (hs : s ≤ 4) (h84 : N 84 = nI n) (hcode : code < 2 ^ 31) (h : ∀ c', (∀ i, i < s → c' i = nI (qn_dg n s code i)) → K c') : ∃ f, wp_X10_isColoring_L12 K N f (nI code) (nI s - 1) c := by
  refine ⟨s + 1, pk_loopD (σ := Int32 × (Nat → Int32)) (fun f i b => wp_X10_isColoring_L12 K N f b.1 (nI i - 1) b.2) (fun i b => i ≤ s ∧ b.1 = nI (code / n ^ (s - i)) ∧ ∀ j, i ≤ j → j < s → b.2 j = nI (qn_dg n s code j)) ?_ ?_ s (nI code, c) ⟨Nat.le_refl s, by rw [Nat.sub_self, Nat.pow_zero, Nat.div_one], fun j q1 q2 => absurd q2 (by omega)⟩⟩
  · intro f b hI
    exact ⟨fun _ => h b.2 (fun i hi => hI.2.2 i (Nat.zero_le i) hi), fun z => absurd (by decide) z⟩
  · intro f i b hI hk
    obtain ⟨his, e1, hc⟩ := hI
    show wp_X10_isColoring_L12 K N (f + 1) b.1 (nI (i + 1) - 1) b.2
    rw [nI_pred i, e1]
    have em : nI i + (-1) = nI i - 1 := by rw [Int32.sub_eq_add_neg]
    have hQ : code / n ^ (s - (i + 1)) < 2 ^ 31 := Nat.lt_of_le_of_lt (Nat.div_le_self _ _) hcode
    refine pk_lt i 0 (fun z => absurd z (by omega)) (fun _ => ⟨pk_in 84 88 (by omega), ?_⟩)
    rw [q84, h84]
    refine ⟨nI_ne0 (by omega) (by omega), nm_r (pk_rem hQ (by omega) (by omega)) ⟨pk_in i 4 (by omega), nm_r (by rw [pk_cl i]) ⟨pk_in 84 88 (by omega), nI_ne0 (by omega) (by omega), nm_r (pk_div hQ (by omega) (by omega)) (nm_r em (hk (_, _) ⟨by omega, ?_, fun j q1 q2 => ?_⟩))⟩⟩⟩
    · show nI (code / n ^ (s - (i + 1)) / n) = nI (code / n ^ (s - i))
      rw [Nat.div_div_eq_div_mul, ← Nat.pow_succ, show (s - (i + 1)).succ = s - i by omega]
    · show upd b.2 i (nI (code / n ^ (s - (i + 1)) % n)) j = nI (qn_dg n s code j)
      by_cases e : j = i
      · rw [e, pk_us]
        unfold qn_dg
        rw [if_pos (by omega), show s - 1 - i = s - (i + 1) by omega]
      · rw [pk_un e]
        exact hc j (by omega) q2
theorem s_mTrace {K : Int32 → (Nat → Int32) → Prop} {n s k m : Nat} {t w : Nat → Nat → Nat} {g : Nat → Int32} {C : Nat → Nat} {N o c : Nat → Int32} (hE : qn_ev n s k m t w g) (hM : qn_M n s k m t w g N) (ho : qn_qt n t o) (hc : ∀ i, i < s → c i = nI (C i)) (hC : ∀ i, C i < n) (h : ∀ c', (∀ i, i < s → c' i = nI (qn_tc n t g C k i)) → K (nI (qn_tw m n t w g C k)) c') : ∃ f, wp_X10_isColoring_L54 K N o f 0 0 c := by
  obtain ⟨⟨g1, g2, g3, g4, g5, g6, g7, g8, g9, g10⟩, hi⟩ := id hE
  obtain ⟨m1, m2, m3, m4, m5, m6, m7⟩ := id hM
  refine pk_loop (σ := Int32 × (Nat → Int32)) (fun f j b => wp_X10_isColoring_L54 K N o f (nI j) b.1 b.2) (fun j b => b.1 = nI (qn_tw m n t w g C j) ∧ ∀ i, i < s → b.2 i = nI (qn_tc n t g C j i)) k 0 (0, c) (by omega) ⟨rfl, hc⟩ (fun f b hJ => ⟨pk_in 86 88 (by omega), ?_⟩) (fun f j b hj hJ hk => ⟨pk_in 86 88 (by omega), ?_⟩)
  · rw [q86, m4]
    refine pk_le k k (fun _ => ?_) (fun z => absurd z (by omega))
    rw [hJ.1]
    exact h _ hJ.2
  · rw [q86, m4]
    have e72 : (72 : Int32) + nI j = nI (72 + j) := nI_add 72 j
    refine pk_le k j (fun z => absurd z (by omega)) (fun _ => ⟨pk_in (72 + j) 88 (by omega) (hx := e72), nm_r (e' := g j) (by rw [pk_cl (72 + j) e72]; exact m5 j hj) ?_⟩)
    rw [hJ.1]
    exact ⟨fun z => s_mPass g2 g7 g4 g8 g9 hi m2 ho m7 m6 (g10 j hj) (Or.inl ⟨z, rfl⟩) (q_tcl hE (fun i _ => hC i) j (by omega)) hJ.2 (fun c' hc' => hk (_, c') ⟨rfl, hc'⟩), fun z => s_mPass g2 g7 g4 g8 g9 hi m2 ho m7 m6 (g10 j hj) (Or.inr ⟨z, rfl⟩) (q_tcl hE (fun i _ => hC i) j (by omega)) hJ.2 (fun c' hc' => hk (_, c') ⟨rfl, hc'⟩)⟩
def qn_en (n : Nat) (C : Nat → Nat) : Nat → Nat
  | 0 => 0
  | i + 1 => qn_en n C i * n + C i
theorem s_enc {K : Int32 → Prop} {n s : Nat} {C : Nat → Nat} {N c : Nat → Int32} (hs : s ≤ 4) (h84 : N 84 = nI n) (h85 : N 85 = nI s) (hc : ∀ i, i < s → c i = nI (C i)) (h : K (nI (qn_en n C s))) : ∃ f, wp_X10_isColoring_L249 K N c f 0 0 := by
  refine pk_loop (σ := Unit) (fun f i _ => wp_X10_isColoring_L249 K N c f (nI (qn_en n C i)) (nI i)) (fun _ _ => True) s 0 () (by omega) trivial (fun f _ _ => ⟨pk_in 85 88 (by omega), ?_⟩) (fun f i _ hi _ hk => ⟨pk_in 85 88 (by omega), ?_⟩)
  · rw [q85, h85]
    exact pk_le s s (fun _ => h) (fun z => absurd z (by omega))
  · rw [q85, h85]
    exact pk_le s i (fun z => absurd z (by omega)) (fun _ => ⟨pk_in 84 88 (by omega), pk_in i 4 (by omega), nm_r (e' := nI (qn_en n C (i + 1))) (by rw [q84, h84, pk_cl i, hc i hi, pk_mul, nI_add]; rfl) (nm_r (nI_1 i) (hk () trivial))⟩)
theorem q_enl {n s : Nat} {C : Nat → Nat} (hC : ∀ i, i < s → C i < n) : ∀ i, i ≤ s → qn_en n C i < n ^ i
  | 0, _ => Nat.zero_lt_one
  | i + 1, hi => by
    have ih := q_enl hC i (by omega)
    have hl := hC i (by omega)
    show qn_en n C i * n + C i < n ^ (i + 1)
    rw [Nat.pow_succ]
    calc qn_en n C i * n + C i < qn_en n C i * n + n := by omega
      _ = (qn_en n C i + 1) * n := by rw [Nat.succ_mul]
      _ ≤ n ^ i * n := Nat.mul_le_mul_right _ ih
theorem q_enI {n s : Nat} {A B : Nat → Nat} (hA : ∀ i, i < s → A i < n) (hB : ∀ i, i < s → B i < n) : ∀ i, i ≤ s → qn_en n A i = qn_en n B i → ∀ j, j < i → A j = B j
  | 0, _ => fun _ j hj => absurd hj (by omega)
  | i + 1, hi => fun e => by
    have a1 := hA i (by omega)
    have b1 := hB i (by omega)
    have e0 : A i + qn_en n A i * n = B i + qn_en n B i * n := by
      rw [Nat.add_comm, Nat.add_comm (B i)]
      exact e
    have e1 : A i = B i := by
      have h := congrArg (· % n) e0
      simp only [Nat.add_mul_mod_self_right] at h
      rwa [Nat.mod_eq_of_lt a1, Nat.mod_eq_of_lt b1] at h
    have e2 : qn_en n A i = qn_en n B i := by
      have h := congrArg (· / n) e0
      simp only [Nat.add_mul_div_right _ _ (show 0 < n by omega)] at h
      rwa [Nat.div_eq_of_lt a1, Nat.div_eq_of_lt b1, Nat.zero_add, Nat.zero_add] at h
    exact lt_s (q_enI hA hB i (by omega) e2) e1
theorem q_enc {n : Nat} {A B : Nat → Nat} : ∀ i, (∀ j, j < i → A j = B j) → qn_en n A i = qn_en n B i
  | 0, _ => rfl
  | i + 1, h => by
    show qn_en n A i * n + A i = qn_en n B i * n + B i
    rw [q_enc i (fun j hj => h j (by omega)), h i (by omega)]
theorem q_end {n s code : Nat} (hcode : code < n ^ s) : ∀ i, i ≤ s → qn_en n (qn_dg n s code) i = code / n ^ (s - i)
  | 0, _ => by
    show 0 = code / n ^ (s - 0)
    rw [Nat.sub_zero, Nat.div_eq_of_lt hcode]
  | i + 1, hi => by
    show qn_en n (qn_dg n s code) i * n + qn_dg n s code i = code / n ^ (s - (i + 1))
    rw [q_end hcode i (by omega)]
    unfold qn_dg
    rw [if_pos (by omega), show s - i = s - (i + 1) + 1 by omega, Nat.pow_succ, ← Nat.div_div_eq_div_mul, show s - 1 - i = s - (i + 1) by omega, Nat.div_add_mod']
theorem s_isCol {post : Int32 → Int32 → (Nat → Int32) → Prop} {n s k m code : Nat} {t w : Nat → Nat → Nat} {g : Nat → Int32} {N o c : Nat → Int32} (hE : qn_ev n s k m t w g) (hM : qn_M n s k m t w g N) (ho : qn_qt n t o) (hcode : code < n ^ s) (h1 : (∀ i, i < s → qn_tc n t g (qn_dg n s code) k i = qn_dg n s code i) → ∀ c', post 1 (nI (qn_tw m n t w g (qn_dg n s code) k % m)) c') (h0 : (¬ ∀ i, i < s → qn_tc n t g (qn_dg n s code) k i = qn_dg n s code i) → ∀ c', post 0 (nI (qn_tw m n t w g (qn_dg n s code) k % m)) c') : wp_X10_isColoring post N o c (nI code) := by
  obtain ⟨⟨g1, g2, g3, g4, g5, g6, g7, g8, g9, g10⟩, hi⟩ := id hE
  obtain ⟨m1, m2, m3, m4, m5, m6, m7⟩ := id hM
  have h1296 := q_n4 n (by omega) s (by omega)
  have hC : ∀ i, qn_dg n s code i < n := q_dgl (by omega)
  have htw := q_twl hE (C := qn_dg n s code) (fun i _ => hC i) k (Nat.le_refl k)
  have htc := q_tcl hE (C := qn_dg n s code) (fun i _ => hC i) k (Nat.le_refl k)
  refine ⟨pk_in 85 88 (by omega), nm_r (e' := nI s - 1) (by rw [q85, m3]) (s_digits g1 g2 g4 m1 (by omega) (fun c1 hc1 => s_mTrace hE hM ho hc1 hC (fun c2 hc2 => ⟨pk_in 87 88 (by omega), ?_⟩)))⟩
  rw [q87, m6]
  refine ⟨nI_ne0 (by omega) (by omega), nm_r (pk_rem (by omega) (by omega) (by omega)) (s_enc g4 m1 m3 hc2 ?_)⟩
  have hl := q_enl htc s (Nat.le_refl s)
  have hed : qn_en n (qn_dg n s code) s = code := by
    rw [q_end hcode s (Nat.le_refl s), Nat.sub_self, Nat.pow_zero, Nat.div_one]
  refine q_ne (qn_en n (qn_tc n t g (qn_dg n s code) k) s) code (fun e => h1 ?_ _) (fun e => h0 (fun hall => e ?_) _) (ha := by omega) (hb := by omega)
  · exact q_enI htc (fun i _ => hC i) s (Nat.le_refl s) (e.trans hed.symm)
  · rw [q_enc s hall, hed]
