theorem q_el (x : Int32) {n : Nat} (hn : n < 2 ^ 31) : (x < 0 ∨ nI n ≤ x) ∨ ∃ j, j < n ∧ x = nI j := by
  rcases pk_ix x hn with h | h | h
  · exact Or.inl (Or.inl h)
  · exact Or.inl (Or.inr h)
  · exact Or.inr h
theorem q_nx5 (c : Nat) (hc : c ≤ 5) : qn_nx c ≤ 5 := by unfold qn_nx; split <;> omega
-- a changed entry
def qn_u2 (t : Nat → Nat → Nat) (x y v : Nat) : Nat → Nat → Nat := fun a b => if a = x ∧ b = y then v else t a b
theorem q_u2tb {n o x y v : Nat} {t : Nat → Nat → Nat} {f : Nat → Int32} (hn : n ≤ 6) (hx : x < n) (hy : y < n) (h : qn_tb n o t f) : qn_tb n o (qn_u2 t x y v) (upd f (o + (6 * x + y)) (nI v)) := by
  intro a b ha hb
  unfold qn_u2
  by_cases e : a = x ∧ b = y
  · rw [if_pos e, e.1, e.2, pk_us]
  · rw [if_neg e, pk_un (by omega)]
    exact h a b ha hb
theorem q_u2lt {n x y v k : Nat} {t : Nat → Nat → Nat} (h : ∀ x y, x < n → y < n → t x y < k) (hv : v < k) : ∀ a b, a < n → b < n → qn_u2 t x y v a b < k := by
  intro a b ha hb
  unfold qn_u2
  split
  · exact hv
  · exact h a b ha hb
theorem q_tbk {n o : Nat} {t : Nat → Nat → Nat} {f f' : Nat → Int32} (h : qn_tb n o t f) (hf : ∀ x y, x < n → y < n → f' (o + (6 * x + y)) = f (o + (6 * x + y))) : qn_tb n o t f' := fun x y hx hy => (hf x y hx hy).trans (h x y hx hy)
theorem s_setProd {post : Int32 → (Nat → Int32) → (Nat → Int32) → Prop} {n x y v : Nat} {t : Nat → Nat → Nat} {p q : Nat → Int32} (hn1 : 1 ≤ n) (hn : n ≤ 6) (ht : ∀ x y, x < n → y < n → t x y < n) (hp : qn_tb n 0 t p) (hx : x < n) (hy : y < n) (hv : v < n) (h : ∀ b p' q', qn_IsBad n (qn_u2 t x y v) b → qn_tb n 0 (qn_u2 t x y v) p' → qn_qt n (qn_u2 t x y v) q' → post b p' q') : wp_X5_setProduct post (nI n) p q (nI x) (nI y) (nI v) := by
  have h2 := q_u2tb (v := v) hn hx hy hp
  rw [Nat.zero_add] at h2
  exact s_put (by omega) (by omega) (s_refresh hn1 hn (q_u2lt ht hv) h2 (fun b q' hb hq => h b _ q' hb h2 hq))
-- crossings
theorem q_neg {k : Nat} (h : k < 2 ^ 31) : (-nI k).toInt = -(k : Int) := by
  rw [fb_negI (by rw [nI_toInt h]; omega), nI_toInt h]
theorem q_crc (x : Int32) {s : Nat} (h1 : 2 ≤ s) (h2 : s ≤ 4) : (x = 0 ∨ x ≤ -nI s ∨ nI s ≤ x) ∨ qn_cr s x := by
  by_cases e0 : x = 0
  · exact Or.inl (Or.inl e0)
  · by_cases e1 : x ≤ -nI s
    · exact Or.inl (Or.inr (Or.inl e1))
    · by_cases e2 : nI s ≤ x
      · exact Or.inl (Or.inr (Or.inr e2))
      · right
        rw [fa_le, q_neg (by omega)] at e1
        rw [fa_le, nI_toInt (by omega)] at e2
        rw [fa_eq] at e0
        have e3 : (0 : Int32).toInt = 0 := by decide
        rw [e3] at e0
        by_cases hp : 0 < x.toInt
        · refine ⟨x.toInt.toNat, by omega, by omega, Or.inl ?_⟩
          rw [fa_eq, nI_toInt (by omega)]
          omega
        · refine ⟨(-x.toInt).toNat, by omega, by omega, Or.inr ?_⟩
          rw [fa_eq, q_neg (by omega)]
          omega
theorem q_cr2 {s : Nat} {x : Int32} (h2 : s ≤ 4) (h : qn_cr s x) : ¬ x = 0 ∧ ¬ x ≤ -nI s ∧ ¬ nI s ≤ x ∧ ¬ x < -nI (s - 1) ∧ ¬ nI (s - 1) < x := by
  obtain ⟨q, h3, h4, e⟩ := h
  have e0 : (0 : Int32).toInt = 0 := by decide
  have ei : x.toInt = q ∨ x.toInt = -(q : Int) := by
    rcases e with e | e
    · left; rw [e, nI_toInt (by omega)]
    · right; rw [e, q_neg (by omega)]
  refine ⟨fun z => ?_, fun z => ?_, fun z => ?_, fun z => ?_, fun z => ?_⟩
  · rw [z, e0] at ei; omega
  · rw [fa_le, q_neg (by omega)] at z; omega
  · rw [fa_le, nI_toInt (by omega)] at z; omega
  · rw [fa_lt, q_neg (by omega)] at z; omega
  · rw [fa_lt, nI_toInt (by omega)] at z; omega
theorem s_allT {post : Int32 → Prop} {s : Nat} {x : Int32} (h2 : s ≤ 4) (hx : qn_cr s x) (h : post 1) : wp_X1_allows post (nI s) x := by
  obtain ⟨a, b, c, -, -⟩ := q_cr2 h2 hx
  exact ⟨fun z => absurd z a, fun _ => ⟨fun z => absurd z b, fun _ => ⟨fun z => absurd z c, fun _ => h⟩⟩⟩
theorem s_allF {post : Int32 → Prop} {s : Nat} {x : Int32} (hx : x = 0 ∨ x ≤ -nI s ∨ nI s ≤ x) (h : post 0) : wp_X1_allows post (nI s) x :=
  ⟨fun _ => h, fun z1 => ⟨fun _ => h, fun z2 => ⟨fun _ => h, fun z3 => by
    rcases hx with q | q | q
    · exact absurd q z1
    · exact absurd q z2
    · exact absurd q z3⟩⟩⟩
theorem q_crm {s : Nat} {x : Int32} (h1 : 2 ≤ s) (h2 : s ≤ 4) (hx : x ≤ -nI s ∨ nI s ≤ x) : x < -nI (s - 1) ∨ nI (s - 1) < x := by
  rcases hx with q | q
  · left
    rw [fa_le, q_neg (by omega)] at q
    rw [fa_lt, q_neg (by omega)]
    omega
  · right
    rw [fa_le, nI_toInt (by omega)] at q
    rw [fa_lt, nI_toInt (by omega)]
    omega
theorem q_m0 {s : Nat} (h1 : 2 ≤ s) (h2 : s ≤ 4) : ¬ (0 : Int32) < -nI (s - 1) ∧ ¬ nI (s - 1) < (0 : Int32) := by
  have e0 : (0 : Int32).toInt = 0 := by decide
  constructor
  · intro z; rw [fa_lt, q_neg (by omega), e0] at z; omega
  · intro z; rw [fa_lt, nI_toInt (by omega), e0] at z; omega
theorem s_append {post : Int32 → (Nat → Int32) → Prop} {k : Nat} {a : Nat → Int32} {x : Int32} (hk : k < 12) (h : post (nI (k + 1)) (upd a k x)) : wp_X1_append post (nI k) a x :=
  pk_lt k 0 (fun z => absurd z (by omega)) (fun _ => pk_le 12 k (fun z => absurd z (by omega)) (fun _ => ⟨pk_in k 12 hk, nm_r (by rw [pk_cl k]) (nm_r (nI_1 k) h)⟩))
theorem s_at {post : Int32 → Prop} {k i : Nat} {a : Nat → Int32} (hk : k ≤ 12) (hi : i < k) (h : post (a i)) : wp_X1_at post (nI k) a (nI i) :=
  pk_lt i 0 (fun z => absurd z (by omega)) (fun _ => pk_le k i (fun z => absurd z (by omega)) (fun _ => pk_le 12 i (fun z => absurd z (by omega)) (fun _ => ⟨pk_in i 12 (by omega), by rw [pk_cl i]; exact h⟩)))
theorem s_removeLast {post : Int32 → Int32 → Prop} {k : Nat} {a : Nat → Int32} (hk : k + 1 ≤ 12) (h : post (a k) (nI k)) : wp_X1_removeLast post (nI (k + 1)) a := by
  unfold wp_X1_removeLast
  rw [nI_pred k]
  exact s_at hk (by omega) (pk_le (k + 1) 0 (fun z => absurd z (by omega)) (fun _ => nm_e h))
-- undo, in the reference
theorem s_mUndo {post : Int32 → Int32 → (Nat → Int32) → Prop} {c : Nat} {N H : Nat → Int32} (hc : c < 5) (h : ∀ N', (∀ j, j < 88 → N' j = H (88 * c + j)) → post (nI c) (nI c) N') : wp_X10_undo post (nI (c + 1)) N H := by
  refine ⟨fun _ => nm_r (nI_pred c) ?_, fun z => absurd z (nI_ne0 (by omega) (by omega))⟩
  refine q_loop (fun K f i s => wp_X10_undo_L22 K (nI c) H f (nI i) s) (fun i s => ∀ j, j < i → s j = H (88 * c + j)) 88 0 N (by omega) (fun j hj => absurd hj (by omega)) (fun f s hI => pk_le 88 88 (fun _ => h s hI) (fun z => absurd z (by omega))) (fun f i s hi hI hk => ?_)
  have e : (88 : Int32) * nI c + nI i = nI (88 * c + i) := by rw [show (88 : Int32) = nI 88 from rfl, pk_mul, nI_add]
  refine pk_le 88 i (fun z => absurd z (by omega)) (fun _ => ⟨pk_in (88 * c + i) 440 (by omega) (hx := e), pk_in i 88 hi, nm_r (by rw [pk_cl (88 * c + i) e, pk_cl i]) (nm_r (nI_1 i) (hk _ (fun j hj => ?_)))⟩)
  by_cases e2 : j = i
  · rw [e2, pk_us]
  · rw [pk_un e2]; exact hI j (by omega)
-- weights
theorem s_wallT {post : Int32 → Prop} {m a : Nat} (hm : m ≤ 12) (ha : a < m) (h : post 1) : wp_X8_allows post (nI m) (nI a) :=
  pk_lt a 0 (fun z => absurd z (by omega)) (fun _ => pk_le m a (fun z => absurd z (by omega)) (fun _ => h))
theorem s_wallF {post : Int32 → Prop} {m : Nat} {x : Int32} (hx : x < 0 ∨ nI m ≤ x) (h : post 0) : wp_X8_allows post (nI m) x := by
  rcases hx with q | q
  · exact ⟨fun _ => h, fun z => absurd q z⟩
  · exact ⟨fun _ => h, fun _ => ⟨fun _ => h, fun z => absurd q z⟩⟩
theorem q_inw {post : Int32 → Prop} {m : Nat} {x : Int32} (hm1 : 2 ≤ m) (hm : m ≤ 12) (hx : x < 0 ∨ nI m ≤ x) (h : post 0) : wp_X10_in post x 0 (nI m - 1) := by
  rw [q_pred (by omega)]
  refine s_inF ?_ h
  rcases hx with q | q
  · exact Or.inl q
  · exact Or.inr (q_lt_of_le (by omega) (by omega) q)
theorem q_inwT {post : Int32 → Prop} {m a : Nat} (hm : m ≤ 12) (ha : a < m) (h : post 1) : wp_X10_in post (nI a) 0 (nI m - 1) := by
  rw [q_pred (by omega)]
  exact s_inT (b := 0) (by omega) (by omega) (by omega) h
theorem s_plus {post : Int32 → Prop} {m a b : Nat} (hm : m ≤ 12) (ha : a < m) (hb : b < m) (h : post (nI ((a + b) % m))) : wp_X8_plus post (nI m) (nI a) (nI b) := by
  unfold wp_X8_plus
  rw [nI_add]
  refine pk_lt (a + b) m (fun z => ?_) (fun z => ?_)
  · rwa [Nat.mod_eq_of_lt z] at h
  · rw [pk_sub z]
    rwa [Nat.mod_eq_sub_mod z, Nat.mod_eq_of_lt (by omega)] at h
theorem s_minus {post : Int32 → Prop} {m a b : Nat} (hm : m ≤ 12) (ha : a < m) (hb : b < m) (h : post (nI ((a + (m - b)) % m))) : wp_X8_minus post (nI m) (nI a) (nI b) := by
  refine pk_le b a (fun z => ?_) (fun z => ?_)
  · rw [pk_sub z]
    rwa [show a + (m - b) = (a - b) + m by omega, Nat.add_mod_right, Nat.mod_eq_of_lt (by omega)] at h
  · have e : nI a - nI b + nI m = nI (a + (m - b)) := by
      rw [fa_eq, nI_toInt (by omega)]
      have e1 : (nI a - nI b).toInt = (a : Int) - b := pk_sub_toInt (by omega) (by omega)
      rw [fb_addI (by rw [e1, nI_toInt (by omega)]; omega) (by rw [e1, nI_toInt (by omega)]; omega), e1, nI_toInt (by omega)]
      omega
    rw [e]
    rwa [Nat.mod_eq_of_lt (by omega)] at h
