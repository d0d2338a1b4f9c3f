-- rows that are permutations
def qn_pm (n : Nat) (r : Nat → Nat) : Prop := (∀ i, i < n → r i < n) ∧ ∀ i j, i < n → j < n → r i = r j → i = j
def qn_pk (r : Nat → Nat) : Nat → Nat
  | 0 => 0
  | x + 1 => qn_pk r x + 2 ^ (3 * x) * r x
theorem q_pkl {n : Nat} {r : Nat → Nat} (hr : ∀ i, i < n → r i < 8) : ∀ x, x ≤ n → qn_pk r x < 2 ^ (3 * x)
  | 0, _ => Nat.zero_lt_one
  | x + 1, hx => by
    have ih := q_pkl hr x (by omega)
    have h8 := hr x (by omega)
    show qn_pk r x + 2 ^ (3 * x) * r x < 2 ^ (3 * (x + 1))
    have e : 2 ^ (3 * (x + 1)) = 2 ^ (3 * x) * 8 := by rw [show 3 * (x + 1) = 3 * x + 3 by omega, Nat.pow_add]
    rw [e]
    calc qn_pk r x + 2 ^ (3 * x) * r x < 2 ^ (3 * x) + 2 ^ (3 * x) * r x := by omega
      _ = 2 ^ (3 * x) * (r x + 1) := by rw [Nat.mul_succ, Nat.add_comm]
      _ ≤ 2 ^ (3 * x) * 8 := Nat.mul_le_mul_left _ h8
theorem q_pkd {n : Nat} {r : Nat → Nat} (hr : ∀ i, i < n → r i < 8) : ∀ m, m ≤ n → ∀ x, x < m → qn_pk r m / 2 ^ (3 * x) % 8 = r x
  | 0, _ => fun x hx => absurd hx (by omega)
  | m + 1, hm => fun x hx => by
    have h8 := hr m (by omega)
    have hl := q_pkl hr m (by omega)
    show (qn_pk r m + 2 ^ (3 * m) * r m) / 2 ^ (3 * x) % 8 = r x
    by_cases e : x = m
    · subst e
      rw [Nat.add_mul_div_left _ _ (Nat.two_pow_pos _), Nat.div_eq_of_lt hl, Nat.zero_add, Nat.mod_eq_of_lt h8]
    · have e2 : 2 ^ (3 * m) * r m = 2 ^ (3 * x) * (8 * (2 ^ (3 * (m - x - 1)) * r m)) := by
        rw [← Nat.mul_assoc 8, ← Nat.mul_assoc (2 ^ (3 * x)), show (8 : Nat) = 2 ^ 3 from rfl, ← Nat.pow_add, ← Nat.pow_add, show 3 * x + (3 + 3 * (m - x - 1)) = 3 * m by omega]
      rw [e2, Nat.add_mul_div_left _ _ (Nat.two_pow_pos _), Nat.add_mul_mod_self_left]
      exact q_pkd hr m (by omega) x (by omega)
theorem q_shl3 : ∀ x, x < 6 → ∀ v, v < 8 → nI v <<< ((3 * nI x) &&& 31) = nI (2 ^ (3 * x) * v) := by decide +kernel
theorem q_sm3 : ∀ x, x < 6 → (((3 * nI x) &&& 31).toBitVec.smod 32).toNat = 3 * x := by decide +kernel
theorem q_p18 {n : Nat} (hn : n ≤ 6) {a : Nat} (h : a < 2 ^ (3 * n)) : a < 262144 := Nat.lt_of_lt_of_le h (Nat.pow_le_pow_right (n := 2) (i := 3 * n) (j := 18) (by decide) (by omega))
theorem q_img {n x : Nat} {r : Nat → Nat} (hn : n ≤ 6) (hr : ∀ i, i < n → r i < 8) (hx : x < n) : (nI (qn_pk r n) >>> ((3 * nI x) &&& 31)) &&& 7 = nI (r x) := by
  have hl := q_p18 hn (q_pkl hr n (Nat.le_refl n))
  rw [pk_shrN (by omega) _ (3 * x) (q_sm3 x (by omega)), show (7 : Int32) = nI (2 ^ 3 - 1) from rfl, fa_mask]
  exact congrArg nI (q_pkd hr n (Nat.le_refl n) x hx)
theorem q_pks {n x : Nat} {r : Nat → Nat} (hn : n ≤ 6) (hr : ∀ i, i < n → r i < 8) (hx : x < n) : nI (qn_pk r x) ||| (nI (r x) <<< ((3 * nI x) &&& 31)) = nI (qn_pk r (x + 1)) := by
  have hl := q_pkl hr x (by omega)
  rw [q_shl3 x (by omega) _ (hr x hx), fa_or, Nat.or_comm, ← Nat.two_pow_add_eq_or_of_lt hl]
  show nI (2 ^ (3 * x) * r x + qn_pk r x) = nI (qn_pk r x + 2 ^ (3 * x) * r x)
  rw [Nat.add_comm]
theorem q_pm8 {n : Nat} {r : Nat → Nat} (hn : n ≤ 6) (h : qn_pm n r) : ∀ i, i < n → r i < 8 := fun i hi => by
  have := h.1 i hi
  omega
-- the rank, by masks
def qn_bc (x0 : Int32) : Int32 :=
  let x1 := x0 - (((x0.toUInt32 >>> ((1 : Int32).toUInt32 &&& Int32.toUInt32 31)).toInt32) &&& 1431655765)
  let x2 := (x1 &&& 858993459) + (((x1.toUInt32 >>> ((2 : Int32).toUInt32 &&& Int32.toUInt32 31)).toInt32) &&& 858993459)
  let x3 := (x2 + ((x2.toUInt32 >>> ((4 : Int32).toUInt32 &&& Int32.toUInt32 31)).toInt32)) &&& 252645135
  let x4 := x3 + ((x3.toUInt32 >>> ((8 : Int32).toUInt32 &&& Int32.toUInt32 31)).toInt32)
  let x5 := x4 + ((x4.toUInt32 >>> ((16 : Int32).toUInt32 &&& Int32.toUInt32 31)).toInt32)
  x5 &&& 63
theorem s_bc {post : Int32 → Prop} {x : Int32} (h : post (qn_bc x)) : wp_J6_bitCount_0f7a4 post x := nm_e (nm_e (nm_e (nm_e (nm_e h))))
theorem q_bc : ∀ M, M < 64 → ∀ v, v < 6 → qn_bc (nI M &&& ((1 <<< (nI v &&& 31)) - 1)) = nI (fb_ct M.testBit v) := by decide +kernel
theorem q_ct1 (j : Nat) : ∀ v, fb_ct (fun k => decide (k = j)) v = if j < v then 1 else 0
  | 0 => by rw [if_neg (by omega)]; rfl
  | v + 1 => by
    rw [fb_ct_succ, q_ct1 j v]
    by_cases e : v = j
    · rw [if_neg (by omega), if_pos (decide_eq_true e), if_pos (by omega)]
    · rw [if_neg (show ¬ decide (v = j) = true by rw [decide_eq_false e]; decide)]
      by_cases e2 : j < v
      · rw [if_pos e2, if_pos (by omega)]
      · rw [if_neg e2, if_neg (by omega)]
def qn_ms (r : Nat → Nat) : Nat → Nat
  | 0 => 0
  | x + 1 => qn_ms r x ||| 2 ^ r x
theorem q_ms (r : Nat → Nat) : ∀ x, qn_mk x r (qn_ms r x)
  | 0 => q_mk0 r
  | x + 1 => q_mks (q_ms r x)
theorem q_ctM {n v : Nat} {r : Nat → Nat} (hr : ∀ i j, i < n → j < n → r i = r j → i = j) : ∀ x, x ≤ n → fb_ct (qn_ms r x).testBit v = fb_ct (fun i => decide (r i < v)) x
  | 0, _ => fb_ct_zero.mpr (fun k _ => Nat.zero_testBit k)
  | x + 1, hx => by
    have e : ∀ k, k < v → (qn_ms r (x + 1)).testBit k = ((qn_ms r x).testBit k || decide (k = r x)) := fun k _ => fb_bit_set _ _ _
    rw [fb_ct_cong e, fb_ct_or (p := (qn_ms r x).testBit) (q := fun k => decide (k = r x)), q_ctM hr x (by omega), q_ct1, fb_ct_succ]
    · by_cases q : r x < v
      · rw [if_pos q, if_pos (decide_eq_true q)]
      · rw [if_neg q, if_neg (by rw [decide_eq_false q]; decide)]
    · rintro k _ ⟨h1, h2⟩
      obtain ⟨a, ha, e2⟩ := ((q_ms r x) k).mp h1
      have e3 : k = r x := of_decide_eq_true h2
      have := hr a x (by omega) (by omega) (e2.trans e3)
      omega
theorem q_low {n v : Nat} {r : Nat → Nat} (h : qn_pm n r) (hv : v ≤ n) : fb_ct (fun i => decide (r i < v)) n = v := by
  rw [← q_ctM h.2 n (Nat.le_refl n), (q_mkfull h.1 (q_ms r n)).mpr h.2]
  refine fb_ct_all.mpr (fun k hk => ?_)
  rw [Nat.testBit_two_pow_sub_one]
  exact decide_eq_true (by omega)
theorem q_lsE {n x : Nat} {r : Nat → Nat} (h : qn_pm n r) (hx : x < n) : fb_ct (qn_ms r x).testBit (r x) + qn_ls n r x n = r x := by
  have h1 := q_low (v := r x) h (Nat.le_of_lt (h.1 x hx))
  have h2 := fb_ct_split (fun i => decide (r i < r x)) (x + 1) (n - (x + 1))
  rw [show x + 1 + (n - (x + 1)) = n by omega, h1, fb_ct_succ, if_neg (show ¬ decide (r x < r x) = true by rw [decide_eq_false (by omega)]; decide), Nat.add_zero, ← q_ctM h.2 x (by omega)] at h2
  have h3 := fb_ct_split (fun i => decide (x < i) && decide (r i < r x)) (x + 1) (n - (x + 1))
  rw [show x + 1 + (n - (x + 1)) = n by omega] at h3
  have h4 := q_ls0 n r x (x + 1) (Nat.le_refl _)
  have h5 : fb_ct (fun k => decide (x < x + 1 + k) && decide (r (x + 1 + k) < r x)) (n - (x + 1)) = fb_ct (fun k => decide (r (x + 1 + k) < r x)) (n - (x + 1)) := fb_ct_cong (fun k _ => by rw [decide_eq_true (show x < x + 1 + k by omega), Bool.true_and])
  unfold qn_ls at h4 ⊢
  omega
theorem s_rankOf {post : Int32 → Prop} {n : Nat} {r : Nat → Nat} (hn : n ≤ 6) (h : qn_pm n r) (hp : post (nI (qn_rk n r n))) : wp_X4_rankOf post (nI (qn_pk r n)) (nI n) := by
  have h8 := q_pm8 hn h
  refine pk_loop (σ := Unit) (fun f i _ => wp_X4_rankOf_L7 (fun x => post x) (nI (qn_pk r n)) (nI n) f (nI (qn_rk n r i)) (nI (qn_ms r i)) (nI i)) (fun _ _ => True) n 0 () (by omega) trivial (fun f _ _ => pk_le n n (fun _ => hp) (fun z => absurd z (by omega))) (fun f x _ hx _ hk => pk_le n x (fun z => absurd z (by omega)) (fun _ => ?_))
  unfold wp_X4_imageOf
  rw [q_img hn h8 hx]
  have hM : qn_ms r x < 64 := q_mklt (m := 6) (fun a ha => Nat.lt_of_lt_of_le (h.1 a (by omega)) hn) (q_ms r x)
  have hrx := h.1 x hx
  refine s_bc ?_
  rw [q_bc _ hM _ (by omega)]
  have hE := q_lsE h hx
  refine nm_r (e' := nI (qn_ls n r x n)) ?_ (nm_r (e' := nI (qn_rk n r (x + 1))) ?_ (nm_r (e' := nI (qn_ms r (x + 1))) ?_ (nm_r (nI_1 x) (hk () trivial))))
  · rw [pk_sub (by omega)]
    exact congrArg nI (by omega)
  · rw [pk_sub (by omega), pk_mul, nI_add]
    rfl
  · rw [q_sh1 _ (by omega), fa_or]
    rfl
theorem q_rkid (n : Nat) : ∀ k, k ≤ n → qn_rk n (fun x => x) k = 0
  | 0, _ => rfl
  | k + 1, hk => by
    show qn_rk n (fun x => x) k * (n - k) + qn_ls n (fun x => x) k n = 0
    rw [q_rkid n k (by omega), Nat.zero_mul, Nat.zero_add]
    refine fb_ct_zero.mpr (fun i _ => ?_)
    rw [Bool.and_eq_false_iff]
    by_cases e : k < i
    · exact Or.inr (decide_eq_false (show ¬ i < k by omega))
    · exact Or.inl (decide_eq_false e)
-- the search: so many rows, the rows, the ranks that were seen
def qn_inc (n : Nat) (r : Nat → Nat) (s : Nat × (Nat → Nat → Nat) × (Nat → Bool)) : Nat × (Nat → Nat → Nat) × (Nat → Bool) := if s.2.2 (qn_rk n r n) then s else (s.1 + 1, (fun a => if a = s.1 then r else s.2.1 a), fun q => if q = qn_rk n r n then true else s.2.2 q)
def qn_ro (n : Nat) (t : Nat → Nat → Nat) (k : Nat) (s : Nat × (Nat → Nat → Nat) × (Nat → Bool)) : Nat → Nat × (Nat → Nat → Nat) × (Nat → Bool)
  | 0 => s
  | y + 1 => qn_inc n (fun x => t ((qn_ro n t k s y).2.1 k x) y) (qn_ro n t k s y)
def qn_s0 : Nat × (Nat → Nat → Nat) × (Nat → Bool) := (1, fun _ x => x, fun q => decide (q = 0))
def qn_ru (n : Nat) (t : Nat → Nat → Nat) : Nat → Nat × (Nat → Nat → Nat) × (Nat → Bool)
  | 0 => qn_s0
  | k + 1 => qn_ro n t k (qn_ru n t k) n
def qn_Vs (n : Nat) (s : Nat × (Nat → Nat → Nat) × (Nat → Bool)) : Prop := (∀ a, a < s.1 → qn_pm n (s.2.1 a)) ∧ s.1 = fb_ct s.2.2 720
theorem q_Vinc {n : Nat} {r : Nat → Nat} {s : Nat × (Nat → Nat → Nat) × (Nat → Bool)} (hn : n ≤ 6) (hr : qn_pm n r) (hs : qn_Vs n s) : qn_Vs n (qn_inc n r s) ∧ s.1 ≤ (qn_inc n r s).1 := by
  unfold qn_inc
  by_cases e : s.2.2 (qn_rk n r n) = true
  · rw [if_pos e]
    exact ⟨hs, Nat.le_refl _⟩
  · rw [if_neg e]
    refine ⟨⟨fun a ha => ?_, ?_⟩, Nat.le_succ _⟩
    · show qn_pm n (if a = s.1 then r else s.2.1 a)
      by_cases q : a = s.1
      · rw [if_pos q]; exact hr
      · rw [if_neg q]
        have ha2 : a < s.1 + 1 := ha
        exact hs.1 a (by omega)
    · show s.1 + 1 = fb_ct (fun q => if q = qn_rk n r n then true else s.2.2 q) 720
      have h1 := fb_ct_upd s.2.2 true (q_rk720 (r := r) hn (Nat.le_refl n))
      rw [if_neg e, if_pos rfl] at h1
      rw [hs.2]
      omega
theorem q_c720 {n : Nat} {s : Nat × (Nat → Nat → Nat) × (Nat → Bool)} {q : Nat} (hs : qn_Vs n s) (hq : q < 720) (e : s.2.2 q = false) : s.1 < 720 := by
  have h1 := fb_ct_le s.2.2 720
  have h2 : fb_ct s.2.2 720 ≠ 720 := fun h => absurd ((fb_ct_all.mp h q hq).symm.trans e) (by decide)
  rw [hs.2]
  omega
theorem q_pmc {n y : Nat} {t : Nat → Nat → Nat} {r : Nat → Nat} (ht : ∀ x y, x < n → y < n → t x y < n) (hi : ∀ y, y < n → qn_inj n t y) (hy : y < n) (h : qn_pm n r) : qn_pm n (fun x => t (r x) y) :=
  ⟨fun i hi2 => ht _ _ (h.1 i hi2) hy, fun i j h1 h2 e => h.2 i j h1 h2 (hi y hy _ _ (h.1 i h1) (h.1 j h2) e)⟩
theorem q_Vro {n k : Nat} {t : Nat → Nat → Nat} {s : Nat × (Nat → Nat → Nat) × (Nat → Bool)} (hn : n ≤ 6) (ht : ∀ x y, x < n → y < n → t x y < n) (hi : ∀ y, y < n → qn_inj n t y) (hs : qn_Vs n s) (hk : k < s.1) : ∀ y, y ≤ n → qn_Vs n (qn_ro n t k s y) ∧ s.1 ≤ (qn_ro n t k s y).1
  | 0, _ => ⟨hs, Nat.le_refl _⟩
  | y + 1, hy => by
    obtain ⟨h1, h2⟩ := q_Vro hn ht hi hs hk y (by omega)
    obtain ⟨h3, h4⟩ := q_Vinc hn (q_pmc ht hi (show y < n by omega) (h1.1 k (by omega))) h1
    exact ⟨h3, Nat.le_trans h2 h4⟩
theorem q_V0 (n : Nat) : qn_Vs n qn_s0 := by
  refine ⟨fun a _ => ⟨fun i hi => hi, fun i j _ _ e => e⟩, ?_⟩
  show 1 = fb_ct (fun q => decide (q = 0)) 720
  rw [q_ct1]
  rfl
/-- as long as rows are left -/
theorem q_Vru {n : Nat} {t : Nat → Nat → Nat} (hn : n ≤ 6) (ht : ∀ x y, x < n → y < n → t x y < n) (hi : ∀ y, y < n → qn_inj n t y) : ∀ k, (∀ j, j < k → j < (qn_ru n t j).1) → qn_Vs n (qn_ru n t k)
  | 0, _ => q_V0 n
  | k + 1, h => (q_Vro hn ht hi (q_Vru hn ht hi k (fun j hj => h j (by omega))) (h k (by omega)) n (Nat.le_refl n)).1
def qn_ee (n : Nat) (t : Nat → Nat → Nat) : Nat := fa_first (fun k => decide ((qn_ru n t k).1 ≤ k)) 720
theorem q_eeN {n i : Nat} {t : Nat → Nat → Nat} (h : i < qn_ee n t) : i < (qn_ru n t i).1 := by
  have h1 := of_decide_eq_false (fa_first_no (fun k => decide ((qn_ru n t k).1 ≤ k)) 720 i h)
  omega
theorem q_eeY {n : Nat} {t : Nat → Nat → Nat} (hn : n ≤ 6) (ht : ∀ x y, x < n → y < n → t x y < n) (hi : ∀ y, y < n → qn_inj n t y) : (qn_ru n t (qn_ee n t)).1 ≤ qn_ee n t := by
  by_cases e : qn_ee n t < 720
  · exact of_decide_eq_true (fa_first_yes (fun k => decide ((qn_ru n t k).1 ≤ k)) 720 e)
  · have h1 := (q_Vru hn ht hi (qn_ee n t) (fun j hj => q_eeN hj)).2
    have h2 := fb_ct_le (qn_ru n t (qn_ee n t)).2.2 720
    omega
theorem q_ee720 (n : Nat) (t : Nat → Nat → Nat) : qn_ee n t ≤ 720 := fa_first_le _ _
-- the class
def qn_xA (n : Nat) (s : Nat × (Nat → Nat → Nat) × (Nat → Bool)) (mem ism : Nat → Int32) : Prop := (∀ a, a < s.1 → mem a = nI (qn_pk (s.2.1 a) n)) ∧ ∀ q, q < 720 → ism q = nI (if s.2.2 q then 1 else 0)
theorem s_incl {post : Int32 → (Nat → Int32) → (Nat → Int32) → Prop} {n : Nat} {r : Nat → Nat} {s : Nat × (Nat → Nat → Nat) × (Nat → Bool)} {mem ism : Nat → Int32} (hn : n ≤ 6) (hr : qn_pm n r) (hs : ∀ q, q < 720 → s.2.2 q = false → s.1 < 720) (hA : qn_xA n s mem ism) (h : ∀ mem' ism', qn_xA n (qn_inc n r s) mem' ism' → post (nI (qn_inc n r s).1) mem' ism') : wp_X4_include post (nI s.1) mem ism (nI (qn_pk r n)) (nI n) := by
  have h720 := q_rk720 (r := r) hn (Nat.le_refl n)
  refine s_rankOf hn hr (pk_lt (qn_rk n r n) 0 (fun z => absurd z (by omega)) (fun _ => pk_le 720 (qn_rk n r n) (fun z => absurd z (by omega)) (fun _ => ⟨pk_in (qn_rk n r n) 720 h720, ?_⟩)))
  rw [pk_cl (qn_rk n r n), hA.2 _ h720]
  cases e : s.2.2 (qn_rk n r n) with
  | true =>
    have e1 : qn_inc n r s = s := if_pos e
    rw [e1] at h
    exact ⟨fun _ => h mem ism hA, fun z => absurd z (by decide)⟩
  | false =>
    have e1 : qn_inc n r s = (s.1 + 1, (fun a => if a = s.1 then r else s.2.1 a), fun q => if q = qn_rk n r n then true else s.2.2 q) := if_neg (by rw [e]; decide)
    rw [e1] at h
    have hc := hs _ h720 e
    refine ⟨fun z => absurd rfl z, fun _ => pk_le 720 s.1 (fun z => absurd z (by omega)) (fun _ => ⟨pk_in (qn_rk n r n) 720 h720, nm_e ⟨pk_in s.1 720 hc, nm_r (by rw [pk_cl s.1]) (nm_r (nI_1 s.1) (h _ _ ⟨fun a ha => ?_, fun q hq => ?_⟩))⟩⟩)⟩
    · show upd mem s.1 (nI (qn_pk r n)) a = nI (qn_pk (if a = s.1 then r else s.2.1 a) n)
      by_cases q : a = s.1
      · rw [if_pos q, q, pk_us]
      · rw [if_neg q, pk_un q]
        have ha2 : a < s.1 + 1 := ha
        exact hA.1 a (by omega)
    · show upd ism (qn_rk n r n) _ q = nI (if (if q = qn_rk n r n then true else s.2.2 q) = true then 1 else 0)
      by_cases q2 : q = qn_rk n r n
      · rw [if_pos q2, q2, pk_us]
        rfl
      · rw [if_neg q2, pk_un q2]
        exact hA.2 q hq
theorem s_ident {post : Int32 → Prop} {n : Nat} (hn : n ≤ 6) (h : post (nI (qn_pk (fun x => x) n))) : wp_X4_identity post (nI n) :=
  pk_loop (σ := Unit) (fun f i _ => wp_X4_identity_L4 (fun x => post x) (nI n) f (nI (qn_pk (fun x => x) i)) (nI i)) (fun _ _ => True) n 0 () (by omega) trivial (fun f _ _ => pk_le n n (fun _ => h) (fun z => absurd z (by omega))) (fun f x _ hx _ hk => pk_le n x (fun z => absurd z (by omega)) (fun _ => nm_r (q_pks (n := n) (r := fun x => x) hn (fun i hi => Nat.lt_trans (Nat.lt_of_lt_of_le hi hn) (by decide)) hx) (nm_r (nI_1 x) (hk () trivial))))
theorem s_follow {post : Int32 → Prop} {n y : Nat} {t : Nat → Nat → Nat} {r : Nat → Nat} {p : Nat → Int32} (hn : n ≤ 6) (ht : ∀ x y, x < n → y < n → t x y < n) (hp : qn_tb n 0 t p) (hr : qn_pm n r) (hy : y < n) (h : post (nI (qn_pk (fun x => t (r x) y) n))) : wp_X4_followedByColumn post (nI n) p (nI (qn_pk r n)) (nI y) := by
  have h8 := q_pm8 hn hr
  have h8' : ∀ i, i < n → (fun x => t (r x) y) i < 8 := fun i hi => Nat.lt_trans (Nat.lt_of_lt_of_le (ht _ _ (hr.1 i hi) hy) hn) (by decide)
  refine pk_loop (σ := Unit) (fun f i _ => wp_X4_followedByColumn_L5 (fun x => post x) (nI (qn_pk r n)) (nI y) (nI n) p f (nI (qn_pk (fun x => t (r x) y) i)) (nI i)) (fun _ _ => True) n 0 () (by omega) trivial (fun f _ _ => pk_le n n (fun _ => h) (fun z => absurd z (by omega))) (fun f x _ hx _ hk => pk_le n x (fun z => absurd z (by omega)) (fun _ => ?_))
  unfold wp_X4_imageOf
  rw [q_img hn h8 hx]
  exact s_product hn hp (hr.1 x hx) hy (nm_r (q_pks hn h8' hx) (nm_r (nI_1 x) (hk () trivial)))
theorem s_order {post : Int32 → Int32 → (Nat → Int32) → (Nat → Int32) → Prop} {n : Nat} {t : Nat → Nat → Nat} {mem ism p : Nat → Int32} (hn1 : 1 ≤ n) (hn : n ≤ 6) (ht : ∀ x y, x < n → y < n → t x y < n) (hi : ∀ y, y < n → qn_inj n t y) (hp : qn_tb n 0 t p) (h : ∀ mem' ism', post (nI (qn_ru n t (qn_ee n t)).1) (nI (qn_ru n t (qn_ee n t)).1) mem' ism') : wp_X4_orderFor post mem ism (nI n) p := by
  have hid : qn_pm n (fun x => x) := ⟨fun i hi => hi, fun i j _ _ e => e⟩
  refine q_loop (fun K f i s => wp_X4_orderFor_L2 K f (nI i) s) (fun i s => ∀ j, j < i → s j = 0) 720 0 ism (by omega) (fun j hj => absurd hj (by omega)) (fun f s hI => pk_le 720 720 (fun _ => s_ident hn ?_) (fun z => absurd z (by omega))) (fun f i s hi2 hI hk => pk_le 720 i (fun z => absurd z (by omega)) (fun _ => ⟨pk_in i 720 hi2, nm_r (by rw [pk_cl i]) (nm_r (nI_1 i) (hk _ (fun j hj => ?_)))⟩))
  · refine s_incl (s := (0, (fun _ x => x), fun _ => false)) hn hid (fun _ _ _ => by decide) ⟨fun a ha => absurd ha (Nat.not_lt_zero a), fun q hq => hI q hq⟩ (fun mem' ism' hA => ?_)
    have e0 : qn_inc n (fun x => x) (0, (fun _ x => x), fun _ => false) = qn_s0 := by
      show (if false = true then _ else _) = _
      rw [if_neg (by decide), q_rkid n n (Nat.le_refl n)]
      unfold qn_s0
      refine congrArg (Prod.mk 1) (Prod.ext ?_ ?_)
      · funext a
        show (if a = 0 then fun x => x else fun x => x) = _
        rw [ite_self]
      · funext q
        show (if q = 0 then true else false) = decide (q = 0)
        by_cases q0 : q = 0
        · rw [if_pos q0, decide_eq_true q0]
        · rw [if_neg q0, decide_eq_false q0]
    rw [e0] at hA ⊢
    refine pk_loop (σ := (Nat → Int32) × (Nat → Int32)) (fun f i b => wp_X4_orderFor_L44 (fun x y z => post x x y z) (nI n) p f (nI i) (nI (qn_ru n t i).1) b.1 b.2) (fun i b => qn_xA n (qn_ru n t i) b.1 b.2) (qn_ee n t) 0 (mem', ism') (Nat.zero_le _) hA (fun f b hJ => ?_) (fun f i b hi2 hJ hk => ?_)
    · have h1 := q_eeY hn ht hi
      have h2 := q_ee720 n t
      exact pk_le (qn_ru n t (qn_ee n t)).1 (qn_ee n t) (fun _ => h _ _) (fun z => absurd z (by omega))
    · have h1 := q_eeN hi2
      have h2 := q_ee720 n t
      have hV := q_Vru hn ht hi i (fun j hj => q_eeN (by omega))
      have h3 : (qn_ru n t i).1 ≤ 720 := by rw [hV.2]; exact fb_ct_le _ _
      refine pk_le (qn_ru n t i).1 i (fun z => absurd z (by omega)) (fun _ => pk_le 720 i (fun z => absurd z (by omega)) (fun _ => ?_))
      refine q_loop (σ := (Nat → Int32) × (Nat → Int32)) (fun K f y b => wp_X4_orderFor_L61 K (nI i) (nI n) p f (nI y) (nI (qn_ro n t i (qn_ru n t i) y).1) b.1 b.2) (fun y b => qn_xA n (qn_ro n t i (qn_ru n t i) y) b.1 b.2) n 0 b (Nat.zero_le _) hJ (fun f b hL => pk_le n n (fun _ => nm_r (nI_1 i) (hk b hL)) (fun z => absurd z (by omega))) (fun f y b hy hL hk2 => pk_le n y (fun z => absurd z (by omega)) (fun _ => ⟨pk_in i 720 (by omega), ?_⟩))
      obtain ⟨v1, v2⟩ := q_Vro hn ht hi hV h1 y (by omega)
      rw [pk_cl i, hL.1 i (by omega)]
      have hpm := v1.1 i (by omega)
      exact s_follow hn ht hp hpm hy (s_incl hn (q_pmc ht hi hy hpm) (fun q hq e => q_c720 v1 hq e) hL (fun mem2 ism2 hA2 => nm_r (nI_1 y) (hk2 (mem2, ism2) hA2)))
  · by_cases e : j = i
    · rw [e, pk_us]
      rfl
    · rw [pk_un e]; exact hI j (by omega)
-- the reference
def qn_mA (n : Nat) (s : Nat × (Nat → Nat → Nat) × (Nat → Bool)) (gr se : Nat → Int32) : Prop := (∀ a x, a < s.1 → x < n → gr (6 * a + x) = nI (s.2.1 a x)) ∧ ∀ q, q < 720 → se q = nI (if s.2.2 q then 1 else 0)
theorem s_mRow {K : (Nat → Int32) → Prop} {n k y : Nat} {t : Nat → Nat → Nat} {r : Nat → Nat} {N gr row : Nat → Int32} (hn : n ≤ 6) (ht : ∀ x y, x < n → y < n → t x y < n) (hp : qn_tb n 0 t N) (hk : k < 720) (hg : ∀ x, x < n → gr (6 * k + x) = nI (r x)) (hr : qn_pm n r) (hy : y < n) (h : ∀ row', (∀ i, i < n → row' i = nI (t (r i) y)) → K row') : ∃ f, wp_X10_innerGroupOrder_L90 K (nI n) (nI k) (nI y) N gr f 0 row := by
  refine pk_loop (fun f i s => wp_X10_innerGroupOrder_L90 K (nI n) (nI k) (nI y) N gr f (nI i) s) (fun i s => ∀ j, j < i → s j = nI (t (r j) y)) n 0 row (by omega) (fun j hj => absurd hj (by omega)) (fun f s hI => pk_le n n (fun _ => h s hI) (fun z => absurd z (by omega))) (fun f x s hx hI hk2 => pk_le n x (fun z => absurd z (by omega)) (fun _ => ⟨pk_in (6 * k + x) 4320 (by omega) (hx := q_ix k x), ?_⟩))
  rw [pk_cl (6 * k + x) (q_ix k x), hg x hx]
  refine s_of hn hp (hr.1 x hx) hy ⟨pk_in x 6 (by omega), nm_r (by rw [pk_cl x]) (nm_r (nI_1 x) (hk2 _ (fun j hj => ?_)))⟩
  by_cases e : j = x
  · rw [e, pk_us]
  · rw [pk_un e]; exact hI j (by omega)
theorem s_mPut {K : (Nat → Int32) → Prop} {n c : Nat} {r : Nat → Nat} {gr row : Nat → Int32} (hn : n ≤ 6) (hc : c < 720) (hr : ∀ i, i < n → row i = nI (r i)) (h : ∀ gr', (∀ x, x < n → gr' (6 * c + x) = nI (r x)) → (∀ j, j < 6 * c → gr' j = gr j) → K gr') : ∃ f, wp_X10_innerGroupOrder_L155 K (nI n) (nI c) row f 0 gr := by
  refine pk_loop (fun f i s => wp_X10_innerGroupOrder_L155 K (nI n) (nI c) row f (nI i) s) (fun i s => (∀ x, x < i → s (6 * c + x) = nI (r x)) ∧ ∀ j, j < 6 * c → s j = gr j) n 0 gr (by omega) ⟨fun x hx => absurd hx (by omega), fun _ _ => rfl⟩ (fun f s hI => pk_le n n (fun _ => h s hI.1 hI.2) (fun z => absurd z (by omega))) (fun f x s hx hI hk => pk_le n x (fun z => absurd z (by omega)) (fun _ => ⟨pk_in x 6 (by omega), pk_in (6 * c + x) 4320 (by omega) (hx := q_ix c x), nm_r (e' := upd s (6 * c + x) (nI (r x))) (by rw [pk_cl (6 * c + x) (q_ix c x), pk_cl x, hr x hx]) (nm_r (nI_1 x) (hk _ ⟨fun j hj => ?_, fun j hj => ?_⟩))⟩))
  · by_cases e : j = x
    · rw [e, pk_us]
    · rw [pk_un (by omega)]; exact hI.1 j (by omega)
  · rw [pk_un (by omega)]; exact hI.2 j hj
theorem s_mOrder {post : Int32 → (Nat → Int32) → (Nat → Int32) → (Nat → Int32) → (Nat → Int32) → Prop} {n : Nat} {t : Nat → Nat → Nat} {N o row se gr : Nat → Int32} (hn1 : 1 ≤ n) (hn : n ≤ 6) (ht : ∀ x y, x < n → y < n → t x y < n) (hinj : ∀ y, y < n → qn_inj n t y) (h84 : N 84 = nI n) (hp : qn_tb n 0 t N) (h : ∀ o' row' se' gr', post (nI (qn_ru n t (qn_ee n t)).1) o' row' se' gr') : wp_X10_innerGroupOrder post N o row se gr := by
  refine s_column hn ht h84 hp (fun b o' hb ho => ?_)
  rcases hb with ⟨rfl, -⟩ | ⟨y, hy, -, hni, -⟩
  rotate_left
  · exact absurd (hinj y hy) hni
  refine ⟨fun _ => ⟨pk_in 84 88 (by omega), nm_r (e' := nI n) (by rw [q84, h84]) ?_⟩, fun z => absurd rfl z⟩
  refine q_loop (fun K f i s => wp_X10_innerGroupOrder_L22 K f (nI i) s) (fun i s => ∀ j, j < i → s j = 0) 720 0 se (by omega) (fun j hj => absurd hj (by omega)) (fun f se1 hI => pk_le 720 720 (fun _ => ?_) (fun z => absurd z (by omega))) (fun f i s hi2 hI hk => pk_le 720 i (fun z => absurd z (by omega)) (fun _ => ⟨pk_in i 720 hi2, nm_r (by rw [pk_cl i]) (nm_r (nI_1 i) (hk _ (fun j hj => ?_)))⟩))
  rotate_left
  · by_cases e : j = i
    · rw [e, pk_us]
    · rw [pk_un e]; exact hI j (by omega)
  refine q_loop (fun K f i s => wp_X10_innerGroupOrder_L44 K (nI n) f (nI i) s) (fun i s => ∀ j, j < i → s j = nI j) n 0 gr (by omega) (fun j hj => absurd hj (by omega)) (fun f gr1 hG => pk_le n n (fun _ => ⟨pk_in 0 720 (by omega), nm_r (e' := upd se1 0 1) rfl ?_⟩) (fun z => absurd z (by omega))) (fun f i s hi2 hG hk => pk_le n i (fun z => absurd z (by omega)) (fun _ => ⟨pk_in i 4320 (by omega), nm_r (by rw [pk_cl i]) (nm_r (nI_1 i) (hk _ (fun j hj => ?_)))⟩))
  rotate_left
  · by_cases e : j = i
    · rw [e, pk_us]
    · rw [pk_un e]; exact hG j (by omega)
  have hA : qn_mA n qn_s0 gr1 (upd se1 0 1) := by
    refine ⟨fun a x ha hx => ?_, fun q hq => ?_⟩
    · have ha2 : a < 1 := ha
      have ea : a = 0 := by omega
      rw [ea, Nat.mul_zero, Nat.zero_add]
      exact hG x hx
    · show upd se1 0 1 q = nI (if decide (q = 0) = true then 1 else 0)
      by_cases e : q = 0
      · rw [e, pk_us, if_pos (decide_eq_true rfl)]
        rfl
      · rw [pk_un e, if_neg (by rw [decide_eq_false e]; decide)]
        exact hI q hq
  refine pk_loop (σ := (Nat → Int32) × (Nat → Int32) × (Nat → Int32)) (fun f i b => wp_X10_innerGroupOrder_L73 (fun x y z w => post x o' y z w) (nI n) N f (nI (qn_ru n t i).1) (nI i) b.1 b.2.1 b.2.2) (fun i b => qn_mA n (qn_ru n t i) b.2.2 b.2.1) (qn_ee n t) 0 (row, upd se1 0 1, gr1) (Nat.zero_le _) hA (fun f b hJ => ?_) (fun f i b hi2 hJ hk => ?_)
  · have h1 := q_eeY hn ht hinj
    have h2 := q_ee720 n t
    exact pk_le (qn_ru n t (qn_ee n t)).1 (qn_ee n t) (fun _ => h _ _ _ _) (fun z => absurd z (by omega))
  · have h1 := q_eeN hi2
    have h2 := q_ee720 n t
    have hV := q_Vru hn ht hinj i (fun j hj => q_eeN (by omega))
    have h3 : (qn_ru n t i).1 ≤ 720 := by rw [hV.2]; exact fb_ct_le _ _
    refine pk_le (qn_ru n t i).1 i (fun z => absurd z (by omega)) (fun _ => ?_)
    refine q_loop (σ := (Nat → Int32) × (Nat → Int32) × (Nat → Int32)) (fun K f y b => wp_X10_innerGroupOrder_L81 K (nI n) (nI i) N f (nI (qn_ro n t i (qn_ru n t i) y).1) (nI y) b.1 b.2.1 b.2.2) (fun y b => qn_mA n (qn_ro n t i (qn_ru n t i) y) b.2.2 b.2.1) n 0 b (Nat.zero_le _) hJ (fun f b hL => pk_le n n (fun _ => nm_r (nI_1 i) (hk b hL)) (fun z => absurd z (by omega))) (fun f y b hy hL hk2 => pk_le n y (fun z => absurd z (by omega)) (fun _ => ?_))
    obtain ⟨v1, v2⟩ := q_Vro hn ht hinj hV h1 y (by omega)
    have hpm := v1.1 i (by omega)
    have hpc := q_pmc ht hinj hy hpm
    have hr6 : ∀ j, j < n → (fun x => t ((qn_ro n t i (qn_ru n t i) y).2.1 i x) y) j < 6 := fun j hj => Nat.lt_of_lt_of_le (hpc.1 j hj) hn
    have h720 := q_rk720 (n := n) (r := fun x => t ((qn_ro n t i (qn_ru n t i) y).2.1 i x) y) hn (Nat.le_refl n)
    have hro : qn_ro n t i (qn_ru n t i) (y + 1) = qn_inc n (fun x => t ((qn_ro n t i (qn_ru n t i) y).2.1 i x) y) (qn_ro n t i (qn_ru n t i) y) := rfl
    refine s_mRow hn ht hp (by omega) (fun x hx => hL.1 i x (by omega) hx) hpm hy (fun row' hrow => s_rank hn hr6 hrow ⟨pk_in _ 720 h720, ?_⟩)
    rw [pk_cl (qn_rk n (fun x => t ((qn_ro n t i (qn_ru n t i) y).2.1 i x) y) n), hL.2 _ h720]
    cases e : (qn_ro n t i (qn_ru n t i) y).2.2 (qn_rk n (fun x => t ((qn_ro n t i (qn_ru n t i) y).2.1 i x) y) n) with
    | true =>
      have e1 : qn_inc n (fun x => t ((qn_ro n t i (qn_ru n t i) y).2.1 i x) y) (qn_ro n t i (qn_ru n t i) y) = qn_ro n t i (qn_ru n t i) y := if_pos e
      refine ⟨fun _ => nm_r (nI_1 y) ?_, fun z => absurd z (by decide)⟩
      have h9 := hk2 (row', b.2.1, b.2.2) (by rw [hro, e1]; exact hL)
      dsimp only at h9
      rw [hro, e1] at h9
      exact h9
    | false =>
      have e1 : qn_inc n (fun x => t ((qn_ro n t i (qn_ru n t i) y).2.1 i x) y) (qn_ro n t i (qn_ru n t i) y) = ((qn_ro n t i (qn_ru n t i) y).1 + 1, (fun a => if a = (qn_ro n t i (qn_ru n t i) y).1 then (fun x => t ((qn_ro n t i (qn_ru n t i) y).2.1 i x) y) else (qn_ro n t i (qn_ru n t i) y).2.1 a), fun q => if q = qn_rk n (fun x => t ((qn_ro n t i (qn_ru n t i) y).2.1 i x) y) n then true else (qn_ro n t i (qn_ru n t i) y).2.2 q) := if_neg (by rw [e]; decide)
      have hc := q_c720 v1 h720 e
      refine ⟨fun z => absurd rfl z, fun _ => ⟨pk_in _ 720 h720, nm_e (s_mPut hn hc hrow (fun gr' hg1 hg2 => nm_r (nI_1 _) (nm_r (nI_1 y) ?_)))⟩⟩
      have h9 := hk2 (row', upd b.2.1 (qn_rk n (fun x => t ((qn_ro n t i (qn_ru n t i) y).2.1 i x) y) n) 1, gr') (by
        rw [hro, e1]
        refine ⟨fun a x ha hx => ?_, fun q hq => ?_⟩
        · show gr' (6 * a + x) = nI ((if a = (qn_ro n t i (qn_ru n t i) y).1 then (fun x => t ((qn_ro n t i (qn_ru n t i) y).2.1 i x) y) else (qn_ro n t i (qn_ru n t i) y).2.1 a) x)
          have ha2 : a < (qn_ro n t i (qn_ru n t i) y).1 + 1 := ha
          by_cases ea : a = (qn_ro n t i (qn_ru n t i) y).1
          · rw [if_pos ea, ea]
            exact hg1 x hx
          · rw [if_neg ea, hg2 _ (by omega)]
            exact hL.1 a x (by omega) hx
        · show upd b.2.1 _ 1 q = nI (if (if q = qn_rk n (fun x => t ((qn_ro n t i (qn_ru n t i) y).2.1 i x) y) n then true else (qn_ro n t i (qn_ru n t i) y).2.2 q) = true then 1 else 0)
          by_cases eq : q = qn_rk n (fun x => t ((qn_ro n t i (qn_ru n t i) y).2.1 i x) y) n
          · rw [if_pos eq, eq, pk_us]
            rfl
          · rw [if_neg eq, pk_un eq]
            exact hL.2 q hq)
      dsimp only at h9
      rw [hro, e1] at h9
      exact h9
