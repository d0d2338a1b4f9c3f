-- the rank of a row
def qn_ls (n : Nat) (r : Nat → Nat) (k : Nat) : Nat → Nat := fun e => fb_ct (fun i => decide (k < i) && decide (r i < r k)) e
def qn_rk (n : Nat) (r : Nat → Nat) : Nat → Nat
  | 0 => 0
  | k + 1 => qn_rk n r k * (n - k) + qn_ls n r k n
theorem q_ls0 (n : Nat) (r : Nat → Nat) (k : Nat) : ∀ e, e ≤ k + 1 → qn_ls n r k e = 0 := by
  intro e he
  exact fb_ct_zero.mpr (fun i hi => by
    have : ¬ k < i := by omega
    simp [this])
theorem q_lslt {n : Nat} {r : Nat → Nat} {k : Nat} (hk : k < n) : qn_ls n r k n < n - k := by
  have h := fb_ct_split (fun i => decide (k < i) && decide (r i < r k)) (k + 1) (n - (k + 1))
  rw [show k + 1 + (n - (k + 1)) = n by omega] at h
  have h0 := q_ls0 n r k (k + 1) (Nat.le_refl _)
  have h1 := fb_ct_le (fun j => decide (k < k + 1 + j) && decide (r (k + 1 + j) < r k)) (n - (k + 1))
  unfold qn_ls at h0 ⊢
  omega
def qn_fd (n : Nat) : Nat → Nat
  | 0 => 1
  | k + 1 => qn_fd n k * (n - k)
theorem q_rklt {n : Nat} {r : Nat → Nat} : ∀ k, k ≤ n → qn_rk n r k < qn_fd n k
  | 0, _ => Nat.zero_lt_one
  | k + 1, hk => by
    have ih := q_rklt (n := n) (r := r) k (by omega)
    have hl := q_lslt (r := r) (show k < n by omega)
    show qn_rk n r k * (n - k) + qn_ls n r k n < qn_fd n k * (n - k)
    calc qn_rk n r k * (n - k) + qn_ls n r k n < qn_rk n r k * (n - k) + (n - k) := by omega
      _ = (qn_rk n r k + 1) * (n - k) := by rw [Nat.succ_mul]
      _ ≤ qn_fd n k * (n - k) := Nat.mul_le_mul_right _ ih
theorem q_fd6 : ∀ n, n < 7 → ∀ k, k ≤ n → qn_fd n k ≤ 720 := by decide +kernel
theorem q_rk720 {n : Nat} {r : Nat → Nat} (hn : n ≤ 6) {k : Nat} (hk : k ≤ n) : qn_rk n r k < 720 := Nat.lt_of_lt_of_le (q_rklt k hk) (q_fd6 n (by omega) k hk)
theorem s_rank {post : Int32 → Prop} {n : Nat} {r : Nat → Nat} {a : Nat → Int32} (hn : n ≤ 6) (hr : ∀ i, i < n → r i < 6) (ha : ∀ i, i < n → a i = nI (r i)) (h : post (nI (qn_rk n r n))) : wp_X10_rank post a (nI n) := by
  refine q_loop (fun K f i s => wp_X10_rank_L4 K (nI n) a f s (nI i)) (fun i s => s = nI (qn_rk n r i)) n 0 0 (by omega) rfl (fun f s hI => pk_le n n (fun _ => by rw [hI]; exact h) (fun z => absurd z (by omega))) (fun f k s hk hI hk2 => pk_le n k (fun z => absurd z (by omega)) (fun _ => nm_r (nI_1 k) ?_))
  have h720 := q_rk720 (r := r) hn (show k ≤ n by omega)
  refine q_loop (fun K f i s => wp_X10_rank_L17 K (nI n) (nI k) a f s (nI i)) (fun i s => k < i ∧ s = nI (qn_ls n r k i)) n (k + 1) 0 (by omega) ⟨by omega, by rw [q_ls0 n r k (k + 1) (by omega)]; rfl⟩ (fun f s hJ => pk_le n n (fun _ => ?_) (fun z => absurd z (by omega))) (fun f i s hi hJ hk3 => ?_)
  · have hl := q_lslt (r := r) hk
    refine nm_r (e' := nI (qn_rk n r (k + 1))) ?_ (nm_r (nI_1 k) (hk2 _ rfl))
    rw [hI, hJ.2, pk_sub (by omega), pk_mul, nI_add]
    rfl
  · refine pk_le n i (fun z => absurd z (by omega)) (fun _ => ?_)
    have hik := hJ.1
    refine ⟨pk_in i 6 (by omega), pk_in k 6 (by omega), ?_⟩
    rw [pk_cl (x := nI i) i, pk_cl (x := nI k) k, ha i hi, ha k hk]
    have h6 := hr i hi
    have h6k := hr k hk
    have hle : qn_ls n r k i ≤ i := fb_ct_le _ _
    refine pk_le (r k) (r i) (fun z => nm_r (e' := nI (qn_ls n r k (i + 1))) ?_ (nm_r (nI_1 i) (hk3 _ ⟨by omega, rfl⟩))) (fun z => nm_r (e' := nI (qn_ls n r k (i + 1))) ?_ (nm_r (nI_1 i) (hk3 _ ⟨by omega, rfl⟩)))
    · have hf : ¬ r i < r k := by omega
      have e : qn_ls n r k (i + 1) = qn_ls n r k i + 0 := by
        unfold qn_ls
        rw [fb_ct_succ]
        simp [hf]
      rw [hJ.2, e]
      exact nI_add _ 0
    · have e : qn_ls n r k (i + 1) = qn_ls n r k i + 1 := by
        unfold qn_ls
        rw [fb_ct_succ]
        simp [z, hik]
      rw [hJ.2, e]
      exact nI_1 _
-- the row of an index
def qn_fc : Nat → Nat
  | 0 => 1
  | n + 1 => (n + 1) * qn_fc n
def qn_nth (M s : Nat) : Nat := fa_first (fun v => M.testBit v && (fb_ct M.testBit v == s)) 6
def qn_ust (n k : Nat) : Nat → Nat × Nat × Nat
  | 0 => (2 ^ n - 1, k, qn_fc (n - 1))
  | j + 1 => ((qn_ust n k j).1 &&& (63 - 2 ^ qn_nth (qn_ust n k j).1 ((qn_ust n k j).2.1 / (qn_ust n k j).2.2)), (qn_ust n k j).2.1 % (qn_ust n k j).2.2, if n - 1 - j = 0 then 1 else (qn_ust n k j).2.2 / (n - 1 - j))
def qn_un (n k j : Nat) : Nat := qn_nth (qn_ust n k j).1 ((qn_ust n k j).2.1 / (qn_ust n k j).2.2)
def qn_uok (n k j : Nat) : Bool := decide ((qn_ust n k j).1 < 64) && decide ((qn_ust n k j).2.1 < 720) && decide (0 < (qn_ust n k j).2.2) && decide ((qn_ust n k j).2.2 ≤ 720) && decide (qn_un n k j < 6)
theorem q_uok : ∀ n, n < 7 → ∀ k, k < qn_fc n → ∀ j, j < n → qn_uok n k j = true := by decide +kernel
theorem q_unn : ∀ n, n < 7 → ∀ k, k < qn_fc n → ∀ j, j < n → qn_un n k j < n := by decide +kernel
theorem q_clr : ∀ M, M < 64 → ∀ v, v < 6 → nI M &&& ((1 <<< (nI v &&& 31)) ^^^ (-1)) = nI (M &&& (63 - 2 ^ v)) := by decide +kernel
theorem q_fcle : ∀ n, n < 7 → qn_fc n ≤ 720 := by decide +kernel
theorem s_nth {K : Int32 → Prop} {M s : Nat} (hM : M < 64) (hs : s < 720) (hv : qn_nth M s < 6) (h : K (nI (qn_nth M s))) : ∃ f, wp_X10_unrank_L84 K (nI M) f (nI s) 0 := by
  have hyes := fa_first_yes (fun v => M.testBit v && (fb_ct M.testBit v == s)) 6 hv
  simp only [Bool.and_eq_true, beq_iff_eq] at hyes
  have hy1 : M.testBit (qn_nth M s) = true := hyes.1
  have hy2 : fb_ct M.testBit (qn_nth M s) = s := hyes.2
  refine pk_loop (fun f i x => wp_X10_unrank_L84 K (nI M) f x (nI i)) (fun i x => fb_ct M.testBit i ≤ s ∧ x = nI (s - fb_ct M.testBit i)) (qn_nth M s) 0 (nI s) (by omega) ⟨Nat.zero_le _, rfl⟩ (fun f x hI => ?_) (fun f i x hi hI hk => ?_)
  · obtain ⟨-, rfl⟩ := hI
    rw [hy2, Nat.sub_self]
    have hb : ((nI M >>> (nI (qn_nth M s) &&& 31)) &&& 1) = 1 := (q_bitT hM hv).mpr hy1
    refine ⟨fun z => absurd (hb.symm.trans z) (by decide), fun _ => ⟨fun _ => h, fun z => absurd (by decide) z⟩⟩
  · obtain ⟨hle, rfl⟩ := hI
    have hno := fa_first_no (fun v => M.testBit v && (fb_ct M.testBit v == s)) 6 i hi
    have hb := q_bit M hM i (by omega)
    have hct := fb_ct_succ M.testBit i
    cases hbi : M.testBit i with
    | false =>
      rw [hbi] at hb hct
      have hb0 : ((nI M >>> (nI i &&& 31)) &&& 1) = 0 := hb
      refine ⟨fun _ => nm_r (e' := nI (s - fb_ct M.testBit (i + 1))) ?_ (nm_r (nI_1 i) (hk _ ⟨by rw [hct]; simpa using hle, rfl⟩)), fun z => absurd hb0 z⟩
      rw [hb0, hct]
      simp
    | true =>
      rw [hbi] at hb hct
      have hb1 : ((nI M >>> (nI i &&& 31)) &&& 1) = 1 := hb
      have hne : fb_ct M.testBit i ≠ s := by
        intro e
        simp [hbi, e] at hno
      have hct2 : fb_ct M.testBit (i + 1) = fb_ct M.testBit i + 1 := by simpa using hct
      have e1 : nI (s - fb_ct M.testBit i) - 1 = nI (s - fb_ct M.testBit (i + 1)) := by
        rw [hct2, q_predN (by omega)]
        congr 1
      refine ⟨fun z => absurd (hb1.symm.trans z) (by decide), fun _ => pk_le (s - fb_ct M.testBit i) 0 (fun z => absurd z (by omega)) (fun _ => nm_r (e' := nI (s - fb_ct M.testBit (i + 1))) (by rw [hb1, e1]) (nm_r (nI_1 i) (hk _ ⟨by omega, rfl⟩)))⟩
theorem s_unrank {post : (Nat → Int32) → Prop} {n k : Nat} {a : Nat → Int32} (hn1 : 1 ≤ n) (hn : n ≤ 6) (hk : k < qn_fc n) (h : ∀ o, (∀ j, j < n → o j = nI (qn_un n k j)) → post o) : wp_X10_unrank post a (nI n) (nI k) := by
  have h720 := q_fcle n (by omega)
  have main : ∃ f, wp_X10_unrank_L37 (fun o => post o) (nI n) f (nI (2 ^ n - 1)) (nI k) (nI (qn_fc (n - 1))) 0 a := by
    refine pk_loop (σ := Int32 × Int32 × Int32 × (Nat → Int32)) (fun f j s => wp_X10_unrank_L37 (fun o => post o) (nI n) f s.1 s.2.1 s.2.2.1 (nI j) s.2.2.2)
      (fun j s => s.1 = nI (qn_ust n k j).1 ∧ s.2.1 = nI (qn_ust n k j).2.1 ∧ s.2.2.1 = nI (qn_ust n k j).2.2 ∧ ∀ i, i < j → s.2.2.2 i = nI (qn_un n k i)) n 0 (nI (2 ^ n - 1), nI k, nI (qn_fc (n - 1)), a) (by omega) ⟨rfl, rfl, rfl, fun i hi => absurd hi (by omega)⟩ (fun f s hI => pk_le n n (fun _ => h _ hI.2.2.2) (fun z => absurd z (by omega))) (fun f j s hj hI hk2 => ?_)
    obtain ⟨e1, e2, e3, ho⟩ := hI
    have hok := q_uok n (by omega) k hk j hj
    simp only [qn_uok, Bool.and_eq_true, decide_eq_true_eq] at hok
    obtain ⟨⟨⟨⟨o1, o2⟩, o3⟩, o4⟩, o5⟩ := hok
    have hb0 : ¬ nI (qn_ust n k j).2.2 = 0 := nI_ne0 o3 (by omega)
    have hq : (qn_ust n k j).2.1 / (qn_ust n k j).2.2 < 720 := Nat.lt_of_le_of_lt (Nat.div_le_self _ _) o2
    have esub : nI n - 1 - nI j = nI (n - 1 - j) := by rw [q_pred hn1, pk_sub (by omega)]
    try dsimp only
    rw [e1, e2, e3]
    refine pk_le n j (fun z => absurd z (by omega)) (fun _ => ⟨hb0, nm_r (pk_div (by omega) o3 (by omega)) ⟨hb0, nm_r (pk_rem (by omega) o3 (by omega)) ?_⟩⟩)
    have fin : ∀ by' : Nat, (qn_ust n k (j + 1)).2.2 = by' → ∃ f2, wp_X10_unrank_L84 (fun x8 => ∀ x3 : Int32, x3 = nI (qn_ust n k j).1 &&& ((1 <<< (x8 &&& 31)) ^^^ (-1)) → (vp_in (nI j) 6 ∧ (∀ a2 : Nat → Int32, a2 = upd s.2.2.2 (nI j).toNatClampNeg x8 → (∀ x6 : Int32, x6 = nI j + 1 → ((wp_X10_unrank_L37 (fun o => post o) (nI n) f) x3 (nI ((qn_ust n k j).2.1 % (qn_ust n k j).2.2)) (nI by') x6 a2))))) (nI (qn_ust n k j).1) f2 (nI ((qn_ust n k j).2.1 / (qn_ust n k j).2.2)) 0 := by
      intro by' eby
      refine s_nth o1 hq o5 (nm_r (q_clr _ o1 _ o5) ⟨pk_in j 6 (by omega), nm_r (by rw [pk_cl j]) (nm_r (nI_1 j) (hk2 (_, _, _, _) ⟨rfl, rfl, by rw [eby]; rfl, fun i hi => ?_⟩))⟩)
      show upd s.2.2.2 j _ i = _
      by_cases e : i = j
      · rw [e, pk_us]; rfl
      · rw [pk_un e]; exact ho i (by omega)
    rw [esub]
    refine pk_le (n - 1 - j) 0 (fun z => ?_) (fun z => ⟨nI_ne0 (by omega) (by omega), nm_r (pk_div (by omega) (by omega) (by omega)) ?_⟩)
    · exact fin 1 (if_pos (by omega))
    · exact fin _ (if_neg (by omega))
  refine nm_r (e' := nI (2 ^ n - 1)) ?_ ?_
  · rw [q_sh1 n (by omega)]
    exact q_predN (Nat.two_pow_pos n)
  · by_cases e1 : n = 1
    · subst e1
      exact ⟨1, fun _ => main, fun z => absurd (by decide) z⟩
    · refine q_loop (fun K f i s => wp_X10_unrank_L15 K (nI n) f s (nI i)) (fun i s => 2 ≤ i ∧ s = nI (qn_fc (i - 1))) n 2 1 (by omega) ⟨by omega, rfl⟩ (fun f s hI => pk_le n n (fun _ => by rw [hI.2]; exact main) (fun z => absurd z (by omega))) (fun f i s hi hI hk2 => pk_le n i (fun z => absurd z (by omega)) (fun _ => nm_r (e' := nI (qn_fc (i + 1 - 1))) ?_ (nm_r (nI_1 i) (hk2 _ ⟨by omega, rfl⟩))))
      obtain ⟨i', rfl⟩ : ∃ i', i = i' + 1 := ⟨i - 1, by omega⟩
      rw [hI.2, pk_mul]
      congr 1
      show qn_fc i' * (i' + 1) = (i' + 1) * qn_fc i'
      exact Nat.mul_comm _ _
theorem s_fact {post : Int32 → Prop} {n : Nat} (hn1 : 1 ≤ n) (hn : n ≤ 6) (h : post (nI (qn_fc n))) : wp_X10_factorial post (nI n) := by
  by_cases e1 : n = 1
  · subst e1
    exact ⟨1, fun _ => h, fun z => absurd (by decide) z⟩
  · refine q_loop (fun K f i s => wp_X10_factorial_L4 K (nI n) f s (nI i)) (fun i s => 2 ≤ i ∧ s = nI (qn_fc (i - 1))) (n + 1) 2 1 (by omega) ⟨by omega, rfl⟩ (fun f s hI => pk_lt n (n + 1) (fun _ => by rw [hI.2]; exact h) (fun z => absurd z (by omega))) (fun f i s hi hI hk2 => pk_lt n i (fun z => absurd z (by omega)) (fun _ => nm_r (e' := nI (qn_fc (i + 1 - 1))) ?_ (nm_r (nI_1 i) (hk2 _ ⟨by omega, rfl⟩))))
    obtain ⟨i', rfl⟩ : ∃ i', i = i' + 1 := ⟨i - 1, by omega⟩
    rw [hI.2, pk_mul]
    congr 1
    show qn_fc i' * (i' + 1) = (i' + 1) * qn_fc i'
    exact Nat.mul_comm _ _
