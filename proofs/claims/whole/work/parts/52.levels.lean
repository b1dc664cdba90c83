theorem s_l : ∀ n, n < 32 → ((nI n &&& 31).toBitVec.smod 32).toNat = n := by decide +kernel
theorem shl_nI {n k : Nat} (hk : k < 32) (h : n * 2 ^ k < 2 ^ 32) : nI n <<< (nI k &&& 31) = nI (n * 2 ^ k) := pk_shlN _ k (s_l k hk) h
theorem shr_nI {n k : Nat} (hk : k < 32) (h : n < 2 ^ 31) : nI n >>> (nI k &&& 31) = nI (n / 2 ^ k) := pk_shrN h _ k (s_l k hk)
theorem pw6 {k : Nat} (hk : k ≤ 6) : 1 ≤ 2 ^ k ∧ 2 ^ k ≤ 64 := ⟨Nat.one_le_two_pow, Nat.pow_le_pow_right (by decide) hk⟩
/-- a side halved k times, rounded up -/
def hv (v k : Nat) : Nat := (v + 2 ^ k - 1) / 2 ^ k
theorem hv_0 (v : Nat) : hv v 0 = v := by unfold hv; rw [Nat.pow_zero, Nat.div_one]; omega
theorem hv_succ (v i : Nat) : (hv v i + 1) / 2 = hv v (i + 1) := by
  unfold hv
  have h2 : 0 < 2 ^ i := Nat.two_pow_pos i
  rw [← Nat.add_div_right _ h2, Nat.div_div_eq_div_mul, ← Nat.pow_succ]
  congr 1
  rw [Nat.pow_succ]; omega
theorem hv_le {v k : Nat} (h1 : 1 ≤ v) : hv v k ≤ v := by
  unfold hv
  have h2 : 0 < 2 ^ k := Nat.two_pow_pos k
  apply Nat.div_le_of_le_mul
  have : 2 ^ k * 1 ≤ 2 ^ k * v := Nat.mul_le_mul_left _ h1
  have h3 : 1 * v ≤ 2 ^ k * v := Nat.mul_le_mul_right _ h2
  have : v + 2 ^ k - 1 ≤ 2 ^ k * v := by
    have : (2 ^ k - 1) * (v - 1) + (v + 2 ^ k - 1) = 2 ^ k * v := by
      obtain ⟨a, ha⟩ : ∃ a, 2 ^ k = a + 1 := ⟨2 ^ k - 1, by omega⟩
      obtain ⟨b, rfl⟩ : ∃ b, v = b + 1 := ⟨v - 1, by omega⟩
      rw [ha]; simp [Nat.add_mul, Nat.mul_add]; omega
    omega
  exact this
theorem hv_pos {v k : Nat} (h1 : 1 ≤ v) : 1 ≤ hv v k := by
  unfold hv
  have h2 : 0 < 2 ^ k := Nat.two_pow_pos k
  rw [Nat.le_div_iff_mul_le h2]; omega
theorem hv_one {v k : Nat} (h1 : 1 ≤ v) : hv v k ≤ 1 ↔ v ≤ 2 ^ k := by
  unfold hv
  have h2 : 0 < 2 ^ k := Nat.two_pow_pos k
  rw [Nat.div_le_iff_le_mul h2]
  omega
def lev (m : Nat) : Nat := if m ≤ 1 then 1 else if m ≤ 2 then 2 else if m ≤ 4 then 3 else if m ≤ 8 then 4 else if m ≤ 16 then 5 else if m ≤ 32 then 6 else 7
theorem lev_in {m : Nat} : 1 ≤ lev m ∧ lev m ≤ 7 := by unfold lev; (repeat' split) <;> omega
theorem lev_eq {m j : Nat} (hm : m ≤ 64) (h : m ≤ 2 ^ j) (h' : ∀ i, i < j → 2 ^ i < m) (hj : j ≤ 6) : lev m = j + 1 := by
  have hp : j = 0 ∨ 2 ^ (j - 1) < m := by
    by_cases h0 : j = 0
    · exact Or.inl h0
    · exact Or.inr (h' _ (by omega))
  have hj' : j = 0 ∨ j = 1 ∨ j = 2 ∨ j = 3 ∨ j = 4 ∨ j = 5 ∨ j = 6 := by omega
  rcases hj' with rfl | rfl | rfl | rfl | rfl | rfl | rfl <;> simp at hp h <;> unfold lev <;> (repeat' split) <;> omega
theorem p_half {v k : Nat} (h1 : 1 ≤ v) (hv1 : v < 2 ^ 20) (hk : k < 2 ^ 20) {post : Int32 → Prop} (h : post (nI (hv v k))) : wp_ZM_half (nI v) (nI k) post := by
  have key : ∀ d i, i + d = k → lp_ZM_half_4 (nI v) (nI k) post (fun a _ => post a) (d + 1) (nI (hv v i)) (nI i) := by
    intro d
    induction d with
    | zero =>
      intro i hi
      refine ⟨fun _ => ?_, fun hn => absurd ((nI_leI (by omega) (by omega)).mpr (by omega)) hn⟩
      rw [show i = k by omega]; exact h
    | succ d ih =>
      intro i hi
      refine ⟨fun hn => absurd ((nI_leI (by omega) (by omega)).mp hn) (by omega), fun _ => ?_⟩
      have hb := hv_le (v := v) (k := i) h1
      have e1 : (nI (hv v i) + 1) / (2 : Int32) = nI (hv v (i + 1)) := by
        rw [nI_1, show (2 : Int32) = nI 2 from rfl, pk_div (by omega) (by decide) (by decide), hv_succ]
      show lp_ZM_half_4 (nI v) (nI k) post (fun a _ => post a) (d + 1) ((nI (hv v i) + 1) / (2 : Int32)) (nI i + 1)
      rw [e1, nI_1]
      exact ih (i + 1) (by omega)
  have k0 := key k 0 (by omega)
  rw [hv_0] at k0
  exact ⟨k + 1, k0⟩
theorem p_init {W H n : Nat} {f : Nat → Int32} (h1 : 1 ≤ W) (hW : W ≤ 40) (h2 : 1 ≤ H) (hH : H ≤ 40) {post : Int32 → Prop} (h : post (nI (lev (max W H)))) : wp_ZY_init (nI W) (nI H) n f post := by
  have hmx : (if nI W < nI H then nI H else nI W) = nI (max W H) := by
    by_cases hc : W < H
    · rw [if_pos ((nI_ltI (by omega) (by omega)).mpr hc), Nat.max_eq_right (by omega)]
    · rw [if_neg (fun h => hc ((nI_ltI (by omega) (by omega)).mp h)), Nat.max_eq_left (by omega)]
  have hm : max W H ≤ 40 := by omega
  have key : ∀ d j, j + d = 6 → (∀ i, i < j → 2 ^ i < max W H) → lp_ZY_init_26 (nI W) (nI H) n f post (fun a _ => post a) (d + 1) (nI (j + 1)) (nI (2 ^ j)) := by
    intro d
    induction d with
    | zero =>
      intro j hj hlt
      refine ⟨fun _ => ?_, fun hn => ?_⟩
      · rw [show j = 6 by omega] at hlt ⊢
        rw [lev_eq (j := 6) (by omega) (by omega) hlt (by omega)] at h
        exact h
      · rw [hmx, show j = 6 by omega] at hn
        exact absurd ((nI_leI (by omega) (by decide)).mpr (by omega)) hn
    | succ d ih =>
      intro j hj hlt
      have hp := pw6 (k := j) (by omega)
      refine ⟨fun hn => ?_, fun hn => ?_⟩
      · rw [hmx] at hn
        have hle := (nI_leI (by omega) (by omega)).mp hn
        rw [lev_eq (by omega) hle hlt (by omega)] at h
        exact h
      · rw [hmx] at hn
        have hgt : 2 ^ j < max W H := by
          rcases Nat.lt_or_ge (2 ^ j) (max W H) with q | q
          · exact q
          · exact absurd ((nI_leI (by omega) (by omega)).mpr q) hn
        show lp_ZY_init_26 (nI W) (nI H) n f post (fun a _ => post a) (d + 1) (nI (j + 1) + 1) (nI (2 ^ j) * (2 : Int32))
        rw [nI_1, show (2 : Int32) = nI 2 from rfl, pk_mul, ← Nat.pow_succ]
        refine ih (j + 1) (by omega) (fun i hi => ?_)
        rcases Nat.lt_or_ge i j with q | q
        · exact hlt i q
        · rw [show i = j by omega]; exact hgt
  exact ⟨7, key 6 0 (by omega) (fun i hi => absurd hi (by omega))⟩
theorem p_narrow {post : Int32 → Prop} (h : post 1) : narrow .boolean (.int 1) = .int 1 ∧ post 1 := ⟨rfl, h⟩
theorem q_hasLevel {yk pw ph : Int32} {pn : Nat} {pf : Nat → Int32} {a : Int32} {n : Nat} (hn : n < 2 ^ 31) {post : Int32 → Prop} (h1 : inN a n → post 1) (h0 : ¬ inN a n → post 0) : wp_ZY_hasLevel (nI n) pw ph pn pf a post := p_isWithin hn (fun h => ⟨rfl, h1 h⟩) (fun h => ⟨rfl, h0 h⟩)
theorem q_halved {v k : Nat} (h1 : 1 ≤ v) (hv1 : v ≤ 40) (hk : k ≤ 6) {post : Int32 → Prop} (h : post (nI (hv v k))) : wp_ZY_halvedUp (nI v) (nI k) post := by
  have hp := pw6 hk
  unfold wp_ZY_halvedUp
  rw [show (1 : Int32) = nI 1 from rfl, shl_nI (by omega) (by omega), nI_add, pk_sub (by omega), shr_nI (by omega) (by omega), Nat.one_mul]
  exact h
section ML
variable {zt zw zh : Int32} {zp zs zb : Nat → Int32} {zz : Int32} {zl zo : Nat → Int32} {zc zr zu zv zq zi : Int32} {zk zm : Nat → Int32} {zd : Int32} {zg : Nat → Int32}
theorem m_many {W H : Nat} (h1 : 1 ≤ W) (hW : W ≤ 40) (h2 : 1 ≤ H) (hH : H ≤ 40) {post : Int32 → Prop} (h : post (nI (lev (max W H)))) : wp_ZM_many zt (nI W) (nI H) zp zs zb zz zl zo zc zr zu zv zq zi zk zm zd zg post := by
  have key : ∀ d j, j + d = 6 → (∀ i, i < j → 2 ^ i < max W H) → lp_ZM_many_2 zt (nI W) (nI H) zp zs zb zz zl zo zc zr zu zv zq zi zk zm zd zg post (fun a => post a) (d + 1) (nI (j + 1)) := by
    intro d
    induction d with
    | zero =>
      intro j hj hlt
      obtain rfl : j = 6 := by omega
      show wp_ZM_half (nI W) (nI (6 + 1) - (1 : Int32)) _
      rw [nI_pred]
      have w1 := (hv_one (k := 6) h1).mpr (by omega)
      have w2 := (hv_one (k := 6) h2).mpr (by omega)
      have b1 := hv_pos (k := 6) h1
      have b2 := hv_pos (k := 6) h2
      refine p_half h1 (by omega) (by omega) ⟨_, fun _ hh => hh, ⟨fun hn => absurd ((nI_ltI (a := 1) (by omega) (by omega)).mp hn) (by omega), fun _ => ?_⟩⟩
      show wp_ZM_half (nI H) (nI (6 + 1) - (1 : Int32)) _
      rw [nI_pred]
      refine p_half h2 (by omega) (by omega) ⟨fun _ => ?_, fun hn => absurd ((nI_leI (b := 1) (by omega) (by omega)).mpr (by omega)) hn⟩
      rw [lev_eq (j := 6) (by omega) (by omega) hlt (by omega)] at h
      exact h
    | succ d ih =>
      intro j hj hlt
      show wp_ZM_half (nI W) (nI (j + 1) - (1 : Int32)) _
      rw [nI_pred]
      have b1 := hv_pos (k := j) h1
      have b2 := hv_pos (k := j) h2
      have c1 := hv_le (k := j) h1
      have c2 := hv_le (k := j) h2
      have hp := pw6 (k := j) (by omega)
      have step : 2 ^ j < max W H → lp_ZM_many_2 zt (nI W) (nI H) zp zs zb zz zl zo zc zr zu zv zq zi zk zm zd zg post (fun a => post a) (d + 1) (nI (j + 1) + (1 : Int32)) := by
        intro hgt
        rw [nI_1]
        refine ih (j + 1) (by omega) (fun i hi => ?_)
        rcases Nat.lt_or_ge i j with q | q
        · exact hlt i q
        · rw [show i = j by omega]; exact hgt
      refine p_half h1 (by omega) (by omega) ⟨_, fun _ hh => hh, ⟨fun hn => ?_, fun hn => ?_⟩⟩
      · have hn := (nI_ltI (a := 1) (by omega) (by omega)).mp hn
        have : ¬ W ≤ 2 ^ j := fun q => absurd ((hv_one (k := j) h1).mpr q) (by omega)
        exact step (by omega)
      · have w1 : hv W j ≤ 1 := by
          rcases Nat.lt_or_ge 1 (hv W j) with q | q
          · exact absurd ((nI_ltI (a := 1) (by omega) (by omega)).mpr q) hn
          · exact q
        have w1 := (hv_one (k := j) h1).mp w1
        show wp_ZM_half (nI H) (nI (j + 1) - (1 : Int32)) _
        rw [nI_pred]
        refine p_half h2 (by omega) (by omega) ⟨fun hn2 => ?_, fun hn2 => ?_⟩
        · have w2 := (hv_one (k := j) h2).mp ((nI_leI (b := 1) (by omega) (by omega)).mp hn2)
          rw [lev_eq (by omega) (by omega) hlt (by omega)] at h
          exact h
        · have : ¬ H ≤ 2 ^ j := fun q => hn2 ((nI_leI (b := 1) (by omega) (by omega)).mpr ((hv_one (k := j) h2).mpr q))
          exact step (by omega)
  exact ⟨7, key 6 0 (by omega) (fun i hi => absurd hi (by omega))⟩
theorem m_isLevel {W H : Nat} (h1 : 1 ≤ W) (hW : W ≤ 40) (h2 : 1 ≤ H) (hH : H ≤ 40) {a : Int32} {post : Int32 → Prop} (hy : inN a (lev (max W H)) → post 1) (hn : ¬ inN a (lev (max W H)) → post 0) : wp_ZM_isLevel zt (nI W) (nI H) zp zs zb zz zl zo zc zr zu zv zq zi zk zm zd zg a post := by
  have hl := lev_in (m := max W H)
  refine m_many h1 hW h2 hH ?_
  rw [nI_sub1 (by omega)]
  exact p_in0 (by omega) (by omega) (fun h => ⟨rfl, hy h⟩) (fun h => ⟨rfl, hn h⟩)
end ML
