/-! numbers out of the buffer's bits, and the rows that they make -/
def btA (b : Nat → Nat) (p : Nat) : Nat := b (p / 8) / 2 ^ (p % 8) % 2
theorem btA_lt (b : Nat → Nat) (p : Nat) : btA b p < 2 := Nat.mod_lt _ (by decide)
def bvN (b : Nat → Nat) (p : Nat) : Nat → Nat
  | 0 => 0
  | n + 1 => bvN b p n + btA b (p + n) * 2 ^ n
theorem bvN_lt (b : Nat → Nat) (p n : Nat) : bvN b p n < 2 ^ n := by
  induction n with
  | zero => rw [bvN]; exact Nat.two_pow_pos 0
  | succ n ih =>
    have h := btA_lt b (p + n)
    have h2 : btA b (p + n) * 2 ^ n ≤ 1 * 2 ^ n := Nat.mul_le_mul_right _ (by omega)
    rw [bvN, Nat.pow_succ]
    omega
theorem bvN_zero {b : Nat → Nat} {p n : Nat} : bvN b p n = 0 ↔ ∀ i, i < n → btA b (p + i) = 0 := by
  induction n with
  | zero => exact ⟨fun _ i hi => absurd hi (by omega), fun _ => by rw [bvN]⟩
  | succ n ih =>
    rw [bvN]
    have hp := Nat.two_pow_pos n
    refine ⟨fun h i hi => ?_, fun h => ?_⟩
    · have h1 : bvN b p n = 0 := by omega
      have h2 : btA b (p + n) * 2 ^ n = 0 := by omega
      rcases Nat.lt_or_ge i n with q | q
      · exact ih.mp h1 i q
      · obtain rfl : i = n := by omega
        rcases Nat.mul_eq_zero.mp h2 with z | z
        · exact z
        · omega
    · rw [ih.mpr (fun i hi => h i (by omega)), h n (by omega), Nat.zero_mul]
theorem bit_or {a n : Nat} {i : Int32} (v : Nat) (hi : i = nI v) (hv : v < 2) (hn : n < 16) (ha : a < 2 ^ n) : nI a ||| (i <<< (nI n &&& 31)) = nI (a + v * 2 ^ n) := by
  have hp := p16 (b := n) (by omega)
  have h2 : v * 2 ^ n ≤ 1 * 2 ^ n := Nat.mul_le_mul_right _ (by omega)
  rw [hi, shl_nI (by omega) (by omega), nI_or (by omega) (by omega), or_add ha]
theorem bit_at {b : Nat → Nat} {f : Nat → Int32} {m p : Nat} (hf : relB m f b) (ho : okB m b) (hm : m ≤ 256) (hp : p / 8 < m) : (f (p / 8) >>> (nI (p % 8) &&& 31)) &&& (1 : Int32) = nI (btA b p) := by
  have h1 := ho _ hp
  have h2 : b (p / 8) / 2 ^ (p % 8) ≤ b (p / 8) := Nat.div_le_self _ _
  rw [hf _ hp, shr_nI (by omega) (by omega), and1 (by omega)]
  rfl
theorem q_bitsFrom {bl : Int32} {m p n : Nat} {f : Nat → Int32} {b : Nat → Nat} (hf : relB m f b) (ho : okB m b) (hm : m ≤ 256) (hn : n ≤ 9) (hp : p + n ≤ 8 * m) {post : Int32 → Prop} (h : post (nI (bvN b p n))) : wp_ZB_bitsFrom bl f (nI p) (nI n) post := by
  have key : ∀ d k, k + d = n → lp_ZB_bitsFrom_5 bl f (nI p) (nI n) post (fun a _ => post a) (d + 1) (nI (bvN b p k)) (nI k) := by
    intro d
    induction d with
    | zero =>
      intro k hk
      obtain rfl : k = n := by omega
      exact ⟨fun _ => h, fun q => absurd ((nI_leI (by omega) (by omega)).mpr (Nat.le_refl _)) q⟩
    | succ d ih =>
      intro k hk
      have e1 : (nI p + nI k) / (8 : Int32) = nI ((p + k) / 8) := by rw [nI_add]; exact pk_div (d := 8) (by omega) (by decide) (by decide)
      have e2 : (nI p + nI k) - (nI p + nI k) / (8 : Int32) * (8 : Int32) = nI ((p + k) % 8) := by rw [nI_add]; exact pk_rem (d := 8) (by omega) (by decide) (by decide)
      refine ⟨fun q => absurd ((nI_leI (by omega) (by omega)).mp q) (by omega), fun _ => ⟨?_, ?_⟩⟩
      · rw [e1]; exact vp_in_nI (by omega) (by decide)
      · show lp_ZB_bitsFrom_5 bl f (nI p) (nI n) post (fun a _ => post a) (d + 1) (nI (bvN b p k) ||| ((((f ((nI p + nI k) / (8 : Int32)).toNatClampNeg) >>> (((nI p + nI k) - (nI p + nI k) / (8 : Int32) * (8 : Int32)) &&& 31)) &&& (1 : Int32)) <<< (nI k &&& 31))) (nI k + 1)
        rw [e2, e1, nI_clamp (by omega), bit_or (btA b (p + k)) (bit_at hf ho hm (by omega)) (btA_lt _ _) (by omega) (bvN_lt _ _ _), nI_1]
        have := ih (k + 1) (by omega)
        rw [bvN] at this
        exact this
  have k0 := key n 0 (by omega)
  rw [bvN] at k0
  exact ⟨n + 1, k0⟩
/-- the difference that a number tells -/
def dfI (v : Nat) : Int32 := if v % 2 = 0 then nI (v / 2) else -(nI (v / 2)) - 1
def smOk (a v : Nat) : Prop := if v % 2 = 0 then a + v / 2 < 256 else v / 2 + 1 ≤ a
def smV (a v : Nat) : Nat := if v % 2 = 0 then a + v / 2 else a - (v / 2 + 1)
theorem smV_lt {a v : Nat} (ha : a < 256) (h : smOk a v) : smV a v < 256 := by
  unfold smOk at h; unfold smV
  split at h <;> rename_i e
  · rw [if_pos e]; exact h
  · rw [if_neg e]; omega
theorem smV_zig {a v : Nat} (h : smOk a v) : zig (smV a v) a = v := by
  unfold smOk at h; unfold smV zig
  split at h <;> rename_i e
  · rw [if_pos e, if_neg (by omega)]; omega
  · rw [if_neg e, if_pos (by omega)]; omega
theorem dfI_neg {a v : Nat} (e : ¬ v % 2 = 0) : nI a + dfI v = nI a - nI (v / 2 + 1) := by
  unfold dfI
  rw [if_neg e, ← nI_1, Int32.sub_eq_add_neg, Int32.sub_eq_add_neg, Int32.neg_add, Int32.sub_eq_add_neg]
theorem smV_ok {a v : Nat} (h : smOk a v) : nI a + dfI v = nI (smV a v) := by
  unfold smOk at h
  split at h <;> rename_i e
  · unfold dfI smV
    rw [if_pos e, if_pos e, nI_add]
  · rw [dfI_neg e, pk_sub h]
    unfold smV
    rw [if_neg e]
theorem smV_bad {a v : Nat} (ha : a < 256) (hv : v < 512) (h : ¬ smOk a v) : ¬ inN (nI a + dfI v) 256 := by
  unfold smOk at h
  split at h <;> rename_i e
  · rintro ⟨j, hj, q⟩
    unfold dfI at q
    rw [if_pos e, nI_add] at q
    have := nI_inj (by omega) (by omega) q
    omega
  · rw [dfI_neg e]
    exact inN_lt0 (by decide) (pk_sneg (by omega) (by omega))
theorem q_diff {v : Nat} (hv : v < 512) {post : Int32 → Prop} (h : post (dfI v)) : wp_ZO_differenceOf (nI v) post := by
  have e1 : nI v / (2 : Int32) = nI (v / 2) := pk_div (d := 2) (by omega) (by decide) (by decide)
  have e2 : nI v - nI v / (2 : Int32) * (2 : Int32) = nI (v % 2) := pk_rem (d := 2) (by omega) (by decide) (by decide)
  unfold wp_ZO_differenceOf
  rw [e2, e1]
  unfold dfI at h
  refine ⟨fun q => ?_, fun q => ?_⟩
  · have q : v % 2 = 0 := nI_inj (by omega) (by omega) q
    rw [if_pos q] at h; exact h
  · rw [if_neg (fun z => q (by rw [z]; rfl))] at h; exact h
theorem neg_half {v : Nat} (hv : v < 512) (e : ¬ v % 2 = 0) : (-(nI v + (1 : Int32))) / (2 : Int32) = -(nI (v / 2)) - 1 := by
  apply Int32.toInt_inj.mp
  have h2 : (2 : Int32).toInt = 2 := rfl
  have h1 : (1 : Int32).toInt = 1 := rfl
  have n1 : (-(nI (v + 1))).toInt = -((v + 1 : Nat) : Int) := by
    rw [Int32.toInt_neg, nI_toInt (by omega)]
    apply Int.bmod_eq_of_le <;> omega
  have n2 : (-(nI (v / 2))).toInt = -((v / 2 : Nat) : Int) := by
    rw [Int32.toInt_neg, nI_toInt (by omega)]
    apply Int.bmod_eq_of_le <;> omega
  have hd : ((v + 1 : Nat) : Int).tdiv 2 = ((v / 2 + 1 : Nat) : Int) := by
    rw [Int.tdiv_eq_ediv_of_nonneg (by omega)]
    omega
  rw [nI_1, Int32.toInt_div, n1, h2, Int.neg_tdiv, hd, Int32.toInt_sub, n2, h1]
  congr 1
  omega
/-- the samples of a row, read out of its numbers v, from place k0 on -/
def rdT (t : Nat → Nat) (c k0 : Nat) (v : Nat → Nat) : Nat → Nat → Nat
  | 0 => t
  | x + 1 => setB (rdT t c k0 v x) (k0 + x) (smV (bfr (rdT t c k0 v x) c (k0 + x)) (v x))
def rdOk (t : Nat → Nat) (c k0 : Nat) (v : Nat → Nat) (n : Nat) : Prop := ∀ x, x < n → smOk (bfr (rdT t c k0 v x) c (k0 + x)) (v x)
theorem rdT_old {t : Nat → Nat} {c k0 : Nat} {v : Nat → Nat} {x d j : Nat} (hj : j < k0 + x) : rdT t c k0 v (x + d) j = rdT t c k0 v x j := by
  induction d with
  | zero => rfl
  | succ d ih =>
    show setB (rdT t c k0 v (x + d)) (k0 + (x + d)) _ j = _
    unfold setB
    rw [if_neg (by omega)]; exact ih
theorem bfr_congr {t t' : Nat → Nat} {c k : Nat} (hc : 0 < c) (h : ∀ j, j < k → t j = t' j) : bfr t c k = bfr t' c k := by
  unfold bfr
  by_cases h0 : k = 0
  · rw [if_pos h0, if_pos h0]
  · rw [if_neg h0, if_neg h0, h (k - c) (by omega), h (k - 1) (by omega)]
theorem rdT_tld {t : Nat → Nat} {c k0 : Nat} {v : Nat → Nat} {n x : Nat} (hc : 0 < c) (hx : x < n) (h : rdOk t c k0 v n) : tld (rdT t c k0 v n) c (k0 + x) = v x := by
  obtain ⟨d, rfl⟩ : ∃ d, n = x + 1 + d := ⟨n - x - 1, by omega⟩
  unfold tld
  rw [rdT_old (show k0 + x < k0 + (x + 1) by omega)]
  have e : bfr (rdT t c k0 v (x + 1 + d)) c (k0 + x) = bfr (rdT t c k0 v x) c (k0 + x) := bfr_congr hc (fun j hj => by rw [Nat.add_assoc]; exact rdT_old hj)
  rw [e]
  show zig (setB (rdT t c k0 v x) (k0 + x) (smV (bfr (rdT t c k0 v x) c (k0 + x)) (v x)) (k0 + x)) _ = v x
  unfold setB
  rw [if_pos rfl]
  exact smV_zig (h x hx)
theorem rdT_ok {t : Nat → Nat} {c k0 : Nat} {v : Nat → Nat} {n : Nat} (hc : 0 < c) (ht : okB k0 t) (h : rdOk t c k0 v n) : okB (k0 + n) (rdT t c k0 v n) := by
  induction n with
  | zero => exact ht
  | succ n ih =>
    have h1 := ih (fun x hx => h x (by omega))
    exact okB_app h1 (smV_lt (bfr_lt (fun j hj => h1 j hj) hc) (h n (by omega)))
theorem rdT_rwb {t : Nat → Nat} {c y : Nat} {v : Nat → Nat} (hc : 0 < c) (h : rdOk t c (y * c) v c) : rwb (rdT t c (y * c) v c) c y = nb (mxR v c) := by
  unfold rwb
  congr 1
  have : ∀ n, n ≤ c → mxR (fun x => tld (rdT t c (y * c) v c) c (y * c + x)) n = mxR v n := by
    intro n
    induction n with
    | zero => intro _; rfl
    | succ n ih =>
      intro hn
      show max (mxR (fun x => tld (rdT t c (y * c) v c) c (y * c + x)) n) (tld (rdT t c (y * c) v c) c (y * c + n)) = max (mxR v n) (v n)
      rw [ih (by omega), rdT_tld hc (by omega) h]
  exact this c (Nat.le_refl _)
/-- a row in the buffer: its numbers, where the next one starts, whether it is one -/
def rwV (b : Nat → Nat) (s : Nat) : Nat → Nat := fun x => bvN b (8 * (s + 1) + b s * x) (b s)
def nxt (b : Nat → Nat) (c s : Nat) : Nat := s + 1 + (b s * c + 7) / 8
def rowT (b t : Nat → Nat) (c y s : Nat) : Nat → Nat := rdT t c (y * c) (rwV b s) c
def rowG (b t : Nat → Nat) (c y s E : Nat) : Prop := s < E ∧ b s ≤ 9 ∧ nxt b c s ≤ E ∧ rdOk t c (y * c) (rwV b s) c ∧ bvN b (8 * (s + 1) + b s * c) (8 * nxt b c s - (8 * (s + 1) + b s * c)) = 0 ∧ nb (mxR (rwV b s) c) = b s
