/-! a tile's numbers, their bits, the bytes of a row -/
def bfr (t : Nat → Nat) (c k : Nat) : Nat := if k = 0 then 0 else if k % c = 0 then t (k - c) else t (k - 1)
def zig (a b : Nat) : Nat := if a < b then 2 * (b - a) - 1 else 2 * (a - b)
def tld (t : Nat → Nat) (c k : Nat) : Nat := zig (t k) (bfr t c k)
theorem zig_lt {a b : Nat} (ha : a < 256) (hb : b < 256) : zig a b < 512 := by unfold zig; split <;> omega
theorem zig_neg {a b : Nat} (ha : a < 256) (hb : b < 256) : (nI a - nI b < (0 : Int32)) ↔ a < b := by
  rw [Int32.lt_iff_toInt_lt, pk_sub_toInt (by omega) (by omega)]
  have : (0 : Int32).toInt = 0 := rfl
  omega
theorem zig_neg' {a b : Nat} (ha : a < 256) (hb : b < 256) : ((0 : Int32) ≤ nI a - nI b) ↔ ¬ a < b := by
  rw [Int32.le_iff_toInt_le, pk_sub_toInt (by omega) (by omega)]
  have : (0 : Int32).toInt = 0 := rfl
  omega
theorem zig_p {a b : Nat} (h : ¬ a < b) : (2 : Int32) * (nI a - nI b) = nI (zig a b) := by
  unfold zig
  rw [if_neg h, pk_sub (by omega), show (2 : Int32) = nI 2 from rfl, pk_mul]
theorem zig_m {a b : Nat} (ha : a < 256) (hb : b < 256) (h : a < b) : (-2 : Int32) * (nI a - nI b) - (1 : Int32) = nI (zig a b) := by
  unfold zig
  rw [if_pos h]
  apply Int32.toInt_inj.mp
  have e2 : (-2 : Int32).toInt = -2 := rfl
  have e1 : (1 : Int32).toInt = 1 := rfl
  have hs := pk_sub_toInt (a := a) (b := b) (by omega) (by omega)
  have hm : ((-2 : Int32) * (nI a - nI b)).toInt = 2 * ((b : Int) - a) := by
    rw [Int32.toInt_mul, hs, e2, show (-2 : Int) * ((a : Int) - b) = 2 * ((b : Int) - a) by omega]
    apply Int.bmod_eq_of_le <;> omega
  rw [Int32.toInt_sub, hm, e1, nI_toInt (by omega), show (2 : Int) * ((b : Int) - a) - 1 = ((2 * (b - a) - 1 : Nat) : Int) by omega]
  apply Int.bmod_eq_of_le <;> omega
theorem bfr_lt {t : Nat → Nat} {c k : Nat} (h : ∀ j, j < k → t j < 256) (hc : 0 < c) : bfr t c k < 256 := by
  unfold bfr
  split
  · decide
  · split
    · rename_i h1 h2
      have : k % c ≠ k := by omega
      exact h _ (by omega)
    · exact h _ (by omega)
theorem q_former {c r x y : Nat} {f : Nat → Int32} {t : Nat → Nat} (hc : c ≤ 8) (hr : r ≤ 8) (hx : x < c) (hy : y < r) (hf : relB (y * c + x) f t) {post : Int32 → Prop} (h : post (nI (bfr t c (y * c + x)))) : wp_ZT_formerSample (nI c) (nI r) f (nI x) (nI y) post := by
  unfold bfr at h
  refine ⟨fun hx0 => ⟨fun hy0 => ?_, fun hy0 => ?_⟩, fun hx0 => ?_⟩
  · have hx0 : x = 0 := by have := (nI_leI (b := 0) (by omega) (by omega)).mp hx0; omega
    have hy0 : y = 0 := by have := (nI_leI (b := 0) (by omega) (by omega)).mp hy0; omega
    subst hx0 hy0
    rw [if_pos (by omega)] at h; exact h
  · have hx0 : x = 0 := by have := (nI_leI (b := 0) (by omega) (by omega)).mp hx0; omega
    have hy0 : 0 < y := by
      rcases Nat.eq_zero_or_pos y with q | q
      · exact absurd (by rw [q]; exact (nI_leI (a := 0) (b := 0) (by omega) (by omega)).mpr (by omega)) hy0
      · exact q
    subst hx0
    rw [nI_sub1 hy0]
    have e : (y - 1) * c + 0 = y * c + 0 - c := by rw [Nat.sub_mul]; omega
    have hp : c ≤ y * c := Nat.le_mul_of_pos_left c hy0
    refine q_tSample (x := 0) hc hr (by omega) (by omega) ?_
    rw [e, hf _ (by omega)]
    rw [if_neg (by omega), if_pos (by rw [Nat.add_zero, Nat.mul_mod_left])] at h; exact h
  · have hx0 : 0 < x := by
      rcases Nat.eq_zero_or_pos x with q | q
      · exact absurd (by rw [q]; exact (nI_leI (a := 0) (b := 0) (by omega) (by omega)).mpr (by omega)) hx0
      · exact q
    rw [nI_sub1 hx0]
    refine q_tSample hc hr (by omega) hy ?_
    rw [show y * c + (x - 1) = y * c + x - 1 by omega, hf _ (by omega)]
    rw [if_neg (by omega), if_neg (by rw [Nat.mul_comm, Nat.mul_add_mod, Nat.mod_eq_of_lt hx]; omega)] at h; exact h
theorem q_numberAt {c r x y : Nat} {f : Nat → Int32} {t : Nat → Nat} (hc : c ≤ 8) (hr : r ≤ 8) (hx : x < c) (hy : y < r) (hf : relB (c * r) f t) (ho : okB (c * r) t) {post : Int32 → Prop} (h : post (nI (tld t c (y * c + x)))) : wp_ZK_numberAt (nI c) (nI r) f (nI x) (nI y) post := by
  have hlt := idx_lt hy hx
  have h1 := ho _ hlt
  have h2 := bfr_lt (t := t) (c := c) (k := y * c + x) (fun j hj => ho j (by omega)) (by omega)
  refine q_tSample hc hr hx hy (q_former hc hr hx hy (fun k hk => hf k (by omega)) ?_)
  rw [hf _ hlt]
  unfold tld at h
  refine ⟨fun q => ?_, fun q => ?_⟩
  · rw [zig_m h1 h2 ((zig_neg h1 h2).mp q)]; exact h
  · rw [zig_p (fun z => q ((zig_neg h1 h2).mpr z))]; exact h
theorem m_told {n c k : Nat} {f : Nat → Int32} {t : Nat → Nat} (hn : n ≤ 64) (hc0 : 0 < c) (hc : c ≤ 8) (hk : k < n) (hf : relB (k + 1) f t) (ho : okB (k + 1) t) {post : Int32 → Prop} (h : post (nI (tld t c k))) : wp_ZM_told n f (nI k) (nI c) post := by
  have h1 := ho k (by omega)
  have h2 := bfr_lt (t := t) (c := c) (k := k) (fun j hj => ho j (by omega)) hc0
  have hr := rem0 (n := k) (d := c) (by omega) hc0 (by omega)
  unfold tld at h
  have fin : vp_in (nI k) n ∧ ((((0 : Int32) ≤ ((f (nI k).toNatClampNeg) - nI (bfr t c k)) → (post ((2 : Int32) * ((f (nI k).toNatClampNeg) - nI (bfr t c k))))) ∧ (¬ (0 : Int32) ≤ ((f (nI k).toNatClampNeg) - nI (bfr t c k)) → (post (((-2 : Int32) * ((f (nI k).toNatClampNeg) - nI (bfr t c k))) - (1 : Int32)))))) := by
    rw [nI_clamp (by omega), hf k (by omega)]
    refine ⟨vp_in_nI hk (by omega), ⟨fun q => ?_, fun q => ?_⟩⟩
    · rw [zig_p ((zig_neg' h1 h2).mp q)]; exact h
    · have q : t k < bfr t c k := by
        rcases Nat.lt_or_ge (t k) (bfr t c k) with z | z
        · exact z
        · exact absurd ((zig_neg' h1 h2).mpr (by omega)) q
      rw [zig_m h1 h2 q]; exact h
  refine ⟨_, fun _ hh => hh, ⟨fun e => ?_, fun e => ⟨nI_ne0 hc0 (by omega), ⟨fun e2 => ?_, fun e2 => ?_⟩⟩⟩⟩
  · have e : k = 0 := nI_inj (by omega) (by omega) e
    have eb : bfr t c k = 0 := by unfold bfr; rw [if_pos e]
    rw [eb] at fin; exact fin
  · have e : k ≠ 0 := fun q => e (by rw [q]; rfl)
    have e2 := Nat.mod_eq_zero_of_dvd (hr.mp e2)
    have hle : c ≤ k := by
      rcases Nat.lt_or_ge k c with q | q
      · rw [Nat.mod_eq_of_lt q] at e2; omega
      · exact q
    have eb : bfr t c k = t (k - c) := by unfold bfr; rw [if_neg e, if_pos e2]
    rw [pk_sub hle, nI_clamp (n := k - c) (by omega), hf (k - c) (by omega), ← eb]
    exact ⟨vp_in_nI (by omega) (by omega), fin⟩
  · have e : k ≠ 0 := fun q => e (by rw [q]; rfl)
    have e2 : ¬ k % c = 0 := fun q => e2 (hr.mpr (Nat.dvd_of_mod_eq_zero q))
    have eb : bfr t c k = t (k - 1) := by unfold bfr; rw [if_neg e, if_neg e2]
    rw [nI_sub1 (by omega), nI_clamp (n := k - 1) (by omega), hf (k - 1) (by omega), ← eb]
    exact ⟨vp_in_nI (by omega) (by omega), fin⟩
/-- how many bits a number needs -/
def nb (v : Nat) : Nat := if v = 0 then 0 else Nat.log2 v + 1
theorem nb_le {v n : Nat} : nb v ≤ n ↔ v < 2 ^ n := by
  unfold nb
  by_cases h : v = 0
  · rw [if_pos h, h]; exact ⟨fun _ => Nat.two_pow_pos n, fun _ => Nat.zero_le _⟩
  · rw [if_neg h]; exact Nat.log2_lt h
theorem nb_9 {v : Nat} (h : v < 512) : nb v ≤ 9 := nb_le.mpr h
theorem nb_max (a b : Nat) : nb (max a b) = max (nb a) (nb b) := by
  have h1 : nb (max a b) ≤ max (nb a) (nb b) := by
    rw [nb_le]
    have ha : a < 2 ^ max (nb a) (nb b) := nb_le.mp (Nat.le_max_left _ _)
    have hb : b < 2 ^ max (nb a) (nb b) := nb_le.mp (Nat.le_max_right _ _)
    omega
  have h2 : nb a ≤ nb (max a b) := nb_le.mpr (by have := nb_le.mp (Nat.le_refl (nb (max a b))); omega)
  have h3 : nb b ≤ nb (max a b) := nb_le.mpr (by have := nb_le.mp (Nat.le_refl (nb (max a b))); omega)
  omega
theorem div_nb {v n : Nat} : v / 2 ^ n = 0 ↔ nb v ≤ n := by
  rw [nb_le, Nat.div_eq_zero_iff]
  have := Nat.two_pow_pos n
  omega
theorem q_bits {v : Nat} (hv : v < 512) {post : Int32 → Prop} (h : post (nI (nb v))) : wp_ZQ_bitsNeeded (nI v) post := by
  have h9 := nb_9 hv
  have key : ∀ d n, n + d = nb v → lp_ZQ_bitsNeeded_2 (nI v) post (fun a => post a) (d + 1) (nI n) := by
    intro d
    induction d with
    | zero =>
      intro n hn
      obtain rfl : n = nb v := by omega
      have e : v / 2 ^ nb v = 0 := div_nb.mpr (Nat.le_refl _)
      refine ⟨fun _ => h, fun _ => ⟨fun _ => h, fun q => ?_⟩⟩
      rw [shr_nI (by omega) (by omega), e] at q
      exact absurd rfl q
    | succ d ih =>
      intro n hn
      have e : v / 2 ^ n ≠ 0 := fun q => by have := div_nb.mp q; omega
      have hd : v / 2 ^ n ≤ v := Nat.div_le_self _ _
      refine ⟨fun q => absurd ((nI_leI (a := 9) (by omega) (by omega)).mp q) (by omega), fun _ => ⟨fun q => ?_, fun _ => ?_⟩⟩
      · rw [shr_nI (by omega) (by omega)] at q
        exact absurd q (nI_ne0 (Nat.pos_of_ne_zero e) (by omega))
      · show lp_ZQ_bitsNeeded_2 (nI v) post (fun a => post a) (d + 1) (nI n + 1)
        rw [nI_1]; exact ih (n + 1) (by omega)
  exact ⟨nb v + 1, key (nb v) 0 (by omega)⟩
theorem m_bits {v : Nat} (hv : v < 512) {post : Int32 → Prop} (h : post (nI (nb v))) : wp_ZM_bitsOf (nI v) post := by
  have h9 := nb_9 hv
  have key : ∀ d n, n + d = nb v → lp_ZM_bitsOf_2 (nI v) post (fun a => post a) (d + 1) (nI n) := by
    intro d
    induction d with
    | zero =>
      intro n hn
      obtain rfl : n = nb v := by omega
      have e : v / 2 ^ nb v = 0 := div_nb.mpr (Nat.le_refl _)
      refine ⟨fun _ => h, fun q => ?_⟩
      rw [shr_nI (by omega) (by omega), e] at q
      exact absurd ((nI_leI (a := 0) (b := 0) (by omega) (by omega)).mpr (Nat.le_refl _)) q
    | succ d ih =>
      intro n hn
      have e : v / 2 ^ n ≠ 0 := fun q => by have := div_nb.mp q; omega
      have hd : v / 2 ^ n ≤ v := Nat.div_le_self _ _
      refine ⟨fun q => ?_, fun _ => ?_⟩
      · rw [shr_nI (by omega) (by omega)] at q
        exact absurd q (nI_nle (Nat.pos_of_ne_zero e) (by omega))
      · show lp_ZM_bitsOf_2 (nI v) post (fun a => post a) (d + 1) (nI n + 1)
        rw [nI_1]; exact ih (n + 1) (by omega)
  exact ⟨nb v + 1, key (nb v) 0 (by omega)⟩
/-- the greatest of the first n -/
def mxR (g : Nat → Nat) : Nat → Nat
  | 0 => 0
  | n + 1 => max (mxR g n) (g n)
theorem mxR_lt {g : Nat → Nat} {n m : Nat} (hm : 0 < m) (h : ∀ i, i < n → g i < m) : mxR g n < m := by
  induction n with
  | zero => exact hm
  | succ n ih =>
    have h1 := ih (fun i hi => h i (by omega))
    have h2 := h n (by omega)
    show max (mxR g n) (g n) < m
    omega
theorem mxR_ge {g : Nat → Nat} {n i : Nat} (h : i < n) : g i ≤ mxR g n := by
  induction n with
  | zero => omega
  | succ n ih =>
    show g i ≤ max (mxR g n) (g n)
    rcases Nat.lt_or_ge i n with q | q
    · have := ih q; omega
    · obtain rfl : i = n := by omega
      omega
theorem mxR_nb (g : Nat → Nat) (n : Nat) : mxR (fun i => nb (g i)) n = nb (mxR g n) := by
  induction n with
  | zero => rfl
  | succ n ih =>
    show max (mxR (fun i => nb (g i)) n) (nb (g n)) = nb (max (mxR g n) (g n))
    rw [nb_max, ih]
/-- the bits of a row of a tile -/
def rwb (t : Nat → Nat) (c y : Nat) : Nat := nb (mxR (fun x => tld t c (y * c + x)) c)
theorem tld_lt {t : Nat → Nat} {c n k : Nat} (ho : okB n t) (hc : 0 < c) (hk : k < n) : tld t c k < 512 := zig_lt (ho k hk) (bfr_lt (fun j hj => ho j (by omega)) hc)
theorem q_greatest {c r y : Nat} {f : Nat → Int32} {t : Nat → Nat} (hc : c ≤ 8) (hr : r ≤ 8) (hc0 : 0 < c) (hy : y < r) (hf : relB (c * r) f t) (ho : okB (c * r) t) {post : Int32 → Prop} (h : post (nI (mxR (fun x => tld t c (y * c + x)) c))) : wp_ZK_greatestNumber (nI c) (nI r) f (nI y) post := by
  have hb : ∀ n, n ≤ c → mxR (fun x => tld t c (y * c + x)) n < 512 := fun n hn => mxR_lt (by decide) (fun i hi => tld_lt ho hc0 (idx_lt hy (by omega)))
  have key : ∀ d x, x + d = c → lp_ZK_greatestNumber_4 (nI c) (nI r) f (nI y) post (fun a _ => post a) (d + 1) (nI (mxR (fun x => tld t c (y * c + x)) x)) (nI x) := by
    intro d
    induction d with
    | zero =>
      intro x hx
      obtain rfl : x = c := by omega
      exact ⟨fun _ => h, fun q => absurd ((nI_leI (by omega) (by omega)).mpr (Nat.le_refl _)) q⟩
    | succ d ih =>
      intro x hx
      refine ⟨fun q => absurd ((nI_leI (by omega) (by omega)).mp q) (by omega), fun _ => q_numberAt hc hr (by omega) hy hf ho ?_⟩
      have b1 := hb x (by omega)
      have b2 := tld_lt ho hc0 (idx_lt hy (show x < c by omega))
      have b3 := ih (x + 1) (by omega)
      have e : (if nI (mxR (fun x => tld t c (y * c + x)) x) < nI (tld t c (y * c + x)) then nI (tld t c (y * c + x)) else nI (mxR (fun x => tld t c (y * c + x)) x)) = nI (mxR (fun x => tld t c (y * c + x)) (x + 1)) := by
        show _ = nI (max (mxR (fun x => tld t c (y * c + x)) x) (tld t c (y * c + x)))
        by_cases q : mxR (fun x => tld t c (y * c + x)) x < tld t c (y * c + x)
        · rw [if_pos ((nI_ltI (by omega) (by omega)).mpr q), Nat.max_eq_right (by omega)]
        · rw [if_neg (fun z => q ((nI_ltI (by omega) (by omega)).mp z)), Nat.max_eq_left (by omega)]
      show lp_ZK_greatestNumber_4 (nI c) (nI r) f (nI y) post (fun a _ => post a) (d + 1) (if nI (mxR (fun x => tld t c (y * c + x)) x) < nI (tld t c (y * c + x)) then nI (tld t c (y * c + x)) else nI (mxR (fun x => tld t c (y * c + x)) x)) (nI x + 1)
      rw [e, nI_1]; exact b3
  exact ⟨c + 1, key c 0 (by omega)⟩
theorem m_rowBits {n c y : Nat} {f : Nat → Int32} {t : Nat → Nat} (hn : n ≤ 64) (hc : c ≤ 8) (hc0 : 0 < c) (hy : y * c + c ≤ n) (hf : relB (y * c + c) f t) (ho : okB (y * c + c) t) {post : Int32 → Prop} (h : post (nI (rwb t c y))) : wp_ZM_rowBits n f (nI y) (nI c) post := by
  have hb : ∀ m, m ≤ c → mxR (fun x => nb (tld t c (y * c + x))) m < 10 := fun m hm => mxR_lt (by decide) (fun i hi => by have := nb_9 (tld_lt ho hc0 (show y * c + i < y * c + c by omega)); omega)
  have key : ∀ d x, x + d = c → lp_ZM_rowBits_5 n f (nI y) (nI c) post (fun a _ => post a) (d + 1) (nI (mxR (fun x => nb (tld t c (y * c + x))) x)) (nI x) := by
    intro d
    induction d with
    | zero =>
      intro x hx
      obtain rfl : x = c := by omega
      refine ⟨fun _ => ?_, fun q => absurd ((nI_leI (by omega) (by omega)).mpr (Nat.le_refl _)) q⟩
      rw [mxR_nb]; exact h
    | succ d ih =>
      intro x hx
      refine ⟨fun q => absurd ((nI_leI (by omega) (by omega)).mp q) (by omega), fun _ => ?_⟩
      have b1 := hb x (by omega)
      have b2 := tld_lt ho hc0 (show y * c + x < y * c + c by omega)
      have b4 := nb_9 b2
      have b3 := ih (x + 1) (by omega)
      have hm : ∀ {X : Int32 → Prop}, X (nI (tld t c (y * c + x))) → wp_ZM_told n f (nI y * nI c + nI x) (nI c) X := by
        intro X hX
        rw [pk_mul, nI_add]
        exact m_told hn hc0 hc (by omega) (fun k hk => hf k (by omega)) (fun k hk => ho k (by omega)) hX
      refine hm (m_bits b2 ⟨fun q => ?_, fun q => ?_⟩)
      · have q := (nI_leI (by omega) (by omega)).mp q
        show lp_ZM_rowBits_5 n f (nI y) (nI c) post (fun a _ => post a) (d + 1) (nI (mxR (fun x => nb (tld t c (y * c + x))) x)) (nI x + 1)
        rw [nI_1]
        have e : mxR (fun x => nb (tld t c (y * c + x))) (x + 1) = mxR (fun x => nb (tld t c (y * c + x))) x := by
          show max (mxR (fun x => nb (tld t c (y * c + x))) x) (nb (tld t c (y * c + x))) = _
          omega
        rw [e] at b3; exact b3
      · have q : ¬ nb (tld t c (y * c + x)) ≤ mxR (fun x => nb (tld t c (y * c + x))) x := fun z => q ((nI_leI (by omega) (by omega)).mpr z)
        show lp_ZM_rowBits_5 n f (nI y) (nI c) post (fun a _ => post a) (d + 1) (nI (nb (tld t c (y * c + x)))) (nI x + 1)
        rw [nI_1]
        have e : mxR (fun x => nb (tld t c (y * c + x))) (x + 1) = nb (tld t c (y * c + x)) := by
          show max (mxR (fun x => nb (tld t c (y * c + x))) x) (nb (tld t c (y * c + x))) = _
          omega
        rw [e] at b3; exact b3
  exact ⟨c + 1, key c 0 (by omega)⟩
