/-! a row's numbers as one number, and its bytes -/
def numN (b : Nat) (g : Nat → Nat) : Nat → Nat
  | 0 => 0
  | x + 1 => numN b g x + g x * 2 ^ (b * x)
theorem numN_lt {b n : Nat} {g : Nat → Nat} (h : ∀ i, i < n → g i < 2 ^ b) : numN b g n < 2 ^ (b * n) := by
  induction n with
  | zero => exact Nat.two_pow_pos _
  | succ n ih =>
    have h1 := ih (fun i hi => h i (by omega))
    have h2 := h n (by omega)
    show numN b g n + g n * 2 ^ (b * n) < 2 ^ (b * (n + 1))
    rw [Nat.mul_add, Nat.mul_one, Nat.pow_add, Nat.mul_comm (2 ^ (b * n))]
    have h3 : (g n + 1) * 2 ^ (b * n) ≤ 2 ^ b * 2 ^ (b * n) := Nat.mul_le_mul_right _ h2
    rw [Nat.add_mul, Nat.one_mul] at h3
    omega
theorem numN_digit {b n x : Nat} {g : Nat → Nat} (h : ∀ i, i < n → g i < 2 ^ b) (hx : x < n) : numN b g n / 2 ^ (b * x) % 2 ^ b = g x := by
  induction n with
  | zero => omega
  | succ n ih =>
    have h0 : ∀ i, i < n → g i < 2 ^ b := fun i hi => h i (by omega)
    show (numN b g n + g n * 2 ^ (b * n)) / 2 ^ (b * x) % 2 ^ b = g x
    rcases Nat.lt_or_ge x n with q | q
    · have e : g n * 2 ^ (b * n) = 2 ^ (b * x) * (2 ^ b * (2 ^ (b * (n - x - 1)) * g n)) := by
        rw [← Nat.mul_assoc, ← Nat.mul_assoc, ← Nat.pow_add, ← Nat.pow_add, Nat.mul_comm (g n)]
        congr 2
        obtain ⟨d, rfl⟩ : ∃ d, n = x + 1 + d := ⟨n - x - 1, by omega⟩
        rw [show x + 1 + d - x - 1 = d by omega, Nat.mul_add, Nat.mul_add, Nat.mul_one]
      rw [e, Nat.add_mul_div_left _ _ (Nat.two_pow_pos _), Nat.add_mul_mod_self_left]
      exact ih h0 q
    · obtain rfl : x = n := by omega
      rw [Nat.add_mul_div_right _ _ (Nat.two_pow_pos _), Nat.div_eq_of_lt (numN_lt h0), Nat.zero_add, Nat.mod_eq_of_lt (h x (by omega))]
/-- one bit of the row's number -/
theorem numN_bit {b n k : Nat} {g : Nat → Nat} (h : ∀ i, i < n → g i < 2 ^ b) (hb : 0 < b) (hk : k < b * n) : numN b g n / 2 ^ k % 2 = g (k / b) / 2 ^ (k % b) % 2 := by
  have hx : k / b < n := by rw [Nat.div_lt_iff_lt_mul hb, Nat.mul_comm]; exact hk
  have hj : k % b < b := Nat.mod_lt _ hb
  have hd := numN_digit h hx
  have e : 2 ^ k = 2 ^ (b * (k / b)) * 2 ^ (k % b) := by rw [← Nat.pow_add, Nat.div_add_mod]
  rw [e, ← Nat.div_div_eq_div_mul, ← hd]
  generalize numN b g n / 2 ^ (b * (k / b)) = m
  have e2 : 2 ^ b = 2 ^ (k % b) * (2 * 2 ^ (b - k % b - 1)) := by
    rw [← Nat.mul_assoc, ← Nat.pow_succ, ← Nat.pow_add]
    congr 1; omega
  rw [e2, Nat.mod_mul_right_div_self, Nat.mod_mul_right_mod]
theorem p256 (q : Nat) : 256 ^ q = 2 ^ (8 * q) := by rw [Nat.pow_mul]
/-- the buffer with one more row -/
def rowW (b : Nat → Nat) (s n N : Nat) : Nat → Nat := fun j => if j < s then b j else if j = s then n else N / 256 ^ (j - s - 1) % 256
theorem rowW_ok {b : Nat → Nat} {s n N m : Nat} (hb : okB s b) (hn : n < 256) : okB m (rowW b s n N) := by
  intro j _
  unfold rowW
  split
  · exact hb j (by omega)
  · split
    · exact hn
    · exact Nat.mod_lt _ (by decide)
theorem q_append {s : Nat} {f : Nat → Int32} {v : Int32} (hs : s < 256) {post : Int32 → (Nat → Int32) → Prop} (h : post (nI (s + 1)) (upd f s v)) : wp_ZB_append (nI s) f v post := by
  have hlt : nI s < (256 : Int32) := nI_lt (b := 256) hs (by decide)
  refine ⟨fun _ => ⟨fun _ => ⟨vp_in_nI hs (by decide), ?_⟩, fun q => absurd rfl q⟩, fun q => absurd hlt q⟩
  rw [nI_1, nI_clamp (by omega)]; exact h
theorem relB_ext {n : Nat} {f : Nat → Int32} {b : Nat → Nat} {v : Int32} (h : relB n f b) (hv : v = nI (b n)) : relB (n + 1) (upd f n v) b := by
  intro j hj
  by_cases hc : j = n
  · rw [hc, hv]; exact pk_us
  · rw [pk_un hc]; exact h j (by omega)
theorem relB_congr {n : Nat} {f : Nat → Int32} {b b' : Nat → Nat} (h : relB n f b) (e : ∀ k, k < n → b k = b' k) : relB n f b' := fun k hk => by rw [← e k hk]; exact h k hk
theorem or_add {a i b : Nat} (h : b < 2 ^ i) : b ||| (a * 2 ^ i) = b + a * 2 ^ i := by
  rw [Nat.or_comm, ← Nat.shiftLeft_eq, ← Nat.shiftLeft_add_eq_or_of_lt h, Nat.add_comm]
theorem nI_or {a b : Nat} (ha : a < 2 ^ 31) (hb : b < 2 ^ 31) : nI a ||| nI b = nI (a ||| b) := by
  have hx : a ||| b < 2 ^ 31 := Nat.or_lt_two_pow ha hb
  apply Int32.toBitVec_inj.mp
  apply BitVec.eq_of_toNat_eq
  rw [pk_tn (by omega), Int32.toBitVec_or, BitVec.toNat_or, pk_tn (by omega), pk_tn (by omega)]
theorem and255 {n : Nat} (h : n < 2 ^ 31) : nI n &&& (255 : Int32) = nI (n % 256) := pk_andN (by omega) 8 rfl
theorem and1 {n : Nat} (h : n < 2 ^ 31) : nI n &&& (1 : Int32) = nI (n % 2) := pk_andN (by omega) 1 rfl
theorem shr8 {n : Nat} (h : n < 2 ^ 31) : nI n >>> ((8 : Int32) &&& 31) = nI (n / 256) := shr_nI (k := 8) (by decide) h
theorem nI_m8 {n : Nat} (h : 8 ≤ n) : nI n + (-8 : Int32) = nI (n - 8) := by
  have e := pk_sub (a := n) (b := 8) h
  rw [Int32.sub_eq_add_neg] at e
  exact e
theorem p9 {b : Nat} (h : b ≤ 9) : 2 ^ b ≤ 512 := Nat.pow_le_pow_right (n := 2) (by decide) h
theorem p16 {b : Nat} (h : b ≤ 16) : 1 ≤ 2 ^ b ∧ 2 ^ b ≤ 65536 := ⟨Nat.one_le_two_pow, Nat.pow_le_pow_right (n := 2) (by decide) h⟩
/-- a row's numbers as one -/
def rwN (t : Nat → Nat) (c y : Nat) : Nat := numN (rwb t c y) (fun x => tld t c (y * c + x)) c
theorem tld_rwb {t : Nat → Nat} {c y x : Nat} (hx : x < c) : tld t c (y * c + x) < 2 ^ rwb t c y := by
  have h1 : tld t c (y * c + x) ≤ mxR (fun x => tld t c (y * c + x)) c := mxR_ge (g := fun x => tld t c (y * c + x)) hx
  have h2 := nb_le.mp (Nat.le_refl (nb (mxR (fun x => tld t c (y * c + x)) c)))
  unfold rwb
  omega
theorem rwb_9 {t : Nat → Nat} {c y n : Nat} (ho : okB n t) (hc : 0 < c) (hy : y * c + c ≤ n) : rwb t c y ≤ 9 := nb_9 (mxR_lt (by decide) (fun i hi => tld_lt ho hc (by omega)))
theorem q_packRow {c r y s : Nat} {f g : Nat → Int32} {t b : Nat → Nat} (hc : c ≤ 8) (hr : r ≤ 8) (hc0 : 0 < c) (hy : y < r) (hf : relB (c * r) f t) (ho : okB (c * r) t) (hs : s ≤ 200) (hg : relB s g b) {post : Int32 → (Nat → Int32) → Prop}
    (h : ∀ g', relB (s + 1 + (rwb t c y * c + 7) / 8) g' (rowW b s (rwb t c y) (rwN t c y)) → post (nI (s + 1 + (rwb t c y * c + 7) / 8)) g') : wp_ZK_packRow (nI c) (nI r) f (nI s) g (nI y) post := by
  have hrow : y * c + c ≤ c * r := by
    have : (y + 1) * c ≤ r * c := Nat.mul_le_mul_right c hy
    rw [Nat.add_mul, Nat.one_mul] at this
    rw [Nat.mul_comm c r]; omega
  have h9 := rwb_9 ho hc0 hrow
  have hm : mxR (fun x => tld t c (y * c + x)) c < 512 := mxR_lt (by decide) (fun i hi => tld_lt ho hc0 (by omega))
  refine q_greatest hc hr hc0 hy hf ho (q_bits hm ?_)
  have hT : ∀ i, i < c → (fun x => tld t c (y * c + x)) i < 2 ^ rwb t c y := fun i hi => tld_rwb hi
  show wp_ZB_append (nI s) g (nI (rwb t c y)) _
  have hrN : rwN t c y = numN (rwb t c y) (fun x => tld t c (y * c + x)) c := rfl
  rw [show nb (mxR (fun x => tld t c (y * c + x)) c) = rwb t c y from rfl]
  generalize rwb t c y = B at *
  generalize rwN t c y = N at *
  have hBc : B * c ≤ 72 := Nat.mul_le_mul h9 hc
  -- the digits of the first x numbers
  have Nx : ∀ x, x ≤ c → numN B (fun x => tld t c (y * c + x)) x < 2 ^ (B * x) := fun x hx => numN_lt (fun i hi => hT i (by omega))
  have low : ∀ x i, x < c → 8 * (i + 1) ≤ B * x → numN B (fun x => tld t c (y * c + x)) (x + 1) / 256 ^ i % 256 = numN B (fun x => tld t c (y * c + x)) x / 256 ^ i % 256 := by
    intro x i hx hi
    show (numN B (fun x => tld t c (y * c + x)) x + tld t c (y * c + x) * 2 ^ (B * x)) / 256 ^ i % 256 = _
    have e : tld t c (y * c + x) * 2 ^ (B * x) = 256 ^ i * (256 * (2 ^ (B * x - 8 * (i + 1)) * tld t c (y * c + x))) := by
      rw [← Nat.mul_assoc, ← Nat.mul_assoc, ← Nat.pow_succ, p256, ← Nat.pow_add, Nat.mul_comm (tld t c (y * c + x))]
      congr 2; omega
    rw [e, Nat.add_mul_div_left _ _ (Nat.pow_pos (by decide)), Nat.add_mul_mod_self_left]
  refine q_append (by omega) ?_
  -- the bytes written so far: q of the row's, by the first x numbers
  have inner : ∀ (x4 x5 x6 v1 : Int32) (f0 : Nat → Int32) (r6 : Int32) (bl3 : Int32) (bf4 : Nat → Int32) (r1 : Int32) (K : Int32 → Int32 → Int32 → (Nat → Int32) → Prop) (x : Nat), x ≤ c → (∀ q g', 8 * q ≤ B * x → B * x < 8 * q + 8 → relB (s + 1 + q) g' (rowW b s B (numN B (fun x => tld t c (y * c + x)) x)) → K (nI (numN B (fun x => tld t c (y * c + x)) x / 256 ^ q)) (nI (B * x - 8 * q)) (nI (s + 1 + q)) g') →
      ∀ d q g', 8 * q ≤ B * x → B * x < 8 * (q + d) + 8 → B * x ≤ 8 * q + 16 → relB (s + 1 + q) g' (rowW b s B (numN B (fun x => tld t c (y * c + x)) x)) → lp_ZK_packRow_53 (nI c) (nI r) f (nI s) g (nI y) r1 (nI B) bl3 bf4 x4 x5 x6 v1 f0 r6 post K (d + 1) (nI (numN B (fun x => tld t c (y * c + x)) x / 256 ^ q)) (nI (B * x - 8 * q)) (nI (s + 1 + q)) g' := by
    intro x4 x5 x6 v1 f0 r6 bl3 bf4 r1 K x hx hK d
    have hBx : B * x ≤ B * c := Nat.mul_le_mul_left B hx
    induction d with
    | zero =>
      intro q g' h1 h2 h3 hg'
      refine ⟨fun _ => hK q g' h1 (by omega) hg', fun z => absurd ((nI_ltI (b := 8) (by omega) (by omega)).mpr (by omega)) z⟩
    | succ d ih =>
      intro q g' h1 h2 h3 hg'
      refine ⟨fun z => hK q g' h1 ?_ hg', fun z => ?_⟩
      · have := (nI_ltI (b := 8) (by omega) (by omega)).mp z; omega
      · have z : 8 ≤ B * x - 8 * q := by
          rcases Nat.lt_or_ge (B * x - 8 * q) 8 with w | w
          · exact absurd ((nI_ltI (b := 8) (by omega) (by omega)).mpr w) z
          · exact w
        have hv : numN B (fun x => tld t c (y * c + x)) x / 256 ^ q < 2 ^ 16 := by
          rw [Nat.div_lt_iff_lt_mul (Nat.pow_pos (by decide)), p256, ← Nat.pow_add]
          exact Nat.lt_of_lt_of_le (Nx x hx) (Nat.pow_le_pow_right (by decide) (by omega))
        refine q_append (by omega) ?_
        show lp_ZK_packRow_53 (nI c) (nI r) f (nI s) g (nI y) r1 (nI B) bl3 bf4 x4 x5 x6 v1 f0 r6 post K (d + 1) (nI (numN B (fun x => tld t c (y * c + x)) x / 256 ^ q) >>> ((8 : Int32) &&& 31)) (nI (B * x - 8 * q) + (-8 : Int32)) (nI (s + 1 + q + 1)) (upd g' (s + 1 + q) (nI (numN B (fun x => tld t c (y * c + x)) x / 256 ^ q) &&& (255 : Int32)))
        rw [shr8 (by omega), nI_m8 z, and255 (by omega), Nat.div_div_eq_div_mul, ← Nat.pow_succ, show B * x - 8 * q - 8 = B * x - 8 * (q + 1) by omega]
        refine ih (q + 1) _ (by omega) (by omega) (by omega) (relB_ext (n := s + 1 + q) hg' ?_)
        unfold rowW
        rw [if_neg (by omega), if_neg (by omega), show s + 1 + q - s - 1 = q by omega]
  have outer : ∀ (bl3 : Int32) (bf4 : Nat → Int32) (r1 : Int32) (K : Int32 → Int32 → Int32 → Int32 → (Nat → Int32) → Prop), (∀ q g' e, 8 * q ≤ B * c → B * c < 8 * q + 8 → relB (s + 1 + q) g' (rowW b s B N) → K (nI (N / 256 ^ q)) (nI (B * c - 8 * q)) e (nI (s + 1 + q)) g') → ∀ d x q g', x + d = c → 8 * q ≤ B * x → B * x < 8 * q + 8 → relB (s + 1 + q) g' (rowW b s B (numN B (fun x => tld t c (y * c + x)) x)) →
      lp_ZK_packRow_23 (nI c) (nI r) f (nI s) g (nI y) r1 (nI B) bl3 bf4 post K (d + 1) (nI (numN B (fun x => tld t c (y * c + x)) x / 256 ^ q)) (nI (B * x - 8 * q)) (nI x) (nI (s + 1 + q)) g' := by
    intro bl3 bf4 r1 K hK d
    induction d with
    | zero =>
      intro x q g' hx h1 h2 hg'
      obtain rfl : x = c := by omega
      rw [← hrN] at hg' ⊢
      exact ⟨fun _ => hK q g' _ h1 h2 hg', fun z => absurd ((nI_leI (by omega) (by omega)).mpr (Nat.le_refl _)) z⟩
    | succ d ih =>
      intro x q g' hx h1 h2 hg'
      have hBx : B * (x + 1) = B * x + B := by rw [Nat.mul_add, Nat.mul_one]
      have hBc2 : B * (x + 1) ≤ B * c := Nat.mul_le_mul_left B (by omega)
      have ht := tld_lt ho hc0 (show y * c + x < c * r by omega)
      have ht2 := hT x (by omega)
      refine ⟨fun z => absurd ((nI_leI (by omega) (by omega)).mp z) (by omega), fun _ => q_numberAt hc hr (by omega) hy hf ho ⟨3, ?_⟩⟩
      have hheld : numN B (fun x => tld t c (y * c + x)) x / 256 ^ q < 2 ^ (B * x - 8 * q) := by
        rw [Nat.div_lt_iff_lt_mul (Nat.pow_pos (by decide)), p256, ← Nat.pow_add, show B * x - 8 * q + 8 * q = B * x by omega]
        exact Nx x (by omega)
      have hp7 : 2 ^ (B * x - 8 * q) ≤ 128 := show 2 ^ (B * x - 8 * q) ≤ 2 ^ 7 from Nat.pow_le_pow_right (by decide) (by omega)
      have hp1 := Nat.two_pow_pos (B * x - 8 * q)
      have hprod : tld t c (y * c + x) * 2 ^ (B * x - 8 * q) ≤ 512 * 128 := Nat.mul_le_mul (by omega) hp7
      have e1 : nI (numN B (fun x => tld t c (y * c + x)) x / 256 ^ q) ||| (nI (tld t c (y * c + x)) <<< (nI (B * x - 8 * q) &&& 31)) = nI (numN B (fun x => tld t c (y * c + x)) (x + 1) / 256 ^ q) := by
        rw [shl_nI (by omega) (by omega), nI_or (by omega) (by omega), or_add hheld]
        congr 1
        show _ = (numN B (fun x => tld t c (y * c + x)) x + tld t c (y * c + x) * 2 ^ (B * x)) / 256 ^ q
        rw [show tld t c (y * c + x) * 2 ^ (B * x) = 256 ^ q * (tld t c (y * c + x) * 2 ^ (B * x - 8 * q)) by
          rw [p256, Nat.mul_comm (2 ^ (8 * q)), Nat.mul_assoc, ← Nat.pow_add, show B * x - 8 * q + 8 * q = B * x by omega], Nat.add_mul_div_left _ _ (Nat.pow_pos (by decide))]
      have e2 : nI (B * x - 8 * q) + nI B = nI (B * (x + 1) - 8 * q) := by rw [nI_add]; congr 1; omega
      show lp_ZK_packRow_53 (nI c) (nI r) f (nI s) g (nI y) r1 (nI B) bl3 bf4 (nI (numN B (fun x => tld t c (y * c + x)) x / 256 ^ q)) (nI (B * x - 8 * q)) (nI x) (nI (s + 1 + q)) g' (nI (tld t c (y * c + x))) post (fun (x4_53e : Int32) (x5_53e : Int32) (v1_53e_ob : Int32) (f_53e_oba : Nat → Int32) => lp_ZK_packRow_23 (nI c) (nI r) f (nI s) g (nI y) r1 (nI B) bl3 bf4 post K (d + 1) x4_53e x5_53e (nI x + (1 : Int32)) v1_53e_ob f_53e_oba) 3 (nI (numN B (fun x => tld t c (y * c + x)) x / 256 ^ q) ||| (nI (tld t c (y * c + x)) <<< (nI (B * x - 8 * q) &&& 31))) (nI (B * x - 8 * q) + nI B) (nI (s + 1 + q)) g'
      rw [e1, e2]
      refine inner _ _ _ _ _ _ _ _ _ _ (x + 1) (by omega) (fun q' g'' k1 k2 hg'' => ?_) 2 q g' (by omega) (by omega) (by omega) (relB_congr hg' (fun k hk => ?_))
      · rw [nI_1]
        exact ih (x + 1) q' g'' (by omega) k1 k2 hg''
      · unfold rowW
        by_cases k1 : k < s
        · rw [if_pos k1, if_pos k1]
        · rw [if_neg k1, if_neg k1]
          by_cases k2 : k = s
          · rw [if_pos k2, if_pos k2]
          · rw [if_neg k2, if_neg k2, low x (k - s - 1) (by omega) (by omega)]
  have fin : ∀ q g', 8 * q ≤ B * c → B * c < 8 * q + 8 → relB (s + 1 + q) g' (rowW b s B N) → ((nI (B * c - 8 * q) ≤ (0 : Int32) → (post (nI (s + 1 + q)) g')) ∧ (¬ nI (B * c - 8 * q) ≤ (0 : Int32) → (wp_ZB_append (nI (s + 1 + q)) g' (nI (N / 256 ^ q)) (fun (bl_11 : Int32) (bf_12 : Nat → Int32) => post bl_11 bf_12)))) := by
    intro q g' k1 k2 hg'
    refine ⟨fun z => ?_, fun z => ?_⟩
    · have z := (nI_leI (b := 0) (by omega) (by omega)).mp z
      have e : q = (B * c + 7) / 8 := by omega
      rw [e] at hg' ⊢
      exact h g' hg'
    · have z : 0 < B * c - 8 * q := by
        rcases Nat.eq_zero_or_pos (B * c - 8 * q) with w | w
        · exact absurd (by rw [w]; exact (nI_leI (a := 0) (b := 0) (by omega) (by omega)).mpr (Nat.le_refl _)) z
        · exact w
      have e : q + 1 = (B * c + 7) / 8 := by omega
      refine q_append (by omega) ?_
      rw [show s + 1 + q + 1 = s + 1 + (B * c + 7) / 8 by omega]
      refine h _ ?_
      rw [← e, ← Nat.add_assoc]
      refine relB_ext (n := s + 1 + q) hg' ?_
      unfold rowW
      rw [if_neg (by omega), if_neg (by omega), show s + 1 + q - s - 1 = q by omega, Nat.mod_eq_of_lt]
      rw [hrN, Nat.div_lt_iff_lt_mul (Nat.pow_pos (by decide)), show (256 : Nat) * 256 ^ q = 2 ^ (8 * (q + 1)) by rw [Nat.mul_comm, ← Nat.pow_succ, p256]]
      exact Nat.lt_of_lt_of_le (Nx c (Nat.le_refl _)) (Nat.pow_le_pow_right (by decide) (by omega))
  have i0 : relB (s + 1 + 0) (upd g s (nI B)) (rowW b s B (numN B (fun x => tld t c (y * c + x)) 0)) := by
    refine relB_ext (n := s) (relB_congr hg (fun k hk => ?_)) ?_
    · unfold rowW
      rw [if_pos hk]
    · unfold rowW
      rw [if_neg (by omega), if_pos rfl]
  have k0 := outer (nI (s + 1)) (upd g s (nI B)) (nI (mxR (fun x => tld t c (y * c + x)) c)) (fun x4 x5 _ v1 f1 => ((x5 ≤ (0 : Int32) → (post v1 f1)) ∧ (¬ x5 ≤ (0 : Int32) → (wp_ZB_append v1 f1 x4 (fun (bl_11 : Int32) (bf_12 : Nat → Int32) => post bl_11 bf_12))))) (fun q g' e k1 k2 hg' => fin q g' k1 k2 hg') c 0 0 _ (by omega) (by omega) (by omega) i0
  rw [show numN B (fun x => tld t c (y * c + x)) 0 / 256 ^ 0 = 0 by rw [numN, Nat.zero_div], show B * 0 - 8 * 0 = 0 by omega] at k0
  exact ⟨c + 1, k0⟩
