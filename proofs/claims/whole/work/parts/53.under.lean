/-- how many of a level's samples' columns lie under place x of level k -/
def rc (W k x : Nat) : Nat := min (2 ^ k) (W - x * 2 ^ k)
theorem hv_lt {W k x : Nat} (h1 : 1 ≤ W) (h : x < hv W k) : x * 2 ^ k < W := by
  have h2 : 0 < 2 ^ k := Nat.two_pow_pos k
  unfold hv at h
  have h3 := (Nat.le_div_iff_mul_le h2).mp (show x + 1 ≤ _ from h)
  rw [Nat.add_mul, Nat.one_mul] at h3
  omega
theorem rc_in {W k x : Nat} (h : x * 2 ^ k < W) : 1 ≤ rc W k x ∧ x * 2 ^ k + rc W k x ≤ W := by
  have h2 : 0 < 2 ^ k := Nat.two_pow_pos k
  unfold rc
  omega
theorem q_reach {W k x : Nat} (hW : W ≤ 40) (hk : k ≤ 6) (h : x * 2 ^ k < W) {post : Int32 → Prop} (hp : post (nI (rc W k x))) : wp_ZY_reach (nI k) (nI x) (nI W) post := by
  have hq := pw6 hk
  unfold wp_ZY_reach
  rw [show (1 : Int32) = nI 1 from rfl, shl_nI (by omega) (by omega), shl_nI (by omega) (by omega), pk_sub (by omega), Nat.one_mul]
  unfold rc at hp
  by_cases hc : W - x * 2 ^ k < 2 ^ k
  · rw [if_pos ((nI_ltI (by omega) (by omega)).mpr hc)]
    rw [Nat.min_eq_right (by omega)] at hp; exact hp
  · rw [if_neg (fun q => hc ((nI_ltI (by omega) (by omega)).mp q))]
    rw [Nat.min_eq_left (by omega)] at hp; exact hp
/-- sums -/
def sumR (f : Nat → Nat) : Nat → Nat
  | 0 => 0
  | n + 1 => sumR f n + f n
theorem sumR_le {f : Nat → Nat} {c n : Nat} (h : ∀ i, i < n → f i ≤ c) : sumR f n ≤ c * n := by
  induction n with
  | zero => exact Nat.zero_le _
  | succ n ih =>
    have h1 := ih (fun i hi => h i (by omega))
    have h2 := h n (by omega)
    show sumR f n + f n ≤ c * (n + 1)
    rw [Nat.mul_add, Nat.mul_one]; omega
theorem sumR_congr {f g : Nat → Nat} {n : Nat} (h : ∀ i, i < n → f i = g i) : sumR f n = sumR g n := by
  induction n with
  | zero => rfl
  | succ n ih =>
    show sumR f n + f n = sumR g n + g n
    rw [ih (fun i hi => h i (by omega)), h n (by omega)]
theorem sumR_add (f : Nat → Nat) (m n : Nat) : sumR f (m + n) = sumR f m + sumR (fun i => f (m + i)) n := by
  induction n with
  | zero => rfl
  | succ n ih =>
    show sumR f (m + n) + f (m + n) = sumR f m + (sumR (fun i => f (m + i)) n + f (m + n))
    rw [ih]; omega
def sum2 (P : Nat → Nat → Nat) (x y w h : Nat) : Nat := sumR (fun j => sumR (fun i => P (y + j) (x + i)) w) h
theorem div_row {w j i : Nat} (hi : i < w) : (w * j + i) / w = j ∧ (w * j + i) % w = i := by
  refine ⟨?_, ?_⟩
  · rw [Nat.mul_add_div (by omega), Nat.div_eq_of_lt hi, Nat.add_zero]
  · rw [Nat.mul_add_mod, Nat.mod_eq_of_lt hi]
theorem sum_rows (g : Nat → Nat → Nat) {w : Nat} (hw : 0 < w) (h : Nat) : sumR (fun k => g (k / w) (k % w)) (w * h) = sumR (fun j => sumR (fun i => g j i) w) h := by
  induction h with
  | zero => rfl
  | succ h ih =>
    rw [Nat.mul_add, Nat.mul_one, sumR_add, ih]
    show _ = _ + sumR (fun i => g h i) w
    congr 1
    apply sumR_congr
    intro i hi
    rw [(div_row hi).1, (div_row hi).2]
theorem q_sampleAt {W H : Nat} (hW : W ≤ 40) (hH : H ≤ 40) {f : Nat → Int32} {x y : Nat} (hx : x < W) (hy : y < H) {post : Int32 → Prop} (h : post (f (y * W + x))) : wp_ZP_sampleAt (nI W) (nI H) (W * H) f (nI x) (nI y) post := by
  have hlt := idx_lt hy hx
  have h16 := mul40 hW hH
  unfold wp_ZP_sampleAt
  rw [pk_mul, nI_add, nI_clamp (by omega)]
  exact ⟨vp_in_nI hlt (by omega), h⟩
theorem q_sumOfPart {W H : Nat} (hW : W ≤ 40) (hH : H ≤ 40) {f : Nat → Int32} {P : Nat → Nat → Nat} (hr : relP W H W f P) {x y w h : Nat} (hx : x + w ≤ W) (hy : y + h ≤ H) {post : Int32 → Prop} (hp : post (nI (sum2 P x y w h))) :
    wp_ZP_sumOfPart (nI W) (nI H) (W * H) f (nI x) (nI y) (nI w) (nI h) post := by
  have inner : ∀ (K : Int32 → Int32 → Prop) (s0 : Int32) (acc j : Nat), j < h → K (nI (acc + sumR (fun i => P (y + j) (x + i)) w)) (nI (x + w)) → ∀ d i, i + d = w →
      lp_ZP_sumOfPart_18 (nI W) (nI H) (W * H) f (nI x) (nI y) (nI w) (nI h) s0 (nI (y + j)) post K (d + 1) (nI (acc + sumR (fun i => P (y + j) (x + i)) i)) (nI (x + i)) := by
    intro K s0 acc j hj hK d
    induction d with
    | zero =>
      intro i hi
      obtain rfl : i = w := by omega
      refine ⟨fun _ => hK, fun hn => ?_⟩
      rw [nI_add] at hn
      exact absurd ((nI_leI (by omega) (by omega)).mpr (Nat.le_refl _)) hn
    | succ d ih =>
      intro i hi
      refine ⟨fun hn => ?_, fun _ => ?_⟩
      · rw [nI_add] at hn
        exact absurd ((nI_leI (by omega) (by omega)).mp hn) (by omega)
      · refine q_sampleAt hW hH (by omega) (by omega) ?_
        show lp_ZP_sumOfPart_18 (nI W) (nI H) (W * H) f (nI x) (nI y) (nI w) (nI h) s0 (nI (y + j)) post K (d + 1) (nI (acc + sumR (fun i => P (y + j) (x + i)) i) + f ((y + j) * W + (x + i))) (nI (x + i) + 1)
        rw [hr (y + j) (x + i) (by omega) (by omega), nI_add, nI_1]
        have := ih (i + 1) (by omega)
        rw [show acc + sumR (fun i => P (y + j) (x + i)) (i + 1) = acc + sumR (fun i => P (y + j) (x + i)) i + P (y + j) (x + i) from (Nat.add_assoc _ _ _).symm] at this
        exact this
  have outer : ∀ d j, j + d = h → lp_ZP_sumOfPart_6 (nI W) (nI H) (W * H) f (nI x) (nI y) (nI w) (nI h) post (fun a _ => post a) (d + 1) (nI (sum2 P x y w j)) (nI (y + j)) := by
    intro d
    induction d with
    | zero =>
      intro j hj
      obtain rfl : j = h := by omega
      refine ⟨fun _ => hp, fun hn => ?_⟩
      rw [nI_add] at hn
      exact absurd ((nI_leI (by omega) (by omega)).mpr (Nat.le_refl _)) hn
    | succ d ih =>
      intro j hj
      refine ⟨fun hn => ?_, fun _ => ?_⟩
      · rw [nI_add] at hn
        exact absurd ((nI_leI (by omega) (by omega)).mp hn) (by omega)
      · refine ⟨w + 1, ?_⟩
        have k := inner (fun a _ => lp_ZP_sumOfPart_6 (nI W) (nI H) (W * H) f (nI x) (nI y) (nI w) (nI h) post (fun a _ => post a) (d + 1) a (nI (y + j) + (1 : Int32))) (nI (sum2 P x y w j)) (sum2 P x y w j) j (by omega) (by
          rw [nI_1]
          exact ih (j + 1) (by omega)) w 0 (by omega)
        exact k
  exact ⟨h + 1, outer h 0 (by omega)⟩
/-- the sample of level k at x, y: the mean of what lies under it, halves up -/
def smp (P : Nat → Nat → Nat) (W H k x y : Nat) : Nat := (2 * sum2 P (x * 2 ^ k) (y * 2 ^ k) (rc W k x) (rc H k y) + rc W k x * rc H k y) / (2 * (rc W k x * rc H k y))
theorem sum2_le {P : Nat → Nat → Nat} {W H x y w h : Nat} (ho : okP W H P) (hx : x + w ≤ W) (hy : y + h ≤ H) : sum2 P x y w h ≤ 255 * (w * h) := by
  unfold sum2
  have k : sumR (fun j => sumR (fun i => P (y + j) (x + i)) w) h ≤ (255 * w) * h := by
    apply sumR_le
    intro j hj
    apply sumR_le
    intro i hi
    have := ho (y + j) (x + i) (by omega) (by omega)
    omega
  rw [Nat.mul_assoc] at k
  exact k
theorem cnt_in {W H x y w h : Nat} (hW : W ≤ 40) (hH : H ≤ 40) (hx : x + w ≤ W) (hy : y + h ≤ H) (h1 : 1 ≤ w) (h2 : 1 ≤ h) : 1 ≤ w * h ∧ w * h ≤ 1600 := ⟨Nat.mul_pos h1 h2, Nat.mul_le_mul (by omega : w ≤ 40) (by omega : h ≤ 40)⟩
theorem smp_lt {P : Nat → Nat → Nat} {W H k x y : Nat} (ho : okP W H P) (hx : x * 2 ^ k < W) (hy : y * 2 ^ k < H) : smp P W H k x y < 256 := by
  obtain ⟨a1, a2⟩ := rc_in hx
  obtain ⟨b1, b2⟩ := rc_in hy
  have hs := sum2_le ho a2 b2
  have hp : 0 < rc W k x * rc H k y := Nat.mul_pos a1 b1
  unfold smp
  rw [Nat.div_lt_iff_lt_mul (by omega)]
  omega
theorem round_nI {s n : Nat} (h1 : 1 ≤ n) (h2 : n ≤ 1600) (hs : s ≤ 255 * n) : ¬ (2 : Int32) * nI n = 0 ∧ ((2 : Int32) * nI s + nI n) / ((2 : Int32) * nI n) = nI ((2 * s + n) / (2 * n)) := by
  rw [show (2 : Int32) = nI 2 from rfl, pk_mul, pk_mul, nI_add]
  exact ⟨nI_ne0 (by omega) (by omega), pk_div (by omega) (by omega) (by omega)⟩
/-- the greater of 1 and a number that is 1 or more -/
theorem max1_nI {n : Nat} (h1 : 1 ≤ n) (h2 : n < 2 ^ 31) : (if (1 : Int32) < nI n then nI n else (1 : Int32)) = nI n := by
  rw [show (1 : Int32) = nI 1 from rfl]
  by_cases hc : 1 < n
  · exact if_pos ((nI_ltI (by omega) h2).mpr hc)
  · have e : n = 1 := by omega
    rw [if_neg (fun q => hc ((nI_ltI (by omega) h2).mp q)), e]
theorem q_count {W H k x y : Nat} {yk : Int32} {n : Nat} {f : Nat → Int32} (hW : W ≤ 40) (hH : H ≤ 40) (hk : k ≤ 6) (hx : x * 2 ^ k < W) (hy : y * 2 ^ k < H) {post : Int32 → Prop} (hp : post (nI (rc W k x * rc H k y))) : wp_ZY_countUnder yk (nI W) (nI H) n f (nI k) (nI x) (nI y) post := by
  obtain ⟨a1, a2⟩ := rc_in hx
  obtain ⟨b1, b2⟩ := rc_in hy
  obtain ⟨c1, c2⟩ := cnt_in hW hH a2 b2 a1 b1
  refine q_reach hW hk hx (q_reach hH hk hy ?_)
  rw [pk_mul, max1_nI c1 (by omega)]; exact hp
theorem shl_pl {W k x : Nat} (hW : W ≤ 40) (hk : k ≤ 6) (hx : x * 2 ^ k < W) : nI x <<< (nI k &&& 31) = nI (x * 2 ^ k) := shl_nI (by omega) (by omega)
theorem q_total {W H k x y : Nat} {yk : Int32} {f : Nat → Int32} {P : Nat → Nat → Nat} (hr : relP W H W f P) (hW : W ≤ 40) (hH : H ≤ 40) (hk : k ≤ 6) (hx : x * 2 ^ k < W) (hy : y * 2 ^ k < H) {post : Int32 → Prop} (hp : post (nI (sum2 P (x * 2 ^ k) (y * 2 ^ k) (rc W k x) (rc H k y)))) : wp_ZY_totalUnder yk (nI W) (nI H) (W * H) f (nI k) (nI x) (nI y) post := by
  refine q_reach hW hk hx (q_reach hH hk hy ?_)
  rw [shl_pl hW hk hx, shl_pl hH hk hy]
  exact q_sumOfPart hW hH hr (rc_in hx).2 (rc_in hy).2 hp
theorem q_rounded {W H k x y : Nat} {yk : Int32} {f : Nat → Int32} {P : Nat → Nat → Nat} (hr : relP W H W f P) (ho : okP W H P) (hW : W ≤ 40) (hH : H ≤ 40) (hk : k ≤ 6) (hx : x * 2 ^ k < W) (hy : y * 2 ^ k < H) {post : Int32 → Prop} (hp : post (nI (smp P W H k x y))) : wp_ZY_roundedMean yk (nI W) (nI H) (W * H) f (nI k) (nI x) (nI y) post := by
  obtain ⟨a1, a2⟩ := rc_in hx
  obtain ⟨b1, b2⟩ := rc_in hy
  obtain ⟨c1, c2⟩ := cnt_in hW hH a2 b2 a1 b1
  obtain ⟨r1, r2⟩ := round_nI c1 c2 (sum2_le ho a2 b2)
  refine q_count hW hH hk hx hy (q_total hr hW hH hk hx hy ⟨r1, ?_⟩)
  rw [r2]; exact hp
section MU
variable {zt zw zh : Int32} {zp zs zb : Nat → Int32} {zz : Int32} {zl zo : Nat → Int32} {zc zr zu zv zq zi : Int32} {zk zm : Nat → Int32} {zd : Int32} {zg : Nat → Int32}
theorem m_under {W k x : Nat} (hW : W ≤ 40) (hk : k ≤ 6) (h : x * 2 ^ k < W) {post : Int32 → Prop} (hp : post (nI (rc W k x))) : wp_ZM_under zt zw zh zp zs zb zz zl zo zc zr zu zv zq zi zk zm zd zg (nI x) (nI k) (nI W) post := by
  have hq := pw6 hk
  have e1 : (nI x + (1 : Int32)) <<< (nI k &&& 31) = nI (x * 2 ^ k + 2 ^ k) := by
    rw [nI_1, shl_nI (by omega) (by rw [Nat.add_mul]; omega), Nat.add_mul, Nat.one_mul]
  unfold wp_ZM_under
  rw [e1, shl_pl hW hk h]
  unfold rc at hp
  refine ⟨fun hn => ?_, fun hn => ?_⟩
  · have := (nI_leI (by omega) (by omega)).mp hn
    rw [pk_sub (by omega)]
    rw [Nat.min_eq_right (by omega)] at hp; exact hp
  · have : ¬ W ≤ x * 2 ^ k + 2 ^ k := fun q => hn ((nI_leI (by omega) (by omega)).mpr q)
    rw [pk_sub (by omega), show x * 2 ^ k + 2 ^ k - x * 2 ^ k = 2 ^ k by omega]
    rw [Nat.min_eq_left (by omega)] at hp; exact hp
theorem m_count {W H k x y : Nat} (hW : W ≤ 40) (hH : H ≤ 40) (hk : k ≤ 6) (hx : x * 2 ^ k < W) (hy : y * 2 ^ k < H) {post : Int32 → Prop} (hp : post (nI (rc W k x * rc H k y))) : wp_ZM_countUnder zt (nI W) (nI H) zp zs zb zz zl zo zc zr zu zv zq zi zk zm zd zg (nI k) (nI x) (nI y) post := by
  refine m_under hW hk hx (m_under hH hk hy ?_)
  rw [pk_mul]; exact hp
theorem m_sumUnder {W H k x y : Nat} {P : Nat → Nat → Nat} (hr : relP W H 40 zp P) (hW : W ≤ 40) (hH : H ≤ 40) (hk : k ≤ 6) (hx : x * 2 ^ k < W) (hy : y * 2 ^ k < H) {post : Int32 → Prop} (hp : post (nI (sum2 P (x * 2 ^ k) (y * 2 ^ k) (rc W k x) (rc H k y)))) : wp_ZM_sumUnder zt (nI W) (nI H) zp zs zb zz zl zo zc zr zu zv zq zi zk zm zd zg (nI k) (nI x) (nI y) post := by
  obtain ⟨a1, a2⟩ := rc_in hx
  obtain ⟨b1, b2⟩ := rc_in hy
  obtain ⟨c1, c2⟩ := cnt_in hW hH a2 b2 a1 b1
  refine m_under hW hk hx (m_under hH hk hy ?_)
  obtain ⟨w, ew⟩ : ∃ w, w = rc W k x := ⟨_, rfl⟩
  obtain ⟨h, eh⟩ : ∃ h, h = rc H k y := ⟨_, rfl⟩
  rw [← ew] at a1 a2 c1 c2 hp ⊢
  rw [← eh] at b1 b2 c1 c2 hp ⊢
  have es := sum_rows (fun j i => P (y * 2 ^ k + j) (x * 2 ^ k + i)) a1 h
  have key : ∀ d q, q + d = w * h → lp_ZM_sumUnder_30 zt (nI W) (nI H) zp zs zb zz zl zo zc zr zu zv zq zi zk zm zd zg (nI k) (nI x) (nI y) (nI w) (nI h) post (fun a _ => post a) (d + 1) (nI (sumR (fun q => P (y * 2 ^ k + q / w) (x * 2 ^ k + q % w)) q)) (nI q) := by
    intro d
    induction d with
    | zero =>
      intro q hq
      obtain rfl : q = w * h := by omega
      refine ⟨fun _ => ?_, fun hn => ?_⟩
      · unfold sum2 at hp
        rw [← es] at hp; exact hp
      · rw [pk_mul] at hn
        exact absurd ((nI_leI (by omega) (by omega)).mpr (Nat.le_refl _)) hn
    | succ d ih =>
      intro q hq
      have d1 : q / w < h := by rw [Nat.div_lt_iff_lt_mul a1, Nat.mul_comm]; omega
      have d2 : q % w < w := Nat.mod_lt _ a1
      refine ⟨fun hn => ?_, fun _ => ⟨nI_ne0 a1 (by omega), nI_ne0 a1 (by omega), ?_⟩⟩
      · rw [pk_mul] at hn
        exact absurd ((nI_leI (by omega) (by omega)).mp hn) (by omega)
      · have ei : (40 : Int32) * ((nI y <<< (nI k &&& 31)) + nI q / nI w) + (nI x <<< (nI k &&& 31)) + (nI q - nI q / nI w * nI w) = nI ((y * 2 ^ k + q / w) * 40 + (x * 2 ^ k + q % w)) := by
          rw [shl_pl hW hk hx, shl_pl hH hk hy, pk_rem (by omega) a1 (by omega), pk_div (by omega) a1 (by omega), nI_add, show (40 : Int32) = nI 40 from rfl, pk_mul, nI_add, nI_add]
          congr 1; rw [Nat.mul_comm 40]; omega
        rw [ei, nI_clamp (by omega), hr (y * 2 ^ k + q / w) (x * 2 ^ k + q % w) (by omega) (by omega)]
        refine ⟨vp_in_nI (by omega) (by decide), ?_⟩
        show lp_ZM_sumUnder_30 zt (nI W) (nI H) zp zs zb zz zl zo zc zr zu zv zq zi zk zm zd zg (nI k) (nI x) (nI y) (nI w) (nI h) post (fun a _ => post a) (d + 1) (nI (sumR (fun q => P (y * 2 ^ k + q / w) (x * 2 ^ k + q % w)) q) + nI (P (y * 2 ^ k + q / w) (x * 2 ^ k + q % w))) (nI q + 1)
        rw [nI_add, nI_1]
        exact ih (q + 1) (by omega)
  exact ⟨w * h + 1, key (w * h) 0 (by omega)⟩
theorem m_sample {W H k x y : Nat} {P : Nat → Nat → Nat} (hr : relP W H 40 zp P) (ho : okP W H P) (hW : W ≤ 40) (hH : H ≤ 40) (hk : k ≤ 6) (hx : x * 2 ^ k < W) (hy : y * 2 ^ k < H) {post : Int32 → Prop} (hp : post (nI (smp P W H k x y))) : wp_ZM_sample zt (nI W) (nI H) zp zs zb zz zl zo zc zr zu zv zq zi zk zm zd zg (nI k) (nI x) (nI y) post := by
  obtain ⟨a1, a2⟩ := rc_in hx
  obtain ⟨b1, b2⟩ := rc_in hy
  obtain ⟨c1, c2⟩ := cnt_in hW hH a2 b2 a1 b1
  obtain ⟨r1, r2⟩ := round_nI c1 c2 (sum2_le ho a2 b2)
  refine m_count hW hH hk hx hy (m_sumUnder hr hW hH hk hx hy ⟨r1, ?_⟩)
  rw [r2]; exact hp
end MU
