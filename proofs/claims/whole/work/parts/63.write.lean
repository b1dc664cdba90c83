/-! the reference writes a row bit by bit -/
theorem relB_keep {n k : Nat} {f : Nat → Int32} {b : Nat → Nat} {v : Int32} (h : relB n f b) (hk : n ≤ k) : relB n (upd f k v) b := fun j hj => by rw [pk_un (by omega)]; exact h j hj
theorem div8 (k : Nat) : nI k / (8 : Int32) = nI k / nI 8 := rfl
section MW
variable {zt zw zh : Int32} {zp zs zb : Nat → Int32} {zz : Int32} {zl zo : Nat → Int32} {zc zr zu zv zq zi : Int32} {zk zm : Nat → Int32} {zd : Int32} {zg : Nat → Int32}
theorem m_write {s : Nat} {v : Int32} (hs : s < 256) {post : (Nat → Int32) → Int32 → Prop} (h : post (upd zb s v) (nI (s + 1))) : wp_ZM_write zt zw zh zp zs zb (nI s) zl zo zc zr zu zv zq zi zk zm zd zg v post := by
  refine ⟨vp_in_nI hs (by decide), ?_⟩
  rw [nI_1, nI_clamp (by omega)]; exact h
theorem m_writeRow {c r y s : Nat} {t b : Nat → Nat} (hc : c ≤ 8) (hr : r ≤ 8) (hc0 : 0 < c) (hy : y < r) (hf : relB (c * r) zg t) (ho : okB (c * r) t) (hs : s ≤ 200) (hg : relB s zb b) {post : (Nat → Int32) → Int32 → Prop}
    (h : ∀ g', relB (s + 1 + (rwb t c y * c + 7) / 8) g' (rowW b s (rwb t c y) (rwN t c y)) → post g' (nI (s + 1 + (rwb t c y * c + 7) / 8))) : wp_ZM_writeRow zt zw zh zp zs zb (nI s) zl zo zc zr zu zv zq zi zk zm zd zg (nI y) (nI c) post := by
  have h64 := mul8 hc hr
  have hrow : y * c + c ≤ c * r := by
    have : (y + 1) * c ≤ r * c := Nat.mul_le_mul_right c hy
    rw [Nat.add_mul, Nat.one_mul] at this
    rw [Nat.mul_comm c r]; omega
  have h9 := rwb_9 ho hc0 hrow
  refine m_rowBits (n := 64) (by omega) hc hc0 (by omega) (fun k hk => hf k (by omega)) (fun k hk => ho k (by omega)) (m_write (by omega) ?_)
  have hT : ∀ i, i < c → (fun x => tld t c (y * c + x)) i < 2 ^ rwb t c y := fun i hi => tld_rwb hi
  have hrN : rwN t c y = numN (rwb t c y) (fun x => tld t c (y * c + x)) c := rfl
  generalize rwb t c y = B at *
  generalize rwN t c y = N at *
  have hBc : B * c ≤ 72 := Nat.mul_le_mul h9 hc
  have key : ∀ (zb2 : Nat → Int32) (K : Int32 → Int32 → (Nat → Int32) → Prop), (∀ e g', relB (s + 1 + (B * c + 7) / 8) g' (rowW b s B N) → K e (nI (s + 1 + (B * c + 7) / 8)) g') → ∀ d k g', k + d = B * c → relB (s + 1 + k / 8) g' (rowW b s B N) → (k % 8 ≠ 0 → g' (s + 1 + k / 8) = nI (N / 256 ^ (k / 8) % 2 ^ (k % 8))) →
      lp_ZM_writeRow_24 zt zw zh zp zs zb (nI s) zl zo zc zr zu zv zq zi zk zm zd zg (nI y) (nI c) (nI B) zb2 (nI (s + 1)) post K (d + 1) (nI k) (nI (s + 1 + (k + 7) / 8)) g' := by
    intro zb2 K hK d
    induction d with
    | zero =>
      intro k g' hk h1 h2
      obtain rfl : k = B * c := by omega
      refine ⟨fun _ => hK _ _ ?_, fun q => ?_⟩
      · rcases Nat.eq_zero_or_pos (B * c % 8) with q | q
        · rw [show (B * c + 7) / 8 = B * c / 8 by omega]; exact h1
        · have e := h2 (by omega)
          rw [show s + 1 + (B * c + 7) / 8 = s + 1 + B * c / 8 + 1 by omega]
          intro j hj
          by_cases hc' : j = s + 1 + B * c / 8
          · rw [hc', e]
            congr 1
            unfold rowW
            rw [if_neg (by omega), if_neg (by omega), show s + 1 + B * c / 8 - s - 1 = B * c / 8 by omega]
            have hN : N < 2 ^ (B * c) := by rw [hrN]; exact numN_lt hT
            have hlt : N / 256 ^ (B * c / 8) < 2 ^ (B * c % 8) := by
              rw [Nat.div_lt_iff_lt_mul (Nat.pow_pos (by decide)), p256, ← Nat.pow_add, show B * c % 8 + 8 * (B * c / 8) = B * c by omega]
              exact hN
            have hp : 2 ^ (B * c % 8) ≤ 2 ^ 8 := Nat.pow_le_pow_right (by decide) (by omega)
            rw [Nat.mod_eq_of_lt hlt, Nat.mod_eq_of_lt (by omega)]
          · exact h1 j (by omega)
      · rw [pk_mul] at q
        exact absurd ((nI_leI (by omega) (by omega)).mpr (Nat.le_refl _)) q
    | succ d ih =>
      intro k g' hk h1 h2
      have hB0 : 0 < B := by
        rcases Nat.eq_zero_or_pos B with q | q
        · rw [q, Nat.zero_mul] at hk; omega
        · exact q
      have hx : k / B < c := by rw [Nat.div_lt_iff_lt_mul hB0, Nat.mul_comm]; omega
      have hj : k % B < B := Nat.mod_lt _ hB0
      have hbit := numN_bit hT hB0 (show k < B * c by omega)
      rw [← hrN] at hbit
      have htl := tld_lt ho hc0 (show y * c + k / B < c * r by omega)
      have hdl : tld t c (y * c + k / B) / 2 ^ (k % B) ≤ tld t c (y * c + k / B) := Nat.div_le_self _ _
      have e8 : nI k - nI k / (8 : Int32) * (8 : Int32) = nI (k % 8) := pk_rem (d := 8) (by omega) (by decide) (by decide)
      have d8 : nI k / (8 : Int32) = nI (k / 8) := pk_div (d := 8) (by omega) (by decide) (by decide)
      have hpj : 2 ^ (k % 8) ≤ 2 ^ 7 := Nat.pow_le_pow_right (by decide) (by omega)
      have hpos := Nat.two_pow_pos (k % 8)
      have step : ∀ g1 : Nat → Int32, relB (s + 1 + k / 8) g1 (rowW b s B N) → g1 (s + 1 + k / 8) = nI (N / 256 ^ (k / 8) % 2 ^ (k % 8)) → ¬ nI B = 0 ∧ (wp_ZM_told 64 zg ((nI y * nI c) + (nI k / nI B)) (nI c) (fun r_6 : Int32 => vp_in (nI (s + 1) + (nI k / (8 : Int32))) 256 ∧ (¬ nI B = 0 ∧ (vp_in (nI (s + 1) + (nI k / (8 : Int32))) 256 ∧ (lp_ZM_writeRow_24 zt zw zh zp zs zb (nI s) zl zo zc zr zu zv zq zi zk zm zd zg (nI y) (nI c) (nI B) zb2 (nI (s + 1)) post K (d + 1) (nI k + (1 : Int32)) (nI (s + 1 + k / 8 + 1)) (upd g1 (nI (s + 1) + (nI k / (8 : Int32))).toNatClampNeg ((g1 (nI (s + 1) + (nI k / (8 : Int32))).toNatClampNeg) ||| (((r_6 >>> ((nI k - nI k / nI B * nI B) &&& 31)) &&& (1 : Int32)) <<< ((nI k - nI k / (8 : Int32) * (8 : Int32)) &&& 31))))))))) := by
        intro g1 k1 k2
        have hne : ¬ nI B = 0 := nI_ne0 hB0 (by omega)
        refine ⟨hne, ?_⟩
        rw [pk_mul, pk_div (a := k) (d := B) (by omega) hB0 (by omega), nI_add]
        refine m_told (n := 64) (by omega) hc0 hc (by omega) (fun j hj => hf j (by omega)) (fun j hj => ho j (by omega)) ?_
        have er : nI k - nI (k / B) * nI B = nI (k % B) := by
          rw [← pk_div (a := k) (d := B) (by omega) hB0 (by omega)]; exact pk_rem (by omega) hB0 (by omega)
        have hb2 : N / 2 ^ k % 2 < 2 := Nat.mod_lt _ (by decide)
        have hpr : N / 2 ^ k % 2 * 2 ^ (k % 8) ≤ 1 * 2 ^ 7 := Nat.mul_le_mul (by omega) hpj
        have hml : N / 256 ^ (k / 8) % 2 ^ (k % 8) < 2 ^ (k % 8) := Nat.mod_lt _ hpos
        have eV : nI (N / 256 ^ (k / 8) % 2 ^ (k % 8)) ||| (((nI (tld t c (y * c + k / B)) >>> (nI (k % B) &&& 31)) &&& (1 : Int32)) <<< (nI (k % 8) &&& 31)) = nI (N / 256 ^ (k / 8) % 2 ^ (k % 8 + 1)) := by
          rw [shr_nI (by omega) (by omega), and1 (by omega), ← hbit, shl_nI (by omega) (by omega), nI_or (by omega) (by omega), or_add hml, Nat.mod_pow_succ]
          congr 2
          rw [Nat.mul_comm]
          congr 2
          rw [Nat.div_div_eq_div_mul, p256, ← Nat.pow_add, Nat.div_add_mod]
        rw [e8, d8, er, nI_add, nI_clamp (by omega), k2, eV]
        have hin : vp_in (nI (s + 1 + k / 8)) 256 := vp_in_nI (by omega) (by decide)
        refine ⟨hin, hne, hin, ?_⟩
        rw [nI_1, show s + 1 + k / 8 + 1 = s + 1 + (k + 1 + 7) / 8 by omega]
        rcases Nat.lt_or_ge (k % 8 + 1) 8 with q | q
        · refine ih (k + 1) _ (by omega) ?_ (fun _ => ?_)
          · rw [show (k + 1) / 8 = k / 8 by omega]
            exact relB_keep k1 (Nat.le_refl _)
          · rw [show (k + 1) / 8 = k / 8 by omega, show (k + 1) % 8 = k % 8 + 1 by omega]
            exact pk_us
        · refine ih (k + 1) _ (by omega) ?_ (fun z => absurd (by omega) z)
          rw [show s + 1 + (k + 1) / 8 = s + 1 + k / 8 + 1 by omega]
          refine relB_ext (n := s + 1 + k / 8) k1 ?_
          unfold rowW
          rw [if_neg (by omega), if_neg (by omega), show s + 1 + k / 8 - s - 1 = k / 8 by omega, show k % 8 + 1 = 8 by omega]
      refine ⟨fun q => ?_, fun _ => ⟨_, fun _ _ hh => hh, ⟨fun e => ?_, fun e => ?_⟩⟩⟩
      · rw [pk_mul] at q
        exact absurd ((nI_leI (by omega) (by omega)).mp q) (by omega)
      · have e : k % 8 = 0 := by
          rw [e8] at e
          exact nI_inj (by omega) (by omega) e
        refine m_write (by omega) ?_
        rw [show s + 1 + (k + 7) / 8 = s + 1 + k / 8 by omega]
        refine step _ (relB_keep h1 (Nat.le_refl _)) ?_
        rw [pk_us, e, Nat.pow_zero, Nat.mod_one]; rfl
      · have e : k % 8 ≠ 0 := fun q => e (by rw [e8, q]; rfl)
        rw [show s + 1 + (k + 7) / 8 = s + 1 + k / 8 + 1 by omega]
        exact step g' h1 (h2 e)
  have i0 : relB (s + 1 + 0 / 8) (upd zb s (nI B)) (rowW b s B N) := by
    refine relB_ext (n := s) (relB_congr hg (fun k hk => ?_)) ?_
    · unfold rowW
      rw [if_pos hk]
    · unfold rowW
      rw [if_neg (by omega), if_pos rfl]
  exact ⟨B * c + 1, key _ _ (fun _ g' hg' => h g' hg') (B * c) 0 _ (by omega) i0 (fun z => absurd rfl z)⟩
end MW
