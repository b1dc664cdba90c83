/-! pack -/
def smB (b : Nat → Nat) : Nat → Nat
  | 0 => 0
  | k + 1 => (257 * smB b k + b k + 1) % 65521
theorem smB_lt (b : Nat → Nat) (n : Nat) : smB b n < 65521 := by
  cases n with
  | zero => rw [smB]; decide
  | succ n => exact Nat.mod_lt _ (by decide)
theorem sm_step {s v : Nat} (hs : s < 65521) (hv : v < 256) : (((257 : Int32) * nI s) + nI v + (1 : Int32)) - (((257 : Int32) * nI s) + nI v + (1 : Int32)) / (65521 : Int32) * (65521 : Int32) = nI ((257 * s + v + 1) % 65521) := by
  rw [show (257 : Int32) = nI 257 from rfl, pk_mul, nI_add, nI_1]
  exact pk_rem (d := 65521) (by omega) (by decide) (by decide)
theorem q_sum {n m : Nat} {bl : Int32} {f : Nat → Int32} {b : Nat → Nat} (hn : n ≤ m) (hm : m ≤ 256) (hf : relB m f b) (ho : okB m b) {post : Int32 → Prop} (h : post (nI (smB b n))) : wp_ZB_sumOfFirst bl f (nI n) post := by
  have key : ∀ d k, k + d = n → lp_ZB_sumOfFirst_4 bl f (nI n) post (fun a _ => post a) (d + 1) (nI (smB b k)) (nI k) := by
    intro d
    induction d with
    | zero =>
      intro k hk
      obtain rfl : k = n := by omega
      exact ⟨fun _ => h, fun q => absurd ((nI_leI (by omega) (by omega)).mpr (Nat.le_refl _)) q⟩
    | succ d ih =>
      intro k hk
      refine ⟨fun q => absurd ((nI_leI (by omega) (by omega)).mp q) (by omega), fun _ => ⟨vp_in_nI (by omega) (by decide), ?_⟩⟩
      show lp_ZB_sumOfFirst_4 bl f (nI n) post (fun a _ => post a) (d + 1) ((((257 : Int32) * nI (smB b k)) + f (nI k).toNatClampNeg + (1 : Int32)) - (((257 : Int32) * nI (smB b k)) + f (nI k).toNatClampNeg + (1 : Int32)) / (65521 : Int32) * (65521 : Int32)) (nI k + 1)
      rw [nI_clamp (by omega), hf k (by omega), sm_step (smB_lt b k) (ho k (by omega)), nI_1]
      exact ih (k + 1) (by omega)
  exact ⟨n + 1, key n 0 (by omega)⟩
/-- the buffer's length and content after y rows of a tile -/
def pkL (t : Nat → Nat) (c : Nat) : Nat → Nat
  | 0 => 2
  | y + 1 => pkL t c y + 1 + (rwb t c y * c + 7) / 8
def pkB (t : Nat → Nat) (c r : Nat) : Nat → Nat → Nat
  | 0 => fun j => if j = 0 then c else r
  | y + 1 => rowW (pkB t c r y) (pkL t c y) (rwb t c y) (rwN t c y)
theorem pkL_le {t : Nat → Nat} {c r y : Nat} (ho : okB (c * r) t) (hc0 : 0 < c) (hc : c ≤ 8) (hy : y ≤ r) : pkL t c y ≤ 2 + 10 * y := by
  induction y with
  | zero => exact Nat.le_refl _
  | succ y ih =>
    have h1 := ih (by omega)
    have hrow : y * c + c ≤ c * r := by
      have : (y + 1) * c ≤ r * c := Nat.mul_le_mul_right c hy
      rw [Nat.add_mul, Nat.one_mul] at this
      rw [Nat.mul_comm c r]; omega
    have h9 := rwb_9 ho hc0 hrow
    have h72 : rwb t c y * c ≤ 72 := Nat.mul_le_mul h9 hc
    show pkL t c y + 1 + (rwb t c y * c + 7) / 8 ≤ _
    omega
theorem pkB_ok {t : Nat → Nat} {c r y n : Nat} (ho : okB (c * r) t) (hc0 : 0 < c) (hc : c ≤ 8) (hr : r ≤ 8) (hy : y ≤ r) : okB n (pkB t c r y) := by
  induction y generalizing n with
  | zero =>
    intro j _
    show (if j = 0 then c else r) < 256
    split <;> omega
  | succ y ih =>
    have hrow : y * c + c ≤ c * r := by
      have : (y + 1) * c ≤ r * c := Nat.mul_le_mul_right c hy
      rw [Nat.add_mul, Nat.one_mul] at this
      rw [Nat.mul_comm c r]; omega
    have h9 := rwb_9 ho hc0 hrow
    exact rowW_ok (ih (by omega)) (by omega)
def pkS (t : Nat → Nat) (c r : Nat) : Nat := smB (pkB t c r r) (pkL t c r)
def pkF (t : Nat → Nat) (c r : Nat) : Nat → Nat := setB (setB (pkB t c r r) (pkL t c r) (pkS t c r % 256)) (pkL t c r + 1) (pkS t c r / 256)
theorem pkF_ok {t : Nat → Nat} {c r : Nat} (ho : okB (c * r) t) (hc0 : 0 < c) (hc : c ≤ 8) (hr : r ≤ 8) : okB (pkL t c r + 2) (pkF t c r) := by
  have := smB_lt (pkB t c r r) (pkL t c r)
  exact okB_app (okB_app (pkB_ok ho hc0 hc hr (Nat.le_refl r)) (Nat.mod_lt _ (by decide))) (by unfold pkS; omega)
theorem pk0 {g : Nat → Int32} (t : Nat → Nat) (c r : Nat) : relB 2 (upd (upd g 0 (nI c)) 1 (nI r)) (pkB t c r 0) := by
  intro j hj
  rcases (show j = 0 ∨ j = 1 by omega) with rfl | rfl
  · rw [pk_un (by decide), pk_us]; rfl
  · rw [pk_us]; rfl
theorem q_packTile {c r : Nat} {f g : Nat → Int32} {bl : Int32} {t : Nat → Nat} (hc : c ≤ 8) (hr : r ≤ 8) (hc0 : 0 < c) (hf : relB (c * r) f t) (ho : okB (c * r) t) {post : Int32 → (Nat → Int32) → Prop} (h : ∀ g', relB (pkL t c r + 2) g' (pkF t c r) → post (nI (pkL t c r + 2)) g') : wp_ZK_packTile (nI c) (nI r) f bl g post := by
  refine q_append (s := 0) (by decide) (q_append (s := 1) (by decide) ?_)
  have key : ∀ (b1 b3 : Int32) (g2 g4 : Nat → Int32) (K : Int32 → Int32 → (Nat → Int32) → Prop), (∀ e g', relB (pkL t c r) g' (pkB t c r r) → K e (nI (pkL t c r)) g') → ∀ d y g', y + d = r → relB (pkL t c y) g' (pkB t c r y) → lp_ZK_packTile_23 (nI c) (nI r) f bl g b1 g2 b3 g4 post K (d + 1) (nI y) (nI (pkL t c y)) g' := by
    intro b1 b3 g2 g4 K hK d
    induction d with
    | zero =>
      intro y g' hy hg
      obtain rfl : y = r := by omega
      exact ⟨fun _ => hK _ _ hg, fun q => absurd ((nI_leI (by omega) (by omega)).mpr (Nat.le_refl _)) q⟩
    | succ d ih =>
      intro y g' hy hg
      have hl := pkL_le ho hc0 hc (show y ≤ r by omega)
      refine ⟨fun q => absurd ((nI_leI (by omega) (by omega)).mp q) (by omega), fun _ => q_packRow hc hr hc0 (by omega) hf ho (by omega) hg (fun g'' hg'' => ?_)⟩
      show lp_ZK_packTile_23 (nI c) (nI r) f bl g b1 g2 b3 g4 post K (d + 1) (nI y + 1) _ g''
      rw [nI_1]
      exact ih (y + 1) g'' (by omega) hg''
  have hl := pkL_le ho hc0 hc (Nat.le_refl r)
  refine ⟨r + 1, key _ _ _ _ _ (fun e g' hg => ?_) r 0 _ (by omega) (pk0 t c r)⟩
  have hok := pkB_ok (n := pkL t c r) ho hc0 hc hr (Nat.le_refl r)
  have hsm := smB_lt (pkB t c r r) (pkL t c r)
  refine q_sum (Nat.le_refl _) (by omega) hg hok ?_
  show wp_ZB_append (nI (pkL t c r)) g' (nI (smB (pkB t c r r) (pkL t c r)) &&& (255 : Int32)) _
  rw [and255 (by omega), shr8 (by omega)]
  refine q_append (by omega) (q_append (by omega) (h _ ?_))
  exact relB_app (relB_app hg)
/-- the samples of a tile of level k -/
def tlS (P : Nat → Nat → Nat) (W H k i j c : Nat) : Nat → Nat := fun q => smp P W H k (8 * i + q % c) (8 * j + q / c)
theorem tlS_at {P : Nat → Nat → Nat} {W H k i j c x y : Nat} (hx : x < c) : tlS P W H k i j c (y * c + x) = smp P W H k (8 * i + x) (8 * j + y) := by
  unfold tlS
  rw [Nat.mul_comm y c, (div_row hx).1, (div_row hx).2]
theorem e8 (a b : Nat) : (8 : Int32) * nI a + nI b = nI (8 * a + b) := by rw [show (8 : Int32) = nI 8 from rfl, pk_mul, nI_add]
theorem q_cutTile {W H k i j : Nat} {f g : Nat → Int32} {yk uw uh : Int32} {P : Nat → Nat → Nat} (hr : relP W H W f P) (ho : okP W H P) (h1 : 1 ≤ W) (hW : W ≤ 40) (h2 : 1 ≤ H) (hH : H ≤ 40) (hk : k ≤ 6) (hi : 8 * i < hv W k) (hj : 8 * j < hv H k) {post : Int32 → Int32 → (Nat → Int32) → Prop}
    (h : ∀ g', relB (tsd (hv W k) i * tsd (hv H k) j) g' (tlS P W H k i j (tsd (hv W k) i)) → post (nI (tsd (hv W k) i)) (nI (tsd (hv H k) j)) g') : wp_ZY_cutTile yk (nI W) (nI H) (W * H) f uw uh g (nI k) (nI i) (nI j) post := by
  obtain ⟨a1, a2, a3⟩ := tsd_in hi
  obtain ⟨b1, b2, b3⟩ := tsd_in hj
  refine q_tcols h1 hW hk hi (q_trows h2 hH hk hj ?_)
  generalize tsd (hv W k) i = c at *
  generalize tsd (hv H k) j = r at *
  have inner : ∀ (r1 r2 : Int32) (f0 : Nat → Int32) (y : Nat) (K : Int32 → (Nat → Int32) → Prop), y < r → (∀ e g', relB (y * c + c) g' (tlS P W H k i j c) → K e g') → ∀ d x g', x + d = c → relB (y * c + x) g' (tlS P W H k i j c) → lp_ZY_cutTile_33 yk (nI W) (nI H) (W * H) f uw uh g (nI k) (nI i) (nI j) r1 r2 (nI c) (nI r) (nI y) f0 post K (d + 1) (nI x) g' := by
    intro r1 r2 f0 y K hy hK d
    induction d with
    | zero =>
      intro x g' hx hg
      obtain rfl : x = c := by omega
      exact ⟨fun _ => hK _ _ hg, fun q => absurd ((nI_leI (by omega) (by omega)).mpr (Nat.le_refl _)) q⟩
    | succ d ih =>
      intro x g' hx hg
      refine ⟨fun q => absurd ((nI_leI (by omega) (by omega)).mp q) (by omega), fun _ => ?_⟩
      have hs : ∀ {X : Int32 → Prop}, X (nI (smp P W H k (8 * i + x) (8 * j + y))) → wp_ZY_roundedMean yk (nI W) (nI H) (W * H) f (nI k) ((8 : Int32) * nI i + nI x) ((8 : Int32) * nI j + nI y) X := by
        intro X hX
        rw [e8, e8]
        exact q_rounded hr ho hW hH hk (hv_lt h1 (by omega)) (hv_lt h2 (by omega)) hX
      refine hs (q_tSet a2 b2 (by omega) hy ?_)
      show lp_ZY_cutTile_33 yk (nI W) (nI H) (W * H) f uw uh g (nI k) (nI i) (nI j) r1 r2 (nI c) (nI r) (nI y) f0 post K (d + 1) (nI x + 1) (upd g' (y * c + x) (nI (smp P W H k (8 * i + x) (8 * j + y))))
      rw [nI_1]
      refine ih (x + 1) _ (by omega) (relB_ext (n := y * c + x) hg ?_)
      rw [tlS_at (by omega)]
  have outer : ∀ (r1 r2 : Int32), ∀ d y g', y + d = r → relB (y * c) g' (tlS P W H k i j c) → lp_ZY_cutTile_20 yk (nI W) (nI H) (W * H) f uw uh g (nI k) (nI i) (nI j) r1 r2 (nI c) (nI r) post (fun _ a => post (nI c) (nI r) a) (d + 1) (nI y) g' := by
    intro r1 r2 d
    induction d with
    | zero =>
      intro y g' hy hg
      obtain rfl : y = r := by omega
      rw [Nat.mul_comm] at hg
      exact ⟨fun _ => h _ hg, fun q => absurd ((nI_leI (by omega) (by omega)).mpr (Nat.le_refl _)) q⟩
    | succ d ih =>
      intro y g' hy hg
      refine ⟨fun q => absurd ((nI_leI (by omega) (by omega)).mp q) (by omega), fun _ => ⟨c + 1, ?_⟩⟩
      refine inner r1 r2 g' y (fun _ a => lp_ZY_cutTile_20 yk (nI W) (nI H) (W * H) f uw uh g (nI k) (nI i) (nI j) r1 r2 (nI c) (nI r) post (fun _ a => post (nI c) (nI r) a) (d + 1) (nI y + (1 : Int32)) a) (by omega) (fun _ g'' hg'' => ?_) c 0 g' (by omega) hg
      rw [nI_1]
      refine ih (y + 1) g'' (by omega) ?_
      rw [Nat.add_mul, Nat.one_mul]; exact hg''
  exact ⟨r + 1, outer _ _ r 0 g (by omega) (fun k hk => absurd hk (by omega))⟩
theorem tlS_ok {P : Nat → Nat → Nat} {W H k i j : Nat} (ho : okP W H P) (h1 : 1 ≤ W) (h2 : 1 ≤ H) (hi : 8 * i < hv W k) (hj : 8 * j < hv H k) : okB (tsd (hv W k) i * tsd (hv H k) j) (tlS P W H k i j (tsd (hv W k) i)) := by
  obtain ⟨a1, a2, a3⟩ := tsd_in hi
  obtain ⟨b1, b2, b3⟩ := tsd_in hj
  intro q hq
  have d1 : q / tsd (hv W k) i < tsd (hv H k) j := by rw [Nat.div_lt_iff_lt_mul a1, Nat.mul_comm]; omega
  have d2 : q % tsd (hv W k) i < tsd (hv W k) i := Nat.mod_lt _ a1
  exact smp_lt ho (hv_lt h1 (by omega)) (hv_lt h2 (by omega))
section QP
variable {pw ph : Int32} {pn : Nat} {pf : Nat → Int32} {gw gh : Int32} {gn : Nat} {gf : Nat → Int32} {yk bl : Int32} {bf : Nat → Int32} {kn : Nat} {kf : Nat → Int32} {sn : Nat} {sf : Nat → Int32} {sd tw th : Int32} {tf : Nat → Int32} {uw uh : Int32} {uf : Nat → Int32}
theorem q_pack {W H k i j : Nat} {P : Nat → Nat → Nat} (hr : relP W H W pf P) (ho : okP W H P) (h1 : 1 ≤ W) (hW : W ≤ 40) (h2 : 1 ≤ H) (hH : H ≤ 40) (hk : k < lev (max W H)) (hi : 8 * i < hv W k) (hj : 8 * j < hv H k) {post : Int32 → Int32 → (Nat → Int32) → Int32 → Int32 → (Nat → Int32) → Prop}
    (h : ∀ g' a b u, relB (pkL (tlS P W H k i j (tsd (hv W k) i)) (tsd (hv W k) i) (tsd (hv H k) j) + 2) g' (pkF (tlS P W H k i j (tsd (hv W k) i)) (tsd (hv W k) i) (tsd (hv H k) j)) → post (nI (pkL (tlS P W H k i j (tsd (hv W k) i)) (tsd (hv W k) i) (tsd (hv H k) j) + 2)) (nI (pkL (tlS P W H k i j (tsd (hv W k) i)) (tsd (hv W k) i) (tsd (hv H k) j) + 2)) g' a b u) : wp_ZQ_pack (nI W) (nI H) (W * H) pf gw gh gn gf (nI (lev (max W H))) bl bf kn kf sn sf sd tw th tf uw uh uf (nI k) (nI i) (nI j) post := by
  have hl := lev_in (m := max W H)
  obtain ⟨a1, a2, a3⟩ := tsd_in hi
  obtain ⟨b1, b2, b3⟩ := tsd_in hj
  exact q_hasTile h1 hW h2 hH (fun _ => q_reqPlace rfl (q_cutTile hr ho h1 hW h2 hH (by omega) hi hj (fun g' hg => q_packTile a2 b2 a1 hg (tlS_ok ho h1 h2 hi hj) (fun g'' hg'' => h g'' _ _ _ hg'')))) (fun hn => absurd ⟨k, i, j, rfl, hk, rfl, hi, rfl, hj⟩ hn)
theorem q_pack_I {W H : Nat} (h1 : 1 ≤ W) (hW : W ≤ 40) (h2 : 1 ≤ H) (hH : H ≤ 40) {a b c : Int32} (hn : ¬ til W H a b c) : xp_ZQ_pack_I (nI W) (nI H) pn pf gw gh gn gf (nI (lev (max W H))) bl bf kn kf sn sf sd tw th tf uw uh uf a b c :=
  q_hasTile h1 hW h2 hH (fun h => absurd h hn) (fun _ => Or.inl (q_reqPlace_I rfl))
end QP
section MP
variable {zt zw zh : Int32} {zp zs zb : Nat → Int32} {zz : Int32} {zl zo : Nat → Int32} {zc zr zu zv zq zi : Int32} {zk zm : Nat → Int32} {zd : Int32} {zg : Nat → Int32}
theorem m_sum {n m : Nat} {b : Nat → Nat} (hn : n ≤ m) (hm : m ≤ 256) (hf : relB m zb b) (ho : okB m b) {post : Int32 → Prop} (h : post (nI (smB b n))) : wp_ZM_sum zt zw zh zp zs zb zz zl zo zc zr zu zv zq zi zk zm zd zg (nI n) post := by
  have key : ∀ d k, k + d = n → lp_ZM_sum_4 zt zw zh zp zs zb zz zl zo zc zr zu zv zq zi zk zm zd zg (nI n) post (fun a _ => post a) (d + 1) (nI (smB b k)) (nI k) := by
    intro d
    induction d with
    | zero =>
      intro k hk
      obtain rfl : k = n := by omega
      exact ⟨fun _ => h, fun q => absurd ((nI_leI (by omega) (by omega)).mpr (Nat.le_refl _)) q⟩
    | succ d ih =>
      intro k hk
      refine ⟨fun q => absurd ((nI_leI (by omega) (by omega)).mp q) (by omega), fun _ => ⟨vp_in_nI (by omega) (by decide), ?_⟩⟩
      show lp_ZM_sum_4 zt zw zh zp zs zb zz zl zo zc zr zu zv zq zi zk zm zd zg (nI n) post (fun a _ => post a) (d + 1) ((((257 : Int32) * nI (smB b k)) + zb (nI k).toNatClampNeg + (1 : Int32)) - (((257 : Int32) * nI (smB b k)) + zb (nI k).toNatClampNeg + (1 : Int32)) / (65521 : Int32) * (65521 : Int32)) (nI k + 1)
      rw [nI_clamp (by omega), hf k (by omega), sm_step (smB_lt b k) (ho k (by omega)), nI_1]
      exact ih (k + 1) (by omega)
  exact ⟨n + 1, key n 0 (by omega)⟩
theorem m_pack {W H : Nat} {P : Nat → Nat → Nat} (hr : relP W H 40 zp P) (ho : okP W H P) (h1 : 1 ≤ W) (hW : W ≤ 40) (h2 : 1 ≤ H) (hH : H ≤ 40) {a b c : Int32} {post : Int32 → Int32 → (Nat → Int32) → Int32 → (Nat → Int32) → Prop} (hI : ¬ til W H a b c → post 0 1 zb zz zg)
    (hN : ∀ k i j g' u, a = nI k → k < lev (max W H) → b = nI i → 8 * i < hv W k → c = nI j → 8 * j < hv H k → relB (pkL (tlS P W H k i j (tsd (hv W k) i)) (tsd (hv W k) i) (tsd (hv H k) j) + 2) g' (pkF (tlS P W H k i j (tsd (hv W k) i)) (tsd (hv W k) i) (tsd (hv H k) j)) → post (nI (pkL (tlS P W H k i j (tsd (hv W k) i)) (tsd (hv W k) i) (tsd (hv H k) j) + 2)) 0 g' (nI (pkL (tlS P W H k i j (tsd (hv W k) i)) (tsd (hv W k) i) (tsd (hv H k) j) + 2)) u) : wp_ZM_pack zt (nI W) (nI H) zp zs zb zz zl zo zc zr zu zv zq zi zk zm zd zg a b c post := by
  have hl := lev_in (m := max W H)
  refine m_isTile h1 hW h2 hH (fun hp => ⟨_, fun _ hh => hh, ⟨fun h => absurd h nz1, fun _ => m_good ⟨fun _ => ?_, fun h => absurd rfl h⟩⟩⟩) (fun hp => ⟨_, fun _ hh => hh, ⟨fun _ => m_bad ⟨fun h => absurd h nz1, fun _ => hI hp⟩, fun h => absurd rfl h⟩⟩)
  obtain ⟨k, i, j, rfl, hk, rfl, hi, rfl, hj⟩ := hp
  have hN := fun g' u => hN k i j g' u rfl hk rfl hi rfl hj
  have hok := tlS_ok ho h1 h2 hi hj
  obtain ⟨a1, a2, a3⟩ := tsd_in hi
  obtain ⟨b1, b2, b3⟩ := tsd_in hj
  have c1 := hv_le (k := k) h1
  have c2 := hv_le (k := k) h2
  refine p_half h1 (by omega) (by omega) (m_part (by omega) hi (p_half h2 (by omega) (by omega) (m_part (by omega) hj ?_)))
  generalize tsd (hv W k) i = w at *
  generalize tsd (hv H k) j = h at *
  have h64 := mul8 a2 b2
  have fill : ∀ (t1 t2 t3 t4 t5 : Int32) (K : Int32 → (Nat → Int32) → Prop), (∀ e u, relB (w * h) u (tlS P W H k i j w) → K e u) → ∀ d q u, q + d = w * h → relB q u (tlS P W H k i j w) → lp_ZM_pack_56 zt (nI W) (nI H) zp zs zb zz zl zo zc zr zu zv zq zi zk zm zd zg (nI k) (nI i) (nI j) t1 t2 t3 0 t4 (nI w) t5 (nI h) post K (d + 1) (nI q) u := by
    intro t1 t2 t3 t4 t5 K hK d
    induction d with
    | zero =>
      intro q u hq hu
      obtain rfl : q = w * h := by omega
      refine ⟨fun _ => hK _ _ hu, fun z => ?_⟩
      rw [pk_mul] at z
      exact absurd ((nI_leI (by omega) (by omega)).mpr (Nat.le_refl _)) z
    | succ d ih =>
      intro q u hq hu
      have d1 : q / w < h := by rw [Nat.div_lt_iff_lt_mul a1, Nat.mul_comm]; omega
      have d2 : q % w < w := Nat.mod_lt _ a1
      refine ⟨fun z => ?_, fun _ => ⟨nI_ne0 a1 (by omega), nI_ne0 a1 (by omega), ?_⟩⟩
      · rw [pk_mul] at z
        exact absurd ((nI_leI (by omega) (by omega)).mp z) (by omega)
      · rw [pk_rem (by omega) a1 (by omega), pk_div (by omega) a1 (by omega), e8, e8]
        refine m_sample hr ho hW hH (by omega) (hv_lt h1 (by omega)) (hv_lt h2 (by omega)) ⟨vp_in_nI (by omega) (by decide), ?_⟩
        show lp_ZM_pack_56 zt (nI W) (nI H) zp zs zb zz zl zo zc zr zu zv zq zi zk zm zd zg (nI k) (nI i) (nI j) t1 t2 t3 0 t4 (nI w) t5 (nI h) post K (d + 1) (nI q + 1) (upd u (nI q).toNatClampNeg (nI (smp P W H k (8 * i + q % w) (8 * j + q / w))))
        rw [nI_1, nI_clamp (by omega)]
        exact ih (q + 1) _ (by omega) (relB_ext (n := q) hu rfl)
  refine ⟨w * h + 1, fill _ _ _ _ _ _ (fun e u hu => ?_) (w * h) 0 zg (by omega) (fun k hk => absurd hk (by omega))⟩
  generalize tlS P W H k i j w = t at *
  refine m_write (s := 0) (by decide) (m_write (s := 1) (by decide) ?_)
  have key : ∀ (t1 t2 t3 t4 t5 t6 : Int32) (z1 z2 : Int32) (g1 g2 : Nat → Int32) (K : Int32 → Int32 → (Nat → Int32) → Prop), (∀ e g', relB (pkL t w h) g' (pkB t w h h) → K e (nI (pkL t w h)) g') → ∀ d y g', y + d = h → relB (pkL t w y) g' (pkB t w h y) → lp_ZM_pack_124 zt (nI W) (nI H) zp zs zb zz zl zo zc zr zu zv zq zi zk zm zd zg (nI k) (nI i) (nI j) t1 t2 t3 0 t4 (nI w) t5 (nI h) t6 u g1 z1 g2 z2 post K (d + 1) (nI y) (nI (pkL t w y)) g' := by
    intro t1 t2 t3 t4 t5 t6 z1 z2 g1 g2 K hK d
    induction d with
    | zero =>
      intro y g' hy hg
      obtain rfl : y = h := by omega
      exact ⟨fun _ => hK _ _ hg, fun q => absurd ((nI_leI (by omega) (by omega)).mpr (Nat.le_refl _)) q⟩
    | succ d ih =>
      intro y g' hy hg
      have hl := pkL_le hok a1 a2 (show y ≤ h by omega)
      refine ⟨fun q => absurd ((nI_leI (by omega) (by omega)).mp q) (by omega), fun _ => m_writeRow a2 b2 a1 (by omega) hu hok (by omega) hg (fun g'' hg'' => ?_)⟩
      show lp_ZM_pack_124 zt (nI W) (nI H) zp zs zb zz zl zo zc zr zu zv zq zi zk zm zd zg (nI k) (nI i) (nI j) t1 t2 t3 0 t4 (nI w) t5 (nI h) t6 u g1 z1 g2 z2 post K (d + 1) (nI y + 1) _ g''
      rw [nI_1]
      exact ih (y + 1) g'' (by omega) hg''
  have hl := pkL_le hok a1 a2 (Nat.le_refl h)
  refine ⟨h + 1, key _ _ _ _ _ _ _ _ _ _ _ (fun e g' hg => ?_) h 0 _ (by omega) (pk0 t w h)⟩
  have hokB := pkB_ok (n := pkL t w h) hok a1 a2 b2 (Nat.le_refl h)
  have hsm := smB_lt (pkB t w h h) (pkL t w h)
  refine m_sum (Nat.le_refl _) (by omega) hg hokB ?_
  rw [and255 (by omega), shr8 (by omega)]
  refine m_write (by omega) (m_write (by omega) (hN _ _ ?_))
  exact relB_app (relB_app hg)
end MP
