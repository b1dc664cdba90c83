/-! the buffer's calls: load, byteAt, poke; and opened -/
theorem p_inZ {a : Int32} {n : Nat} (hn : n < 2 ^ 31) {post : Int32 → Prop} (h1 : inN a n → post 1) (h0 : ¬ inN a n → post 0) : wp_ZM_in a 0 (nI n - 1) post := by
  rcases Nat.eq_zero_or_pos n with rfl | hp
  · refine ⟨fun h => h0 (inN_lt0 hn h), fun h => ⟨fun _ => h0 (fun q => by obtain ⟨j, hj, _⟩ := q; omega), fun h2 => ?_⟩⟩
    exfalso
    rw [Int32.lt_iff_toInt_lt] at h h2
    have e0 : (0 : Int32).toInt = 0 := rfl
    have e1 : (nI 0 - 1 : Int32).toInt = -1 := by decide +kernel
    omega
  · rw [nI_sub1 hp]; exact p_in0 hp hn h1 h0
def relB (n : Nat) (f : Nat → Int32) (b : Nat → Nat) : Prop := ∀ k, k < n → f k = nI (b k)
def okB (n : Nat) (b : Nat → Nat) : Prop := ∀ k, k < n → b k < 256
def setB (b : Nat → Nat) (k v : Nat) : Nat → Nat := fun j => if j = k then v else b j
theorem relB_set {n k v : Nat} {f : Nat → Int32} {b : Nat → Nat} (h : relB n f b) : relB n (upd f k (nI v)) (setB b k v) := by
  intro j hj
  unfold setB
  by_cases hc : j = k
  · rw [if_pos hc, hc]; exact pk_us
  · rw [if_neg hc, pk_un hc]; exact h j hj
theorem relB_app {n v : Nat} {f : Nat → Int32} {b : Nat → Nat} (h : relB n f b) : relB (n + 1) (upd f n (nI v)) (setB b n v) := by
  intro j hj
  unfold setB
  by_cases hc : j = n
  · rw [if_pos hc, hc]; exact pk_us
  · rw [if_neg hc, pk_un hc]; exact h j (by omega)
theorem okB_set {n k v : Nat} {b : Nat → Nat} (h : okB n b) (hv : v < 256) : okB n (setB b k v) := by
  intro j hj
  unfold setB
  split
  · exact hv
  · exact h j hj
theorem okB_app {n v : Nat} {b : Nat → Nat} (h : okB n b) (hv : v < 256) : okB (n + 1) (setB b n v) := by
  intro j hj
  unfold setB
  split
  · exact hv
  · exact h j (by omega)
theorem nI_xor {a b : Nat} (ha : a < 256) (hb : b < 256) : nI a ^^^ nI b = nI (a ^^^ b) ∧ a ^^^ b < 256 := by
  have hx : a ^^^ b < 2 ^ 8 := Nat.xor_lt_two_pow (by omega) (by omega)
  refine ⟨?_, by omega⟩
  apply Int32.toBitVec_inj.mp
  apply BitVec.eq_of_toNat_eq
  rw [pk_tn (by omega), Int32.toBitVec_xor, BitVec.toNat_xor, pk_tn (by omega), pk_tn (by omega)]
theorem le255 {a : Int32} (h0 : ¬ a < 0) (h : a ≤ (255 : Int32)) : inN a 256 := inN_of (by decide) h0 (nI_nlt255 (by rw [Int32.lt_iff_toInt_lt]; rw [Int32.le_iff_toInt_le] at h; omega))
theorem nle255 {a : Int32} (h : inN a 256) : ¬ a < 0 ∧ a ≤ (255 : Int32) := by
  obtain ⟨j, hj, rfl⟩ := h
  exact ⟨nI_pos (by omega), nI_le (b := 255) (by omega) (by decide)⟩
theorem in1_255 {a : Int32} : (¬ a < 1 ∧ a ≤ (255 : Int32)) ↔ ∃ w : Nat, 1 ≤ w ∧ w ≤ 255 ∧ a = nI w := by
  rw [← rngN (n := 255) (by decide)]
  refine and_congr Iff.rfl ?_
  rw [Int32.lt_iff_toInt_lt, Int32.le_iff_toInt_le]
  have : (nI 255).toInt = (255 : Int32).toInt := rfl
  omega
section QB
variable {pw ph : Int32} {pn : Nat} {pf : Nat → Int32} {gw gh : Int32} {gn : Nat} {gf : Nat → Int32} {yk bl : Int32} {bf : Nat → Int32} {kn : Nat} {kf : Nat → Int32} {sn : Nat} {sf : Nat → Int32} {sd tw th : Int32} {tf : Nat → Int32} {uw uh : Int32} {uf : Nat → Int32}
theorem q_load {B b : Nat} (hB : B < 256) (hb : b < 256) {post : Int32 → Int32 → (Nat → Int32) → Prop} (h : post (nI (B + 1)) (nI (B + 1)) (upd bf B (nI b))) : wp_ZQ_load pw ph pn pf gw gh gn gf yk (nI B) bf kn kf sn sf sd tw th tf uw uh uf (nI b) post := by
  have hlt : nI B < (256 : Int32) := nI_lt (b := 256) hB (by decide)
  obtain ⟨c1, c2⟩ := nle255 ⟨b, hb, rfl⟩
  refine ⟨fun _ => ⟨fun _ => ⟨fun q => absurd q c1, fun _ => ⟨fun _ => ⟨fun _ => ⟨fun _ => ⟨vp_in_nI hB (by decide), ?_⟩, fun q => absurd rfl q⟩, fun q => absurd hlt q⟩, fun q => absurd c2 q⟩⟩, fun q => absurd rfl q⟩, fun q => absurd hlt q⟩
  rw [nI_1, nI_clamp (by omega)]; exact h
theorem q_load_S {a : Int32} : xp_ZQ_load_S pw ph pn pf gw gh gn gf yk (nI 256) bf kn kf sn sf sd tw th tf uw uh uf a :=
  ⟨fun q => absurd q (by decide +kernel), fun _ => ⟨fun q => absurd q nz1, fun _ => trivial⟩⟩
theorem q_load_A {B : Nat} {a : Int32} (hB : B < 256) (ha : ¬ inN a 256) : xp_ZQ_load_A pw ph pn pf gw gh gn gf yk (nI B) bf kn kf sn sf sd tw th tf uw uh uf a := by
  have hlt : nI B < (256 : Int32) := nI_lt (b := 256) hB (by decide)
  exact ⟨fun _ => ⟨fun _ => ⟨fun _ => trivial, fun c => ⟨fun c2 => ha (le255 c c2), fun _ => trivial⟩⟩, fun q => absurd rfl q⟩, fun q => absurd hlt q⟩
theorem q_byteAt {B k : Nat} (hB : B ≤ 256) (hk : k < B) {post : Int32 → Prop} (h : post (bf k)) : wp_ZQ_byteAt pw ph pn pf gw gh gn gf yk (nI B) bf kn kf sn sf sd tw th tf uw uh uf (nI k) post := by
  refine p_isWithin (by omega) (fun _ => q_reqPlace rfl ⟨vp_in_nI (by omega) (by decide), ?_⟩) (fun hn => absurd ⟨k, hk, rfl⟩ hn)
  rw [nI_clamp (by omega)]; exact h
theorem q_byteAt_I {B : Nat} (hB : B ≤ 256) {a : Int32} (hn : ¬ inN a B) : xp_ZQ_byteAt_I pw ph pn pf gw gh gn gf yk (nI B) bf kn kf sn sf sd tw th tf uw uh uf a :=
  p_isWithin (by omega) (fun h => absurd h hn) (fun _ => Or.inl (q_reqPlace_I rfl))
theorem q_poke {B k m : Nat} (hB : B ≤ 256) (hk : k < B) (h1 : 1 ≤ m) (h2 : m ≤ 255) {post : Int32 → (Nat → Int32) → Prop} (h : post (bf k ^^^ nI m) (upd bf k (bf k ^^^ nI m))) : wp_ZQ_poke pw ph pn pf gw gh gn gf yk (nI B) bf kn kf sn sf sd tw th tf uw uh uf (nI k) (nI m) post := by
  obtain ⟨c1, c2⟩ := in1_255.mpr ⟨m, h1, h2, rfl⟩
  have hin : vp_in (nI k) 256 := vp_in_nI (by omega) (by decide)
  refine p_isWithin (by omega) (fun _ => q_reqPlace rfl ⟨fun q => absurd q c1, fun _ => ⟨fun _ => ⟨hin, hin, hin, ?_⟩, fun q => absurd c2 q⟩⟩) (fun hn => absurd ⟨k, hk, rfl⟩ hn)
  rw [nI_clamp (by omega), pk_us]; exact h
theorem q_poke_I {B : Nat} (hB : B ≤ 256) {a m : Int32} (hn : ¬ inN a B) : xp_ZQ_poke_I pw ph pn pf gw gh gn gf yk (nI B) bf kn kf sn sf sd tw th tf uw uh uf a m :=
  p_isWithin (by omega) (fun h => absurd h hn) (fun _ => Or.inl (q_reqPlace_I rfl))
theorem q_poke_A {B : Nat} (hB : B ≤ 256) {a m : Int32} (ha : inN a B) (hm : ¬ ∃ w : Nat, 1 ≤ w ∧ w ≤ 255 ∧ m = nI w) : xp_ZQ_poke_A pw ph pn pf gw gh gn gf yk (nI B) bf kn kf sn sf sd tw th tf uw uh uf a m :=
  p_isWithin (by omega) (fun _ => q_reqPlace rfl ⟨fun _ => trivial, fun c1 => ⟨fun c2 => absurd (in1_255.mp ⟨c1, c2⟩) hm, fun _ => trivial⟩⟩) (fun h => absurd ha h)
theorem q_opened {c r k : Nat} (h64 : c * r ≤ 64) (hk : k < c * r) {post : Int32 → Prop} (h : post (tf k)) : wp_ZQ_opened pw ph pn pf gw gh gn gf yk bl bf kn kf sn sf sd (nI c) (nI r) tf uw uh uf (nI k) post := by
  unfold wp_ZQ_opened wp_ZT_sampleCount
  rw [pk_mul]
  refine p_isWithin (by omega) (fun _ => q_reqPlace rfl ⟨vp_in_nI (by omega) (by decide), ?_⟩) (fun hn => absurd ⟨k, hk, rfl⟩ hn)
  rw [nI_clamp (by omega)]; exact h
theorem q_opened_I {c r : Nat} (h64 : c * r ≤ 64) {a : Int32} (hn : ¬ inN a (c * r)) : xp_ZQ_opened_I pw ph pn pf gw gh gn gf yk bl bf kn kf sn sf sd (nI c) (nI r) tf uw uh uf a := by
  unfold xp_ZQ_opened_I wp_ZT_sampleCount
  rw [pk_mul]
  exact p_isWithin (by omega) (fun h => absurd h hn) (fun _ => Or.inl (q_reqPlace_I rfl))
end QB
section MB
variable {zt zw zh : Int32} {zp zs zb : Nat → Int32} {zz : Int32} {zl zo : Nat → Int32} {zc zr zu zv zq zi : Int32} {zk zm : Nat → Int32} {zd : Int32} {zg : Nat → Int32}
theorem m_bad {t : Int32} {X : Int32 → Int32 → Prop} (hX : X 1 1) : wp_ZM_throwing zt zw zh zp zs zb zz zl zo zc zr zu zv zq zi zk zm zd zg 1 t X := p_throwing (fun _ => hX) (fun h => absurd h nz1) (fun h => absurd h nz1)
theorem m_bad2 {X : Int32 → Int32 → Prop} (hX : X 1 2) : wp_ZM_throwing zt zw zh zp zs zb zz zl zo zc zr zu zv zq zi zk zm zd zg 0 1 X := p_throwing (fun h => absurd rfl h) (fun _ _ => hX) (fun _ h => absurd h nz1)
theorem m_good {X : Int32 → Int32 → Prop} (hX : X 0 0) : wp_ZM_throwing zt zw zh zp zs zb zz zl zo zc zr zu zv zq zi zk zm zd zg 0 0 X := p_throwing (fun h => absurd rfl h) (fun _ h => absurd rfl h) (fun _ _ => hX)
theorem m_load {B : Nat} (hB : B ≤ 256) {a : Int32} {post : Int32 → Int32 → (Nat → Int32) → Int32 → Prop} (hS : B = 256 → post 0 1 zb (nI B)) (hA : B < 256 → ¬ inN a 256 → post 0 2 zb (nI B)) (hN : ∀ b : Nat, B < 256 → a = nI b → b < 256 → post (nI (B + 1)) 0 (upd zb B (nI b)) (nI (B + 1))) : wp_ZM_load zt zw zh zp zs zb (nI B) zl zo zc zr zu zv zq zi zk zm zd zg a post := by
  refine ⟨_, fun _ hh => hh, ⟨fun e => ?_, fun e => ?_⟩⟩
  · obtain rfl : B = 256 := nI_inj (by omega) (by omega) e
    exact p_isByte (fun hv => ⟨_, fun _ hh => hh, ⟨fun h => absurd h nz1, fun _ => m_bad ⟨fun h => absurd h nz1, fun _ => hS rfl⟩⟩⟩) (fun hv => ⟨_, fun _ hh => hh, ⟨fun _ => m_bad ⟨fun h => absurd h nz1, fun _ => hS rfl⟩, fun h => absurd rfl h⟩⟩)
  · have hB : B < 256 := by
      rcases Nat.lt_or_ge B 256 with q | q
      · exact q
      · exact absurd (by rw [show B = 256 by omega]; rfl) e
    refine p_isByte (fun hv => ⟨_, fun _ hh => hh, ⟨fun h => absurd h nz1, fun _ => m_good ⟨fun _ => ?_, fun h => absurd rfl h⟩⟩⟩) (fun hv => ⟨_, fun _ hh => hh, ⟨fun _ => m_bad2 ⟨fun h => absurd h nz1, fun _ => hA hB hv⟩, fun h => absurd rfl h⟩⟩)
    obtain ⟨b, hb, rfl⟩ := hv
    refine ⟨vp_in_nI hB (by decide), ?_⟩
    dsimp only
    rw [nI_1, nI_clamp (by omega)]; exact hN b hB rfl hb
theorem m_hasByte {B : Nat} (hB : B ≤ 256) {a : Int32} {post : Int32 → Prop} (h1 : inN a B → post 1) (h0 : ¬ inN a B → post 0) : wp_ZM_hasByte zt zw zh zp zs zb (nI B) zl zo zc zr zu zv zq zi zk zm zd zg a post :=
  p_inZ (by omega) (fun h => ⟨rfl, h1 h⟩) (fun h => ⟨rfl, h0 h⟩)
theorem m_byteAt {B : Nat} (hB : B ≤ 256) {a : Int32} {post : Int32 → Int32 → Prop} (hI : ¬ inN a B → post 0 1) (hN : ∀ k : Nat, k < B → a = nI k → post (zb k) 0) : wp_ZM_byteAt zt zw zh zp zs zb (nI B) zl zo zc zr zu zv zq zi zk zm zd zg a post := by
  refine m_hasByte hB (fun ha => ⟨_, fun _ hh => hh, ⟨fun h => absurd h nz1, fun _ => m_good ⟨fun _ => ?_, fun h => absurd rfl h⟩⟩⟩) (fun ha => ⟨_, fun _ hh => hh, ⟨fun _ => m_bad ⟨fun h => absurd h nz1, fun _ => hI ha⟩, fun h => absurd rfl h⟩⟩)
  obtain ⟨k, hk, rfl⟩ := ha
  refine ⟨vp_in_nI (by omega) (by decide), ?_⟩
  rw [nI_clamp (by omega)]; exact hN k hk rfl
theorem m_poke {B : Nat} (hB : B ≤ 256) {a c : Int32} {post : Int32 → Int32 → (Nat → Int32) → Prop} (hI : ¬ inN a B → post 0 1 zb) (hA : inN a B → ¬ (∃ w : Nat, 1 ≤ w ∧ w ≤ 255 ∧ c = nI w) → post 0 2 zb) (hN : ∀ k m : Nat, k < B → a = nI k → 1 ≤ m → m ≤ 255 → c = nI m → post (zb k ^^^ nI m) 0 (upd zb k (zb k ^^^ nI m))) : wp_ZM_poke zt zw zh zp zs zb (nI B) zl zo zc zr zu zv zq zi zk zm zd zg a c post := by
  refine m_hasByte hB (fun ha => ⟨_, fun _ hh => hh, ⟨fun h => absurd h nz1, fun _ => ?_⟩⟩) (fun ha => ⟨_, fun _ hh => hh, ⟨fun _ => ?_, fun h => absurd rfl h⟩⟩)
  · refine p_in1 (n := 255) (by decide) (fun hc => ⟨_, fun _ hh => hh, ⟨fun h => absurd h nz1, fun _ => m_good ⟨fun _ => ?_, fun h => absurd rfl h⟩⟩⟩) (fun hc => ⟨_, fun _ hh => hh, ⟨fun _ => m_bad2 ⟨fun h => absurd h nz1, fun _ => hA ha hc⟩, fun h => absurd rfl h⟩⟩)
    obtain ⟨k, hk, rfl⟩ := ha
    obtain ⟨m, m1, m2, rfl⟩ := hc
    have hin : vp_in (nI k) 256 := vp_in_nI (by omega) (by decide)
    refine ⟨hin, hin, hin, ?_⟩
    rw [nI_clamp (by omega), pk_us]; exact hN k m hk rfl m1 m2 rfl
  · exact p_in1 (n := 255) (by decide) (fun hc => ⟨_, fun _ hh => hh, ⟨fun h => absurd h nz1, fun _ => m_bad ⟨fun h => absurd h nz1, fun _ => hI ha⟩⟩⟩) (fun hc => ⟨_, fun _ hh => hh, ⟨fun _ => m_bad ⟨fun h => absurd h nz1, fun _ => hI ha⟩, fun h => absurd rfl h⟩⟩)
theorem m_opened {c r : Nat} (h64 : c * r ≤ 64) {a : Int32} {post : Int32 → Int32 → Prop} (hI : ¬ inN a (c * r) → post 0 1) (hN : ∀ k : Nat, k < c * r → a = nI k → post (zl k) 0) : wp_ZM_opened zt zw zh zp zs zb zz zl zo zc zr (nI c) (nI r) zq zi zk zm zd zg a post := by
  unfold wp_ZM_opened
  rw [pk_mul]
  refine p_inZ (by omega) (fun ha => ⟨_, fun _ hh => hh, ⟨fun h => absurd h nz1, fun _ => m_good ⟨fun _ => ?_, fun h => absurd rfl h⟩⟩⟩) (fun ha => ⟨_, fun _ hh => hh, ⟨fun _ => m_bad ⟨fun h => absurd h nz1, fun _ => hI ha⟩, fun h => absurd rfl h⟩⟩)
  obtain ⟨k, hk, rfl⟩ := ha
  refine ⟨vp_in_nI (by omega) (by decide), ?_⟩
  rw [nI_clamp (by omega)]; exact hN k hk rfl
end MB
