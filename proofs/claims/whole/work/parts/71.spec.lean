/-! the pure layer: codes, entries, cells -/
def cd (x e : Nat) : Nat :=
  let v1 := (x * 48271 + e * 7919 + 12345) % 1048576
  let v2 := v1 ^^^ (v1 / 512)
  let v3 := (v2 * 7621 + 1) % 1048576
  v3 ^^^ (v3 / 2048)
theorem zs_x20 {a k : Nat} (h : a < 1048576) : a ^^^ (a / k) < 1048576 := by
  have h2 : a / k < 2 ^ 20 := Nat.lt_of_le_of_lt (Nat.div_le_self a k) h
  exact Nat.xor_lt_two_pow (n := 20) h h2
theorem cd_lt (x e : Nat) : cd x e < 1048576 := zs_x20 (Nat.mod_lt _ (by decide))
theorem zs_r {a d : Nat} (ha : a < 2 ^ 63) (h0 : 0 < d) (hd : d < 2 ^ 63) : lrm (lN a) (lN d) = lN (a % d) := pk_lRem ha h0 hd
theorem zs_h {a k : Nat} (ha : a < 1048576) (h0 : 0 < k) (hk : k < 2 ^ 63) : lN a ^^^ lN a / lN k = lN (a ^^^ (a / k)) := by
  rw [pk_lDiv (Nat.lt_trans ha (by decide)) h0 hk, zn_xorL]
theorem zs_c2 {v : Nat} (h : v < 1048576) : lrm (lN v * lN 7621 + lN 1) (lN 1048576) = lN ((v * 7621 + 1) % 1048576) := by
  rw [lN_mul, lN_add, zs_r (by omega) (by decide) (by decide)]
theorem zn_cd {x e : Nat} (hx : x < 1000) (he : e < 100) : G_X0_of (nI x) (nI e) = nI (cd x e) := by
  have l1 : (48271 : Int64) = lN 48271 := rfl
  have l2 : (7919 : Int64) = lN 7919 := rfl
  have l3 : (12345 : Int64) = lN 12345 := rfl
  have l4 : (1048576 : Int64) = lN 1048576 := rfl
  have l5 : (512 : Int64) = lN 512 := rfl
  have l6 : (7621 : Int64) = lN 7621 := rfl
  have l7 : (1 : Int64) = lN 1 := rfl
  have l8 : (2048 : Int64) = lN 2048 := rfl
  unfold G_X0_of olet cd
  dsimp only
  rw [nI_l (n := x) (by omega), nI_l (n := e) (by omega), l1, l2, l3, l4, l5, l6, l7, l8, lN_mul, lN_mul, lN_add, lN_add, zs_r (a := x * 48271 + e * 7919 + 12345) (by omega) (by decide) (by decide)]
  have h1 : (x * 48271 + e * 7919 + 12345) % 1048576 < 1048576 := Nat.mod_lt _ (by decide)
  rw [zs_h (k := 512) h1 (by decide) (by decide), zs_c2 (zs_x20 h1), zs_h (k := 2048) (Nat.mod_lt _ (by decide)) (by decide) (by decide), lN_i]
theorem zn_cd9 {x e : Nat} (hx : x < 1000) (he : e < 100) : G_X9_codeOf (nI x) (nI e) = nI (cd x e) := zn_cd hx he
abbrev En : Type := Nat × Nat × Nat × Nat
abbrev Ce : Type := Nat → Option En
abbrev Pm : Type := Nat × Nat × Nat × Nat × Nat
def tg (x e : Nat) : Nat := cd x e / 16384
def hm (b x e : Nat) : Nat := cd x e % 16384 % 2 ^ b
def pr (b n x e : Nat) : Nat := cd x e % 16384 / 2 ^ b % 2 ^ n
def stp (t b : Nat) : Nat := ((37 * t + 11) % 64 ||| 1) % 2 ^ b
def oth (b u t : Nat) : Nat := u ^^^ stp t b
def nE (P : Pm) (x : Nat) : En := (tg x P.2.2.2.1, hm P.1 x P.2.2.2.1, P.2.2.1, pr P.1 P.2.2.1 x P.2.2.2.1)
theorem tg_lt (x e : Nat) : tg x e < 64 := by
  have := cd_lt x e
  unfold tg
  omega
theorem hm_lt (b x e : Nat) : hm b x e < 2 ^ b := Nat.mod_lt _ (Nat.two_pow_pos b)
theorem pr_lt (b n x e : Nat) : pr b n x e < 2 ^ n := Nat.mod_lt _ (Nat.two_pow_pos n)
theorem stp_lt (t b : Nat) : stp t b < 2 ^ b := Nat.mod_lt _ (Nat.two_pow_pos b)
theorem oth_lt {b u : Nat} (t : Nat) (h : u < 2 ^ b) : oth b u t < 2 ^ b := Nat.xor_lt_two_pow h (stp_lt t b)
theorem oth_oth (b u t : Nat) : oth b (oth b u t) t = u := by
  unfold oth
  rw [Nat.xor_assoc, Nat.xor_self, Nat.xor_zero]
theorem stp_odd (t : Nat) {b : Nat} (h : 1 ≤ b) : stp t b % 2 = 1 := by
  have e1 : ((37 * t + 11) % 64 ||| 1) % 2 = 1 := by
    have h1 := Nat.or_mod_two_eq_one (a := (37 * t + 11) % 64) (b := 1)
    exact h1.mpr (Or.inr rfl)
  unfold stp
  have h2 : (2 : Nat) ∣ 2 ^ b := ⟨2 ^ (b - 1), by rw [← Nat.pow_succ']; congr 1; omega⟩
  rw [Nat.mod_mod_of_dvd _ h2]
  exact e1
theorem oth_ne (u t : Nat) {b : Nat} (h : 1 ≤ b) : oth b u t ≠ u := by
  intro e
  have h1 := stp_odd t h
  have h2 : stp t b = 0 := by
    have h3 : u ^^^ (u ^^^ stp t b) = u ^^^ u := by
      have e' : u ^^^ stp t b = u := e
      rw [e']
    rw [← Nat.xor_assoc, Nat.xor_self, Nat.zero_xor] at h3
    exact h3
  omega
theorem p2_le {b n : Nat} (h : b ≤ n) : 2 ^ b ≤ 2 ^ n := Nat.pow_le_pow_right (by decide) h
theorem p2_6 {b : Nat} (h : b ≤ 6) : 2 ^ b ≤ 64 := p2_le (n := 6) h
theorem p2_8 {b : Nat} (h : b ≤ 8) : 2 ^ b ≤ 256 := p2_le (n := 8) h
def ew (e : En) : Int32 := nI (e.1 + 64 * e.2.1 + 4096 * e.2.2.1 + 65536 * e.2.2.2)
def cwo : Option En → Int32
  | none => mI
  | some e => ew e
def zEo (b : Nat) (e : En) : Prop := e.1 < 64 ∧ e.2.1 < 2 ^ b ∧ e.2.2.1 ≤ 8 ∧ e.2.2.2 < 2 ^ e.2.2.1
def zWp (P : Pm) : Prop := (1 ≤ P.1 ∧ P.1 ≤ 6) ∧ (1 ≤ P.2.1 ∧ P.2.1 ≤ 4) ∧ (1 ≤ P.2.2.1 ∧ P.2.2.1 ≤ 8) ∧ P.2.2.2.1 < 100 ∧ P.2.2.2.2 ≤ 50
def zWc (b s : Nat) (c : Ce) : Prop := ∀ p e, c p = some e → p / 4 < 2 ^ b ∧ p % 4 < s ∧ zEo b e ∧ (e.2.1 = p / 4 ∨ e.2.1 = oth b (p / 4) e.1)
def zWq (b : Nat) (q : List En) : Prop := q.length ≤ 3 ∧ ∀ e, e ∈ q → zEo b e
def zWk (nk : Nat) (K : Nat → Nat) : Prop := nk ≤ 120 ∧ ∀ i, i < nk → K i < 1000 ∧ ∀ j, j < i → K j ≠ K i
theorem nE_ok {P : Pm} (h : zWp P) (x : Nat) : zEo P.1 (nE P x) := ⟨tg_lt _ _, hm_lt _ _ _, h.2.2.1.2, pr_lt _ _ _ _⟩
theorem zEo_lt {b : Nat} {e : En} (hb : b ≤ 6) (h : zEo b e) : e.1 < 64 ∧ e.2.1 < 64 ∧ e.2.2.1 ≤ 8 ∧ e.2.2.2 < 256 :=
  ⟨h.1, Nat.lt_of_lt_of_le h.2.1 (p2_6 hb), h.2.2.1, Nat.lt_of_lt_of_le h.2.2.2 (p2_8 h.2.2.1)⟩
/-! packed entries -/
theorem zn_pk {t h n r : Nat} (ht : t < 64) (hh : h < 64) (hn : n < 16) (hr : r < 256) : G_X1_pack (nI t) (nI h) (nI n) (nI r) = ew (t, h, n, r) := by
  unfold G_X1_pack
  simp (disch := omega) only [zn_L, zn_R]
  have e1 : t ||| h * 2 ^ 6 = h * 64 + t := by
    have := Nat.two_pow_add_eq_or_of_lt (i := 6) (b := t) ht h
    rw [Nat.or_comm, Nat.mul_comm h (2 ^ 6), ← this]
  have e2 : h * 64 + t ||| n * 2 ^ 12 = n * 4096 + (h * 64 + t) := by
    have := Nat.two_pow_add_eq_or_of_lt (i := 12) (b := h * 64 + t) (by omega) n
    rw [Nat.or_comm, Nat.mul_comm n (2 ^ 12), ← this]
  have e3 : n * 4096 + (h * 64 + t) ||| r * 2 ^ 16 = r * 65536 + (n * 4096 + (h * 64 + t)) := by
    have := Nat.two_pow_add_eq_or_of_lt (i := 16) (b := n * 4096 + (h * 64 + t)) (by omega) r
    rw [Nat.or_comm, Nat.mul_comm r (2 ^ 16), ← this]
  rw [e1, e2, e3]
  unfold ew
  congr 1
  show r * 65536 + (n * 4096 + (h * 64 + t)) = t + 64 * h + 4096 * n + 65536 * r
  omega
theorem zn_et {e : En} (h1 : e.1 < 64) (h2 : e.2.1 < 64) (h3 : e.2.2.1 < 16) (h4 : e.2.2.2 < 256) : G_X1_tagOf (ew e) = nI e.1 ∧ G_X1_homeOf (ew e) = nI e.2.1 ∧ G_X1_lengthOf (ew e) = nI e.2.2.1 ∧ G_X1_printOf (ew e) = nI e.2.2.2 := by
  unfold G_X1_tagOf G_X1_homeOf G_X1_lengthOf G_X1_printOf ew
  simp (disch := omega) only [zn_L, zn_R]
  refine ⟨?_, ?_, ?_, ?_⟩
  · omega
  · omega
  · omega
  · omega
theorem ew_lt {e : En} (h1 : e.1 < 64) (h2 : e.2.1 < 64) (h3 : e.2.2.1 < 16) (h4 : e.2.2.2 < 256) : e.1 + 64 * e.2.1 + 4096 * e.2.2.1 + 65536 * e.2.2.2 < 2 ^ 31 := by omega
theorem ew_mi {e : En} (h1 : e.1 < 64) (h2 : e.2.1 < 64) (h3 : e.2.2.1 < 16) (h4 : e.2.2.2 < 256) : (ew e = mI ↔ False) := (zn_mi (ew_lt h1 h2 h3 h4)).1
theorem ew_inj {e f : En} (h1 : e.1 < 64) (h2 : e.2.1 < 64) (h3 : e.2.2.1 < 16) (h4 : e.2.2.2 < 256) (g1 : f.1 < 64) (g2 : f.2.1 < 64) (g3 : f.2.2.1 < 16) (g4 : f.2.2.2 < 256) : (ew e = ew f ↔ e = f) := by
  constructor
  · intro h
    have h := (nI_eq (ew_lt h1 h2 h3 h4) (ew_lt g1 g2 g3 g4)).mp h
    obtain ⟨a, b, c, d⟩ := e
    obtain ⟨a', b', c', d'⟩ := f
    dsimp only at *
    have e1 : a = a' := by omega
    have e2 : b = b' := by omega
    have e3 : c = c' := by omega
    have e4 : d = d' := by omega
    rw [e1, e2, e3, e4]
  · intro h
    rw [h]
theorem nI_2p {b : Nat} (h : b ≤ 8) : (1 : Int32) <<< (nI b &&& 31) = nI (2 ^ b) := by
  have h2 := p2_8 h
  simp (disch := omega) only [zn_L, zn_R]
  rw [Nat.one_mul]
/-! codes of the class -/
theorem zc_home {c b : Nat} (hc : c < 1048576) (hb : b ≤ 6) : G_X0_homeOf (nI c) (nI b) = nI (c % 16384 % 2 ^ b) := by
  unfold G_X0_homeOf
  have h2 := p2_6 hb
  rw [nI_2p (by omega)]
  have h3 := Nat.two_pow_pos b
  simp (disch := omega) only [zn_L, zn_R]
theorem zc_part {u t b : Nat} (ht : t < 64) (hb : b ≤ 6) : G_X0_partner (nI u) (nI t) (nI b) = nI (oth b u t) := by
  unfold G_X0_partner
  have h2 := p2_6 hb
  rw [nI_2p (by omega)]
  have h3 := Nat.two_pow_pos b
  simp (disch := omega) only [zn_L, zn_R]
  rfl
theorem zc_print {c b n : Nat} (hc : c < 1048576) (hb : b ≤ 6) (hn : n ≤ 8) : G_X0_printOf (nI c) (nI b) (nI n) = nI (c % 16384 / 2 ^ b % 2 ^ n) := by
  unfold G_X0_printOf
  have h2 := p2_8 hn
  rw [nI_2p (by omega)]
  have h3 := Nat.two_pow_pos n
  simp (disch := omega) only [zn_L, zn_R]
theorem zc_tag {c : Nat} (hc : c < 1048576) : G_X0_tagOf (nI c) = nI (c / 16384) := by
  unfold G_X0_tagOf
  simp (disch := omega) only [zn_L, zn_R]
theorem zc_body {c : Nat} (hc : c < 1048576) : G_X0_bodyOf (nI c) = nI (c % 16384) := by
  unfold G_X0_bodyOf
  simp (disch := omega) only [zn_L, zn_R]
theorem zc_of {x e b f : Nat} (hb : b ≤ 6) (hf : f ≤ 8) : G_X1_of (nI (cd x e)) (nI b) (nI f) = ew (tg x e, hm b x e, f, pr b f x e) := by
  have hc := cd_lt x e
  unfold G_X1_of olet
  rw [zc_home hc hb, zc_tag hc, zc_print hc hb hf]
  exact zn_pk (tg_lt x e) (Nat.lt_of_lt_of_le (hm_lt b x e) (p2_6 hb)) (by omega) (Nat.lt_of_lt_of_le (pr_lt b f x e) (p2_8 hf))
/-! codes of the model -/
theorem zm_step {t b : Nat} (ht : t < 64) (hb : b ≤ 6) : G_X9_stepOf (nI t) (nI b) = some (nI (stp t b)) := by
  unfold G_X9_stepOf
  have h2 := p2_6 hb
  rw [nI_2p (by omega)]
  have h3 := Nat.two_pow_pos b
  have h4 : (37 * t + 11) % 64 ||| 1 < 2 ^ 6 := Nat.or_lt_two_pow (Nat.mod_lt _ (by decide)) (by decide)
  simp (disch := omega) only [zn_L, zn_R]
  rfl
