/-! the pure layer: pairs, eighth part: digest -/
theorem fm_4 (g : Nat → Nat → Int32) : ∀ d i, (List.range' i d).flatMap (fun k => (List.range' 0 4).map (g k)) = (List.range' (4 * i) (4 * d)).map (fun t => g (t / 4) (t % 4)) := by
  intro d
  induction d with
  | zero =>
    intro i
    rfl
  | succ d ih =>
    intro i
    have e1 : (List.range' i (d + 1)).flatMap (fun k => (List.range' 0 4).map (g k)) = [g i 0, g i 1, g i 2, g i 3] ++ (List.range' (i + 1) d).flatMap (fun k => (List.range' 0 4).map (g k)) := rfl
    rw [e1, ih (i + 1)]
    rw [show 4 * (d + 1) = 4 * d + 1 + 1 + 1 + 1 by omega]
    have e2 : List.range' (4 * i) (4 * d + 1 + 1 + 1 + 1) = (4 * i) :: (4 * i + 1) :: (4 * i + 1 + 1) :: (4 * i + 1 + 1 + 1) :: List.range' (4 * i + 1 + 1 + 1 + 1) (4 * d) := rfl
    rw [e2]
    simp only [List.map_cons]
    rw [show 4 * i + 1 + 1 + 1 + 1 = 4 * (i + 1) by omega, show 4 * i / 4 = i by omega, show 4 * i % 4 = 0 by omega, show (4 * i + 1) / 4 = i by omega, show (4 * i + 1) % 4 = 1 by omega, show (4 * i + 1 + 1) / 4 = i by omega, show (4 * i + 1 + 1) % 4 = 2 by omega, show (4 * i + 1 + 1 + 1) / 4 = i by omega, show (4 * i + 1 + 1 + 1) % 4 = 3 by omega]
    rfl
def dgS (S : St) (u : Nat) : List Int32 := (List.range' 0 S.1.2.1).flatMap (fun k => (List.range' 0 4).map (pv u (S.2.1 (4 * u + k))))
def dgq (S : St) (i w : Nat) : Int32 := og (fun e => pq e w) (nI 0) S.2.2.1[i]?
def dgQ (S : St) : List Int32 := (List.range' 0 S.2.2.1.length).flatMap (fun i => (List.range' 0 4).map (dgq S i))
def dgA (S : St) : Int64 := mxs (mxs (mxs 1960 ((List.range' 0 9).map (nv S))) ((List.range' 0 (2 ^ S.1.1)).flatMap (dgS S))) (dgQ S)
def dgB (S : St) (F X V : Nat) : Int64 := mx (mx (mx (mxs (mx (dgA S) (nI S.2.2.2.1)) ((List.range' 0 S.2.2.2.1).map (fun i => nI (S.2.2.2.2 i)))) (nI F)) (nI X)) (nI V)
theorem mx_e (h : Int64) (v : Int32) : (31 * h) + v.toInt64 = mx h v := rfl
set_option maxHeartbeats 1000000 in
theorem zc_digest {N : Nat} (hN : 5000 ≤ N) {u0 φ : M2} {η : HT} {τ : M2} {S : St} {V : List St} {X : List Nat} (hR : zRCs u0 S) (hF : zWFs S) (hv : η.2 = nI V.length) (ht : τ 0 1 = nI X.length) : G_X8_digest N u0 φ η τ = some (0, dgB S (cnt (fals S.1 S.2.1 S.2.2.1 S.2.2.2.1 S.2.2.2.2) 0 1000) X.length V.length, u0, φ, η, τ) := by
  have h6 := p2_6 hF.1.1.2
  have hs := hF.1.2.1
  have h3 := hF.2.2.1.1
  have hn := hF.2.2.2.1
  have hk : u0 3 1 = nI S.2.2.2.1 := hR.2.2.2.1
  have h07 : u0 0 7 = nI S.2.2.1.length := hR.2.2.1.1
  have l1 : L_X8_digest_6 N φ u0 η τ N 1960 (nI 0) = some (mxs 1960 ((List.range' 0 9).map (nv S))) := by
    refine zn_mx (fun k h i => L_X8_digest_6 N φ u0 η τ k h (nI i)) (nv S) 9 id (fun k h i hi => ?_) (fun k h => ?_) 9 0 1960 N rfl (by omega)
    · show B_X8_digest_6 N φ u0 η τ _ h (nI i) = _
      unfold B_X8_digest_6
      rw [zc_number hN hR hF (show i ≤ 8 by omega)]
      simp (disch := omega) only [zn_L, zn_R, mx_e]
      rw [if_neg (by omega)]
    · show B_X8_digest_6 N φ u0 η τ _ h (nI 9) = _
      unfold B_X8_digest_6
      rw [if_pos (by decide)]
      rfl
  have l2 : ∀ h, L_X8_digest_36 N φ u0 η τ N h (nI 0) = some (mxs h ((List.range' 0 (2 ^ S.1.1)).flatMap (dgS S))) := by
    intro h
    refine zn_mb (fun k h i => L_X8_digest_36 N φ u0 η τ k h (nI i)) (dgS S) (2 ^ S.1.1) id (fun k h u hu => ?_) (fun k h => ?_) (2 ^ S.1.1) 0 h N (Nat.zero_add _) (by omega)
    · have l3 : L_X8_digest_50 N φ u0 η τ (nI u) N h (nI 0) = some (mxs h (dgS S u)) := by
        refine zn_mb (fun k h i => L_X8_digest_50 N φ u0 η τ (nI u) k h (nI i)) (fun k => (List.range' 0 4).map (pv u (S.2.1 (4 * u + k)))) S.1.2.1 id (fun k h j hj => ?_) (fun k h => ?_) S.1.2.1 0 h N (Nat.zero_add _) (by omega)
        · have l4 : L_X8_digest_65 N φ u0 η τ (nI u) (nI j) N h (nI 0) = some (mxs h ((List.range' 0 4).map (pv u (S.2.1 (4 * u + j))))) := by
            refine zn_mx (fun k h i => L_X8_digest_65 N φ u0 η τ (nI u) (nI j) k h (nI i)) (pv u (S.2.1 (4 * u + j))) 4 id (fun k h w hw => ?_) (fun k h => ?_) 4 0 h N rfl (by omega)
            · show B_X8_digest_65 N φ u0 η τ (nI u) (nI j) _ h (nI w) = _
              unfold B_X8_digest_65
              rw [zc_slotpart hR hF hu hj (show w ≤ 3 by omega)]
              simp (disch := omega) only [zn_L, zn_R, mx_e]
              rw [if_neg (by omega)]
            · show B_X8_digest_65 N φ u0 η τ (nI u) (nI j) _ h (nI 4) = _
              unfold B_X8_digest_65
              rw [if_pos (by decide)]
              rfl
          show B_X8_digest_50 N φ u0 η τ (nI u) _ h (nI j) = _
          unfold B_X8_digest_50 G_X2_slotCount
          simp (disch := omega) only [zn_L, zn_R, hR.1.2.1, l4]
          rw [if_neg (by omega)]
        · show B_X8_digest_50 N φ u0 η τ (nI u) _ h (nI S.1.2.1) = _
          unfold B_X8_digest_50 G_X2_slotCount
          simp (disch := omega) only [zn_L, zn_R, hR.1.2.1]
          rw [if_pos (by omega)]
          rfl
      show B_X8_digest_36 N φ u0 η τ _ h (nI u) = _
      unfold B_X8_digest_36
      simp (disch := omega) only [zn_L, zn_R, zc_buckets hR.1 hF.1, l3]
      rw [if_neg (by omega)]
    · show B_X8_digest_36 N φ u0 η τ _ h (nI (2 ^ S.1.1)) = _
      unfold B_X8_digest_36
      simp (disch := omega) only [zn_L, zn_R, zc_buckets hR.1 hF.1]
      rw [if_pos (by omega)]
      rfl
  have l5 : ∀ h, L_X8_digest_111 N φ u0 η τ N h (nI 0) = some (mxs h (dgQ S)) := by
    intro h
    refine zn_mb (fun k h i => L_X8_digest_111 N φ u0 η τ k h (nI i)) (fun i => (List.range' 0 4).map (dgq S i)) S.2.2.1.length id (fun k h i hi => ?_) (fun k h => ?_) S.2.2.1.length 0 h N (Nat.zero_add _) (by omega)
    · have eq1 : S.2.2.1[i]? = some S.2.2.1[i] := List.getElem?_eq_getElem hi
      have l6 : L_X8_digest_125 N φ u0 η τ (nI i) N h (nI 0) = some (mxs h ((List.range' 0 4).map (dgq S i))) := by
        refine zn_mx (fun k h w => L_X8_digest_125 N φ u0 η τ (nI i) k h (nI w)) (dgq S i) 4 id (fun k h w hw => ?_) (fun k h => ?_) 4 0 h N rfl (by omega)
        · have e2 : dgq S i w = pq S.2.2.1[i] w := by
            unfold dgq
            rw [eq1, og_s]
          show B_X8_digest_125 N φ u0 η τ (nI i) _ h (nI w) = _
          unfold B_X8_digest_125
          rw [zc_stashpart hR hF eq1 (show w ≤ 3 by omega), e2]
          simp (disch := omega) only [zn_L, zn_R, mx_e]
          rw [if_neg (by omega)]
        · show B_X8_digest_125 N φ u0 η τ (nI i) _ h (nI 4) = _
          unfold B_X8_digest_125
          rw [if_pos (by decide)]
          rfl
      show B_X8_digest_111 N φ u0 η τ _ h (nI i) = _
      unfold B_X8_digest_111 G_X2_stashSize
      simp (disch := omega) only [zn_L, zn_R, h07, l6]
      rw [if_neg (by omega)]
    · show B_X8_digest_111 N φ u0 η τ _ h (nI S.2.2.1.length) = _
      unfold B_X8_digest_111 G_X2_stashSize
      simp (disch := omega) only [zn_L, zn_R, h07]
      rw [if_pos (by omega)]
      rfl
  have l7 : ∀ h, L_X8_digest_178 N φ u0 η τ N h (nI 0) = some (mxs h ((List.range' 0 S.2.2.2.1).map (fun i => nI (S.2.2.2.2 i)))) := by
    intro h
    refine zn_mx (fun k h i => L_X8_digest_178 N φ u0 η τ k h (nI i)) (fun i => nI (S.2.2.2.2 i)) S.2.2.2.1 id (fun k h i hi => ?_) (fun k h => ?_) S.2.2.2.1 0 h N (Nat.zero_add _) (by omega)
    · show B_X8_digest_178 N φ u0 η τ _ h (nI i) = _
      unfold B_X8_digest_178 G_X2_keyCount G_X4_size G_X2_keyAt
      simp (disch := omega) only [zn_L, zn_R, hk, zc_keyAt hR.2.2.2 hn hi, mx_e]
      rw [if_neg (by omega)]
    · show B_X8_digest_178 N φ u0 η τ _ h (nI S.2.2.2.1) = _
      unfold B_X8_digest_178 G_X2_keyCount G_X4_size
      simp (disch := omega) only [zn_L, zn_R, hk]
      rw [if_pos (by omega)]
      rfl
  have hfb := zc_falseBetween (a := 0) (b := 999) hN (by decide) (by decide) hR hF
  have e999 : 999 + 1 - 0 = 1000 := rfl
  rw [e999] at hfb
  unfold G_X8_digest G_X2_keyCount G_X4_size G_X6_size
  simp only [zn_L, zn_R, l1, l2, l5, hk, l7, hfb, ht, hv, mx_e]
  rfl
set_option maxHeartbeats 1000000 in
theorem zm_digest {N : Nat} (hN : 5000 ≤ N) {ψ : M2} {hv : Int64} {S : St} {V : List St} {X : List Nat} (hM : zRMs (ψ 1) S) (hF : zWFs S) (h2 : ψ 0 2 = nI V.length) (h4 : ψ 0 4 = nI X.length) : G_X9_digest N ψ hv = some (dgB S (cnt (fals S.1 S.2.1 S.2.2.1 S.2.2.2.1 S.2.2.2.2) 0 1000) X.length V.length, upd2 ψ 0 5 (nI 0), dgB S (cnt (fals S.1 S.2.1 S.2.2.1 S.2.2.2.1 S.2.2.2.2) 0 1000) X.length V.length) := by
  have hM5 := z5M hM (nI 0)
  have h52 : upd2 ψ 0 5 (nI 0) 0 2 = nI V.length := by rw [upd2_e, if_neg (by decide)]; exact h2
  have h54 : upd2 ψ 0 5 (nI 0) 0 4 = nI X.length := by rw [upd2_e, if_neg (by decide)]; exact h4
  generalize hw : upd2 ψ 0 5 (nI 0) = w at *
  have h6 := p2_6 hF.1.1.2
  have hs := hF.1.2.1
  have h3 := hF.2.2.1.1
  have hn := hF.2.2.2.1
  have hw42 : w 1 1042 = nI S.2.2.2.1 := hM5.2.2.2.1
  have hw5 : w 1 5 = nI S.2.2.1.length := hM5.2.2.1.1
  have hw1 : w 1 1 = nI S.1.2.1 := hM5.1.2.1
  have l1 : L_X9_digest_14 N N (nI 0) w 1960 = some (w, mxs 1960 ((List.range' 0 9).map (nv S))) := by
    refine zn_mx (fun k h i => L_X9_digest_14 N k (nI i) w h) (nv S) 9 (fun h => (w, h)) (fun k h i hi => ?_) (fun k h => ?_) 9 0 1960 N rfl (by omega)
    · show B_X9_digest_14 N _ (nI i) w h = _
      unfold B_X9_digest_14 G_X9_mix
      rw [zm_number hN hM5 hF (show i ≤ 8 by omega)]
      simp (disch := omega) only [zn_L, zn_R, mx_e]
      rw [if_neg (by omega)]
    · show B_X9_digest_14 N _ (nI 9) w h = _
      unfold B_X9_digest_14
      rw [if_pos (by decide)]
  have l2 : ∀ h, L_X9_digest_38 N N (nI 0) w h = some (w, mxs h ((List.range' 0 (2 ^ S.1.1)).flatMap (dgS S))) := by
    intro h
    refine zn_mb (fun k h i => L_X9_digest_38 N k (nI i) w h) (dgS S) (2 ^ S.1.1) (fun h => (w, h)) (fun k h u hu => ?_) (fun k h => ?_) (2 ^ S.1.1) 0 h N (Nat.zero_add _) (by omega)
    · have l3 : L_X9_digest_48 N (nI u) N (nI 0) w h = some (w, mxs h (dgS S u)) := by
        have e4 := fm_4 (fun k => pv u (S.2.1 (4 * u + k))) S.1.2.1 0
        unfold dgS
        rw [e4]
        refine zn_mx (fun k h i => L_X9_digest_48 N (nI u) k (nI i) w h) (fun t => pv u (S.2.1 (4 * u + t / 4)) (t % 4)) (4 * S.1.2.1) (fun h => (w, h)) (fun k h t ht => ?_) (fun k h => ?_) (4 * S.1.2.1) 0 h N (Nat.zero_add _) (by omega)
        · have hsp := zm_slotpart hM5 hF hu (show t / 4 < S.1.2.1 by omega) (show t % 4 ≤ 3 by omega)
          rw [show 18 + 4 * (4 * u + t / 4) + t % 4 = 18 + 4 * (4 * u + 0) + t by omega] at hsp
          show B_X9_digest_48 N (nI u) _ (nI t) w h = _
          unfold B_X9_digest_48 G_X9_mix
          simp (disch := omega) only [zn_L, zn_R, hw1, zm_at, hsp, mx_e]
          rw [if_neg (by omega)]
        · show B_X9_digest_48 N (nI u) _ (nI (4 * S.1.2.1)) w h = _
          unfold B_X9_digest_48
          simp (disch := omega) only [zn_L, zn_R, hw1]
          rw [if_pos (by omega)]
      show B_X9_digest_38 N _ (nI u) w h = _
      unfold B_X9_digest_38
      simp (disch := omega) only [zn_L, zn_R, zm_buckets hM5.1 hF.1, l3]
      rw [if_neg (by omega)]
    · show B_X9_digest_38 N _ (nI (2 ^ S.1.1)) w h = _
      unfold B_X9_digest_38
      simp (disch := omega) only [zn_L, zn_R, zm_buckets hM5.1 hF.1]
      rw [if_pos (by omega)]
  have l5 : ∀ h, L_X9_digest_91 N N (nI 0) w h = some (w, mxs h (dgQ S)) := by
    intro h
    have e4 := fm_4 (fun i => dgq S i) S.2.2.1.length 0
    unfold dgQ
    rw [e4]
    refine zn_mx (fun k h i => L_X9_digest_91 N k (nI i) w h) (fun t => dgq S (t / 4) (t % 4)) (4 * S.2.2.1.length) (fun h => (w, h)) (fun k h t ht => ?_) (fun k h => ?_) (4 * S.2.2.1.length) 0 h N (Nat.zero_add _) (by omega)
    · have hi : t / 4 < S.2.2.1.length := by omega
      have eq1 : S.2.2.1[t / 4]? = some S.2.2.1[t / 4] := List.getElem?_eq_getElem hi
      have hsp := zm_stashpart hM5 eq1 (show t % 4 ≤ 3 by omega)
      rw [show 6 + 4 * (t / 4) + t % 4 = 6 + t by omega] at hsp
      have e2 : dgq S (t / 4) (t % 4) = pq S.2.2.1[t / 4] (t % 4) := by
        unfold dgq
        rw [eq1, og_s]
      show B_X9_digest_91 N _ (nI t) w h = L_X9_digest_91 N k (nI (t + 1)) w (mx h (dgq S (t / 4) (t % 4)))
      rw [e2]
      unfold B_X9_digest_91 G_X9_mix
      simp (disch := omega) only [zn_L, zn_R, hw5, hsp, mx_e]
      rw [if_neg (by omega)]
    · show B_X9_digest_91 N _ (nI (4 * S.2.2.1.length)) w h = _
      unfold B_X9_digest_91
      simp (disch := omega) only [zn_L, zn_R, hw5]
      rw [if_pos (by omega)]
  have l7 : ∀ h, L_X9_digest_138 N N (nI 0) w h = some (w, mxs h ((List.range' 0 S.2.2.2.1).map (fun i => nI (S.2.2.2.2 i)))) := by
    intro h
    refine zn_mx (fun k h i => L_X9_digest_138 N k (nI i) w h) (fun i => nI (S.2.2.2.2 i)) S.2.2.2.1 (fun h => (w, h)) (fun k h i hi => ?_) (fun k h => ?_) S.2.2.2.1 0 h N (Nat.zero_add _) (by omega)
    · have hki : w 1 (1043 + i) = nI (S.2.2.2.2 i) := hM5.2.2.2.2 i hi
      show B_X9_digest_138 N _ (nI i) w h = _
      unfold B_X9_digest_138 G_X9_mix
      simp (disch := omega) only [zn_L, zn_R, hw42, hki, mx_e]
      rw [if_neg (by omega)]
    · show B_X9_digest_138 N _ (nI S.2.2.2.1) w h = _
      unfold B_X9_digest_138
      simp (disch := omega) only [zn_L, zn_R, hw42]
      rw [if_pos (by omega)]
  have hfm := zm_falseMany (ψ := w) (a := 0) (b := 999) hN (by decide) (by decide) hM5.1 (zMc_w hM5.2.1) hM5.2.2.1 hM5.2.2.2 hF
  have e999 : 999 + 1 - 0 = 1000 := rfl
  rw [e999] at hfm
  unfold G_X9_digest
  have hw' : upd2 ψ 0 5 0 = w := hw
  rw [hw']
  simp (disch := omega) only [zn_L, zn_R, l1, l2, l5, hw42, l7, hfm, h52, h54, G_X9_mix, mx_e]
  rfl
section PK
variable {N : Nat}
theorem pq_35 (hN : 5000 ≤ N) : Pk35 N zRl := by
  intro u0 φ η τ ψ hv hrel
  obtain ⟨S, V, X, ⟨hR, hM, hF⟩, hVV, hT⟩ := id hrel
  exact ⟨0, _, u0, φ, η, τ, _, upd2 ψ 0 5 (nI 0), _, zc_digest (V := V) (X := X) hN hR hF hVV.1.1 hT.2.1, rfl, zm_digest (V := V) (X := X) hN hM hF hVV.2.1.1 hT.2.2.1, rfl, zRl_5 hrel _⟩
end PK
