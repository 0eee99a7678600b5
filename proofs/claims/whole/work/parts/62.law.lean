/-! the law, case by case -/
/-- what the pure layer has to give: each call, on both sides -/
def Pk0 (N : Nat) (Rel : M2 → M2 → HT → M2 → M2 → Int64 → Prop) : Prop := ∀ (u0 φ : M2) (η : HT) (τ : M2) (ψ : M2) (hv : Int64) (p1 : Int32), Rel u0 φ η τ ψ hv → ∃ (k0 : Nat) (r0 : Int32) (u0r φr : M2) (ηr : HT) (τr : M2) (r1 : Int32) (ψr : M2), G_X8_tag N u0 φ η τ p1 = some (k0, r0, u0r, φr, ηr, τr) ∧ (k0 = 0 ∨ k0 = 1) ∧ G_X9_tag ψ p1 = some (r1, ψr) ∧ ψr 0 5 = hkc 1 k0 ∧ (k0 = 0 → r0 = r1) ∧ Rel u0r φr ηr τr ψr hv
def Pk1 (N : Nat) (Rel : M2 → M2 → HT → M2 → M2 → Int64 → Prop) : Prop := ∀ (u0 φ : M2) (η : HT) (τ : M2) (ψ : M2) (hv : Int64) (p1 : Int32), Rel u0 φ η τ ψ hv → ∃ (k0 : Nat) (r0 : Int32) (u0r φr : M2) (ηr : HT) (τr : M2) (r1 : Int32) (ψr : M2), G_X8_body N u0 φ η τ p1 = some (k0, r0, u0r, φr, ηr, τr) ∧ (k0 = 0 ∨ k0 = 1) ∧ G_X9_body ψ p1 = some (r1, ψr) ∧ ψr 0 5 = hkc 1 k0 ∧ (k0 = 0 → r0 = r1) ∧ Rel u0r φr ηr τr ψr hv
def Pk2 (N : Nat) (Rel : M2 → M2 → HT → M2 → M2 → Int64 → Prop) : Prop := ∀ (u0 φ : M2) (η : HT) (τ : M2) (ψ : M2) (hv : Int64) (p1 : Int32) (p2 : Int32), Rel u0 φ η τ ψ hv → (p2 = 0 ∨ p2 = 1) → ∃ (k0 : Nat) (r0 : Int32) (u0r φr : M2) (ηr : HT) (τr : M2) (r1 : Int32) (ψr : M2), G_X8_bucket N u0 φ η τ p1 p2 = some (k0, r0, u0r, φr, ηr, τr) ∧ (k0 = 0 ∨ k0 = 1) ∧ G_X9_bucket ψ p1 p2 = some (r1, ψr) ∧ ψr 0 5 = hkc 1 k0 ∧ (k0 = 0 → r0 = r1) ∧ Rel u0r φr ηr τr ψr hv
def Pk3 (N : Nat) (Rel : M2 → M2 → HT → M2 → M2 → Int64 → Prop) : Prop := ∀ (u0 φ : M2) (η : HT) (τ : M2) (ψ : M2) (hv : Int64) (p1 : Int32), Rel u0 φ η τ ψ hv → ∃ (k0 : Nat) (r0 : Int32) (u0r φr : M2) (ηr : HT) (τr : M2) (r1 : Int32) (ψr : M2), G_X8_found N u0 φ η τ p1 = some (k0, r0, u0r, φr, ηr, τr) ∧ (k0 = 0 ∨ k0 = 1) ∧ G_X9_found N ψ p1 = some (r1, ψr) ∧ ψr 0 5 = hkc 1 k0 ∧ (k0 = 0 → r0 = r1 ∧ (r1 = 0 ∨ r1 = 1)) ∧ Rel u0r φr ηr τr ψr hv
def Pk4 (N : Nat) (Rel : M2 → M2 → HT → M2 → M2 → Int64 → Prop) : Prop := ∀ (u0 φ : M2) (η : HT) (τ : M2) (ψ : M2) (hv : Int64) (p1 : Int32), Rel u0 φ η τ ψ hv → ∃ (k0 : Nat) (r0 : Int32) (u0r φr : M2) (ηr : HT) (τr : M2) (r1 : Int32) (ψr : M2), G_X8_place N u0 φ η τ p1 = some (k0, r0, u0r, φr, ηr, τr) ∧ (k0 = 0 ∨ k0 = 1) ∧ G_X9_place N ψ p1 = some (r1, ψr) ∧ ψr 0 5 = hkc 1 k0 ∧ (k0 = 0 → r0 = r1) ∧ Rel u0r φr ηr τr ψr hv
def Pk5 (N : Nat) (Rel : M2 → M2 → HT → M2 → M2 → Int64 → Prop) : Prop := ∀ (u0 φ : M2) (η : HT) (τ : M2) (ψ : M2) (hv : Int64) (p1 : Int32), Rel u0 φ η τ ψ hv → ∃ (k0 : Nat) (r0 : Int32) (u0r φr : M2) (ηr : HT) (τr : M2) (r1 : Int32) (ψr : M2), G_X8_present N u0 φ η τ p1 = some (k0, r0, u0r, φr, ηr, τr) ∧ (k0 = 0 ∨ k0 = 3) ∧ G_X9_present ψ p1 = some (r1, ψr) ∧ ψr 0 5 = hkc 3 k0 ∧ (k0 = 0 → r0 = r1) ∧ Rel u0r φr ηr τr ψr hv
def Pk6 (N : Nat) (Rel : M2 → M2 → HT → M2 → M2 → Int64 → Prop) : Prop := ∀ (u0 φ : M2) (η : HT) (τ : M2) (ψ : M2) (hv : Int64), Rel u0 φ η τ ψ hv → ∃ (k0 : Nat) (r0 : Int32) (u0r φr : M2) (ηr : HT) (τr : M2) (r1 : Int32) (ψr : M2), G_X8_count N u0 φ η τ = some (k0, r0, u0r, φr, ηr, τr) ∧ k0 = 0 ∧ G_X9_count ψ = some (r1, ψr) ∧ r0 = r1 ∧ Rel u0r φr ηr τr ψr hv
def Pk7 (N : Nat) (Rel : M2 → M2 → HT → M2 → M2 → Int64 → Prop) : Prop := ∀ (u0 φ : M2) (η : HT) (τ : M2) (ψ : M2) (hv : Int64) (p1 : Int32), Rel u0 φ η τ ψ hv → ∃ (k0 : Nat) (r0 : Int32) (u0r φr : M2) (ηr : HT) (τr : M2) (r1 : Int32) (ψr : M2), G_X8_add N u0 φ η τ p1 = some (k0, r0, u0r, φr, ηr, τr) ∧ (k0 = 0 ∨ k0 = 1 ∨ k0 = 2) ∧ G_X9_add N ψ p1 = some (r1, ψr) ∧ ψr 0 5 = hkc 1 k0 ∧ (k0 = 0 → r0 = r1) ∧ Rel u0r φr ηr τr ψr hv
def Pk8 (N : Nat) (Rel : M2 → M2 → HT → M2 → M2 → Int64 → Prop) : Prop := ∀ (u0 φ : M2) (η : HT) (τ : M2) (ψ : M2) (hv : Int64) (p1 : Int32), Rel u0 φ η τ ψ hv → ∃ (k0 : Nat) (r0 : Int32) (u0r φr : M2) (ηr : HT) (τr : M2) (r1 : Int32) (ψr : M2), G_X8_addShortest N u0 φ η τ p1 = some (k0, r0, u0r, φr, ηr, τr) ∧ (k0 = 0 ∨ k0 = 1 ∨ k0 = 2) ∧ G_X9_addShortest N ψ p1 = some (r1, ψr) ∧ ψr 0 5 = hkc 1 k0 ∧ (k0 = 0 → r0 = r1) ∧ Rel u0r φr ηr τr ψr hv
def Pk9 (N : Nat) (Rel : M2 → M2 → HT → M2 → M2 → Int64 → Prop) : Prop := ∀ (u0 φ : M2) (η : HT) (τ : M2) (ψ : M2) (hv : Int64) (p1 : Int32), Rel u0 φ η τ ψ hv → ∃ (k0 : Nat) (r0 : Int32) (u0r φr : M2) (ηr : HT) (τr : M2) (r1 : Int32) (ψr : M2), G_X8_delete N u0 φ η τ p1 = some (k0, r0, u0r, φr, ηr, τr) ∧ (k0 = 0 ∨ k0 = 1 ∨ k0 = 2) ∧ G_X9_delete N ψ p1 = some (r1, ψr) ∧ ψr 0 5 = hkc 1 k0 ∧ (k0 = 0 → r0 = r1) ∧ Rel u0r φr ηr τr ψr hv
def Pk10 (N : Nat) (Rel : M2 → M2 → HT → M2 → M2 → Int64 → Prop) : Prop := ∀ (u0 φ : M2) (η : HT) (τ : M2) (ψ : M2) (hv : Int64), Rel u0 φ η τ ψ hv → ∃ (k0 : Nat) (r0 : Int32) (u0r φr : M2) (ηr : HT) (τr : M2) (r1 : Int32) (ψr : M2), G_X8_grow N u0 φ η τ = some (k0, r0, u0r, φr, ηr, τr) ∧ (k0 = 0 ∨ k0 = 2) ∧ G_X9_grow N ψ = some (r1, ψr) ∧ ψr 0 5 = hkc 2 k0 ∧ (k0 = 0 → r0 = r1) ∧ Rel u0r φr ηr τr ψr hv
def Pk11 (N : Nat) (Rel : M2 → M2 → HT → M2 → M2 → Int64 → Prop) : Prop := ∀ (u0 φ : M2) (η : HT) (τ : M2) (ψ : M2) (hv : Int64) (p1 : Int32) (p2 : Int32) (p3 : Int32) (p4 : Int32), Rel u0 φ η τ ψ hv → ∃ (k0 : Nat) (r0 : Int32) (u0r φr : M2) (ηr : HT) (τr : M2) (r1 : Int32) (ψr : M2), G_X8_rebuild N u0 φ η τ p1 p2 p3 p4 = some (k0, r0, u0r, φr, ηr, τr) ∧ (k0 = 0 ∨ k0 = 1 ∨ k0 = 2) ∧ G_X9_rebuild N ψ p1 p2 p3 p4 = some (r1, ψr) ∧ ψr 0 5 = hkc 1 k0 ∧ (k0 = 0 → r0 = r1) ∧ Rel u0r φr ηr τr ψr hv
def Pk12 (N : Nat) (Rel : M2 → M2 → HT → M2 → M2 → Int64 → Prop) : Prop := ∀ (u0 φ : M2) (η : HT) (τ : M2) (ψ : M2) (hv : Int64) (p1 : Int32), Rel u0 φ η τ ψ hv → ∃ (k0 : Nat) (r0 : Int32) (u0r φr : M2) (ηr : HT) (τr : M2) (r1 : Int32) (ψr : M2), G_X8_setLimit N u0 φ η τ p1 = some (k0, r0, u0r, φr, ηr, τr) ∧ (k0 = 0 ∨ k0 = 1) ∧ G_X9_setLimit N ψ p1 = some (r1, ψr) ∧ ψr 0 5 = hkc 1 k0 ∧ (k0 = 0 → r0 = r1) ∧ Rel u0r φr ηr τr ψr hv
def Pk13 (N : Nat) (Rel : M2 → M2 → HT → M2 → M2 → Int64 → Prop) : Prop := ∀ (u0 φ : M2) (η : HT) (τ : M2) (ψ : M2) (hv : Int64) (p1 : Int32), Rel u0 φ η τ ψ hv → ∃ (k0 : Nat) (r0 : Int32) (u0r φr : M2) (ηr : HT) (τr : M2) (r1 : Int32) (ψr : M2), G_X8_setLength N u0 φ η τ p1 = some (k0, r0, u0r, φr, ηr, τr) ∧ (k0 = 0 ∨ k0 = 1) ∧ G_X9_setLength N ψ p1 = some (r1, ψr) ∧ ψr 0 5 = hkc 1 k0 ∧ (k0 = 0 → r0 = r1) ∧ Rel u0r φr ηr τr ψr hv
def Pk14 (N : Nat) (Rel : M2 → M2 → HT → M2 → M2 → Int64 → Prop) : Prop := ∀ (u0 φ : M2) (η : HT) (τ : M2) (ψ : M2) (hv : Int64), Rel u0 φ η τ ψ hv → ∃ (k0 : Nat) (r0 : Int32) (u0r φr : M2) (ηr : HT) (τr : M2) (r1 : Int32) (ψr : M2), G_X8_clear N u0 φ η τ = some (k0, r0, u0r, φr, ηr, τr) ∧ k0 = 0 ∧ G_X9_clear N ψ = some (r1, ψr) ∧ r0 = r1 ∧ Rel u0r φr ηr τr ψr hv
def Pk15 (N : Nat) (Rel : M2 → M2 → HT → M2 → M2 → Int64 → Prop) : Prop := ∀ (u0 φ : M2) (η : HT) (τ : M2) (ψ : M2) (hv : Int64) (p1 : Int32), Rel u0 φ η τ ψ hv → ∃ (k0 : Nat) (r0 : Int32) (u0r φr : M2) (ηr : HT) (τr : M2) (r1 : Int32) (ψr : M2), G_X8_info N u0 φ η τ p1 = some (k0, r0, u0r, φr, ηr, τr) ∧ (k0 = 0 ∨ k0 = 1) ∧ G_X9_info N ψ p1 = some (r1, ψr) ∧ ψr 0 5 = hkc 1 k0 ∧ (k0 = 0 → r0 = r1) ∧ Rel u0r φr ηr τr ψr hv
def Pk16 (N : Nat) (Rel : M2 → M2 → HT → M2 → M2 → Int64 → Prop) : Prop := ∀ (u0 φ : M2) (η : HT) (τ : M2) (ψ : M2) (hv : Int64) (p1 : Int32) (p2 : Int32) (p3 : Int32), Rel u0 φ η τ ψ hv → ∃ (k0 : Nat) (r0 : Int32) (u0r φr : M2) (ηr : HT) (τr : M2) (r1 : Int32) (ψr : M2), G_X8_slot N u0 φ η τ p1 p2 p3 = some (k0, r0, u0r, φr, ηr, τr) ∧ (k0 = 0 ∨ k0 = 3 ∨ k0 = 1) ∧ G_X9_slot ψ p1 p2 p3 = some (r1, ψr) ∧ ψr 0 5 = hkc 3 k0 ∧ (k0 = 0 → r0 = r1) ∧ Rel u0r φr ηr τr ψr hv
def Pk17 (N : Nat) (Rel : M2 → M2 → HT → M2 → M2 → Int64 → Prop) : Prop := ∀ (u0 φ : M2) (η : HT) (τ : M2) (ψ : M2) (hv : Int64) (p1 : Int32) (p2 : Int32), Rel u0 φ η τ ψ hv → ∃ (k0 : Nat) (r0 : Int32) (u0r φr : M2) (ηr : HT) (τr : M2) (r1 : Int32) (ψr : M2), G_X8_stashed N u0 φ η τ p1 p2 = some (k0, r0, u0r, φr, ηr, τr) ∧ (k0 = 0 ∨ k0 = 3 ∨ k0 = 1) ∧ G_X9_stashed ψ p1 p2 = some (r1, ψr) ∧ ψr 0 5 = hkc 3 k0 ∧ (k0 = 0 → r0 = r1) ∧ Rel u0r φr ηr τr ψr hv
def Pk18 (N : Nat) (Rel : M2 → M2 → HT → M2 → M2 → Int64 → Prop) : Prop := ∀ (u0 φ : M2) (η : HT) (τ : M2) (ψ : M2) (hv : Int64) (p1 : Int32), Rel u0 φ η τ ψ hv → ∃ (k0 : Nat) (r0 : Int32) (u0r φr : M2) (ηr : HT) (τr : M2) (r1 : Int32) (ψr : M2), G_X8_filled N u0 φ η τ p1 = some (k0, r0, u0r, φr, ηr, τr) ∧ (k0 = 0 ∨ k0 = 1) ∧ G_X9_filled N ψ p1 = some (r1, ψr) ∧ ψr 0 5 = hkc 1 k0 ∧ (k0 = 0 → r0 = r1) ∧ Rel u0r φr ηr τr ψr hv
def Pk19 (N : Nat) (Rel : M2 → M2 → HT → M2 → M2 → Int64 → Prop) : Prop := ∀ (u0 φ : M2) (η : HT) (τ : M2) (ψ : M2) (hv : Int64) (p1 : Int32), Rel u0 φ η τ ψ hv → ∃ (k0 : Nat) (r0 : Int32) (u0r φr : M2) (ηr : HT) (τr : M2) (r1 : Int32) (ψr : M2), G_X8_walk N u0 φ η τ p1 = some (k0, r0, u0r, φr, ηr, τr) ∧ (k0 = 0 ∨ k0 = 1) ∧ G_X9_walk N ψ p1 = some (r1, ψr) ∧ ψr 0 5 = hkc 1 k0 ∧ (k0 = 0 → r0 = r1) ∧ Rel u0r φr ηr τr ψr hv
def Pk20 (N : Nat) (Rel : M2 → M2 → HT → M2 → M2 → Int64 → Prop) : Prop := ∀ (u0 φ : M2) (η : HT) (τ : M2) (ψ : M2) (hv : Int64) (p1 : Int32) (p2 : Int32) (p3 : Int32), Rel u0 φ η τ ψ hv → (p3 = 0 ∨ p3 = 1) → ∃ (k0 : Nat) (r0 : Int32) (u0r φr : M2) (ηr : HT) (τr : M2) (r1 : Int32) (ψr : M2), G_X8_walkStep N u0 φ η τ p1 p2 p3 = some (k0, r0, u0r, φr, ηr, τr) ∧ (k0 = 0 ∨ k0 = 1) ∧ G_X9_walkStep N ψ p1 p2 p3 = some (r1, ψr) ∧ ψr 0 5 = hkc 1 k0 ∧ (k0 = 0 → r0 = r1) ∧ Rel u0r φr ηr τr ψr hv
def Pk21 (N : Nat) (Rel : M2 → M2 → HT → M2 → M2 → Int64 → Prop) : Prop := ∀ (u0 φ : M2) (η : HT) (τ : M2) (ψ : M2) (hv : Int64) (p1 : Int32), Rel u0 φ η τ ψ hv → ∃ (k0 : Nat) (r0 : Int32) (u0r φr : M2) (ηr : HT) (τr : M2) (r1 : Int32) (ψr : M2), G_X8_leastMoves N u0 φ η τ p1 = some (k0, r0, u0r, φr, ηr, τr) ∧ (k0 = 0 ∨ k0 = 1) ∧ G_X9_leastMoves N ψ p1 = some (r1, ψr) ∧ ψr 0 5 = hkc 1 k0 ∧ (k0 = 0 → r0 = r1) ∧ Rel u0r φr ηr τr ψr hv
def Pk22 (N : Nat) (Rel : M2 → M2 → HT → M2 → M2 → Int64 → Prop) : Prop := ∀ (u0 φ : M2) (η : HT) (τ : M2) (ψ : M2) (hv : Int64) (p1 : Int32) (p2 : Int32), Rel u0 φ η τ ψ hv → ∃ (k0 : Nat) (r0 : Int32) (u0r φr : M2) (ηr : HT) (τr : M2) (r1 : Int32) (ψr : M2), G_X8_roomFor N u0 φ η τ p1 p2 = some (k0, r0, u0r, φr, ηr, τr) ∧ (k0 = 0 ∨ k0 = 1) ∧ G_X9_roomFor N ψ p1 p2 = some (r1, ψr) ∧ ψr 0 5 = hkc 1 k0 ∧ (k0 = 0 → r0 = r1) ∧ Rel u0r φr ηr τr ψr hv
def Pk23 (N : Nat) (Rel : M2 → M2 → HT → M2 → M2 → Int64 → Prop) : Prop := ∀ (u0 φ : M2) (η : HT) (τ : M2) (ψ : M2) (hv : Int64) (p1 : Int32) (p2 : Int32), Rel u0 φ η τ ψ hv → ∃ (k0 : Nat) (r0 : Int32) (u0r φr : M2) (ηr : HT) (τr : M2) (r1 : Int32) (ψr : M2), G_X8_falseKeys N u0 φ η τ p1 p2 = some (k0, r0, u0r, φr, ηr, τr) ∧ (k0 = 0 ∨ k0 = 1) ∧ G_X9_falseKeys N ψ p1 p2 = some (r1, ψr) ∧ ψr 0 5 = hkc 1 k0 ∧ (k0 = 0 → r0 = r1) ∧ Rel u0r φr ηr τr ψr hv
def Pk24 (N : Nat) (Rel : M2 → M2 → HT → M2 → M2 → Int64 → Prop) : Prop := ∀ (u0 φ : M2) (η : HT) (τ : M2) (ψ : M2) (hv : Int64) (p1 : Int32), Rel u0 φ η τ ψ hv → ∃ (k0 : Nat) (r0 : Int32) (u0r φr : M2) (ηr : HT) (τr : M2) (r1 : Int32) (ψr : M2), G_X8_falseKey N u0 φ η τ p1 = some (k0, r0, u0r, φr, ηr, τr) ∧ k0 = 0 ∧ G_X9_falseKey N ψ p1 = some (r1, ψr) ∧ r0 = r1 ∧ Rel u0r φr ηr τr ψr hv
def Pk25 (N : Nat) (Rel : M2 → M2 → HT → M2 → M2 → Int64 → Prop) : Prop := ∀ (u0 φ : M2) (η : HT) (τ : M2) (ψ : M2) (hv : Int64) (p1 : Int32) (p2 : Int32), Rel u0 φ η τ ψ hv → ∃ (k0 : Nat) (r0 : Int32) (u0r φr : M2) (ηr : HT) (τr : M2) (r1 : Int32) (ψr : M2), G_X8_blamed N u0 φ η τ p1 p2 = some (k0, r0, u0r, φr, ηr, τr) ∧ (k0 = 0 ∨ k0 = 3) ∧ G_X9_blamed N ψ p1 p2 = some (r1, ψr) ∧ ψr 0 5 = hkc 3 k0 ∧ (k0 = 0 → r0 = r1) ∧ Rel u0r φr ηr τr ψr hv
def Pk26 (N : Nat) (Rel : M2 → M2 → HT → M2 → M2 → Int64 → Prop) : Prop := ∀ (u0 φ : M2) (η : HT) (τ : M2) (ψ : M2) (hv : Int64), Rel u0 φ η τ ψ hv → ∃ (k0 : Nat) (r0 : Int32) (u0r φr : M2) (ηr : HT) (τr : M2) (r1 : Int32) (ψr : M2), G_X8_twins N u0 φ η τ = some (k0, r0, u0r, φr, ηr, τr) ∧ k0 = 0 ∧ G_X9_twins N ψ = some (r1, ψr) ∧ r0 = r1 ∧ Rel u0r φr ηr τr ψr hv
def Pk27 (N : Nat) (Rel : M2 → M2 → HT → M2 → M2 → Int64 → Prop) : Prop := ∀ (u0 φ : M2) (η : HT) (τ : M2) (ψ : M2) (hv : Int64) (p1 : Int32), Rel u0 φ η τ ψ hv → ∃ (k0 : Nat) (r0 : Int32) (u0r φr : M2) (ηr : HT) (τr : M2) (r1 : Int32) (ψr : M2), G_X8_bestSeed N u0 φ η τ p1 = some (k0, r0, u0r, φr, ηr, τr) ∧ (k0 = 0 ∨ k0 = 1) ∧ G_X9_bestSeed N ψ p1 = some (r1, ψr) ∧ ψr 0 5 = hkc 1 k0 ∧ (k0 = 0 → r0 = r1) ∧ Rel u0r φr ηr τr ψr hv
def Pk28 (N : Nat) (Rel : M2 → M2 → HT → M2 → M2 → Int64 → Prop) : Prop := ∀ (u0 φ : M2) (η : HT) (τ : M2) (ψ : M2) (hv : Int64) (p1 : Int32) (p2 : Int32), Rel u0 φ η τ ψ hv → ∃ (k0 : Nat) (r0 : Int32) (u0r φr : M2) (ηr : HT) (τr : M2) (r1 : Int32) (ψr : M2), G_X8_leastBits N u0 φ η τ p1 p2 = some (k0, r0, u0r, φr, ηr, τr) ∧ (k0 = 0 ∨ k0 = 1) ∧ G_X9_leastBits N ψ p1 p2 = some (r1, ψr) ∧ ψr 0 5 = hkc 1 k0 ∧ (k0 = 0 → r0 = r1) ∧ Rel u0r φr ηr τr ψr hv
def Pk29 (N : Nat) (Rel : M2 → M2 → HT → M2 → M2 → Int64 → Prop) : Prop := ∀ (u0 φ : M2) (η : HT) (τ : M2) (ψ : M2) (hv : Int64) (p1 : Int32) (p2 : Int32) (p3 : Int32), Rel u0 φ η τ ψ hv → ∃ (k0 : Nat) (r0 : Int32) (u0r φr : M2) (ηr : HT) (τr : M2) (r1 : Int32) (ψr : M2), G_X8_couldFit N u0 φ η τ p1 p2 p3 = some (k0, r0, u0r, φr, ηr, τr) ∧ (k0 = 0 ∨ k0 = 1) ∧ G_X9_couldFit N ψ p1 p2 p3 = some (r1, ψr) ∧ ψr 0 5 = hkc 1 k0 ∧ (k0 = 0 → r0 = r1 ∧ (r1 = 0 ∨ r1 = 1)) ∧ Rel u0r φr ηr τr ψr hv
def Pk30 (N : Nat) (Rel : M2 → M2 → HT → M2 → M2 → Int64 → Prop) : Prop := ∀ (u0 φ : M2) (η : HT) (τ : M2) (ψ : M2) (hv : Int64), Rel u0 φ η τ ψ hv → ∃ (k0 : Nat) (r0 : Int32) (u0r φr : M2) (ηr : HT) (τr : M2) (r1 : Int32) (ψr : M2), G_X8_rateBits N u0 φ η τ = some (k0, r0, u0r, φr, ηr, τr) ∧ k0 = 0 ∧ G_X9_rateBits N ψ = some (r1, ψr) ∧ r0 = r1 ∧ Rel u0r φr ηr τr ψr hv
def Pk31 (N : Nat) (Rel : M2 → M2 → HT → M2 → M2 → Int64 → Prop) : Prop := ∀ (u0 φ : M2) (η : HT) (τ : M2) (ψ : M2) (hv : Int64) (p1 : Int32), Rel u0 φ η τ ψ hv → ∃ (k0 : Nat) (r0 : Int32) (u0r φr : M2) (ηr : HT) (τr : M2) (r1 : Int32) (ψr : M2), G_X8_append N u0 φ η τ p1 = some (k0, r0, u0r, φr, ηr, τr) ∧ (k0 = 0 ∨ k0 = 1 ∨ k0 = 2) ∧ G_X9_append ψ p1 = some (r1, ψr) ∧ ψr 0 5 = hkc 1 k0 ∧ (k0 = 0 → r0 = r1) ∧ Rel u0r φr ηr τr ψr hv
def Pk32 (N : Nat) (Rel : M2 → M2 → HT → M2 → M2 → Int64 → Prop) : Prop := ∀ (u0 φ : M2) (η : HT) (τ : M2) (ψ : M2) (hv : Int64), Rel u0 φ η τ ψ hv → ∃ (k0 : Nat) (r0 : Int32) (u0r φr : M2) (ηr : HT) (τr : M2) (r1 : Int32) (ψr : M2), G_X8_clearText N u0 φ η τ = some (k0, r0, u0r, φr, ηr, τr) ∧ k0 = 0 ∧ G_X9_clearText ψ = some (r1, ψr) ∧ r0 = r1 ∧ Rel u0r φr ηr τr ψr hv
def Pk33 (N : Nat) (Rel : M2 → M2 → HT → M2 → M2 → Int64 → Prop) : Prop := ∀ (u0 φ : M2) (η : HT) (τ : M2) (ψ : M2) (hv : Int64), Rel u0 φ η τ ψ hv → ∃ (k0 : Nat) (r0 : Int32) (u0r φr : M2) (ηr : HT) (τr : M2) (r1 : Int32) (ψr : M2), G_X8_execute N u0 φ η τ = some (k0, r0, u0r, φr, ηr, τr) ∧ k0 = 0 ∧ G_X9_execute N ψ = some (r1, ψr) ∧ r0 = r1 ∧ Rel u0r φr ηr τr ψr hv
def Pk34 (N : Nat) (Rel : M2 → M2 → HT → M2 → M2 → Int64 → Prop) : Prop := ∀ (u0 φ : M2) (η : HT) (τ : M2) (ψ : M2) (hv : Int64), Rel u0 φ η τ ψ hv → ∃ (k0 : Nat) (r0 : Int32) (u0r φr : M2) (ηr : HT) (τr : M2) (r1 : Int32) (ψr : M2), G_X8_undo N u0 φ η τ = some (k0, r0, u0r, φr, ηr, τr) ∧ (k0 = 0 ∨ k0 = 2) ∧ G_X9_undo N ψ = some (r1, ψr) ∧ ψr 0 5 = hkc 2 k0 ∧ (k0 = 0 → r0 = r1) ∧ Rel u0r φr ηr τr ψr hv
def Pk35 (N : Nat) (Rel : M2 → M2 → HT → M2 → M2 → Int64 → Prop) : Prop := ∀ (u0 φ : M2) (η : HT) (τ : M2) (ψ : M2) (hv : Int64), Rel u0 φ η τ ψ hv → ∃ (k0 : Nat) (r0 : Int64) (u0r φr : M2) (ηr : HT) (τr : M2) (r1 : Int64) (ψr : M2) (hvr : Int64), G_X8_digest N u0 φ η τ = some (k0, r0, u0r, φr, ηr, τr) ∧ k0 = 0 ∧ G_X9_digest N ψ hv = some (r1, ψr, hvr) ∧ r0 = r1 ∧ Rel u0r φr ηr τr ψr hvr
theorem hkc_ne {a k0 : Nat} (h : ¬ k0 = 0) : ¬ hkc a k0 = 0 := by
  unfold hkc
  rw [if_neg h]
  split <;> decide
theorem hkc_0 {a k0 : Nat} (h : k0 = 0) : hkc a k0 = 0 := by
  unfold hkc
  rw [if_pos h]
theorem lc_room {nc ns mc ms : Nat} (hn : nc + 8 ≤ 601024) (hs : ns + 48 ≤ 7293034) (h1 : mc ≤ 8) (h2 : ms ≤ 48) : nc + mc ≤ room_1.cells ∧ ns + ms ≤ room_1.slots :=
  ⟨Nat.le_trans (Nat.add_le_add_left h1 nc) hn, Nat.le_trans (Nat.add_le_add_left h2 ns) hs⟩
section LCS
variable {p : Program} {l : Launch} {e : Env} {s : State} {m : MethodId} {args : Array Value} {below : List Frame} {meth : Method} {c : Code} {H : Heap} {locs : List Loc} {nc ns : Nat} {Q : State → Prop} {ls : Array Slot} {rest : List Value} {cc : ByteArray} {pc cells slots : Nat} {R : Room}
variable {D : va_G} {cI cF cL : ClassId} {b : Bf} {u0 φ : M2} {η : HT} {τ : M2} {q : Nat} {f : Nat → Int64} {a : Nat → Nat} {ψ : M2} {hv : Int64} {A0 : Nat → Prop} {sb L N : Nat} {xs : Nat → Int32} {Rel : M2 → M2 → HT → M2 → M2 → Int64 → Prop} {v4 p1 p2 p3 p4 : Int32}
theorem lx_lcmp (hexec : p.tables.exec = Jvm.exec) (hb : c.code = cc) {x y : Int64} (hdg : decode cc pc = .ok (.lcmp, 1)) (hxy : x = y) (k : W p l e R s m args below meth c H locs cells slots Q (F0 m (pc + 1) ls (.int 0 :: rest))) : W p l e R s m args below meth c H locs cells slots Q (F0 m pc ls (.long y :: .long x :: rest)) := by
  subst hxy
  intro T hT X
  obtain ⟨t, a, b⟩ := k T hT X
  refine ⟨t, ?_, b⟩
  jvm_step X.here [X.here.top, hexec, hb, hdg, Op.lcmp.sem]
  simpa using a
set_option maxHeartbeats 4000000 in
set_option maxRecDepth 100000 in
theorem lc_0 (P : Pk0 N Rel) (hRel : Rel u0 φ η τ ψ hv) (hl0 : l.stackTraces = false) (hx : p.tables.exec = Jvm.exec) (hb : c.code = cL_law) (S : CallFix p m c cL_law 7 s args AW RL) (hC : lxC D A0 cI cF cL s) (hX : va_X sb L xs s s.heap) (hbl : sb < s.heap.size) (hbA : ¬ A0 sb) (hi1 : vp_in (v4 + 1) L) (hi2 : vp_in (v4 + 2) L) (hi3 : vp_in (v4 + 3) L) (hi4 : vp_in (v4 + 4) L) (hp1 : xs (v4 + 1).toNatClampNeg = p1) (hp2 : xs (v4 + 2).toNatClampNeg = p2) (hp3 : xs (v4 + 3).toNatClampNeg = p3) (hp4 : xs (v4 + 4).toNatClampNeg = p4) (hnc : nc + 8 ≤ 601024) (hns : ns + 48 ≤ 7293034) (hL : lxS D A0 s.heap cI cF cL b q u0 φ η τ f a ψ hv H locs) (hl : lv_has ls 7 [(4, .int v4), (3, .ref q), (2, .ref (a 0)), (1, .ref (b 6 0)), (0, .ref sb)]) (kk : ∀ (u : Bf) (u0r φr : M2) (ηr : HT) (τr : M2) (fr : Nat → Int64) (ψr : M2) (hvr : Int64) (H1 : Heap) (locs1 : List Loc) (ls1 : Array Slot), Rel u0r φr ηr τr ψr hvr → lxS D A0 s.heap cI cF cL u q u0r φr ηr τr fr a ψr hvr H1 locs1 → u 6 0 = b 6 0 → lv_has ls1 7 [(4, .int v4), (3, .ref q), (2, .ref (a 0)), (1, .ref (b 6 0)), (0, .ref sb)] → W p l e room_1 s m args below meth c H1 locs1 (nc + 8) (ns + 48) Q (F0 m 2083 ls1 [])) : W p l e room_1 s m args below meth c H locs nc ns Q (F0 m 196 ls []) := by
  obtain ⟨k0, r0, u0r, φr, ηr, τr, r1, ψr, hG, hk, hM, ht, hr, hRel⟩ := P u0 φ η τ ψ hv p1 hRel
  refine lv_aload_n hx hb dL_law_196 rfl (lv_at hl 3 rfl) ?_
  refine lv_aload_n hx hb dL_law_197 rfl (lv_at hl 4 rfl) ?_
  refine lv_iload hx hb dL_law_198 (lv_at hl 0 rfl) ?_
  refine lv_iconst (v := 1) hx hb dL_law_200 (by decide) ?_
  refine lv_iadd hx hb dL_law_201 ?_
  refine lx_sc hx hb hX hbl hbA hL hi1 dL_law_202 ?_
  rw [hp1]
  refine lv_aload_n hx hb dL_law_203 rfl (lv_at hl 1 rfl) ?_
  refine lx_help (n := 3) (As := [.ref (b 6 0), .int p1, .ref q]) (rest := []) (r1 := hkc 1 k0) S (c_L_tag l hl0 D cI cF cL b q f N u0 φ η τ p1 k0 r0 u0r φr ηr τr hG hk) aM_RL_112 aS_L_tag aN_RL aW_L_tag rfl rfl (by decide +kernel) rfl ⟨Nat.le_of_ble_eq_true rfl, Nat.le_of_ble_eq_true rfl⟩ (lc_room hnc hns (by decide) (by decide)) hL hC hl.1 (Nat.le_of_ble_eq_true rfl) dL_law_204 (fun u f1 H locs hsm hf1 hL => ?_)
  refine lv_istore (lv' := [(5, .int (hkc 1 k0)), (4, .int v4), (3, .ref q), (2, .ref (a 0)), (1, .ref (b 6 0)), (0, .ref sb)]) hx hb dL_law_207 hl (by decide) rfl (fun ls hl => ?_)
  refine lv_aload_n hx hb dL_law_209 rfl (lv_at hl 3 rfl) ?_
  refine lv_aload_n hx hb dL_law_210 rfl (lv_at hl 5 rfl) ?_
  refine lv_iload hx hb dL_law_211 (lv_at hl 1 rfl) ?_
  refine lv_iconst (v := 1) hx hb dL_law_213 (by decide) ?_
  refine lv_iadd hx hb dL_law_214 ?_
  refine lx_sc hx hb hX hbl hbA hL hi1 dL_law_215 ?_
  rw [hp1]
  refine lx_mod (n := 1) (As := [.int p1]) (rest := []) S (c_X9_tag l D cI a ψ p1 hv r1 ψr hM) aM_RL_117 aI_X9_tag aV_X9_tag aC_X9_tag rfl rfl (by decide +kernel) rfl ⟨Nat.le_of_ble_eq_true rfl, Nat.le_of_ble_eq_true rfl⟩ (lc_room hnc hns (by decide) (by decide)) hL hC hl.1 (Nat.le_of_ble_eq_true rfl) dL_law_216 (fun r H locs hr9 hL => ?_)
  rw [hr9]
  refine lv_istore (lv' := [(6, .int r1), (5, .int (hkc 1 k0)), (4, .int v4), (3, .ref q), (2, .ref (a 0)), (1, .ref (b 6 0)), (0, .ref sb)]) hx hb dL_law_219 hl (by decide) rfl (fun ls hl => ?_)
  refine lv_aload_n hx hb dL_law_221 rfl (lv_at hl 4 rfl) ?_
  refine lx_thr S aM_RL_118 ⟨Nat.le_of_ble_eq_true rfl, Nat.le_of_ble_eq_true rfl⟩ (lc_room hnc hns (by decide) (by decide)) hL hC hl.1 (Nat.le_of_ble_eq_true rfl) dL_law_222 ?_
  rw [ht]
  refine lv_iload hx hb dL_law_225 (lv_at hl 1 rfl) ?_
  refine lv_icmp_eq (tgt := 232) hx hb dL_law_227 (by decide) (fun _ => ?_) (fun hc => absurd rfl hc)
  refine lv_iload hx hb dL_law_232 (lv_at hl 1 rfl) ?_
  by_cases hz0 : k0 = 0
  · refine lv_if_ne (tgt := 249) hx hb dL_law_234 (by decide) (fun hc => absurd (hkc_0 hz0) hc) (fun _ => ?_)
    refine lv_aload_n hx hb dL_law_237 rfl (lv_at hl 3 rfl) ?_
    refine lv_iconst (v := 0) hx hb dL_law_238 (by decide) ?_
    refine lx_out hx hb hL hC dL_law_239 ?_
    refine lv_iload hx hb dL_law_240 (lv_at hl 0 rfl) ?_
    refine lv_i2l hx hb dL_law_242 rfl ?_
    refine lx_lcmp hx hb dL_law_243 (by rw [hf1 hz0, hr hz0]) ?_
    refine lv_if_eq (tgt := 249) hx hb dL_law_244 (by decide) (fun _ => ?_) (fun hc => absurd rfl hc)
    refine lv_goto (tgt := 2083) hx hb dL_law_249 (by decide) ?_
    refine W.widen (k := nc + 8) (n := ns + 48) (by omega) (by omega) ?_
    exact kk u u0r φr ηr τr f1 ψr hv _ _ _ hRel hL (congrFun hsm.2.2.1 0) (lv_sub hl [2, 3, 4, 5, 6] rfl)
  · refine lv_if_ne (tgt := 249) hx hb dL_law_234 (by decide) (fun _ => ?_) (fun hc => absurd hc (hkc_ne hz0))
    refine lv_goto (tgt := 2083) hx hb dL_law_249 (by decide) ?_
    refine W.widen (k := nc + 8) (n := ns + 48) (by omega) (by omega) ?_
    exact kk u u0r φr ηr τr f1 ψr hv _ _ _ hRel hL (congrFun hsm.2.2.1 0) (lv_sub hl [2, 3, 4, 5, 6] rfl)
set_option maxHeartbeats 4000000 in
set_option maxRecDepth 100000 in
theorem lc_1 (P : Pk1 N Rel) (hRel : Rel u0 φ η τ ψ hv) (hl0 : l.stackTraces = false) (hx : p.tables.exec = Jvm.exec) (hb : c.code = cL_law) (S : CallFix p m c cL_law 7 s args AW RL) (hC : lxC D A0 cI cF cL s) (hX : va_X sb L xs s s.heap) (hbl : sb < s.heap.size) (hbA : ¬ A0 sb) (hi1 : vp_in (v4 + 1) L) (hi2 : vp_in (v4 + 2) L) (hi3 : vp_in (v4 + 3) L) (hi4 : vp_in (v4 + 4) L) (hp1 : xs (v4 + 1).toNatClampNeg = p1) (hp2 : xs (v4 + 2).toNatClampNeg = p2) (hp3 : xs (v4 + 3).toNatClampNeg = p3) (hp4 : xs (v4 + 4).toNatClampNeg = p4) (hnc : nc + 8 ≤ 601024) (hns : ns + 48 ≤ 7293034) (hL : lxS D A0 s.heap cI cF cL b q u0 φ η τ f a ψ hv H locs) (hl : lv_has ls 7 [(4, .int v4), (3, .ref q), (2, .ref (a 0)), (1, .ref (b 6 0)), (0, .ref sb)]) (kk : ∀ (u : Bf) (u0r φr : M2) (ηr : HT) (τr : M2) (fr : Nat → Int64) (ψr : M2) (hvr : Int64) (H1 : Heap) (locs1 : List Loc) (ls1 : Array Slot), Rel u0r φr ηr τr ψr hvr → lxS D A0 s.heap cI cF cL u q u0r φr ηr τr fr a ψr hvr H1 locs1 → u 6 0 = b 6 0 → lv_has ls1 7 [(4, .int v4), (3, .ref q), (2, .ref (a 0)), (1, .ref (b 6 0)), (0, .ref sb)] → W p l e room_1 s m args below meth c H1 locs1 (nc + 8) (ns + 48) Q (F0 m 2083 ls1 [])) : W p l e room_1 s m args below meth c H locs nc ns Q (F0 m 252 ls []) := by
  obtain ⟨k0, r0, u0r, φr, ηr, τr, r1, ψr, hG, hk, hM, ht, hr, hRel⟩ := P u0 φ η τ ψ hv p1 hRel
  refine lv_aload_n hx hb dL_law_252 rfl (lv_at hl 3 rfl) ?_
  refine lv_aload_n hx hb dL_law_253 rfl (lv_at hl 4 rfl) ?_
  refine lv_iload hx hb dL_law_254 (lv_at hl 0 rfl) ?_
  refine lv_iconst (v := 1) hx hb dL_law_256 (by decide) ?_
  refine lv_iadd hx hb dL_law_257 ?_
  refine lx_sc hx hb hX hbl hbA hL hi1 dL_law_258 ?_
  rw [hp1]
  refine lv_aload_n hx hb dL_law_259 rfl (lv_at hl 1 rfl) ?_
  refine lx_help (n := 3) (As := [.ref (b 6 0), .int p1, .ref q]) (rest := []) (r1 := hkc 1 k0) S (c_L_body l hl0 D cI cF cL b q f N u0 φ η τ p1 k0 r0 u0r φr ηr τr hG hk) aM_RL_121 aS_L_body aN_RL aW_L_body rfl rfl (by decide +kernel) rfl ⟨Nat.le_of_ble_eq_true rfl, Nat.le_of_ble_eq_true rfl⟩ (lc_room hnc hns (by decide) (by decide)) hL hC hl.1 (Nat.le_of_ble_eq_true rfl) dL_law_260 (fun u f1 H locs hsm hf1 hL => ?_)
  refine lv_istore (lv' := [(5, .int (hkc 1 k0)), (4, .int v4), (3, .ref q), (2, .ref (a 0)), (1, .ref (b 6 0)), (0, .ref sb)]) hx hb dL_law_263 hl (by decide) rfl (fun ls hl => ?_)
  refine lv_aload_n hx hb dL_law_265 rfl (lv_at hl 3 rfl) ?_
  refine lv_aload_n hx hb dL_law_266 rfl (lv_at hl 5 rfl) ?_
  refine lv_iload hx hb dL_law_267 (lv_at hl 1 rfl) ?_
  refine lv_iconst (v := 1) hx hb dL_law_269 (by decide) ?_
  refine lv_iadd hx hb dL_law_270 ?_
  refine lx_sc hx hb hX hbl hbA hL hi1 dL_law_271 ?_
  rw [hp1]
  refine lx_mod (n := 1) (As := [.int p1]) (rest := []) S (c_X9_body l D cI a ψ p1 hv r1 ψr hM) aM_RL_123 aI_X9_body aV_X9_body aC_X9_body rfl rfl (by decide +kernel) rfl ⟨Nat.le_of_ble_eq_true rfl, Nat.le_of_ble_eq_true rfl⟩ (lc_room hnc hns (by decide) (by decide)) hL hC hl.1 (Nat.le_of_ble_eq_true rfl) dL_law_272 (fun r H locs hr9 hL => ?_)
  rw [hr9]
  refine lv_istore (lv' := [(6, .int r1), (5, .int (hkc 1 k0)), (4, .int v4), (3, .ref q), (2, .ref (a 0)), (1, .ref (b 6 0)), (0, .ref sb)]) hx hb dL_law_275 hl (by decide) rfl (fun ls hl => ?_)
  refine lv_aload_n hx hb dL_law_277 rfl (lv_at hl 4 rfl) ?_
  refine lx_thr S aM_RL_118 ⟨Nat.le_of_ble_eq_true rfl, Nat.le_of_ble_eq_true rfl⟩ (lc_room hnc hns (by decide) (by decide)) hL hC hl.1 (Nat.le_of_ble_eq_true rfl) dL_law_278 ?_
  rw [ht]
  refine lv_iload hx hb dL_law_281 (lv_at hl 1 rfl) ?_
  refine lv_icmp_eq (tgt := 288) hx hb dL_law_283 (by decide) (fun _ => ?_) (fun hc => absurd rfl hc)
  refine lv_iload hx hb dL_law_288 (lv_at hl 1 rfl) ?_
  by_cases hz0 : k0 = 0
  · refine lv_if_ne (tgt := 305) hx hb dL_law_290 (by decide) (fun hc => absurd (hkc_0 hz0) hc) (fun _ => ?_)
    refine lv_aload_n hx hb dL_law_293 rfl (lv_at hl 3 rfl) ?_
    refine lv_iconst (v := 0) hx hb dL_law_294 (by decide) ?_
    refine lx_out hx hb hL hC dL_law_295 ?_
    refine lv_iload hx hb dL_law_296 (lv_at hl 0 rfl) ?_
    refine lv_i2l hx hb dL_law_298 rfl ?_
    refine lx_lcmp hx hb dL_law_299 (by rw [hf1 hz0, hr hz0]) ?_
    refine lv_if_eq (tgt := 305) hx hb dL_law_300 (by decide) (fun _ => ?_) (fun hc => absurd rfl hc)
    refine lv_goto (tgt := 2083) hx hb dL_law_305 (by decide) ?_
    refine W.widen (k := nc + 8) (n := ns + 48) (by omega) (by omega) ?_
    exact kk u u0r φr ηr τr f1 ψr hv _ _ _ hRel hL (congrFun hsm.2.2.1 0) (lv_sub hl [2, 3, 4, 5, 6] rfl)
  · refine lv_if_ne (tgt := 305) hx hb dL_law_290 (by decide) (fun _ => ?_) (fun hc => absurd hc (hkc_ne hz0))
    refine lv_goto (tgt := 2083) hx hb dL_law_305 (by decide) ?_
    refine W.widen (k := nc + 8) (n := ns + 48) (by omega) (by omega) ?_
    exact kk u u0r φr ηr τr f1 ψr hv _ _ _ hRel hL (congrFun hsm.2.2.1 0) (lv_sub hl [2, 3, 4, 5, 6] rfl)
set_option maxHeartbeats 4000000 in
set_option maxRecDepth 100000 in
theorem lc_2 (P : Pk2 N Rel) (hRel : Rel u0 φ η τ ψ hv) (hl0 : l.stackTraces = false) (hx : p.tables.exec = Jvm.exec) (hb : c.code = cL_law) (S : CallFix p m c cL_law 7 s args AW RL) (hC : lxC D A0 cI cF cL s) (hX : va_X sb L xs s s.heap) (hbl : sb < s.heap.size) (hbA : ¬ A0 sb) (hi1 : vp_in (v4 + 1) L) (hi2 : vp_in (v4 + 2) L) (hi3 : vp_in (v4 + 3) L) (hi4 : vp_in (v4 + 4) L) (hp1 : xs (v4 + 1).toNatClampNeg = p1) (hp2 : xs (v4 + 2).toNatClampNeg = p2) (hp3 : xs (v4 + 3).toNatClampNeg = p3) (hp4 : xs (v4 + 4).toNatClampNeg = p4) (hnc : nc + 8 ≤ 601024) (hns : ns + 48 ≤ 7293034) (hL : lxS D A0 s.heap cI cF cL b q u0 φ η τ f a ψ hv H locs) (hl : lv_has ls 7 [(4, .int v4), (3, .ref q), (2, .ref (a 0)), (1, .ref (b 6 0)), (0, .ref sb)]) (kk : ∀ (u : Bf) (u0r φr : M2) (ηr : HT) (τr : M2) (fr : Nat → Int64) (ψr : M2) (hvr : Int64) (H1 : Heap) (locs1 : List Loc) (ls1 : Array Slot), Rel u0r φr ηr τr ψr hvr → lxS D A0 s.heap cI cF cL u q u0r φr ηr τr fr a ψr hvr H1 locs1 → u 6 0 = b 6 0 → lv_has ls1 7 [(4, .int v4), (3, .ref q), (2, .ref (a 0)), (1, .ref (b 6 0)), (0, .ref sb)] → W p l e room_1 s m args below meth c H1 locs1 (nc + 8) (ns + 48) Q (F0 m 2083 ls1 [])) : W p l e room_1 s m args below meth c H locs nc ns Q (F0 m 308 ls []) := by
  by_cases hzp2 : p2 = 0
  · obtain ⟨k0, r0, u0r, φr, ηr, τr, r1, ψr, hG, hk, hM, ht, hr, hRel⟩ := P u0 φ η τ ψ hv p1 0 hRel (by decide)
    refine lv_aload_n hx hb dL_law_308 rfl (lv_at hl 3 rfl) ?_
    refine lv_aload_n hx hb dL_law_309 rfl (lv_at hl 4 rfl) ?_
    refine lv_iload hx hb dL_law_310 (lv_at hl 0 rfl) ?_
    refine lv_iconst (v := 1) hx hb dL_law_312 (by decide) ?_
    refine lv_iadd hx hb dL_law_313 ?_
    refine lx_sc hx hb hX hbl hbA hL hi1 dL_law_314 ?_
    rw [hp1]
    refine lv_aload_n hx hb dL_law_315 rfl (lv_at hl 4 rfl) ?_
    refine lv_iload hx hb dL_law_316 (lv_at hl 0 rfl) ?_
    refine lv_iconst (v := 2) hx hb dL_law_318 (by decide) ?_
    refine lv_iadd hx hb dL_law_319 ?_
    refine lx_sc hx hb hX hbl hbA hL hi2 dL_law_320 ?_
    rw [hp2]
    refine lv_if_eq (tgt := 328) hx hb dL_law_321 (by decide) (fun _ => ?_) (fun hc => absurd hzp2 hc)
    refine lv_iconst (v := 0) hx hb dL_law_328 (by decide) ?_
    refine lv_aload_n hx hb dL_law_329 rfl (lv_at hl 1 rfl) ?_
    refine lx_help (n := 4) (As := [.ref (b 6 0), .int p1, .int 0, .ref q]) (rest := []) (r1 := hkc 1 k0) S (c_L_bucket l hl0 D cI cF cL b q f N u0 φ η τ p1 0 k0 r0 u0r φr ηr τr hG hk) aM_RL_124 aS_L_bucket aN_RL aW_L_bucket rfl rfl (by decide +kernel) rfl ⟨Nat.le_of_ble_eq_true rfl, Nat.le_of_ble_eq_true rfl⟩ (lc_room hnc hns (by decide) (by decide)) hL hC hl.1 (Nat.le_of_ble_eq_true rfl) dL_law_330 (fun u f1 H locs hsm hf1 hL => ?_)
    refine lv_istore (lv' := [(5, .int (hkc 1 k0)), (4, .int v4), (3, .ref q), (2, .ref (a 0)), (1, .ref (b 6 0)), (0, .ref sb)]) hx hb dL_law_333 hl (by decide) rfl (fun ls hl => ?_)
    refine lv_aload_n hx hb dL_law_335 rfl (lv_at hl 3 rfl) ?_
    refine lv_aload_n hx hb dL_law_336 rfl (lv_at hl 5 rfl) ?_
    refine lv_iload hx hb dL_law_337 (lv_at hl 1 rfl) ?_
    refine lv_iconst (v := 1) hx hb dL_law_339 (by decide) ?_
    refine lv_iadd hx hb dL_law_340 ?_
    refine lx_sc hx hb hX hbl hbA hL hi1 dL_law_341 ?_
    rw [hp1]
    refine lv_aload_n hx hb dL_law_342 rfl (lv_at hl 5 rfl) ?_
    refine lv_iload hx hb dL_law_343 (lv_at hl 1 rfl) ?_
    refine lv_iconst (v := 2) hx hb dL_law_345 (by decide) ?_
    refine lv_iadd hx hb dL_law_346 ?_
    refine lx_sc hx hb hX hbl hbA hL hi2 dL_law_347 ?_
    rw [hp2]
    refine lv_if_eq (tgt := 355) hx hb dL_law_348 (by decide) (fun _ => ?_) (fun hc => absurd hzp2 hc)
    refine lv_iconst (v := 0) hx hb dL_law_355 (by decide) ?_
    refine lx_mod (n := 2) (As := [.int p1, .int 0]) (rest := []) S (c_X9_bucket l D cI a ψ p1 0 hv r1 ψr hM) aM_RL_127 aI_X9_bucket aV_X9_bucket aC_X9_bucket rfl rfl (by decide +kernel) rfl ⟨Nat.le_of_ble_eq_true rfl, Nat.le_of_ble_eq_true rfl⟩ (lc_room hnc hns (by decide) (by decide)) hL hC hl.1 (Nat.le_of_ble_eq_true rfl) dL_law_356 (fun r H locs hr9 hL => ?_)
    rw [hr9]
    refine lv_istore (lv' := [(6, .int r1), (5, .int (hkc 1 k0)), (4, .int v4), (3, .ref q), (2, .ref (a 0)), (1, .ref (b 6 0)), (0, .ref sb)]) hx hb dL_law_359 hl (by decide) rfl (fun ls hl => ?_)
    refine lv_aload_n hx hb dL_law_361 rfl (lv_at hl 4 rfl) ?_
    refine lx_thr S aM_RL_118 ⟨Nat.le_of_ble_eq_true rfl, Nat.le_of_ble_eq_true rfl⟩ (lc_room hnc hns (by decide) (by decide)) hL hC hl.1 (Nat.le_of_ble_eq_true rfl) dL_law_362 ?_
    rw [ht]
    refine lv_iload hx hb dL_law_365 (lv_at hl 1 rfl) ?_
    refine lv_icmp_eq (tgt := 372) hx hb dL_law_367 (by decide) (fun _ => ?_) (fun hc => absurd rfl hc)
    refine lv_iload hx hb dL_law_372 (lv_at hl 1 rfl) ?_
    by_cases hz0 : k0 = 0
    · refine lv_if_ne (tgt := 389) hx hb dL_law_374 (by decide) (fun hc => absurd (hkc_0 hz0) hc) (fun _ => ?_)
      refine lv_aload_n hx hb dL_law_377 rfl (lv_at hl 3 rfl) ?_
      refine lv_iconst (v := 0) hx hb dL_law_378 (by decide) ?_
      refine lx_out hx hb hL hC dL_law_379 ?_
      refine lv_iload hx hb dL_law_380 (lv_at hl 0 rfl) ?_
      refine lv_i2l hx hb dL_law_382 rfl ?_
      refine lx_lcmp hx hb dL_law_383 (by rw [hf1 hz0, hr hz0]) ?_
      refine lv_if_eq (tgt := 389) hx hb dL_law_384 (by decide) (fun _ => ?_) (fun hc => absurd rfl hc)
      refine lv_goto (tgt := 2083) hx hb dL_law_389 (by decide) ?_
      refine W.widen (k := nc + 8) (n := ns + 48) (by omega) (by omega) ?_
      exact kk u u0r φr ηr τr f1 ψr hv _ _ _ hRel hL (congrFun hsm.2.2.1 0) (lv_sub hl [2, 3, 4, 5, 6] rfl)
    · refine lv_if_ne (tgt := 389) hx hb dL_law_374 (by decide) (fun _ => ?_) (fun hc => absurd hc (hkc_ne hz0))
      refine lv_goto (tgt := 2083) hx hb dL_law_389 (by decide) ?_
      refine W.widen (k := nc + 8) (n := ns + 48) (by omega) (by omega) ?_
      exact kk u u0r φr ηr τr f1 ψr hv _ _ _ hRel hL (congrFun hsm.2.2.1 0) (lv_sub hl [2, 3, 4, 5, 6] rfl)
  · obtain ⟨k0, r0, u0r, φr, ηr, τr, r1, ψr, hG, hk, hM, ht, hr, hRel⟩ := P u0 φ η τ ψ hv p1 1 hRel (by decide)
    refine lv_aload_n hx hb dL_law_308 rfl (lv_at hl 3 rfl) ?_
    refine lv_aload_n hx hb dL_law_309 rfl (lv_at hl 4 rfl) ?_
    refine lv_iload hx hb dL_law_310 (lv_at hl 0 rfl) ?_
    refine lv_iconst (v := 1) hx hb dL_law_312 (by decide) ?_
    refine lv_iadd hx hb dL_law_313 ?_
    refine lx_sc hx hb hX hbl hbA hL hi1 dL_law_314 ?_
    rw [hp1]
    refine lv_aload_n hx hb dL_law_315 rfl (lv_at hl 4 rfl) ?_
    refine lv_iload hx hb dL_law_316 (lv_at hl 0 rfl) ?_
    refine lv_iconst (v := 2) hx hb dL_law_318 (by decide) ?_
    refine lv_iadd hx hb dL_law_319 ?_
    refine lx_sc hx hb hX hbl hbA hL hi2 dL_law_320 ?_
    rw [hp2]
    refine lv_if_eq (tgt := 328) hx hb dL_law_321 (by decide) (fun hc => absurd hc hzp2) (fun _ => ?_)
    refine lv_iconst (v := 1) hx hb dL_law_324 (by decide) ?_
    refine lv_goto (tgt := 329) hx hb dL_law_325 (by decide) ?_
    refine lv_aload_n hx hb dL_law_329 rfl (lv_at hl 1 rfl) ?_
    refine lx_help (n := 4) (As := [.ref (b 6 0), .int p1, .int 1, .ref q]) (rest := []) (r1 := hkc 1 k0) S (c_L_bucket l hl0 D cI cF cL b q f N u0 φ η τ p1 1 k0 r0 u0r φr ηr τr hG hk) aM_RL_124 aS_L_bucket aN_RL aW_L_bucket rfl rfl (by decide +kernel) rfl ⟨Nat.le_of_ble_eq_true rfl, Nat.le_of_ble_eq_true rfl⟩ (lc_room hnc hns (by decide) (by decide)) hL hC hl.1 (Nat.le_of_ble_eq_true rfl) dL_law_330 (fun u f1 H locs hsm hf1 hL => ?_)
    refine lv_istore (lv' := [(5, .int (hkc 1 k0)), (4, .int v4), (3, .ref q), (2, .ref (a 0)), (1, .ref (b 6 0)), (0, .ref sb)]) hx hb dL_law_333 hl (by decide) rfl (fun ls hl => ?_)
    refine lv_aload_n hx hb dL_law_335 rfl (lv_at hl 3 rfl) ?_
    refine lv_aload_n hx hb dL_law_336 rfl (lv_at hl 5 rfl) ?_
    refine lv_iload hx hb dL_law_337 (lv_at hl 1 rfl) ?_
    refine lv_iconst (v := 1) hx hb dL_law_339 (by decide) ?_
    refine lv_iadd hx hb dL_law_340 ?_
    refine lx_sc hx hb hX hbl hbA hL hi1 dL_law_341 ?_
    rw [hp1]
    refine lv_aload_n hx hb dL_law_342 rfl (lv_at hl 5 rfl) ?_
    refine lv_iload hx hb dL_law_343 (lv_at hl 1 rfl) ?_
    refine lv_iconst (v := 2) hx hb dL_law_345 (by decide) ?_
    refine lv_iadd hx hb dL_law_346 ?_
    refine lx_sc hx hb hX hbl hbA hL hi2 dL_law_347 ?_
    rw [hp2]
    refine lv_if_eq (tgt := 355) hx hb dL_law_348 (by decide) (fun hc => absurd hc hzp2) (fun _ => ?_)
    refine lv_iconst (v := 1) hx hb dL_law_351 (by decide) ?_
    refine lv_goto (tgt := 356) hx hb dL_law_352 (by decide) ?_
    refine lx_mod (n := 2) (As := [.int p1, .int 1]) (rest := []) S (c_X9_bucket l D cI a ψ p1 1 hv r1 ψr hM) aM_RL_127 aI_X9_bucket aV_X9_bucket aC_X9_bucket rfl rfl (by decide +kernel) rfl ⟨Nat.le_of_ble_eq_true rfl, Nat.le_of_ble_eq_true rfl⟩ (lc_room hnc hns (by decide) (by decide)) hL hC hl.1 (Nat.le_of_ble_eq_true rfl) dL_law_356 (fun r H locs hr9 hL => ?_)
    rw [hr9]
    refine lv_istore (lv' := [(6, .int r1), (5, .int (hkc 1 k0)), (4, .int v4), (3, .ref q), (2, .ref (a 0)), (1, .ref (b 6 0)), (0, .ref sb)]) hx hb dL_law_359 hl (by decide) rfl (fun ls hl => ?_)
    refine lv_aload_n hx hb dL_law_361 rfl (lv_at hl 4 rfl) ?_
    refine lx_thr S aM_RL_118 ⟨Nat.le_of_ble_eq_true rfl, Nat.le_of_ble_eq_true rfl⟩ (lc_room hnc hns (by decide) (by decide)) hL hC hl.1 (Nat.le_of_ble_eq_true rfl) dL_law_362 ?_
    rw [ht]
    refine lv_iload hx hb dL_law_365 (lv_at hl 1 rfl) ?_
    refine lv_icmp_eq (tgt := 372) hx hb dL_law_367 (by decide) (fun _ => ?_) (fun hc => absurd rfl hc)
    refine lv_iload hx hb dL_law_372 (lv_at hl 1 rfl) ?_
    by_cases hz0 : k0 = 0
    · refine lv_if_ne (tgt := 389) hx hb dL_law_374 (by decide) (fun hc => absurd (hkc_0 hz0) hc) (fun _ => ?_)
      refine lv_aload_n hx hb dL_law_377 rfl (lv_at hl 3 rfl) ?_
      refine lv_iconst (v := 0) hx hb dL_law_378 (by decide) ?_
      refine lx_out hx hb hL hC dL_law_379 ?_
      refine lv_iload hx hb dL_law_380 (lv_at hl 0 rfl) ?_
      refine lv_i2l hx hb dL_law_382 rfl ?_
      refine lx_lcmp hx hb dL_law_383 (by rw [hf1 hz0, hr hz0]) ?_
      refine lv_if_eq (tgt := 389) hx hb dL_law_384 (by decide) (fun _ => ?_) (fun hc => absurd rfl hc)
      refine lv_goto (tgt := 2083) hx hb dL_law_389 (by decide) ?_
      refine W.widen (k := nc + 8) (n := ns + 48) (by omega) (by omega) ?_
      exact kk u u0r φr ηr τr f1 ψr hv _ _ _ hRel hL (congrFun hsm.2.2.1 0) (lv_sub hl [2, 3, 4, 5, 6] rfl)
    · refine lv_if_ne (tgt := 389) hx hb dL_law_374 (by decide) (fun _ => ?_) (fun hc => absurd hc (hkc_ne hz0))
      refine lv_goto (tgt := 2083) hx hb dL_law_389 (by decide) ?_
      refine W.widen (k := nc + 8) (n := ns + 48) (by omega) (by omega) ?_
      exact kk u u0r φr ηr τr f1 ψr hv _ _ _ hRel hL (congrFun hsm.2.2.1 0) (lv_sub hl [2, 3, 4, 5, 6] rfl)
set_option maxHeartbeats 4000000 in
set_option maxRecDepth 100000 in
theorem lc_3 (P : Pk3 N Rel) (hRel : Rel u0 φ η τ ψ hv) (hl0 : l.stackTraces = false) (hx : p.tables.exec = Jvm.exec) (hb : c.code = cL_law) (S : CallFix p m c cL_law 7 s args AW RL) (hC : lxC D A0 cI cF cL s) (hX : va_X sb L xs s s.heap) (hbl : sb < s.heap.size) (hbA : ¬ A0 sb) (hi1 : vp_in (v4 + 1) L) (hi2 : vp_in (v4 + 2) L) (hi3 : vp_in (v4 + 3) L) (hi4 : vp_in (v4 + 4) L) (hp1 : xs (v4 + 1).toNatClampNeg = p1) (hp2 : xs (v4 + 2).toNatClampNeg = p2) (hp3 : xs (v4 + 3).toNatClampNeg = p3) (hp4 : xs (v4 + 4).toNatClampNeg = p4) (hnc : nc + 8 ≤ 601024) (hns : ns + 48 ≤ 7293034) (hL : lxS D A0 s.heap cI cF cL b q u0 φ η τ f a ψ hv H locs) (hl : lv_has ls 7 [(4, .int v4), (3, .ref q), (2, .ref (a 0)), (1, .ref (b 6 0)), (0, .ref sb)]) (kk : ∀ (u : Bf) (u0r φr : M2) (ηr : HT) (τr : M2) (fr : Nat → Int64) (ψr : M2) (hvr : Int64) (H1 : Heap) (locs1 : List Loc) (ls1 : Array Slot), Rel u0r φr ηr τr ψr hvr → lxS D A0 s.heap cI cF cL u q u0r φr ηr τr fr a ψr hvr H1 locs1 → u 6 0 = b 6 0 → lv_has ls1 7 [(4, .int v4), (3, .ref q), (2, .ref (a 0)), (1, .ref (b 6 0)), (0, .ref sb)] → W p l e room_1 s m args below meth c H1 locs1 (nc + 8) (ns + 48) Q (F0 m 2083 ls1 [])) : W p l e room_1 s m args below meth c H locs nc ns Q (F0 m 392 ls []) := by
  obtain ⟨k0, r0, u0r, φr, ηr, τr, r1, ψr, hG, hk, hM, ht, hr, hRel⟩ := P u0 φ η τ ψ hv p1 hRel
  refine lv_aload_n hx hb dL_law_392 rfl (lv_at hl 3 rfl) ?_
  refine lv_aload_n hx hb dL_law_393 rfl (lv_at hl 4 rfl) ?_
  refine lv_iload hx hb dL_law_394 (lv_at hl 0 rfl) ?_
  refine lv_iconst (v := 1) hx hb dL_law_396 (by decide) ?_
  refine lv_iadd hx hb dL_law_397 ?_
  refine lx_sc hx hb hX hbl hbA hL hi1 dL_law_398 ?_
  rw [hp1]
  refine lv_aload_n hx hb dL_law_399 rfl (lv_at hl 1 rfl) ?_
  refine lx_help (n := 3) (As := [.ref (b 6 0), .int p1, .ref q]) (rest := []) (r1 := hkc 1 k0) S (c_L_found l hl0 D cI cF cL b q f N u0 φ η τ p1 k0 r0 u0r φr ηr τr hG hk) aM_RL_128 aS_L_found aN_RL aW_L_found rfl rfl (by decide +kernel) rfl ⟨Nat.le_of_ble_eq_true rfl, Nat.le_of_ble_eq_true rfl⟩ (lc_room hnc hns (by decide) (by decide)) hL hC hl.1 (Nat.le_of_ble_eq_true rfl) dL_law_400 (fun u f1 H locs hsm hf1 hL => ?_)
  refine lv_istore (lv' := [(5, .int (hkc 1 k0)), (4, .int v4), (3, .ref q), (2, .ref (a 0)), (1, .ref (b 6 0)), (0, .ref sb)]) hx hb dL_law_403 hl (by decide) rfl (fun ls hl => ?_)
  refine lv_aload_n hx hb dL_law_405 rfl (lv_at hl 3 rfl) ?_
  refine lv_aload_n hx hb dL_law_406 rfl (lv_at hl 5 rfl) ?_
  refine lv_iload hx hb dL_law_407 (lv_at hl 1 rfl) ?_
  refine lv_iconst (v := 1) hx hb dL_law_409 (by decide) ?_
  refine lv_iadd hx hb dL_law_410 ?_
  refine lx_sc hx hb hX hbl hbA hL hi1 dL_law_411 ?_
  rw [hp1]
  refine lx_mod (n := 1) (As := [.int p1]) (rest := []) S (c_X9_found l D cI a N ψ p1 hv r1 ψr hM) aM_RL_130 aI_X9_found aV_X9_found aC_X9_found rfl rfl (by decide +kernel) rfl ⟨Nat.le_of_ble_eq_true rfl, Nat.le_of_ble_eq_true rfl⟩ (lc_room hnc hns (by decide) (by decide)) hL hC hl.1 (Nat.le_of_ble_eq_true rfl) dL_law_412 (fun r H locs hr9 hL => ?_)
  rw [hr9.1]
  refine lv_istore (lv' := [(6, .int r1), (5, .int (hkc 1 k0)), (4, .int v4), (3, .ref q), (2, .ref (a 0)), (1, .ref (b 6 0)), (0, .ref sb)]) hx hb dL_law_415 hl (by decide) rfl (fun ls hl => ?_)
  refine lv_aload_n hx hb dL_law_417 rfl (lv_at hl 4 rfl) ?_
  refine lx_thr S aM_RL_118 ⟨Nat.le_of_ble_eq_true rfl, Nat.le_of_ble_eq_true rfl⟩ (lc_room hnc hns (by decide) (by decide)) hL hC hl.1 (Nat.le_of_ble_eq_true rfl) dL_law_418 ?_
  rw [ht]
  refine lv_iload hx hb dL_law_421 (lv_at hl 1 rfl) ?_
  refine lv_icmp_eq (tgt := 428) hx hb dL_law_423 (by decide) (fun _ => ?_) (fun hc => absurd rfl hc)
  refine lv_iload hx hb dL_law_428 (lv_at hl 1 rfl) ?_
  by_cases hz0 : k0 = 0
  · refine lv_if_ne (tgt := 452) hx hb dL_law_430 (by decide) (fun hc => absurd (hkc_0 hz0) hc) (fun _ => ?_)
    refine lv_aload_n hx hb dL_law_433 rfl (lv_at hl 3 rfl) ?_
    refine lv_iconst (v := 0) hx hb dL_law_434 (by decide) ?_
    refine lx_out hx hb hL hC dL_law_435 ?_
    refine lv_iload hx hb dL_law_436 (lv_at hl 0 rfl) ?_
    refine lv_if_eq (tgt := 445) hx hb dL_law_438 (by decide) (fun hc => ?_) (fun hc => ?_)
    · refine lv_lconst (v := 0) hx hb dL_law_445 (by decide) ?_
      refine lx_lcmp hx hb dL_law_446 (by rw [hf1 hz0, (hr hz0).1, hc]; rfl) ?_
      refine lv_if_eq (tgt := 452) hx hb dL_law_447 (by decide) (fun _ => ?_) (fun hc => absurd rfl hc)
      refine lv_goto (tgt := 2083) hx hb dL_law_452 (by decide) ?_
      refine W.widen (k := nc + 8) (n := ns + 48) (by omega) (by omega) ?_
      exact kk u u0r φr ηr τr f1 ψr hv _ _ _ hRel hL (congrFun hsm.2.2.1 0) (lv_sub hl [2, 3, 4, 5, 6] rfl)
    · refine lv_lconst (v := 1) hx hb dL_law_441 (by decide) ?_
      refine lv_goto (tgt := 446) hx hb dL_law_442 (by decide) ?_
      refine lx_lcmp hx hb dL_law_446 (by rw [hf1 hz0, (hr hz0).1, (hr hz0).2.resolve_left hc]; rfl) ?_
      refine lv_if_eq (tgt := 452) hx hb dL_law_447 (by decide) (fun _ => ?_) (fun hc => absurd rfl hc)
      refine lv_goto (tgt := 2083) hx hb dL_law_452 (by decide) ?_
      refine W.widen (k := nc + 8) (n := ns + 48) (by omega) (by omega) ?_
      exact kk u u0r φr ηr τr f1 ψr hv _ _ _ hRel hL (congrFun hsm.2.2.1 0) (lv_sub hl [2, 3, 4, 5, 6] rfl)
  · refine lv_if_ne (tgt := 452) hx hb dL_law_430 (by decide) (fun _ => ?_) (fun hc => absurd hc (hkc_ne hz0))
    refine lv_goto (tgt := 2083) hx hb dL_law_452 (by decide) ?_
    refine W.widen (k := nc + 8) (n := ns + 48) (by omega) (by omega) ?_
    exact kk u u0r φr ηr τr f1 ψr hv _ _ _ hRel hL (congrFun hsm.2.2.1 0) (lv_sub hl [2, 3, 4, 5, 6] rfl)
set_option maxHeartbeats 4000000 in
set_option maxRecDepth 100000 in
theorem lc_4 (P : Pk4 N Rel) (hRel : Rel u0 φ η τ ψ hv) (hl0 : l.stackTraces = false) (hx : p.tables.exec = Jvm.exec) (hb : c.code = cL_law) (S : CallFix p m c cL_law 7 s args AW RL) (hC : lxC D A0 cI cF cL s) (hX : va_X sb L xs s s.heap) (hbl : sb < s.heap.size) (hbA : ¬ A0 sb) (hi1 : vp_in (v4 + 1) L) (hi2 : vp_in (v4 + 2) L) (hi3 : vp_in (v4 + 3) L) (hi4 : vp_in (v4 + 4) L) (hp1 : xs (v4 + 1).toNatClampNeg = p1) (hp2 : xs (v4 + 2).toNatClampNeg = p2) (hp3 : xs (v4 + 3).toNatClampNeg = p3) (hp4 : xs (v4 + 4).toNatClampNeg = p4) (hnc : nc + 8 ≤ 601024) (hns : ns + 48 ≤ 7293034) (hL : lxS D A0 s.heap cI cF cL b q u0 φ η τ f a ψ hv H locs) (hl : lv_has ls 7 [(4, .int v4), (3, .ref q), (2, .ref (a 0)), (1, .ref (b 6 0)), (0, .ref sb)]) (kk : ∀ (u : Bf) (u0r φr : M2) (ηr : HT) (τr : M2) (fr : Nat → Int64) (ψr : M2) (hvr : Int64) (H1 : Heap) (locs1 : List Loc) (ls1 : Array Slot), Rel u0r φr ηr τr ψr hvr → lxS D A0 s.heap cI cF cL u q u0r φr ηr τr fr a ψr hvr H1 locs1 → u 6 0 = b 6 0 → lv_has ls1 7 [(4, .int v4), (3, .ref q), (2, .ref (a 0)), (1, .ref (b 6 0)), (0, .ref sb)] → W p l e room_1 s m args below meth c H1 locs1 (nc + 8) (ns + 48) Q (F0 m 2083 ls1 [])) : W p l e room_1 s m args below meth c H locs nc ns Q (F0 m 455 ls []) := by
  obtain ⟨k0, r0, u0r, φr, ηr, τr, r1, ψr, hG, hk, hM, ht, hr, hRel⟩ := P u0 φ η τ ψ hv p1 hRel
  refine lv_aload_n hx hb dL_law_455 rfl (lv_at hl 3 rfl) ?_
  refine lv_aload_n hx hb dL_law_456 rfl (lv_at hl 4 rfl) ?_
  refine lv_iload hx hb dL_law_457 (lv_at hl 0 rfl) ?_
  refine lv_iconst (v := 1) hx hb dL_law_459 (by decide) ?_
  refine lv_iadd hx hb dL_law_460 ?_
  refine lx_sc hx hb hX hbl hbA hL hi1 dL_law_461 ?_
  rw [hp1]
  refine lv_aload_n hx hb dL_law_462 rfl (lv_at hl 1 rfl) ?_
  refine lx_help (n := 3) (As := [.ref (b 6 0), .int p1, .ref q]) (rest := []) (r1 := hkc 1 k0) S (c_L_place l hl0 D cI cF cL b q f N u0 φ η τ p1 k0 r0 u0r φr ηr τr hG hk) aM_RL_131 aS_L_place aN_RL aW_L_place rfl rfl (by decide +kernel) rfl ⟨Nat.le_of_ble_eq_true rfl, Nat.le_of_ble_eq_true rfl⟩ (lc_room hnc hns (by decide) (by decide)) hL hC hl.1 (Nat.le_of_ble_eq_true rfl) dL_law_463 (fun u f1 H locs hsm hf1 hL => ?_)
  refine lv_istore (lv' := [(5, .int (hkc 1 k0)), (4, .int v4), (3, .ref q), (2, .ref (a 0)), (1, .ref (b 6 0)), (0, .ref sb)]) hx hb dL_law_466 hl (by decide) rfl (fun ls hl => ?_)
  refine lv_aload_n hx hb dL_law_468 rfl (lv_at hl 3 rfl) ?_
  refine lv_aload_n hx hb dL_law_469 rfl (lv_at hl 5 rfl) ?_
  refine lv_iload hx hb dL_law_470 (lv_at hl 1 rfl) ?_
  refine lv_iconst (v := 1) hx hb dL_law_472 (by decide) ?_
  refine lv_iadd hx hb dL_law_473 ?_
  refine lx_sc hx hb hX hbl hbA hL hi1 dL_law_474 ?_
  rw [hp1]
  refine lx_mod (n := 1) (As := [.int p1]) (rest := []) S (c_X9_place l D cI a N ψ p1 hv r1 ψr hM) aM_RL_133 aI_X9_place aV_X9_place aC_X9_place rfl rfl (by decide +kernel) rfl ⟨Nat.le_of_ble_eq_true rfl, Nat.le_of_ble_eq_true rfl⟩ (lc_room hnc hns (by decide) (by decide)) hL hC hl.1 (Nat.le_of_ble_eq_true rfl) dL_law_475 (fun r H locs hr9 hL => ?_)
  rw [hr9]
  refine lv_istore (lv' := [(6, .int r1), (5, .int (hkc 1 k0)), (4, .int v4), (3, .ref q), (2, .ref (a 0)), (1, .ref (b 6 0)), (0, .ref sb)]) hx hb dL_law_478 hl (by decide) rfl (fun ls hl => ?_)
  refine lv_aload_n hx hb dL_law_480 rfl (lv_at hl 4 rfl) ?_
  refine lx_thr S aM_RL_118 ⟨Nat.le_of_ble_eq_true rfl, Nat.le_of_ble_eq_true rfl⟩ (lc_room hnc hns (by decide) (by decide)) hL hC hl.1 (Nat.le_of_ble_eq_true rfl) dL_law_481 ?_
  rw [ht]
  refine lv_iload hx hb dL_law_484 (lv_at hl 1 rfl) ?_
  refine lv_icmp_eq (tgt := 491) hx hb dL_law_486 (by decide) (fun _ => ?_) (fun hc => absurd rfl hc)
  refine lv_iload hx hb dL_law_491 (lv_at hl 1 rfl) ?_
  by_cases hz0 : k0 = 0
  · refine lv_if_ne (tgt := 508) hx hb dL_law_493 (by decide) (fun hc => absurd (hkc_0 hz0) hc) (fun _ => ?_)
    refine lv_aload_n hx hb dL_law_496 rfl (lv_at hl 3 rfl) ?_
    refine lv_iconst (v := 0) hx hb dL_law_497 (by decide) ?_
    refine lx_out hx hb hL hC dL_law_498 ?_
    refine lv_iload hx hb dL_law_499 (lv_at hl 0 rfl) ?_
    refine lv_i2l hx hb dL_law_501 rfl ?_
    refine lx_lcmp hx hb dL_law_502 (by rw [hf1 hz0, hr hz0]) ?_
    refine lv_if_eq (tgt := 508) hx hb dL_law_503 (by decide) (fun _ => ?_) (fun hc => absurd rfl hc)
    refine lv_goto (tgt := 2083) hx hb dL_law_508 (by decide) ?_
    refine W.widen (k := nc + 8) (n := ns + 48) (by omega) (by omega) ?_
    exact kk u u0r φr ηr τr f1 ψr hv _ _ _ hRel hL (congrFun hsm.2.2.1 0) (lv_sub hl [2, 3, 4, 5, 6] rfl)
  · refine lv_if_ne (tgt := 508) hx hb dL_law_493 (by decide) (fun _ => ?_) (fun hc => absurd hc (hkc_ne hz0))
    refine lv_goto (tgt := 2083) hx hb dL_law_508 (by decide) ?_
    refine W.widen (k := nc + 8) (n := ns + 48) (by omega) (by omega) ?_
    exact kk u u0r φr ηr τr f1 ψr hv _ _ _ hRel hL (congrFun hsm.2.2.1 0) (lv_sub hl [2, 3, 4, 5, 6] rfl)
set_option maxHeartbeats 4000000 in
set_option maxRecDepth 100000 in
theorem lc_5 (P : Pk5 N Rel) (hRel : Rel u0 φ η τ ψ hv) (hl0 : l.stackTraces = false) (hx : p.tables.exec = Jvm.exec) (hb : c.code = cL_law) (S : CallFix p m c cL_law 7 s args AW RL) (hC : lxC D A0 cI cF cL s) (hX : va_X sb L xs s s.heap) (hbl : sb < s.heap.size) (hbA : ¬ A0 sb) (hi1 : vp_in (v4 + 1) L) (hi2 : vp_in (v4 + 2) L) (hi3 : vp_in (v4 + 3) L) (hi4 : vp_in (v4 + 4) L) (hp1 : xs (v4 + 1).toNatClampNeg = p1) (hp2 : xs (v4 + 2).toNatClampNeg = p2) (hp3 : xs (v4 + 3).toNatClampNeg = p3) (hp4 : xs (v4 + 4).toNatClampNeg = p4) (hnc : nc + 8 ≤ 601024) (hns : ns + 48 ≤ 7293034) (hL : lxS D A0 s.heap cI cF cL b q u0 φ η τ f a ψ hv H locs) (hl : lv_has ls 7 [(4, .int v4), (3, .ref q), (2, .ref (a 0)), (1, .ref (b 6 0)), (0, .ref sb)]) (kk : ∀ (u : Bf) (u0r φr : M2) (ηr : HT) (τr : M2) (fr : Nat → Int64) (ψr : M2) (hvr : Int64) (H1 : Heap) (locs1 : List Loc) (ls1 : Array Slot), Rel u0r φr ηr τr ψr hvr → lxS D A0 s.heap cI cF cL u q u0r φr ηr τr fr a ψr hvr H1 locs1 → u 6 0 = b 6 0 → lv_has ls1 7 [(4, .int v4), (3, .ref q), (2, .ref (a 0)), (1, .ref (b 6 0)), (0, .ref sb)] → W p l e room_1 s m args below meth c H1 locs1 (nc + 8) (ns + 48) Q (F0 m 2083 ls1 [])) : W p l e room_1 s m args below meth c H locs nc ns Q (F0 m 511 ls []) := by
  obtain ⟨k0, r0, u0r, φr, ηr, τr, r1, ψr, hG, hk, hM, ht, hr, hRel⟩ := P u0 φ η τ ψ hv p1 hRel
  refine lv_aload_n hx hb dL_law_511 rfl (lv_at hl 3 rfl) ?_
  refine lv_aload_n hx hb dL_law_512 rfl (lv_at hl 4 rfl) ?_
  refine lv_iload hx hb dL_law_513 (lv_at hl 0 rfl) ?_
  refine lv_iconst (v := 1) hx hb dL_law_515 (by decide) ?_
  refine lv_iadd hx hb dL_law_516 ?_
  refine lx_sc hx hb hX hbl hbA hL hi1 dL_law_517 ?_
  rw [hp1]
  refine lv_aload_n hx hb dL_law_518 rfl (lv_at hl 1 rfl) ?_
  refine lx_help (n := 3) (As := [.ref (b 6 0), .int p1, .ref q]) (rest := []) (r1 := hkc 3 k0) S (c_L_present l hl0 D cI cF cL b q f N u0 φ η τ p1 k0 r0 u0r φr ηr τr hG hk) aM_RL_134 aS_L_present aN_RL aW_L_present rfl rfl (by decide +kernel) rfl ⟨Nat.le_of_ble_eq_true rfl, Nat.le_of_ble_eq_true rfl⟩ (lc_room hnc hns (by decide) (by decide)) hL hC hl.1 (Nat.le_of_ble_eq_true rfl) dL_law_519 (fun u f1 H locs hsm hf1 hL => ?_)
  refine lv_istore (lv' := [(5, .int (hkc 3 k0)), (4, .int v4), (3, .ref q), (2, .ref (a 0)), (1, .ref (b 6 0)), (0, .ref sb)]) hx hb dL_law_522 hl (by decide) rfl (fun ls hl => ?_)
  refine lv_aload_n hx hb dL_law_524 rfl (lv_at hl 3 rfl) ?_
  refine lv_aload_n hx hb dL_law_525 rfl (lv_at hl 5 rfl) ?_
  refine lv_iload hx hb dL_law_526 (lv_at hl 1 rfl) ?_
  refine lv_iconst (v := 1) hx hb dL_law_528 (by decide) ?_
  refine lv_iadd hx hb dL_law_529 ?_
  refine lx_sc hx hb hX hbl hbA hL hi1 dL_law_530 ?_
  rw [hp1]
  refine lx_mod (n := 1) (As := [.int p1]) (rest := []) S (c_X9_present l D cI a ψ p1 hv r1 ψr hM) aM_RL_136 aI_X9_present aV_X9_present aC_X9_present rfl rfl (by decide +kernel) rfl ⟨Nat.le_of_ble_eq_true rfl, Nat.le_of_ble_eq_true rfl⟩ (lc_room hnc hns (by decide) (by decide)) hL hC hl.1 (Nat.le_of_ble_eq_true rfl) dL_law_531 (fun r H locs hr9 hL => ?_)
  rw [hr9]
  refine lv_istore (lv' := [(6, .int r1), (5, .int (hkc 3 k0)), (4, .int v4), (3, .ref q), (2, .ref (a 0)), (1, .ref (b 6 0)), (0, .ref sb)]) hx hb dL_law_534 hl (by decide) rfl (fun ls hl => ?_)
  refine lv_aload_n hx hb dL_law_536 rfl (lv_at hl 4 rfl) ?_
  refine lx_thr S aM_RL_118 ⟨Nat.le_of_ble_eq_true rfl, Nat.le_of_ble_eq_true rfl⟩ (lc_room hnc hns (by decide) (by decide)) hL hC hl.1 (Nat.le_of_ble_eq_true rfl) dL_law_537 ?_
  rw [ht]
  refine lv_iload hx hb dL_law_540 (lv_at hl 1 rfl) ?_
  refine lv_icmp_eq (tgt := 547) hx hb dL_law_542 (by decide) (fun _ => ?_) (fun hc => absurd rfl hc)
  refine lv_iload hx hb dL_law_547 (lv_at hl 1 rfl) ?_
  by_cases hz0 : k0 = 0
  · refine lv_if_ne (tgt := 564) hx hb dL_law_549 (by decide) (fun hc => absurd (hkc_0 hz0) hc) (fun _ => ?_)
    refine lv_aload_n hx hb dL_law_552 rfl (lv_at hl 3 rfl) ?_
    refine lv_iconst (v := 0) hx hb dL_law_553 (by decide) ?_
    refine lx_out hx hb hL hC dL_law_554 ?_
    refine lv_iload hx hb dL_law_555 (lv_at hl 0 rfl) ?_
    refine lv_i2l hx hb dL_law_557 rfl ?_
    refine lx_lcmp hx hb dL_law_558 (by rw [hf1 hz0, hr hz0]) ?_
    refine lv_if_eq (tgt := 564) hx hb dL_law_559 (by decide) (fun _ => ?_) (fun hc => absurd rfl hc)
    refine lv_goto (tgt := 2083) hx hb dL_law_564 (by decide) ?_
    refine W.widen (k := nc + 8) (n := ns + 48) (by omega) (by omega) ?_
    exact kk u u0r φr ηr τr f1 ψr hv _ _ _ hRel hL (congrFun hsm.2.2.1 0) (lv_sub hl [2, 3, 4, 5, 6] rfl)
  · refine lv_if_ne (tgt := 564) hx hb dL_law_549 (by decide) (fun _ => ?_) (fun hc => absurd hc (hkc_ne hz0))
    refine lv_goto (tgt := 2083) hx hb dL_law_564 (by decide) ?_
    refine W.widen (k := nc + 8) (n := ns + 48) (by omega) (by omega) ?_
    exact kk u u0r φr ηr τr f1 ψr hv _ _ _ hRel hL (congrFun hsm.2.2.1 0) (lv_sub hl [2, 3, 4, 5, 6] rfl)
set_option maxHeartbeats 4000000 in
set_option maxRecDepth 100000 in
theorem lc_6 (P : Pk6 N Rel) (hRel : Rel u0 φ η τ ψ hv) (hl0 : l.stackTraces = false) (hx : p.tables.exec = Jvm.exec) (hb : c.code = cL_law) (S : CallFix p m c cL_law 7 s args AW RL) (hC : lxC D A0 cI cF cL s) (hX : va_X sb L xs s s.heap) (hbl : sb < s.heap.size) (hbA : ¬ A0 sb) (hi1 : vp_in (v4 + 1) L) (hi2 : vp_in (v4 + 2) L) (hi3 : vp_in (v4 + 3) L) (hi4 : vp_in (v4 + 4) L) (hp1 : xs (v4 + 1).toNatClampNeg = p1) (hp2 : xs (v4 + 2).toNatClampNeg = p2) (hp3 : xs (v4 + 3).toNatClampNeg = p3) (hp4 : xs (v4 + 4).toNatClampNeg = p4) (hnc : nc + 8 ≤ 601024) (hns : ns + 48 ≤ 7293034) (hL : lxS D A0 s.heap cI cF cL b q u0 φ η τ f a ψ hv H locs) (hl : lv_has ls 7 [(4, .int v4), (3, .ref q), (2, .ref (a 0)), (1, .ref (b 6 0)), (0, .ref sb)]) (kk : ∀ (u : Bf) (u0r φr : M2) (ηr : HT) (τr : M2) (fr : Nat → Int64) (ψr : M2) (hvr : Int64) (H1 : Heap) (locs1 : List Loc) (ls1 : Array Slot), Rel u0r φr ηr τr ψr hvr → lxS D A0 s.heap cI cF cL u q u0r φr ηr τr fr a ψr hvr H1 locs1 → u 6 0 = b 6 0 → lv_has ls1 7 [(4, .int v4), (3, .ref q), (2, .ref (a 0)), (1, .ref (b 6 0)), (0, .ref sb)] → W p l e room_1 s m args below meth c H1 locs1 (nc + 8) (ns + 48) Q (F0 m 2083 ls1 [])) : W p l e room_1 s m args below meth c H locs nc ns Q (F0 m 567 ls []) := by
  obtain ⟨k0, r0, u0r, φr, ηr, τr, r1, ψr, hG, h00, hM, hr, hRel⟩ := P u0 φ η τ ψ hv hRel
  refine lv_aload_n hx hb dL_law_567 rfl (lv_at hl 3 rfl) ?_
  refine lx_x (n := 0) (As := []) (rest := []) S (c_X8_count l hl0 D cI cF b N u0 φ η τ k0 r0 u0r φr ηr τr hG) (fun r u h => ⟨h.2.1, h.2.2⟩) h00 aM_RL_137 aI_X8_count aV_X8_count aC_X8_count rfl rfl (by decide +kernel) rfl ⟨Nat.le_of_ble_eq_true rfl, Nat.le_of_ble_eq_true rfl⟩ (lc_room hnc hns (by decide) (by decide)) hL hC hl.1 (Nat.le_of_ble_eq_true rfl) dL_law_568 (fun u H locs hsm hL => ?_)
  refine lv_aload_n hx hb dL_law_571 rfl (lv_at hl 2 rfl) ?_
  refine lx_mod (n := 0) (As := []) (rest := [.int r0]) S (c_X9_count l D cI a ψ hv r1 ψr hM) aM_RL_140 aI_X9_count aV_X9_count aC_X9_count rfl rfl (by decide +kernel) rfl ⟨Nat.le_of_ble_eq_true rfl, Nat.le_of_ble_eq_true rfl⟩ (lc_room hnc hns (by decide) (by decide)) hL hC hl.1 (Nat.le_of_ble_eq_true rfl) dL_law_572 (fun r H locs hr9 hL => ?_)
  rw [hr9]
  refine lv_icmp_eq (tgt := 2083) hx hb dL_law_575 (by decide) (fun _ => ?_) (fun hc => absurd hr hc)
  refine W.widen (k := nc + 8) (n := ns + 48) (by omega) (by omega) ?_
  exact kk u u0r φr ηr τr f ψr hv _ _ _ hRel hL (congrFun hsm.2.2.1 0) (lv_sub hl [0, 1, 2, 3, 4] rfl)
set_option maxHeartbeats 4000000 in
set_option maxRecDepth 100000 in
theorem lc_7 (P : Pk7 N Rel) (hRel : Rel u0 φ η τ ψ hv) (hl0 : l.stackTraces = false) (hx : p.tables.exec = Jvm.exec) (hb : c.code = cL_law) (S : CallFix p m c cL_law 7 s args AW RL) (hC : lxC D A0 cI cF cL s) (hX : va_X sb L xs s s.heap) (hbl : sb < s.heap.size) (hbA : ¬ A0 sb) (hi1 : vp_in (v4 + 1) L) (hi2 : vp_in (v4 + 2) L) (hi3 : vp_in (v4 + 3) L) (hi4 : vp_in (v4 + 4) L) (hp1 : xs (v4 + 1).toNatClampNeg = p1) (hp2 : xs (v4 + 2).toNatClampNeg = p2) (hp3 : xs (v4 + 3).toNatClampNeg = p3) (hp4 : xs (v4 + 4).toNatClampNeg = p4) (hnc : nc + 8 ≤ 601024) (hns : ns + 48 ≤ 7293034) (hL : lxS D A0 s.heap cI cF cL b q u0 φ η τ f a ψ hv H locs) (hl : lv_has ls 7 [(4, .int v4), (3, .ref q), (2, .ref (a 0)), (1, .ref (b 6 0)), (0, .ref sb)]) (kk : ∀ (u : Bf) (u0r φr : M2) (ηr : HT) (τr : M2) (fr : Nat → Int64) (ψr : M2) (hvr : Int64) (H1 : Heap) (locs1 : List Loc) (ls1 : Array Slot), Rel u0r φr ηr τr ψr hvr → lxS D A0 s.heap cI cF cL u q u0r φr ηr τr fr a ψr hvr H1 locs1 → u 6 0 = b 6 0 → lv_has ls1 7 [(4, .int v4), (3, .ref q), (2, .ref (a 0)), (1, .ref (b 6 0)), (0, .ref sb)] → W p l e room_1 s m args below meth c H1 locs1 (nc + 8) (ns + 48) Q (F0 m 2083 ls1 [])) : W p l e room_1 s m args below meth c H locs nc ns Q (F0 m 580 ls []) := by
  obtain ⟨k0, r0, u0r, φr, ηr, τr, r1, ψr, hG, hk, hM, ht, hr, hRel⟩ := P u0 φ η τ ψ hv p1 hRel
  refine lv_aload_n hx hb dL_law_580 rfl (lv_at hl 3 rfl) ?_
  refine lv_aload_n hx hb dL_law_581 rfl (lv_at hl 4 rfl) ?_
  refine lv_iload hx hb dL_law_582 (lv_at hl 0 rfl) ?_
  refine lv_iconst (v := 1) hx hb dL_law_584 (by decide) ?_
  refine lv_iadd hx hb dL_law_585 ?_
  refine lx_sc hx hb hX hbl hbA hL hi1 dL_law_586 ?_
  rw [hp1]
  refine lv_aload_n hx hb dL_law_587 rfl (lv_at hl 1 rfl) ?_
  refine lx_help (n := 3) (As := [.ref (b 6 0), .int p1, .ref q]) (rest := []) (r1 := hkc 1 k0) S (c_L_add l hl0 D cI cF cL b q f N u0 φ η τ p1 k0 r0 u0r φr ηr τr hG hk) aM_RL_141 aS_L_add aN_RL aW_L_add rfl rfl (by decide +kernel) rfl ⟨Nat.le_of_ble_eq_true rfl, Nat.le_of_ble_eq_true rfl⟩ (lc_room hnc hns (by decide) (by decide)) hL hC hl.1 (Nat.le_of_ble_eq_true rfl) dL_law_588 (fun u f1 H locs hsm hf1 hL => ?_)
  refine lv_istore (lv' := [(5, .int (hkc 1 k0)), (4, .int v4), (3, .ref q), (2, .ref (a 0)), (1, .ref (b 6 0)), (0, .ref sb)]) hx hb dL_law_591 hl (by decide) rfl (fun ls hl => ?_)
  refine lv_aload_n hx hb dL_law_593 rfl (lv_at hl 3 rfl) ?_
  refine lv_aload_n hx hb dL_law_594 rfl (lv_at hl 5 rfl) ?_
  refine lv_iload hx hb dL_law_595 (lv_at hl 1 rfl) ?_
  refine lv_iconst (v := 1) hx hb dL_law_597 (by decide) ?_
  refine lv_iadd hx hb dL_law_598 ?_
  refine lx_sc hx hb hX hbl hbA hL hi1 dL_law_599 ?_
  rw [hp1]
  refine lx_mod (n := 1) (As := [.int p1]) (rest := []) S (c_X9_add l D cI a N ψ p1 hv r1 ψr hM) aM_RL_143 aI_X9_add aV_X9_add aC_X9_add rfl rfl (by decide +kernel) rfl ⟨Nat.le_of_ble_eq_true rfl, Nat.le_of_ble_eq_true rfl⟩ (lc_room hnc hns (by decide) (by decide)) hL hC hl.1 (Nat.le_of_ble_eq_true rfl) dL_law_600 (fun r H locs hr9 hL => ?_)
  rw [hr9]
  refine lv_istore (lv' := [(6, .int r1), (5, .int (hkc 1 k0)), (4, .int v4), (3, .ref q), (2, .ref (a 0)), (1, .ref (b 6 0)), (0, .ref sb)]) hx hb dL_law_603 hl (by decide) rfl (fun ls hl => ?_)
  refine lv_aload_n hx hb dL_law_605 rfl (lv_at hl 4 rfl) ?_
  refine lx_thr S aM_RL_118 ⟨Nat.le_of_ble_eq_true rfl, Nat.le_of_ble_eq_true rfl⟩ (lc_room hnc hns (by decide) (by decide)) hL hC hl.1 (Nat.le_of_ble_eq_true rfl) dL_law_606 ?_
  rw [ht]
  refine lv_iload hx hb dL_law_609 (lv_at hl 1 rfl) ?_
  refine lv_icmp_eq (tgt := 616) hx hb dL_law_611 (by decide) (fun _ => ?_) (fun hc => absurd rfl hc)
  refine lv_iload hx hb dL_law_616 (lv_at hl 1 rfl) ?_
  by_cases hz0 : k0 = 0
  · refine lv_if_ne (tgt := 633) hx hb dL_law_618 (by decide) (fun hc => absurd (hkc_0 hz0) hc) (fun _ => ?_)
    refine lv_aload_n hx hb dL_law_621 rfl (lv_at hl 3 rfl) ?_
    refine lv_iconst (v := 0) hx hb dL_law_622 (by decide) ?_
    refine lx_out hx hb hL hC dL_law_623 ?_
    refine lv_iload hx hb dL_law_624 (lv_at hl 0 rfl) ?_
    refine lv_i2l hx hb dL_law_626 rfl ?_
    refine lx_lcmp hx hb dL_law_627 (by rw [hf1 hz0, hr hz0]) ?_
    refine lv_if_eq (tgt := 633) hx hb dL_law_628 (by decide) (fun _ => ?_) (fun hc => absurd rfl hc)
    refine lv_goto (tgt := 2083) hx hb dL_law_633 (by decide) ?_
    refine W.widen (k := nc + 8) (n := ns + 48) (by omega) (by omega) ?_
    exact kk u u0r φr ηr τr f1 ψr hv _ _ _ hRel hL (congrFun hsm.2.2.1 0) (lv_sub hl [2, 3, 4, 5, 6] rfl)
  · refine lv_if_ne (tgt := 633) hx hb dL_law_618 (by decide) (fun _ => ?_) (fun hc => absurd hc (hkc_ne hz0))
    refine lv_goto (tgt := 2083) hx hb dL_law_633 (by decide) ?_
    refine W.widen (k := nc + 8) (n := ns + 48) (by omega) (by omega) ?_
    exact kk u u0r φr ηr τr f1 ψr hv _ _ _ hRel hL (congrFun hsm.2.2.1 0) (lv_sub hl [2, 3, 4, 5, 6] rfl)
set_option maxHeartbeats 4000000 in
set_option maxRecDepth 100000 in
theorem lc_8 (P : Pk8 N Rel) (hRel : Rel u0 φ η τ ψ hv) (hl0 : l.stackTraces = false) (hx : p.tables.exec = Jvm.exec) (hb : c.code = cL_law) (S : CallFix p m c cL_law 7 s args AW RL) (hC : lxC D A0 cI cF cL s) (hX : va_X sb L xs s s.heap) (hbl : sb < s.heap.size) (hbA : ¬ A0 sb) (hi1 : vp_in (v4 + 1) L) (hi2 : vp_in (v4 + 2) L) (hi3 : vp_in (v4 + 3) L) (hi4 : vp_in (v4 + 4) L) (hp1 : xs (v4 + 1).toNatClampNeg = p1) (hp2 : xs (v4 + 2).toNatClampNeg = p2) (hp3 : xs (v4 + 3).toNatClampNeg = p3) (hp4 : xs (v4 + 4).toNatClampNeg = p4) (hnc : nc + 8 ≤ 601024) (hns : ns + 48 ≤ 7293034) (hL : lxS D A0 s.heap cI cF cL b q u0 φ η τ f a ψ hv H locs) (hl : lv_has ls 7 [(4, .int v4), (3, .ref q), (2, .ref (a 0)), (1, .ref (b 6 0)), (0, .ref sb)]) (kk : ∀ (u : Bf) (u0r φr : M2) (ηr : HT) (τr : M2) (fr : Nat → Int64) (ψr : M2) (hvr : Int64) (H1 : Heap) (locs1 : List Loc) (ls1 : Array Slot), Rel u0r φr ηr τr ψr hvr → lxS D A0 s.heap cI cF cL u q u0r φr ηr τr fr a ψr hvr H1 locs1 → u 6 0 = b 6 0 → lv_has ls1 7 [(4, .int v4), (3, .ref q), (2, .ref (a 0)), (1, .ref (b 6 0)), (0, .ref sb)] → W p l e room_1 s m args below meth c H1 locs1 (nc + 8) (ns + 48) Q (F0 m 2083 ls1 [])) : W p l e room_1 s m args below meth c H locs nc ns Q (F0 m 636 ls []) := by
  obtain ⟨k0, r0, u0r, φr, ηr, τr, r1, ψr, hG, hk, hM, ht, hr, hRel⟩ := P u0 φ η τ ψ hv p1 hRel
  refine lv_aload_n hx hb dL_law_636 rfl (lv_at hl 3 rfl) ?_
  refine lv_aload_n hx hb dL_law_637 rfl (lv_at hl 4 rfl) ?_
  refine lv_iload hx hb dL_law_638 (lv_at hl 0 rfl) ?_
  refine lv_iconst (v := 1) hx hb dL_law_640 (by decide) ?_
  refine lv_iadd hx hb dL_law_641 ?_
  refine lx_sc hx hb hX hbl hbA hL hi1 dL_law_642 ?_
  rw [hp1]
  refine lv_aload_n hx hb dL_law_643 rfl (lv_at hl 1 rfl) ?_
  refine lx_help (n := 3) (As := [.ref (b 6 0), .int p1, .ref q]) (rest := []) (r1 := hkc 1 k0) S (c_L_addShortest l hl0 D cI cF cL b q f N u0 φ η τ p1 k0 r0 u0r φr ηr τr hG hk) aM_RL_144 aS_L_addShortest aN_RL aW_L_addShortest rfl rfl (by decide +kernel) rfl ⟨Nat.le_of_ble_eq_true rfl, Nat.le_of_ble_eq_true rfl⟩ (lc_room hnc hns (by decide) (by decide)) hL hC hl.1 (Nat.le_of_ble_eq_true rfl) dL_law_644 (fun u f1 H locs hsm hf1 hL => ?_)
  refine lv_istore (lv' := [(5, .int (hkc 1 k0)), (4, .int v4), (3, .ref q), (2, .ref (a 0)), (1, .ref (b 6 0)), (0, .ref sb)]) hx hb dL_law_647 hl (by decide) rfl (fun ls hl => ?_)
  refine lv_aload_n hx hb dL_law_649 rfl (lv_at hl 3 rfl) ?_
  refine lv_aload_n hx hb dL_law_650 rfl (lv_at hl 5 rfl) ?_
  refine lv_iload hx hb dL_law_651 (lv_at hl 1 rfl) ?_
  refine lv_iconst (v := 1) hx hb dL_law_653 (by decide) ?_
  refine lv_iadd hx hb dL_law_654 ?_
  refine lx_sc hx hb hX hbl hbA hL hi1 dL_law_655 ?_
  rw [hp1]
  refine lx_mod (n := 1) (As := [.int p1]) (rest := []) S (c_X9_addShortest l D cI a N ψ p1 hv r1 ψr hM) aM_RL_146 aI_X9_addShortest aV_X9_addShortest aC_X9_addShortest rfl rfl (by decide +kernel) rfl ⟨Nat.le_of_ble_eq_true rfl, Nat.le_of_ble_eq_true rfl⟩ (lc_room hnc hns (by decide) (by decide)) hL hC hl.1 (Nat.le_of_ble_eq_true rfl) dL_law_656 (fun r H locs hr9 hL => ?_)
  rw [hr9]
  refine lv_istore (lv' := [(6, .int r1), (5, .int (hkc 1 k0)), (4, .int v4), (3, .ref q), (2, .ref (a 0)), (1, .ref (b 6 0)), (0, .ref sb)]) hx hb dL_law_659 hl (by decide) rfl (fun ls hl => ?_)
  refine lv_aload_n hx hb dL_law_661 rfl (lv_at hl 4 rfl) ?_
  refine lx_thr S aM_RL_118 ⟨Nat.le_of_ble_eq_true rfl, Nat.le_of_ble_eq_true rfl⟩ (lc_room hnc hns (by decide) (by decide)) hL hC hl.1 (Nat.le_of_ble_eq_true rfl) dL_law_662 ?_
  rw [ht]
  refine lv_iload hx hb dL_law_665 (lv_at hl 1 rfl) ?_
  refine lv_icmp_eq (tgt := 672) hx hb dL_law_667 (by decide) (fun _ => ?_) (fun hc => absurd rfl hc)
  refine lv_iload hx hb dL_law_672 (lv_at hl 1 rfl) ?_
  by_cases hz0 : k0 = 0
  · refine lv_if_ne (tgt := 689) hx hb dL_law_674 (by decide) (fun hc => absurd (hkc_0 hz0) hc) (fun _ => ?_)
    refine lv_aload_n hx hb dL_law_677 rfl (lv_at hl 3 rfl) ?_
    refine lv_iconst (v := 0) hx hb dL_law_678 (by decide) ?_
    refine lx_out hx hb hL hC dL_law_679 ?_
    refine lv_iload hx hb dL_law_680 (lv_at hl 0 rfl) ?_
    refine lv_i2l hx hb dL_law_682 rfl ?_
    refine lx_lcmp hx hb dL_law_683 (by rw [hf1 hz0, hr hz0]) ?_
    refine lv_if_eq (tgt := 689) hx hb dL_law_684 (by decide) (fun _ => ?_) (fun hc => absurd rfl hc)
    refine lv_goto (tgt := 2083) hx hb dL_law_689 (by decide) ?_
    refine W.widen (k := nc + 8) (n := ns + 48) (by omega) (by omega) ?_
    exact kk u u0r φr ηr τr f1 ψr hv _ _ _ hRel hL (congrFun hsm.2.2.1 0) (lv_sub hl [2, 3, 4, 5, 6] rfl)
  · refine lv_if_ne (tgt := 689) hx hb dL_law_674 (by decide) (fun _ => ?_) (fun hc => absurd hc (hkc_ne hz0))
    refine lv_goto (tgt := 2083) hx hb dL_law_689 (by decide) ?_
    refine W.widen (k := nc + 8) (n := ns + 48) (by omega) (by omega) ?_
    exact kk u u0r φr ηr τr f1 ψr hv _ _ _ hRel hL (congrFun hsm.2.2.1 0) (lv_sub hl [2, 3, 4, 5, 6] rfl)
set_option maxHeartbeats 4000000 in
set_option maxRecDepth 100000 in
theorem lc_9 (P : Pk9 N Rel) (hRel : Rel u0 φ η τ ψ hv) (hl0 : l.stackTraces = false) (hx : p.tables.exec = Jvm.exec) (hb : c.code = cL_law) (S : CallFix p m c cL_law 7 s args AW RL) (hC : lxC D A0 cI cF cL s) (hX : va_X sb L xs s s.heap) (hbl : sb < s.heap.size) (hbA : ¬ A0 sb) (hi1 : vp_in (v4 + 1) L) (hi2 : vp_in (v4 + 2) L) (hi3 : vp_in (v4 + 3) L) (hi4 : vp_in (v4 + 4) L) (hp1 : xs (v4 + 1).toNatClampNeg = p1) (hp2 : xs (v4 + 2).toNatClampNeg = p2) (hp3 : xs (v4 + 3).toNatClampNeg = p3) (hp4 : xs (v4 + 4).toNatClampNeg = p4) (hnc : nc + 8 ≤ 601024) (hns : ns + 48 ≤ 7293034) (hL : lxS D A0 s.heap cI cF cL b q u0 φ η τ f a ψ hv H locs) (hl : lv_has ls 7 [(4, .int v4), (3, .ref q), (2, .ref (a 0)), (1, .ref (b 6 0)), (0, .ref sb)]) (kk : ∀ (u : Bf) (u0r φr : M2) (ηr : HT) (τr : M2) (fr : Nat → Int64) (ψr : M2) (hvr : Int64) (H1 : Heap) (locs1 : List Loc) (ls1 : Array Slot), Rel u0r φr ηr τr ψr hvr → lxS D A0 s.heap cI cF cL u q u0r φr ηr τr fr a ψr hvr H1 locs1 → u 6 0 = b 6 0 → lv_has ls1 7 [(4, .int v4), (3, .ref q), (2, .ref (a 0)), (1, .ref (b 6 0)), (0, .ref sb)] → W p l e room_1 s m args below meth c H1 locs1 (nc + 8) (ns + 48) Q (F0 m 2083 ls1 [])) : W p l e room_1 s m args below meth c H locs nc ns Q (F0 m 692 ls []) := by
  obtain ⟨k0, r0, u0r, φr, ηr, τr, r1, ψr, hG, hk, hM, ht, hr, hRel⟩ := P u0 φ η τ ψ hv p1 hRel
  refine lv_aload_n hx hb dL_law_692 rfl (lv_at hl 3 rfl) ?_
  refine lv_aload_n hx hb dL_law_693 rfl (lv_at hl 4 rfl) ?_
  refine lv_iload hx hb dL_law_694 (lv_at hl 0 rfl) ?_
  refine lv_iconst (v := 1) hx hb dL_law_696 (by decide) ?_
  refine lv_iadd hx hb dL_law_697 ?_
  refine lx_sc hx hb hX hbl hbA hL hi1 dL_law_698 ?_
  rw [hp1]
  refine lv_aload_n hx hb dL_law_699 rfl (lv_at hl 1 rfl) ?_
  refine lx_help (n := 3) (As := [.ref (b 6 0), .int p1, .ref q]) (rest := []) (r1 := hkc 1 k0) S (c_L_delete l hl0 D cI cF cL b q f N u0 φ η τ p1 k0 r0 u0r φr ηr τr hG hk) aM_RL_147 aS_L_delete aN_RL aW_L_delete rfl rfl (by decide +kernel) rfl ⟨Nat.le_of_ble_eq_true rfl, Nat.le_of_ble_eq_true rfl⟩ (lc_room hnc hns (by decide) (by decide)) hL hC hl.1 (Nat.le_of_ble_eq_true rfl) dL_law_700 (fun u f1 H locs hsm hf1 hL => ?_)
  refine lv_istore (lv' := [(5, .int (hkc 1 k0)), (4, .int v4), (3, .ref q), (2, .ref (a 0)), (1, .ref (b 6 0)), (0, .ref sb)]) hx hb dL_law_703 hl (by decide) rfl (fun ls hl => ?_)
  refine lv_aload_n hx hb dL_law_705 rfl (lv_at hl 3 rfl) ?_
  refine lv_aload_n hx hb dL_law_706 rfl (lv_at hl 5 rfl) ?_
  refine lv_iload hx hb dL_law_707 (lv_at hl 1 rfl) ?_
  refine lv_iconst (v := 1) hx hb dL_law_709 (by decide) ?_
  refine lv_iadd hx hb dL_law_710 ?_
  refine lx_sc hx hb hX hbl hbA hL hi1 dL_law_711 ?_
  rw [hp1]
  refine lx_mod (n := 1) (As := [.int p1]) (rest := []) S (c_X9_delete l D cI a N ψ p1 hv r1 ψr hM) aM_RL_149 aI_X9_delete aV_X9_delete aC_X9_delete rfl rfl (by decide +kernel) rfl ⟨Nat.le_of_ble_eq_true rfl, Nat.le_of_ble_eq_true rfl⟩ (lc_room hnc hns (by decide) (by decide)) hL hC hl.1 (Nat.le_of_ble_eq_true rfl) dL_law_712 (fun r H locs hr9 hL => ?_)
  rw [hr9]
  refine lv_istore (lv' := [(6, .int r1), (5, .int (hkc 1 k0)), (4, .int v4), (3, .ref q), (2, .ref (a 0)), (1, .ref (b 6 0)), (0, .ref sb)]) hx hb dL_law_715 hl (by decide) rfl (fun ls hl => ?_)
  refine lv_aload_n hx hb dL_law_717 rfl (lv_at hl 4 rfl) ?_
  refine lx_thr S aM_RL_118 ⟨Nat.le_of_ble_eq_true rfl, Nat.le_of_ble_eq_true rfl⟩ (lc_room hnc hns (by decide) (by decide)) hL hC hl.1 (Nat.le_of_ble_eq_true rfl) dL_law_718 ?_
  rw [ht]
  refine lv_iload hx hb dL_law_721 (lv_at hl 1 rfl) ?_
  refine lv_icmp_eq (tgt := 728) hx hb dL_law_723 (by decide) (fun _ => ?_) (fun hc => absurd rfl hc)
  refine lv_iload hx hb dL_law_728 (lv_at hl 1 rfl) ?_
  by_cases hz0 : k0 = 0
  · refine lv_if_ne (tgt := 745) hx hb dL_law_730 (by decide) (fun hc => absurd (hkc_0 hz0) hc) (fun _ => ?_)
    refine lv_aload_n hx hb dL_law_733 rfl (lv_at hl 3 rfl) ?_
    refine lv_iconst (v := 0) hx hb dL_law_734 (by decide) ?_
    refine lx_out hx hb hL hC dL_law_735 ?_
    refine lv_iload hx hb dL_law_736 (lv_at hl 0 rfl) ?_
    refine lv_i2l hx hb dL_law_738 rfl ?_
    refine lx_lcmp hx hb dL_law_739 (by rw [hf1 hz0, hr hz0]) ?_
    refine lv_if_eq (tgt := 745) hx hb dL_law_740 (by decide) (fun _ => ?_) (fun hc => absurd rfl hc)
    refine lv_goto (tgt := 2083) hx hb dL_law_745 (by decide) ?_
    refine W.widen (k := nc + 8) (n := ns + 48) (by omega) (by omega) ?_
    exact kk u u0r φr ηr τr f1 ψr hv _ _ _ hRel hL (congrFun hsm.2.2.1 0) (lv_sub hl [2, 3, 4, 5, 6] rfl)
  · refine lv_if_ne (tgt := 745) hx hb dL_law_730 (by decide) (fun _ => ?_) (fun hc => absurd hc (hkc_ne hz0))
    refine lv_goto (tgt := 2083) hx hb dL_law_745 (by decide) ?_
    refine W.widen (k := nc + 8) (n := ns + 48) (by omega) (by omega) ?_
    exact kk u u0r φr ηr τr f1 ψr hv _ _ _ hRel hL (congrFun hsm.2.2.1 0) (lv_sub hl [2, 3, 4, 5, 6] rfl)
set_option maxHeartbeats 4000000 in
set_option maxRecDepth 100000 in
theorem lc_10 (P : Pk10 N Rel) (hRel : Rel u0 φ η τ ψ hv) (hl0 : l.stackTraces = false) (hx : p.tables.exec = Jvm.exec) (hb : c.code = cL_law) (S : CallFix p m c cL_law 7 s args AW RL) (hC : lxC D A0 cI cF cL s) (hX : va_X sb L xs s s.heap) (hbl : sb < s.heap.size) (hbA : ¬ A0 sb) (hi1 : vp_in (v4 + 1) L) (hi2 : vp_in (v4 + 2) L) (hi3 : vp_in (v4 + 3) L) (hi4 : vp_in (v4 + 4) L) (hp1 : xs (v4 + 1).toNatClampNeg = p1) (hp2 : xs (v4 + 2).toNatClampNeg = p2) (hp3 : xs (v4 + 3).toNatClampNeg = p3) (hp4 : xs (v4 + 4).toNatClampNeg = p4) (hnc : nc + 8 ≤ 601024) (hns : ns + 48 ≤ 7293034) (hL : lxS D A0 s.heap cI cF cL b q u0 φ η τ f a ψ hv H locs) (hl : lv_has ls 7 [(4, .int v4), (3, .ref q), (2, .ref (a 0)), (1, .ref (b 6 0)), (0, .ref sb)]) (kk : ∀ (u : Bf) (u0r φr : M2) (ηr : HT) (τr : M2) (fr : Nat → Int64) (ψr : M2) (hvr : Int64) (H1 : Heap) (locs1 : List Loc) (ls1 : Array Slot), Rel u0r φr ηr τr ψr hvr → lxS D A0 s.heap cI cF cL u q u0r φr ηr τr fr a ψr hvr H1 locs1 → u 6 0 = b 6 0 → lv_has ls1 7 [(4, .int v4), (3, .ref q), (2, .ref (a 0)), (1, .ref (b 6 0)), (0, .ref sb)] → W p l e room_1 s m args below meth c H1 locs1 (nc + 8) (ns + 48) Q (F0 m 2083 ls1 [])) : W p l e room_1 s m args below meth c H locs nc ns Q (F0 m 748 ls []) := by
  obtain ⟨k0, r0, u0r, φr, ηr, τr, r1, ψr, hG, hk, hM, ht, hr, hRel⟩ := P u0 φ η τ ψ hv hRel
  refine lv_aload_n hx hb dL_law_748 rfl (lv_at hl 3 rfl) ?_
  refine lv_aload_n hx hb dL_law_749 rfl (lv_at hl 1 rfl) ?_
  refine lx_help (n := 2) (As := [.ref (b 6 0), .ref q]) (rest := []) (r1 := hkc 2 k0) S (c_L_grow l hl0 D cI cF cL b q f N u0 φ η τ k0 r0 u0r φr ηr τr hG hk) aM_RL_150 aS_L_grow aN_RL aW_L_grow rfl rfl (by decide +kernel) rfl ⟨Nat.le_of_ble_eq_true rfl, Nat.le_of_ble_eq_true rfl⟩ (lc_room hnc hns (by decide) (by decide)) hL hC hl.1 (Nat.le_of_ble_eq_true rfl) dL_law_750 (fun u f1 H locs hsm hf1 hL => ?_)
  refine lv_istore (lv' := [(5, .int (hkc 2 k0)), (4, .int v4), (3, .ref q), (2, .ref (a 0)), (1, .ref (b 6 0)), (0, .ref sb)]) hx hb dL_law_753 hl (by decide) rfl (fun ls hl => ?_)
  refine lv_aload_n hx hb dL_law_755 rfl (lv_at hl 3 rfl) ?_
  refine lx_mod (n := 0) (As := []) (rest := []) S (c_X9_grow l D cI a N ψ hv r1 ψr hM) aM_RL_153 aI_X9_grow aV_X9_grow aC_X9_grow rfl rfl (by decide +kernel) rfl ⟨Nat.le_of_ble_eq_true rfl, Nat.le_of_ble_eq_true rfl⟩ (lc_room hnc hns (by decide) (by decide)) hL hC hl.1 (Nat.le_of_ble_eq_true rfl) dL_law_756 (fun r H locs hr9 hL => ?_)
  rw [hr9]
  refine lv_istore (lv' := [(6, .int r1), (5, .int (hkc 2 k0)), (4, .int v4), (3, .ref q), (2, .ref (a 0)), (1, .ref (b 6 0)), (0, .ref sb)]) hx hb dL_law_759 hl (by decide) rfl (fun ls hl => ?_)
  refine lv_aload_n hx hb dL_law_761 rfl (lv_at hl 4 rfl) ?_
  refine lx_thr S aM_RL_118 ⟨Nat.le_of_ble_eq_true rfl, Nat.le_of_ble_eq_true rfl⟩ (lc_room hnc hns (by decide) (by decide)) hL hC hl.1 (Nat.le_of_ble_eq_true rfl) dL_law_762 ?_
  rw [ht]
  refine lv_iload hx hb dL_law_765 (lv_at hl 1 rfl) ?_
  refine lv_icmp_eq (tgt := 772) hx hb dL_law_767 (by decide) (fun _ => ?_) (fun hc => absurd rfl hc)
  refine lv_iload hx hb dL_law_772 (lv_at hl 1 rfl) ?_
  by_cases hz0 : k0 = 0
  · refine lv_if_ne (tgt := 789) hx hb dL_law_774 (by decide) (fun hc => absurd (hkc_0 hz0) hc) (fun _ => ?_)
    refine lv_aload_n hx hb dL_law_777 rfl (lv_at hl 3 rfl) ?_
    refine lv_iconst (v := 0) hx hb dL_law_778 (by decide) ?_
    refine lx_out hx hb hL hC dL_law_779 ?_
    refine lv_iload hx hb dL_law_780 (lv_at hl 0 rfl) ?_
    refine lv_i2l hx hb dL_law_782 rfl ?_
    refine lx_lcmp hx hb dL_law_783 (by rw [hf1 hz0, hr hz0]) ?_
    refine lv_if_eq (tgt := 789) hx hb dL_law_784 (by decide) (fun _ => ?_) (fun hc => absurd rfl hc)
    refine lv_goto (tgt := 2083) hx hb dL_law_789 (by decide) ?_
    refine W.widen (k := nc + 8) (n := ns + 48) (by omega) (by omega) ?_
    exact kk u u0r φr ηr τr f1 ψr hv _ _ _ hRel hL (congrFun hsm.2.2.1 0) (lv_sub hl [2, 3, 4, 5, 6] rfl)
  · refine lv_if_ne (tgt := 789) hx hb dL_law_774 (by decide) (fun _ => ?_) (fun hc => absurd hc (hkc_ne hz0))
    refine lv_goto (tgt := 2083) hx hb dL_law_789 (by decide) ?_
    refine W.widen (k := nc + 8) (n := ns + 48) (by omega) (by omega) ?_
    exact kk u u0r φr ηr τr f1 ψr hv _ _ _ hRel hL (congrFun hsm.2.2.1 0) (lv_sub hl [2, 3, 4, 5, 6] rfl)
set_option maxHeartbeats 4000000 in
set_option maxRecDepth 100000 in
theorem lc_11 (P : Pk11 N Rel) (hRel : Rel u0 φ η τ ψ hv) (hl0 : l.stackTraces = false) (hx : p.tables.exec = Jvm.exec) (hb : c.code = cL_law) (S : CallFix p m c cL_law 7 s args AW RL) (hC : lxC D A0 cI cF cL s) (hX : va_X sb L xs s s.heap) (hbl : sb < s.heap.size) (hbA : ¬ A0 sb) (hi1 : vp_in (v4 + 1) L) (hi2 : vp_in (v4 + 2) L) (hi3 : vp_in (v4 + 3) L) (hi4 : vp_in (v4 + 4) L) (hp1 : xs (v4 + 1).toNatClampNeg = p1) (hp2 : xs (v4 + 2).toNatClampNeg = p2) (hp3 : xs (v4 + 3).toNatClampNeg = p3) (hp4 : xs (v4 + 4).toNatClampNeg = p4) (hnc : nc + 8 ≤ 601024) (hns : ns + 48 ≤ 7293034) (hL : lxS D A0 s.heap cI cF cL b q u0 φ η τ f a ψ hv H locs) (hl : lv_has ls 7 [(4, .int v4), (3, .ref q), (2, .ref (a 0)), (1, .ref (b 6 0)), (0, .ref sb)]) (kk : ∀ (u : Bf) (u0r φr : M2) (ηr : HT) (τr : M2) (fr : Nat → Int64) (ψr : M2) (hvr : Int64) (H1 : Heap) (locs1 : List Loc) (ls1 : Array Slot), Rel u0r φr ηr τr ψr hvr → lxS D A0 s.heap cI cF cL u q u0r φr ηr τr fr a ψr hvr H1 locs1 → u 6 0 = b 6 0 → lv_has ls1 7 [(4, .int v4), (3, .ref q), (2, .ref (a 0)), (1, .ref (b 6 0)), (0, .ref sb)] → W p l e room_1 s m args below meth c H1 locs1 (nc + 8) (ns + 48) Q (F0 m 2083 ls1 [])) : W p l e room_1 s m args below meth c H locs nc ns Q (F0 m 792 ls []) := by
  obtain ⟨k0, r0, u0r, φr, ηr, τr, r1, ψr, hG, hk, hM, ht, hr, hRel⟩ := P u0 φ η τ ψ hv p1 p2 p3 p4 hRel
  refine lv_aload_n hx hb dL_law_792 rfl (lv_at hl 3 rfl) ?_
  refine lv_aload_n hx hb dL_law_793 rfl (lv_at hl 4 rfl) ?_
  refine lv_iload hx hb dL_law_794 (lv_at hl 0 rfl) ?_
  refine lv_iconst (v := 1) hx hb dL_law_796 (by decide) ?_
  refine lv_iadd hx hb dL_law_797 ?_
  refine lx_sc hx hb hX hbl hbA hL hi1 dL_law_798 ?_
  rw [hp1]
  refine lv_aload_n hx hb dL_law_799 rfl (lv_at hl 4 rfl) ?_
  refine lv_iload hx hb dL_law_800 (lv_at hl 0 rfl) ?_
  refine lv_iconst (v := 2) hx hb dL_law_802 (by decide) ?_
  refine lv_iadd hx hb dL_law_803 ?_
  refine lx_sc hx hb hX hbl hbA hL hi2 dL_law_804 ?_
  rw [hp2]
  refine lv_aload_n hx hb dL_law_805 rfl (lv_at hl 4 rfl) ?_
  refine lv_iload hx hb dL_law_806 (lv_at hl 0 rfl) ?_
  refine lv_iconst (v := 3) hx hb dL_law_808 (by decide) ?_
  refine lv_iadd hx hb dL_law_809 ?_
  refine lx_sc hx hb hX hbl hbA hL hi3 dL_law_810 ?_
  rw [hp3]
  refine lv_aload_n hx hb dL_law_811 rfl (lv_at hl 4 rfl) ?_
  refine lv_iload hx hb dL_law_812 (lv_at hl 0 rfl) ?_
  refine lv_iconst (v := 4) hx hb dL_law_814 (by decide) ?_
  refine lv_iadd hx hb dL_law_815 ?_
  refine lx_sc hx hb hX hbl hbA hL hi4 dL_law_816 ?_
  rw [hp4]
  refine lv_aload_n hx hb dL_law_817 rfl (lv_at hl 1 rfl) ?_
  refine lx_help (n := 6) (As := [.ref (b 6 0), .int p1, .int p2, .int p3, .int p4, .ref q]) (rest := []) (r1 := hkc 1 k0) S (c_L_rebuild l hl0 D cI cF cL b q f N u0 φ η τ p1 p2 p3 p4 k0 r0 u0r φr ηr τr hG hk) aM_RL_154 aS_L_rebuild aN_RL aW_L_rebuild rfl rfl (by decide +kernel) rfl ⟨Nat.le_of_ble_eq_true rfl, Nat.le_of_ble_eq_true rfl⟩ (lc_room hnc hns (by decide) (by decide)) hL hC hl.1 (Nat.le_of_ble_eq_true rfl) dL_law_818 (fun u f1 H locs hsm hf1 hL => ?_)
  refine lv_istore (lv' := [(5, .int (hkc 1 k0)), (4, .int v4), (3, .ref q), (2, .ref (a 0)), (1, .ref (b 6 0)), (0, .ref sb)]) hx hb dL_law_821 hl (by decide) rfl (fun ls hl => ?_)
  refine lv_aload_n hx hb dL_law_823 rfl (lv_at hl 3 rfl) ?_
  refine lv_aload_n hx hb dL_law_824 rfl (lv_at hl 5 rfl) ?_
  refine lv_iload hx hb dL_law_825 (lv_at hl 1 rfl) ?_
  refine lv_iconst (v := 1) hx hb dL_law_827 (by decide) ?_
  refine lv_iadd hx hb dL_law_828 ?_
  refine lx_sc hx hb hX hbl hbA hL hi1 dL_law_829 ?_
  rw [hp1]
  refine lv_aload_n hx hb dL_law_830 rfl (lv_at hl 5 rfl) ?_
  refine lv_iload hx hb dL_law_831 (lv_at hl 1 rfl) ?_
  refine lv_iconst (v := 2) hx hb dL_law_833 (by decide) ?_
  refine lv_iadd hx hb dL_law_834 ?_
  refine lx_sc hx hb hX hbl hbA hL hi2 dL_law_835 ?_
  rw [hp2]
  refine lv_aload_n hx hb dL_law_836 rfl (lv_at hl 5 rfl) ?_
  refine lv_iload hx hb dL_law_837 (lv_at hl 1 rfl) ?_
  refine lv_iconst (v := 3) hx hb dL_law_839 (by decide) ?_
  refine lv_iadd hx hb dL_law_840 ?_
  refine lx_sc hx hb hX hbl hbA hL hi3 dL_law_841 ?_
  rw [hp3]
  refine lv_aload_n hx hb dL_law_842 rfl (lv_at hl 5 rfl) ?_
  refine lv_iload hx hb dL_law_843 (lv_at hl 1 rfl) ?_
  refine lv_iconst (v := 4) hx hb dL_law_845 (by decide) ?_
  refine lv_iadd hx hb dL_law_846 ?_
  refine lx_sc hx hb hX hbl hbA hL hi4 dL_law_847 ?_
  rw [hp4]
  refine lx_mod (n := 4) (As := [.int p1, .int p2, .int p3, .int p4]) (rest := []) S (c_X9_rebuild l D cI a N ψ p1 p2 p3 p4 hv r1 ψr hM) aM_RL_157 aI_X9_rebuild aV_X9_rebuild aC_X9_rebuild rfl rfl (by decide +kernel) rfl ⟨Nat.le_of_ble_eq_true rfl, Nat.le_of_ble_eq_true rfl⟩ (lc_room hnc hns (by decide) (by decide)) hL hC hl.1 (Nat.le_of_ble_eq_true rfl) dL_law_848 (fun r H locs hr9 hL => ?_)
  rw [hr9]
  refine lv_istore (lv' := [(6, .int r1), (5, .int (hkc 1 k0)), (4, .int v4), (3, .ref q), (2, .ref (a 0)), (1, .ref (b 6 0)), (0, .ref sb)]) hx hb dL_law_851 hl (by decide) rfl (fun ls hl => ?_)
  refine lv_aload_n hx hb dL_law_853 rfl (lv_at hl 4 rfl) ?_
  refine lx_thr S aM_RL_118 ⟨Nat.le_of_ble_eq_true rfl, Nat.le_of_ble_eq_true rfl⟩ (lc_room hnc hns (by decide) (by decide)) hL hC hl.1 (Nat.le_of_ble_eq_true rfl) dL_law_854 ?_
  rw [ht]
  refine lv_iload hx hb dL_law_857 (lv_at hl 1 rfl) ?_
  refine lv_icmp_eq (tgt := 864) hx hb dL_law_859 (by decide) (fun _ => ?_) (fun hc => absurd rfl hc)
  refine lv_iload hx hb dL_law_864 (lv_at hl 1 rfl) ?_
  by_cases hz0 : k0 = 0
  · refine lv_if_ne (tgt := 881) hx hb dL_law_866 (by decide) (fun hc => absurd (hkc_0 hz0) hc) (fun _ => ?_)
    refine lv_aload_n hx hb dL_law_869 rfl (lv_at hl 3 rfl) ?_
    refine lv_iconst (v := 0) hx hb dL_law_870 (by decide) ?_
    refine lx_out hx hb hL hC dL_law_871 ?_
    refine lv_iload hx hb dL_law_872 (lv_at hl 0 rfl) ?_
    refine lv_i2l hx hb dL_law_874 rfl ?_
    refine lx_lcmp hx hb dL_law_875 (by rw [hf1 hz0, hr hz0]) ?_
    refine lv_if_eq (tgt := 881) hx hb dL_law_876 (by decide) (fun _ => ?_) (fun hc => absurd rfl hc)
    refine lv_goto (tgt := 2083) hx hb dL_law_881 (by decide) ?_
    refine W.widen (k := nc + 8) (n := ns + 48) (by omega) (by omega) ?_
    exact kk u u0r φr ηr τr f1 ψr hv _ _ _ hRel hL (congrFun hsm.2.2.1 0) (lv_sub hl [2, 3, 4, 5, 6] rfl)
  · refine lv_if_ne (tgt := 881) hx hb dL_law_866 (by decide) (fun _ => ?_) (fun hc => absurd hc (hkc_ne hz0))
    refine lv_goto (tgt := 2083) hx hb dL_law_881 (by decide) ?_
    refine W.widen (k := nc + 8) (n := ns + 48) (by omega) (by omega) ?_
    exact kk u u0r φr ηr τr f1 ψr hv _ _ _ hRel hL (congrFun hsm.2.2.1 0) (lv_sub hl [2, 3, 4, 5, 6] rfl)
set_option maxHeartbeats 4000000 in
set_option maxRecDepth 100000 in
theorem lc_12 (P : Pk12 N Rel) (hRel : Rel u0 φ η τ ψ hv) (hl0 : l.stackTraces = false) (hx : p.tables.exec = Jvm.exec) (hb : c.code = cL_law) (S : CallFix p m c cL_law 7 s args AW RL) (hC : lxC D A0 cI cF cL s) (hX : va_X sb L xs s s.heap) (hbl : sb < s.heap.size) (hbA : ¬ A0 sb) (hi1 : vp_in (v4 + 1) L) (hi2 : vp_in (v4 + 2) L) (hi3 : vp_in (v4 + 3) L) (hi4 : vp_in (v4 + 4) L) (hp1 : xs (v4 + 1).toNatClampNeg = p1) (hp2 : xs (v4 + 2).toNatClampNeg = p2) (hp3 : xs (v4 + 3).toNatClampNeg = p3) (hp4 : xs (v4 + 4).toNatClampNeg = p4) (hnc : nc + 8 ≤ 601024) (hns : ns + 48 ≤ 7293034) (hL : lxS D A0 s.heap cI cF cL b q u0 φ η τ f a ψ hv H locs) (hl : lv_has ls 7 [(4, .int v4), (3, .ref q), (2, .ref (a 0)), (1, .ref (b 6 0)), (0, .ref sb)]) (kk : ∀ (u : Bf) (u0r φr : M2) (ηr : HT) (τr : M2) (fr : Nat → Int64) (ψr : M2) (hvr : Int64) (H1 : Heap) (locs1 : List Loc) (ls1 : Array Slot), Rel u0r φr ηr τr ψr hvr → lxS D A0 s.heap cI cF cL u q u0r φr ηr τr fr a ψr hvr H1 locs1 → u 6 0 = b 6 0 → lv_has ls1 7 [(4, .int v4), (3, .ref q), (2, .ref (a 0)), (1, .ref (b 6 0)), (0, .ref sb)] → W p l e room_1 s m args below meth c H1 locs1 (nc + 8) (ns + 48) Q (F0 m 2083 ls1 [])) : W p l e room_1 s m args below meth c H locs nc ns Q (F0 m 884 ls []) := by
  obtain ⟨k0, r0, u0r, φr, ηr, τr, r1, ψr, hG, hk, hM, ht, hr, hRel⟩ := P u0 φ η τ ψ hv p1 hRel
  refine lv_aload_n hx hb dL_law_884 rfl (lv_at hl 3 rfl) ?_
  refine lv_aload_n hx hb dL_law_885 rfl (lv_at hl 4 rfl) ?_
  refine lv_iload hx hb dL_law_886 (lv_at hl 0 rfl) ?_
  refine lv_iconst (v := 1) hx hb dL_law_888 (by decide) ?_
  refine lv_iadd hx hb dL_law_889 ?_
  refine lx_sc hx hb hX hbl hbA hL hi1 dL_law_890 ?_
  rw [hp1]
  refine lv_aload_n hx hb dL_law_891 rfl (lv_at hl 1 rfl) ?_
  refine lx_help (n := 3) (As := [.ref (b 6 0), .int p1, .ref q]) (rest := []) (r1 := hkc 1 k0) S (c_L_setLimit l hl0 D cI cF cL b q f N u0 φ η τ p1 k0 r0 u0r φr ηr τr hG hk) aM_RL_158 aS_L_setLimit aN_RL aW_L_setLimit rfl rfl (by decide +kernel) rfl ⟨Nat.le_of_ble_eq_true rfl, Nat.le_of_ble_eq_true rfl⟩ (lc_room hnc hns (by decide) (by decide)) hL hC hl.1 (Nat.le_of_ble_eq_true rfl) dL_law_892 (fun u f1 H locs hsm hf1 hL => ?_)
  refine lv_istore (lv' := [(5, .int (hkc 1 k0)), (4, .int v4), (3, .ref q), (2, .ref (a 0)), (1, .ref (b 6 0)), (0, .ref sb)]) hx hb dL_law_895 hl (by decide) rfl (fun ls hl => ?_)
  refine lv_aload_n hx hb dL_law_897 rfl (lv_at hl 3 rfl) ?_
  refine lv_aload_n hx hb dL_law_898 rfl (lv_at hl 5 rfl) ?_
  refine lv_iload hx hb dL_law_899 (lv_at hl 1 rfl) ?_
  refine lv_iconst (v := 1) hx hb dL_law_901 (by decide) ?_
  refine lv_iadd hx hb dL_law_902 ?_
  refine lx_sc hx hb hX hbl hbA hL hi1 dL_law_903 ?_
  rw [hp1]
  refine lx_mod (n := 1) (As := [.int p1]) (rest := []) S (c_X9_setLimit l D cI a N ψ p1 hv r1 ψr hM) aM_RL_160 aI_X9_setLimit aV_X9_setLimit aC_X9_setLimit rfl rfl (by decide +kernel) rfl ⟨Nat.le_of_ble_eq_true rfl, Nat.le_of_ble_eq_true rfl⟩ (lc_room hnc hns (by decide) (by decide)) hL hC hl.1 (Nat.le_of_ble_eq_true rfl) dL_law_904 (fun r H locs hr9 hL => ?_)
  rw [hr9]
  refine lv_istore (lv' := [(6, .int r1), (5, .int (hkc 1 k0)), (4, .int v4), (3, .ref q), (2, .ref (a 0)), (1, .ref (b 6 0)), (0, .ref sb)]) hx hb dL_law_907 hl (by decide) rfl (fun ls hl => ?_)
  refine lv_aload_n hx hb dL_law_909 rfl (lv_at hl 4 rfl) ?_
  refine lx_thr S aM_RL_118 ⟨Nat.le_of_ble_eq_true rfl, Nat.le_of_ble_eq_true rfl⟩ (lc_room hnc hns (by decide) (by decide)) hL hC hl.1 (Nat.le_of_ble_eq_true rfl) dL_law_910 ?_
  rw [ht]
  refine lv_iload hx hb dL_law_913 (lv_at hl 1 rfl) ?_
  refine lv_icmp_eq (tgt := 920) hx hb dL_law_915 (by decide) (fun _ => ?_) (fun hc => absurd rfl hc)
  refine lv_iload hx hb dL_law_920 (lv_at hl 1 rfl) ?_
  by_cases hz0 : k0 = 0
  · refine lv_if_ne (tgt := 937) hx hb dL_law_922 (by decide) (fun hc => absurd (hkc_0 hz0) hc) (fun _ => ?_)
    refine lv_aload_n hx hb dL_law_925 rfl (lv_at hl 3 rfl) ?_
    refine lv_iconst (v := 0) hx hb dL_law_926 (by decide) ?_
    refine lx_out hx hb hL hC dL_law_927 ?_
    refine lv_iload hx hb dL_law_928 (lv_at hl 0 rfl) ?_
    refine lv_i2l hx hb dL_law_930 rfl ?_
    refine lx_lcmp hx hb dL_law_931 (by rw [hf1 hz0, hr hz0]) ?_
    refine lv_if_eq (tgt := 937) hx hb dL_law_932 (by decide) (fun _ => ?_) (fun hc => absurd rfl hc)
    refine lv_goto (tgt := 2083) hx hb dL_law_937 (by decide) ?_
    refine W.widen (k := nc + 8) (n := ns + 48) (by omega) (by omega) ?_
    exact kk u u0r φr ηr τr f1 ψr hv _ _ _ hRel hL (congrFun hsm.2.2.1 0) (lv_sub hl [2, 3, 4, 5, 6] rfl)
  · refine lv_if_ne (tgt := 937) hx hb dL_law_922 (by decide) (fun _ => ?_) (fun hc => absurd hc (hkc_ne hz0))
    refine lv_goto (tgt := 2083) hx hb dL_law_937 (by decide) ?_
    refine W.widen (k := nc + 8) (n := ns + 48) (by omega) (by omega) ?_
    exact kk u u0r φr ηr τr f1 ψr hv _ _ _ hRel hL (congrFun hsm.2.2.1 0) (lv_sub hl [2, 3, 4, 5, 6] rfl)
set_option maxHeartbeats 4000000 in
set_option maxRecDepth 100000 in
theorem lc_13 (P : Pk13 N Rel) (hRel : Rel u0 φ η τ ψ hv) (hl0 : l.stackTraces = false) (hx : p.tables.exec = Jvm.exec) (hb : c.code = cL_law) (S : CallFix p m c cL_law 7 s args AW RL) (hC : lxC D A0 cI cF cL s) (hX : va_X sb L xs s s.heap) (hbl : sb < s.heap.size) (hbA : ¬ A0 sb) (hi1 : vp_in (v4 + 1) L) (hi2 : vp_in (v4 + 2) L) (hi3 : vp_in (v4 + 3) L) (hi4 : vp_in (v4 + 4) L) (hp1 : xs (v4 + 1).toNatClampNeg = p1) (hp2 : xs (v4 + 2).toNatClampNeg = p2) (hp3 : xs (v4 + 3).toNatClampNeg = p3) (hp4 : xs (v4 + 4).toNatClampNeg = p4) (hnc : nc + 8 ≤ 601024) (hns : ns + 48 ≤ 7293034) (hL : lxS D A0 s.heap cI cF cL b q u0 φ η τ f a ψ hv H locs) (hl : lv_has ls 7 [(4, .int v4), (3, .ref q), (2, .ref (a 0)), (1, .ref (b 6 0)), (0, .ref sb)]) (kk : ∀ (u : Bf) (u0r φr : M2) (ηr : HT) (τr : M2) (fr : Nat → Int64) (ψr : M2) (hvr : Int64) (H1 : Heap) (locs1 : List Loc) (ls1 : Array Slot), Rel u0r φr ηr τr ψr hvr → lxS D A0 s.heap cI cF cL u q u0r φr ηr τr fr a ψr hvr H1 locs1 → u 6 0 = b 6 0 → lv_has ls1 7 [(4, .int v4), (3, .ref q), (2, .ref (a 0)), (1, .ref (b 6 0)), (0, .ref sb)] → W p l e room_1 s m args below meth c H1 locs1 (nc + 8) (ns + 48) Q (F0 m 2083 ls1 [])) : W p l e room_1 s m args below meth c H locs nc ns Q (F0 m 940 ls []) := by
  obtain ⟨k0, r0, u0r, φr, ηr, τr, r1, ψr, hG, hk, hM, ht, hr, hRel⟩ := P u0 φ η τ ψ hv p1 hRel
  refine lv_aload_n hx hb dL_law_940 rfl (lv_at hl 3 rfl) ?_
  refine lv_aload_n hx hb dL_law_941 rfl (lv_at hl 4 rfl) ?_
  refine lv_iload hx hb dL_law_942 (lv_at hl 0 rfl) ?_
  refine lv_iconst (v := 1) hx hb dL_law_944 (by decide) ?_
  refine lv_iadd hx hb dL_law_945 ?_
  refine lx_sc hx hb hX hbl hbA hL hi1 dL_law_946 ?_
  rw [hp1]
  refine lv_aload_n hx hb dL_law_947 rfl (lv_at hl 1 rfl) ?_
  refine lx_help (n := 3) (As := [.ref (b 6 0), .int p1, .ref q]) (rest := []) (r1 := hkc 1 k0) S (c_L_setLength l hl0 D cI cF cL b q f N u0 φ η τ p1 k0 r0 u0r φr ηr τr hG hk) aM_RL_161 aS_L_setLength aN_RL aW_L_setLength rfl rfl (by decide +kernel) rfl ⟨Nat.le_of_ble_eq_true rfl, Nat.le_of_ble_eq_true rfl⟩ (lc_room hnc hns (by decide) (by decide)) hL hC hl.1 (Nat.le_of_ble_eq_true rfl) dL_law_948 (fun u f1 H locs hsm hf1 hL => ?_)
  refine lv_istore (lv' := [(5, .int (hkc 1 k0)), (4, .int v4), (3, .ref q), (2, .ref (a 0)), (1, .ref (b 6 0)), (0, .ref sb)]) hx hb dL_law_951 hl (by decide) rfl (fun ls hl => ?_)
  refine lv_aload_n hx hb dL_law_953 rfl (lv_at hl 3 rfl) ?_
  refine lv_aload_n hx hb dL_law_954 rfl (lv_at hl 5 rfl) ?_
  refine lv_iload hx hb dL_law_955 (lv_at hl 1 rfl) ?_
  refine lv_iconst (v := 1) hx hb dL_law_957 (by decide) ?_
  refine lv_iadd hx hb dL_law_958 ?_
  refine lx_sc hx hb hX hbl hbA hL hi1 dL_law_959 ?_
  rw [hp1]
  refine lx_mod (n := 1) (As := [.int p1]) (rest := []) S (c_X9_setLength l D cI a N ψ p1 hv r1 ψr hM) aM_RL_163 aI_X9_setLength aV_X9_setLength aC_X9_setLength rfl rfl (by decide +kernel) rfl ⟨Nat.le_of_ble_eq_true rfl, Nat.le_of_ble_eq_true rfl⟩ (lc_room hnc hns (by decide) (by decide)) hL hC hl.1 (Nat.le_of_ble_eq_true rfl) dL_law_960 (fun r H locs hr9 hL => ?_)
  rw [hr9]
  refine lv_istore (lv' := [(6, .int r1), (5, .int (hkc 1 k0)), (4, .int v4), (3, .ref q), (2, .ref (a 0)), (1, .ref (b 6 0)), (0, .ref sb)]) hx hb dL_law_963 hl (by decide) rfl (fun ls hl => ?_)
  refine lv_aload_n hx hb dL_law_965 rfl (lv_at hl 4 rfl) ?_
  refine lx_thr S aM_RL_118 ⟨Nat.le_of_ble_eq_true rfl, Nat.le_of_ble_eq_true rfl⟩ (lc_room hnc hns (by decide) (by decide)) hL hC hl.1 (Nat.le_of_ble_eq_true rfl) dL_law_966 ?_
  rw [ht]
  refine lv_iload hx hb dL_law_969 (lv_at hl 1 rfl) ?_
  refine lv_icmp_eq (tgt := 976) hx hb dL_law_971 (by decide) (fun _ => ?_) (fun hc => absurd rfl hc)
  refine lv_iload hx hb dL_law_976 (lv_at hl 1 rfl) ?_
  by_cases hz0 : k0 = 0
  · refine lv_if_ne (tgt := 993) hx hb dL_law_978 (by decide) (fun hc => absurd (hkc_0 hz0) hc) (fun _ => ?_)
    refine lv_aload_n hx hb dL_law_981 rfl (lv_at hl 3 rfl) ?_
    refine lv_iconst (v := 0) hx hb dL_law_982 (by decide) ?_
    refine lx_out hx hb hL hC dL_law_983 ?_
    refine lv_iload hx hb dL_law_984 (lv_at hl 0 rfl) ?_
    refine lv_i2l hx hb dL_law_986 rfl ?_
    refine lx_lcmp hx hb dL_law_987 (by rw [hf1 hz0, hr hz0]) ?_
    refine lv_if_eq (tgt := 993) hx hb dL_law_988 (by decide) (fun _ => ?_) (fun hc => absurd rfl hc)
    refine lv_goto (tgt := 2083) hx hb dL_law_993 (by decide) ?_
    refine W.widen (k := nc + 8) (n := ns + 48) (by omega) (by omega) ?_
    exact kk u u0r φr ηr τr f1 ψr hv _ _ _ hRel hL (congrFun hsm.2.2.1 0) (lv_sub hl [2, 3, 4, 5, 6] rfl)
  · refine lv_if_ne (tgt := 993) hx hb dL_law_978 (by decide) (fun _ => ?_) (fun hc => absurd hc (hkc_ne hz0))
    refine lv_goto (tgt := 2083) hx hb dL_law_993 (by decide) ?_
    refine W.widen (k := nc + 8) (n := ns + 48) (by omega) (by omega) ?_
    exact kk u u0r φr ηr τr f1 ψr hv _ _ _ hRel hL (congrFun hsm.2.2.1 0) (lv_sub hl [2, 3, 4, 5, 6] rfl)
set_option maxHeartbeats 4000000 in
set_option maxRecDepth 100000 in
theorem lc_14 (P : Pk14 N Rel) (hRel : Rel u0 φ η τ ψ hv) (hl0 : l.stackTraces = false) (hx : p.tables.exec = Jvm.exec) (hb : c.code = cL_law) (S : CallFix p m c cL_law 7 s args AW RL) (hC : lxC D A0 cI cF cL s) (hX : va_X sb L xs s s.heap) (hbl : sb < s.heap.size) (hbA : ¬ A0 sb) (hi1 : vp_in (v4 + 1) L) (hi2 : vp_in (v4 + 2) L) (hi3 : vp_in (v4 + 3) L) (hi4 : vp_in (v4 + 4) L) (hp1 : xs (v4 + 1).toNatClampNeg = p1) (hp2 : xs (v4 + 2).toNatClampNeg = p2) (hp3 : xs (v4 + 3).toNatClampNeg = p3) (hp4 : xs (v4 + 4).toNatClampNeg = p4) (hnc : nc + 8 ≤ 601024) (hns : ns + 48 ≤ 7293034) (hL : lxS D A0 s.heap cI cF cL b q u0 φ η τ f a ψ hv H locs) (hl : lv_has ls 7 [(4, .int v4), (3, .ref q), (2, .ref (a 0)), (1, .ref (b 6 0)), (0, .ref sb)]) (kk : ∀ (u : Bf) (u0r φr : M2) (ηr : HT) (τr : M2) (fr : Nat → Int64) (ψr : M2) (hvr : Int64) (H1 : Heap) (locs1 : List Loc) (ls1 : Array Slot), Rel u0r φr ηr τr ψr hvr → lxS D A0 s.heap cI cF cL u q u0r φr ηr τr fr a ψr hvr H1 locs1 → u 6 0 = b 6 0 → lv_has ls1 7 [(4, .int v4), (3, .ref q), (2, .ref (a 0)), (1, .ref (b 6 0)), (0, .ref sb)] → W p l e room_1 s m args below meth c H1 locs1 (nc + 8) (ns + 48) Q (F0 m 2083 ls1 [])) : W p l e room_1 s m args below meth c H locs nc ns Q (F0 m 996 ls []) := by
  obtain ⟨k0, r0, u0r, φr, ηr, τr, r1, ψr, hG, h00, hM, hr, hRel⟩ := P u0 φ η τ ψ hv hRel
  refine lv_aload_n hx hb dL_law_996 rfl (lv_at hl 3 rfl) ?_
  refine lx_x (n := 0) (As := []) (rest := []) S (c_X8_clear l hl0 D cI cF b N u0 φ η τ k0 r0 u0r φr ηr τr hG) (fun r u h => ⟨h.2.1, h.2.2⟩) h00 aM_RL_164 aI_X8_clear aV_X8_clear aC_X8_clear rfl rfl (by decide +kernel) rfl ⟨Nat.le_of_ble_eq_true rfl, Nat.le_of_ble_eq_true rfl⟩ (lc_room hnc hns (by decide) (by decide)) hL hC hl.1 (Nat.le_of_ble_eq_true rfl) dL_law_997 (fun u H locs hsm hL => ?_)
  refine lv_aload_n hx hb dL_law_1000 rfl (lv_at hl 2 rfl) ?_
  refine lx_mod (n := 0) (As := []) (rest := [.int r0]) S (c_X9_clear l D cI a N ψ hv r1 ψr hM) aM_RL_167 aI_X9_clear aV_X9_clear aC_X9_clear rfl rfl (by decide +kernel) rfl ⟨Nat.le_of_ble_eq_true rfl, Nat.le_of_ble_eq_true rfl⟩ (lc_room hnc hns (by decide) (by decide)) hL hC hl.1 (Nat.le_of_ble_eq_true rfl) dL_law_1001 (fun r H locs hr9 hL => ?_)
  rw [hr9]
  refine lv_icmp_eq (tgt := 2083) hx hb dL_law_1004 (by decide) (fun _ => ?_) (fun hc => absurd hr hc)
  refine W.widen (k := nc + 8) (n := ns + 48) (by omega) (by omega) ?_
  exact kk u u0r φr ηr τr f ψr hv _ _ _ hRel hL (congrFun hsm.2.2.1 0) (lv_sub hl [0, 1, 2, 3, 4] rfl)
set_option maxHeartbeats 4000000 in
set_option maxRecDepth 100000 in
theorem lc_15 (P : Pk15 N Rel) (hRel : Rel u0 φ η τ ψ hv) (hl0 : l.stackTraces = false) (hx : p.tables.exec = Jvm.exec) (hb : c.code = cL_law) (S : CallFix p m c cL_law 7 s args AW RL) (hC : lxC D A0 cI cF cL s) (hX : va_X sb L xs s s.heap) (hbl : sb < s.heap.size) (hbA : ¬ A0 sb) (hi1 : vp_in (v4 + 1) L) (hi2 : vp_in (v4 + 2) L) (hi3 : vp_in (v4 + 3) L) (hi4 : vp_in (v4 + 4) L) (hp1 : xs (v4 + 1).toNatClampNeg = p1) (hp2 : xs (v4 + 2).toNatClampNeg = p2) (hp3 : xs (v4 + 3).toNatClampNeg = p3) (hp4 : xs (v4 + 4).toNatClampNeg = p4) (hnc : nc + 8 ≤ 601024) (hns : ns + 48 ≤ 7293034) (hL : lxS D A0 s.heap cI cF cL b q u0 φ η τ f a ψ hv H locs) (hl : lv_has ls 7 [(4, .int v4), (3, .ref q), (2, .ref (a 0)), (1, .ref (b 6 0)), (0, .ref sb)]) (kk : ∀ (u : Bf) (u0r φr : M2) (ηr : HT) (τr : M2) (fr : Nat → Int64) (ψr : M2) (hvr : Int64) (H1 : Heap) (locs1 : List Loc) (ls1 : Array Slot), Rel u0r φr ηr τr ψr hvr → lxS D A0 s.heap cI cF cL u q u0r φr ηr τr fr a ψr hvr H1 locs1 → u 6 0 = b 6 0 → lv_has ls1 7 [(4, .int v4), (3, .ref q), (2, .ref (a 0)), (1, .ref (b 6 0)), (0, .ref sb)] → W p l e room_1 s m args below meth c H1 locs1 (nc + 8) (ns + 48) Q (F0 m 2083 ls1 [])) : W p l e room_1 s m args below meth c H locs nc ns Q (F0 m 1009 ls []) := by
  obtain ⟨k0, r0, u0r, φr, ηr, τr, r1, ψr, hG, hk, hM, ht, hr, hRel⟩ := P u0 φ η τ ψ hv p1 hRel
  refine lv_aload_n hx hb dL_law_1009 rfl (lv_at hl 3 rfl) ?_
  refine lv_aload_n hx hb dL_law_1010 rfl (lv_at hl 4 rfl) ?_
  refine lv_iload hx hb dL_law_1011 (lv_at hl 0 rfl) ?_
  refine lv_iconst (v := 1) hx hb dL_law_1013 (by decide) ?_
  refine lv_iadd hx hb dL_law_1014 ?_
  refine lx_sc hx hb hX hbl hbA hL hi1 dL_law_1015 ?_
  rw [hp1]
  refine lv_aload_n hx hb dL_law_1016 rfl (lv_at hl 1 rfl) ?_
  refine lx_help (n := 3) (As := [.ref (b 6 0), .int p1, .ref q]) (rest := []) (r1 := hkc 1 k0) S (c_L_info l hl0 D cI cF cL b q f N u0 φ η τ p1 k0 r0 u0r φr ηr τr hG hk) aM_RL_168 aS_L_info aN_RL aW_L_info rfl rfl (by decide +kernel) rfl ⟨Nat.le_of_ble_eq_true rfl, Nat.le_of_ble_eq_true rfl⟩ (lc_room hnc hns (by decide) (by decide)) hL hC hl.1 (Nat.le_of_ble_eq_true rfl) dL_law_1017 (fun u f1 H locs hsm hf1 hL => ?_)
  refine lv_istore (lv' := [(5, .int (hkc 1 k0)), (4, .int v4), (3, .ref q), (2, .ref (a 0)), (1, .ref (b 6 0)), (0, .ref sb)]) hx hb dL_law_1020 hl (by decide) rfl (fun ls hl => ?_)
  refine lv_aload_n hx hb dL_law_1022 rfl (lv_at hl 3 rfl) ?_
  refine lv_aload_n hx hb dL_law_1023 rfl (lv_at hl 5 rfl) ?_
  refine lv_iload hx hb dL_law_1024 (lv_at hl 1 rfl) ?_
  refine lv_iconst (v := 1) hx hb dL_law_1026 (by decide) ?_
  refine lv_iadd hx hb dL_law_1027 ?_
  refine lx_sc hx hb hX hbl hbA hL hi1 dL_law_1028 ?_
  rw [hp1]
  refine lx_mod (n := 1) (As := [.int p1]) (rest := []) S (c_X9_info l D cI a N ψ p1 hv r1 ψr hM) aM_RL_170 aI_X9_info aV_X9_info aC_X9_info rfl rfl (by decide +kernel) rfl ⟨Nat.le_of_ble_eq_true rfl, Nat.le_of_ble_eq_true rfl⟩ (lc_room hnc hns (by decide) (by decide)) hL hC hl.1 (Nat.le_of_ble_eq_true rfl) dL_law_1029 (fun r H locs hr9 hL => ?_)
  rw [hr9]
  refine lv_istore (lv' := [(6, .int r1), (5, .int (hkc 1 k0)), (4, .int v4), (3, .ref q), (2, .ref (a 0)), (1, .ref (b 6 0)), (0, .ref sb)]) hx hb dL_law_1032 hl (by decide) rfl (fun ls hl => ?_)
  refine lv_aload_n hx hb dL_law_1034 rfl (lv_at hl 4 rfl) ?_
  refine lx_thr S aM_RL_118 ⟨Nat.le_of_ble_eq_true rfl, Nat.le_of_ble_eq_true rfl⟩ (lc_room hnc hns (by decide) (by decide)) hL hC hl.1 (Nat.le_of_ble_eq_true rfl) dL_law_1035 ?_
  rw [ht]
  refine lv_iload hx hb dL_law_1038 (lv_at hl 1 rfl) ?_
  refine lv_icmp_eq (tgt := 1045) hx hb dL_law_1040 (by decide) (fun _ => ?_) (fun hc => absurd rfl hc)
  refine lv_iload hx hb dL_law_1045 (lv_at hl 1 rfl) ?_
  by_cases hz0 : k0 = 0
  · refine lv_if_ne (tgt := 1062) hx hb dL_law_1047 (by decide) (fun hc => absurd (hkc_0 hz0) hc) (fun _ => ?_)
    refine lv_aload_n hx hb dL_law_1050 rfl (lv_at hl 3 rfl) ?_
    refine lv_iconst (v := 0) hx hb dL_law_1051 (by decide) ?_
    refine lx_out hx hb hL hC dL_law_1052 ?_
    refine lv_iload hx hb dL_law_1053 (lv_at hl 0 rfl) ?_
    refine lv_i2l hx hb dL_law_1055 rfl ?_
    refine lx_lcmp hx hb dL_law_1056 (by rw [hf1 hz0, hr hz0]) ?_
    refine lv_if_eq (tgt := 1062) hx hb dL_law_1057 (by decide) (fun _ => ?_) (fun hc => absurd rfl hc)
    refine lv_goto (tgt := 2083) hx hb dL_law_1062 (by decide) ?_
    refine W.widen (k := nc + 8) (n := ns + 48) (by omega) (by omega) ?_
    exact kk u u0r φr ηr τr f1 ψr hv _ _ _ hRel hL (congrFun hsm.2.2.1 0) (lv_sub hl [2, 3, 4, 5, 6] rfl)
  · refine lv_if_ne (tgt := 1062) hx hb dL_law_1047 (by decide) (fun _ => ?_) (fun hc => absurd hc (hkc_ne hz0))
    refine lv_goto (tgt := 2083) hx hb dL_law_1062 (by decide) ?_
    refine W.widen (k := nc + 8) (n := ns + 48) (by omega) (by omega) ?_
    exact kk u u0r φr ηr τr f1 ψr hv _ _ _ hRel hL (congrFun hsm.2.2.1 0) (lv_sub hl [2, 3, 4, 5, 6] rfl)
set_option maxHeartbeats 4000000 in
set_option maxRecDepth 100000 in
theorem lc_16 (P : Pk16 N Rel) (hRel : Rel u0 φ η τ ψ hv) (hl0 : l.stackTraces = false) (hx : p.tables.exec = Jvm.exec) (hb : c.code = cL_law) (S : CallFix p m c cL_law 7 s args AW RL) (hC : lxC D A0 cI cF cL s) (hX : va_X sb L xs s s.heap) (hbl : sb < s.heap.size) (hbA : ¬ A0 sb) (hi1 : vp_in (v4 + 1) L) (hi2 : vp_in (v4 + 2) L) (hi3 : vp_in (v4 + 3) L) (hi4 : vp_in (v4 + 4) L) (hp1 : xs (v4 + 1).toNatClampNeg = p1) (hp2 : xs (v4 + 2).toNatClampNeg = p2) (hp3 : xs (v4 + 3).toNatClampNeg = p3) (hp4 : xs (v4 + 4).toNatClampNeg = p4) (hnc : nc + 8 ≤ 601024) (hns : ns + 48 ≤ 7293034) (hL : lxS D A0 s.heap cI cF cL b q u0 φ η τ f a ψ hv H locs) (hl : lv_has ls 7 [(4, .int v4), (3, .ref q), (2, .ref (a 0)), (1, .ref (b 6 0)), (0, .ref sb)]) (kk : ∀ (u : Bf) (u0r φr : M2) (ηr : HT) (τr : M2) (fr : Nat → Int64) (ψr : M2) (hvr : Int64) (H1 : Heap) (locs1 : List Loc) (ls1 : Array Slot), Rel u0r φr ηr τr ψr hvr → lxS D A0 s.heap cI cF cL u q u0r φr ηr τr fr a ψr hvr H1 locs1 → u 6 0 = b 6 0 → lv_has ls1 7 [(4, .int v4), (3, .ref q), (2, .ref (a 0)), (1, .ref (b 6 0)), (0, .ref sb)] → W p l e room_1 s m args below meth c H1 locs1 (nc + 8) (ns + 48) Q (F0 m 2083 ls1 [])) : W p l e room_1 s m args below meth c H locs nc ns Q (F0 m 1065 ls []) := by
  obtain ⟨k0, r0, u0r, φr, ηr, τr, r1, ψr, hG, hk, hM, ht, hr, hRel⟩ := P u0 φ η τ ψ hv p1 p2 p3 hRel
  refine lv_aload_n hx hb dL_law_1065 rfl (lv_at hl 3 rfl) ?_
  refine lv_aload_n hx hb dL_law_1066 rfl (lv_at hl 4 rfl) ?_
  refine lv_iload hx hb dL_law_1067 (lv_at hl 0 rfl) ?_
  refine lv_iconst (v := 1) hx hb dL_law_1069 (by decide) ?_
  refine lv_iadd hx hb dL_law_1070 ?_
  refine lx_sc hx hb hX hbl hbA hL hi1 dL_law_1071 ?_
  rw [hp1]
  refine lv_aload_n hx hb dL_law_1072 rfl (lv_at hl 4 rfl) ?_
  refine lv_iload hx hb dL_law_1073 (lv_at hl 0 rfl) ?_
  refine lv_iconst (v := 2) hx hb dL_law_1075 (by decide) ?_
  refine lv_iadd hx hb dL_law_1076 ?_
  refine lx_sc hx hb hX hbl hbA hL hi2 dL_law_1077 ?_
  rw [hp2]
  refine lv_aload_n hx hb dL_law_1078 rfl (lv_at hl 4 rfl) ?_
  refine lv_iload hx hb dL_law_1079 (lv_at hl 0 rfl) ?_
  refine lv_iconst (v := 3) hx hb dL_law_1081 (by decide) ?_
  refine lv_iadd hx hb dL_law_1082 ?_
  refine lx_sc hx hb hX hbl hbA hL hi3 dL_law_1083 ?_
  rw [hp3]
  refine lv_aload_n hx hb dL_law_1084 rfl (lv_at hl 1 rfl) ?_
  refine lx_help (n := 5) (As := [.ref (b 6 0), .int p1, .int p2, .int p3, .ref q]) (rest := []) (r1 := hkc 3 k0) S (c_L_slot l hl0 D cI cF cL b q f N u0 φ η τ p1 p2 p3 k0 r0 u0r φr ηr τr hG hk) aM_RL_171 aS_L_slot aN_RL aW_L_slot rfl rfl (by decide +kernel) rfl ⟨Nat.le_of_ble_eq_true rfl, Nat.le_of_ble_eq_true rfl⟩ (lc_room hnc hns (by decide) (by decide)) hL hC hl.1 (Nat.le_of_ble_eq_true rfl) dL_law_1085 (fun u f1 H locs hsm hf1 hL => ?_)
  refine lv_istore (lv' := [(5, .int (hkc 3 k0)), (4, .int v4), (3, .ref q), (2, .ref (a 0)), (1, .ref (b 6 0)), (0, .ref sb)]) hx hb dL_law_1088 hl (by decide) rfl (fun ls hl => ?_)
  refine lv_aload_n hx hb dL_law_1090 rfl (lv_at hl 3 rfl) ?_
  refine lv_aload_n hx hb dL_law_1091 rfl (lv_at hl 5 rfl) ?_
  refine lv_iload hx hb dL_law_1092 (lv_at hl 1 rfl) ?_
  refine lv_iconst (v := 1) hx hb dL_law_1094 (by decide) ?_
  refine lv_iadd hx hb dL_law_1095 ?_
  refine lx_sc hx hb hX hbl hbA hL hi1 dL_law_1096 ?_
  rw [hp1]
  refine lv_aload_n hx hb dL_law_1097 rfl (lv_at hl 5 rfl) ?_
  refine lv_iload hx hb dL_law_1098 (lv_at hl 1 rfl) ?_
  refine lv_iconst (v := 2) hx hb dL_law_1100 (by decide) ?_
  refine lv_iadd hx hb dL_law_1101 ?_
  refine lx_sc hx hb hX hbl hbA hL hi2 dL_law_1102 ?_
  rw [hp2]
  refine lv_aload_n hx hb dL_law_1103 rfl (lv_at hl 5 rfl) ?_
  refine lv_iload hx hb dL_law_1104 (lv_at hl 1 rfl) ?_
  refine lv_iconst (v := 3) hx hb dL_law_1106 (by decide) ?_
  refine lv_iadd hx hb dL_law_1107 ?_
  refine lx_sc hx hb hX hbl hbA hL hi3 dL_law_1108 ?_
  rw [hp3]
  refine lx_mod (n := 3) (As := [.int p1, .int p2, .int p3]) (rest := []) S (c_X9_slot l D cI a ψ p1 p2 p3 hv r1 ψr hM) aM_RL_174 aI_X9_slot aV_X9_slot aC_X9_slot rfl rfl (by decide +kernel) rfl ⟨Nat.le_of_ble_eq_true rfl, Nat.le_of_ble_eq_true rfl⟩ (lc_room hnc hns (by decide) (by decide)) hL hC hl.1 (Nat.le_of_ble_eq_true rfl) dL_law_1109 (fun r H locs hr9 hL => ?_)
  rw [hr9]
  refine lv_istore (lv' := [(6, .int r1), (5, .int (hkc 3 k0)), (4, .int v4), (3, .ref q), (2, .ref (a 0)), (1, .ref (b 6 0)), (0, .ref sb)]) hx hb dL_law_1112 hl (by decide) rfl (fun ls hl => ?_)
  refine lv_aload_n hx hb dL_law_1114 rfl (lv_at hl 4 rfl) ?_
  refine lx_thr S aM_RL_118 ⟨Nat.le_of_ble_eq_true rfl, Nat.le_of_ble_eq_true rfl⟩ (lc_room hnc hns (by decide) (by decide)) hL hC hl.1 (Nat.le_of_ble_eq_true rfl) dL_law_1115 ?_
  rw [ht]
  refine lv_iload hx hb dL_law_1118 (lv_at hl 1 rfl) ?_
  refine lv_icmp_eq (tgt := 1125) hx hb dL_law_1120 (by decide) (fun _ => ?_) (fun hc => absurd rfl hc)
  refine lv_iload hx hb dL_law_1125 (lv_at hl 1 rfl) ?_
  by_cases hz0 : k0 = 0
  · refine lv_if_ne (tgt := 1142) hx hb dL_law_1127 (by decide) (fun hc => absurd (hkc_0 hz0) hc) (fun _ => ?_)
    refine lv_aload_n hx hb dL_law_1130 rfl (lv_at hl 3 rfl) ?_
    refine lv_iconst (v := 0) hx hb dL_law_1131 (by decide) ?_
    refine lx_out hx hb hL hC dL_law_1132 ?_
    refine lv_iload hx hb dL_law_1133 (lv_at hl 0 rfl) ?_
    refine lv_i2l hx hb dL_law_1135 rfl ?_
    refine lx_lcmp hx hb dL_law_1136 (by rw [hf1 hz0, hr hz0]) ?_
    refine lv_if_eq (tgt := 1142) hx hb dL_law_1137 (by decide) (fun _ => ?_) (fun hc => absurd rfl hc)
    refine lv_goto (tgt := 2083) hx hb dL_law_1142 (by decide) ?_
    refine W.widen (k := nc + 8) (n := ns + 48) (by omega) (by omega) ?_
    exact kk u u0r φr ηr τr f1 ψr hv _ _ _ hRel hL (congrFun hsm.2.2.1 0) (lv_sub hl [2, 3, 4, 5, 6] rfl)
  · refine lv_if_ne (tgt := 1142) hx hb dL_law_1127 (by decide) (fun _ => ?_) (fun hc => absurd hc (hkc_ne hz0))
    refine lv_goto (tgt := 2083) hx hb dL_law_1142 (by decide) ?_
    refine W.widen (k := nc + 8) (n := ns + 48) (by omega) (by omega) ?_
    exact kk u u0r φr ηr τr f1 ψr hv _ _ _ hRel hL (congrFun hsm.2.2.1 0) (lv_sub hl [2, 3, 4, 5, 6] rfl)
set_option maxHeartbeats 4000000 in
set_option maxRecDepth 100000 in
theorem lc_17 (P : Pk17 N Rel) (hRel : Rel u0 φ η τ ψ hv) (hl0 : l.stackTraces = false) (hx : p.tables.exec = Jvm.exec) (hb : c.code = cL_law) (S : CallFix p m c cL_law 7 s args AW RL) (hC : lxC D A0 cI cF cL s) (hX : va_X sb L xs s s.heap) (hbl : sb < s.heap.size) (hbA : ¬ A0 sb) (hi1 : vp_in (v4 + 1) L) (hi2 : vp_in (v4 + 2) L) (hi3 : vp_in (v4 + 3) L) (hi4 : vp_in (v4 + 4) L) (hp1 : xs (v4 + 1).toNatClampNeg = p1) (hp2 : xs (v4 + 2).toNatClampNeg = p2) (hp3 : xs (v4 + 3).toNatClampNeg = p3) (hp4 : xs (v4 + 4).toNatClampNeg = p4) (hnc : nc + 8 ≤ 601024) (hns : ns + 48 ≤ 7293034) (hL : lxS D A0 s.heap cI cF cL b q u0 φ η τ f a ψ hv H locs) (hl : lv_has ls 7 [(4, .int v4), (3, .ref q), (2, .ref (a 0)), (1, .ref (b 6 0)), (0, .ref sb)]) (kk : ∀ (u : Bf) (u0r φr : M2) (ηr : HT) (τr : M2) (fr : Nat → Int64) (ψr : M2) (hvr : Int64) (H1 : Heap) (locs1 : List Loc) (ls1 : Array Slot), Rel u0r φr ηr τr ψr hvr → lxS D A0 s.heap cI cF cL u q u0r φr ηr τr fr a ψr hvr H1 locs1 → u 6 0 = b 6 0 → lv_has ls1 7 [(4, .int v4), (3, .ref q), (2, .ref (a 0)), (1, .ref (b 6 0)), (0, .ref sb)] → W p l e room_1 s m args below meth c H1 locs1 (nc + 8) (ns + 48) Q (F0 m 2083 ls1 [])) : W p l e room_1 s m args below meth c H locs nc ns Q (F0 m 1145 ls []) := by
  obtain ⟨k0, r0, u0r, φr, ηr, τr, r1, ψr, hG, hk, hM, ht, hr, hRel⟩ := P u0 φ η τ ψ hv p1 p2 hRel
  refine lv_aload_n hx hb dL_law_1145 rfl (lv_at hl 3 rfl) ?_
  refine lv_aload_n hx hb dL_law_1146 rfl (lv_at hl 4 rfl) ?_
  refine lv_iload hx hb dL_law_1147 (lv_at hl 0 rfl) ?_
  refine lv_iconst (v := 1) hx hb dL_law_1149 (by decide) ?_
  refine lv_iadd hx hb dL_law_1150 ?_
  refine lx_sc hx hb hX hbl hbA hL hi1 dL_law_1151 ?_
  rw [hp1]
  refine lv_aload_n hx hb dL_law_1152 rfl (lv_at hl 4 rfl) ?_
  refine lv_iload hx hb dL_law_1153 (lv_at hl 0 rfl) ?_
  refine lv_iconst (v := 2) hx hb dL_law_1155 (by decide) ?_
  refine lv_iadd hx hb dL_law_1156 ?_
  refine lx_sc hx hb hX hbl hbA hL hi2 dL_law_1157 ?_
  rw [hp2]
  refine lv_aload_n hx hb dL_law_1158 rfl (lv_at hl 1 rfl) ?_
  refine lx_help (n := 4) (As := [.ref (b 6 0), .int p1, .int p2, .ref q]) (rest := []) (r1 := hkc 3 k0) S (c_L_stashed l hl0 D cI cF cL b q f N u0 φ η τ p1 p2 k0 r0 u0r φr ηr τr hG hk) aM_RL_175 aS_L_stashed aN_RL aW_L_stashed rfl rfl (by decide +kernel) rfl ⟨Nat.le_of_ble_eq_true rfl, Nat.le_of_ble_eq_true rfl⟩ (lc_room hnc hns (by decide) (by decide)) hL hC hl.1 (Nat.le_of_ble_eq_true rfl) dL_law_1159 (fun u f1 H locs hsm hf1 hL => ?_)
  refine lv_istore (lv' := [(5, .int (hkc 3 k0)), (4, .int v4), (3, .ref q), (2, .ref (a 0)), (1, .ref (b 6 0)), (0, .ref sb)]) hx hb dL_law_1162 hl (by decide) rfl (fun ls hl => ?_)
  refine lv_aload_n hx hb dL_law_1164 rfl (lv_at hl 3 rfl) ?_
  refine lv_aload_n hx hb dL_law_1165 rfl (lv_at hl 5 rfl) ?_
  refine lv_iload hx hb dL_law_1166 (lv_at hl 1 rfl) ?_
  refine lv_iconst (v := 1) hx hb dL_law_1168 (by decide) ?_
  refine lv_iadd hx hb dL_law_1169 ?_
  refine lx_sc hx hb hX hbl hbA hL hi1 dL_law_1170 ?_
  rw [hp1]
  refine lv_aload_n hx hb dL_law_1171 rfl (lv_at hl 5 rfl) ?_
  refine lv_iload hx hb dL_law_1172 (lv_at hl 1 rfl) ?_
  refine lv_iconst (v := 2) hx hb dL_law_1174 (by decide) ?_
  refine lv_iadd hx hb dL_law_1175 ?_
  refine lx_sc hx hb hX hbl hbA hL hi2 dL_law_1176 ?_
  rw [hp2]
  refine lx_mod (n := 2) (As := [.int p1, .int p2]) (rest := []) S (c_X9_stashed l D cI a ψ p1 p2 hv r1 ψr hM) aM_RL_178 aI_X9_stashed aV_X9_stashed aC_X9_stashed rfl rfl (by decide +kernel) rfl ⟨Nat.le_of_ble_eq_true rfl, Nat.le_of_ble_eq_true rfl⟩ (lc_room hnc hns (by decide) (by decide)) hL hC hl.1 (Nat.le_of_ble_eq_true rfl) dL_law_1177 (fun r H locs hr9 hL => ?_)
  rw [hr9]
  refine lv_istore (lv' := [(6, .int r1), (5, .int (hkc 3 k0)), (4, .int v4), (3, .ref q), (2, .ref (a 0)), (1, .ref (b 6 0)), (0, .ref sb)]) hx hb dL_law_1180 hl (by decide) rfl (fun ls hl => ?_)
  refine lv_aload_n hx hb dL_law_1182 rfl (lv_at hl 4 rfl) ?_
  refine lx_thr S aM_RL_118 ⟨Nat.le_of_ble_eq_true rfl, Nat.le_of_ble_eq_true rfl⟩ (lc_room hnc hns (by decide) (by decide)) hL hC hl.1 (Nat.le_of_ble_eq_true rfl) dL_law_1183 ?_
  rw [ht]
  refine lv_iload hx hb dL_law_1186 (lv_at hl 1 rfl) ?_
  refine lv_icmp_eq (tgt := 1193) hx hb dL_law_1188 (by decide) (fun _ => ?_) (fun hc => absurd rfl hc)
  refine lv_iload hx hb dL_law_1193 (lv_at hl 1 rfl) ?_
  by_cases hz0 : k0 = 0
  · refine lv_if_ne (tgt := 1210) hx hb dL_law_1195 (by decide) (fun hc => absurd (hkc_0 hz0) hc) (fun _ => ?_)
    refine lv_aload_n hx hb dL_law_1198 rfl (lv_at hl 3 rfl) ?_
    refine lv_iconst (v := 0) hx hb dL_law_1199 (by decide) ?_
    refine lx_out hx hb hL hC dL_law_1200 ?_
    refine lv_iload hx hb dL_law_1201 (lv_at hl 0 rfl) ?_
    refine lv_i2l hx hb dL_law_1203 rfl ?_
    refine lx_lcmp hx hb dL_law_1204 (by rw [hf1 hz0, hr hz0]) ?_
    refine lv_if_eq (tgt := 1210) hx hb dL_law_1205 (by decide) (fun _ => ?_) (fun hc => absurd rfl hc)
    refine lv_goto (tgt := 2083) hx hb dL_law_1210 (by decide) ?_
    refine W.widen (k := nc + 8) (n := ns + 48) (by omega) (by omega) ?_
    exact kk u u0r φr ηr τr f1 ψr hv _ _ _ hRel hL (congrFun hsm.2.2.1 0) (lv_sub hl [2, 3, 4, 5, 6] rfl)
  · refine lv_if_ne (tgt := 1210) hx hb dL_law_1195 (by decide) (fun _ => ?_) (fun hc => absurd hc (hkc_ne hz0))
    refine lv_goto (tgt := 2083) hx hb dL_law_1210 (by decide) ?_
    refine W.widen (k := nc + 8) (n := ns + 48) (by omega) (by omega) ?_
    exact kk u u0r φr ηr τr f1 ψr hv _ _ _ hRel hL (congrFun hsm.2.2.1 0) (lv_sub hl [2, 3, 4, 5, 6] rfl)
set_option maxHeartbeats 4000000 in
set_option maxRecDepth 100000 in
theorem lc_18 (P : Pk18 N Rel) (hRel : Rel u0 φ η τ ψ hv) (hl0 : l.stackTraces = false) (hx : p.tables.exec = Jvm.exec) (hb : c.code = cL_law) (S : CallFix p m c cL_law 7 s args AW RL) (hC : lxC D A0 cI cF cL s) (hX : va_X sb L xs s s.heap) (hbl : sb < s.heap.size) (hbA : ¬ A0 sb) (hi1 : vp_in (v4 + 1) L) (hi2 : vp_in (v4 + 2) L) (hi3 : vp_in (v4 + 3) L) (hi4 : vp_in (v4 + 4) L) (hp1 : xs (v4 + 1).toNatClampNeg = p1) (hp2 : xs (v4 + 2).toNatClampNeg = p2) (hp3 : xs (v4 + 3).toNatClampNeg = p3) (hp4 : xs (v4 + 4).toNatClampNeg = p4) (hnc : nc + 8 ≤ 601024) (hns : ns + 48 ≤ 7293034) (hL : lxS D A0 s.heap cI cF cL b q u0 φ η τ f a ψ hv H locs) (hl : lv_has ls 7 [(4, .int v4), (3, .ref q), (2, .ref (a 0)), (1, .ref (b 6 0)), (0, .ref sb)]) (kk : ∀ (u : Bf) (u0r φr : M2) (ηr : HT) (τr : M2) (fr : Nat → Int64) (ψr : M2) (hvr : Int64) (H1 : Heap) (locs1 : List Loc) (ls1 : Array Slot), Rel u0r φr ηr τr ψr hvr → lxS D A0 s.heap cI cF cL u q u0r φr ηr τr fr a ψr hvr H1 locs1 → u 6 0 = b 6 0 → lv_has ls1 7 [(4, .int v4), (3, .ref q), (2, .ref (a 0)), (1, .ref (b 6 0)), (0, .ref sb)] → W p l e room_1 s m args below meth c H1 locs1 (nc + 8) (ns + 48) Q (F0 m 2083 ls1 [])) : W p l e room_1 s m args below meth c H locs nc ns Q (F0 m 1213 ls []) := by
  obtain ⟨k0, r0, u0r, φr, ηr, τr, r1, ψr, hG, hk, hM, ht, hr, hRel⟩ := P u0 φ η τ ψ hv p1 hRel
  refine lv_aload_n hx hb dL_law_1213 rfl (lv_at hl 3 rfl) ?_
  refine lv_aload_n hx hb dL_law_1214 rfl (lv_at hl 4 rfl) ?_
  refine lv_iload hx hb dL_law_1215 (lv_at hl 0 rfl) ?_
  refine lv_iconst (v := 1) hx hb dL_law_1217 (by decide) ?_
  refine lv_iadd hx hb dL_law_1218 ?_
  refine lx_sc hx hb hX hbl hbA hL hi1 dL_law_1219 ?_
  rw [hp1]
  refine lv_aload_n hx hb dL_law_1220 rfl (lv_at hl 1 rfl) ?_
  refine lx_help (n := 3) (As := [.ref (b 6 0), .int p1, .ref q]) (rest := []) (r1 := hkc 1 k0) S (c_L_filled l hl0 D cI cF cL b q f N u0 φ η τ p1 k0 r0 u0r φr ηr τr hG hk) aM_RL_179 aS_L_filled aN_RL aW_L_filled rfl rfl (by decide +kernel) rfl ⟨Nat.le_of_ble_eq_true rfl, Nat.le_of_ble_eq_true rfl⟩ (lc_room hnc hns (by decide) (by decide)) hL hC hl.1 (Nat.le_of_ble_eq_true rfl) dL_law_1221 (fun u f1 H locs hsm hf1 hL => ?_)
  refine lv_istore (lv' := [(5, .int (hkc 1 k0)), (4, .int v4), (3, .ref q), (2, .ref (a 0)), (1, .ref (b 6 0)), (0, .ref sb)]) hx hb dL_law_1224 hl (by decide) rfl (fun ls hl => ?_)
  refine lv_aload_n hx hb dL_law_1226 rfl (lv_at hl 3 rfl) ?_
  refine lv_aload_n hx hb dL_law_1227 rfl (lv_at hl 5 rfl) ?_
  refine lv_iload hx hb dL_law_1228 (lv_at hl 1 rfl) ?_
  refine lv_iconst (v := 1) hx hb dL_law_1230 (by decide) ?_
  refine lv_iadd hx hb dL_law_1231 ?_
  refine lx_sc hx hb hX hbl hbA hL hi1 dL_law_1232 ?_
  rw [hp1]
  refine lx_mod (n := 1) (As := [.int p1]) (rest := []) S (c_X9_filled l D cI a N ψ p1 hv r1 ψr hM) aM_RL_181 aI_X9_filled aV_X9_filled aC_X9_filled rfl rfl (by decide +kernel) rfl ⟨Nat.le_of_ble_eq_true rfl, Nat.le_of_ble_eq_true rfl⟩ (lc_room hnc hns (by decide) (by decide)) hL hC hl.1 (Nat.le_of_ble_eq_true rfl) dL_law_1233 (fun r H locs hr9 hL => ?_)
  rw [hr9]
  refine lv_istore (lv' := [(6, .int r1), (5, .int (hkc 1 k0)), (4, .int v4), (3, .ref q), (2, .ref (a 0)), (1, .ref (b 6 0)), (0, .ref sb)]) hx hb dL_law_1236 hl (by decide) rfl (fun ls hl => ?_)
  refine lv_aload_n hx hb dL_law_1238 rfl (lv_at hl 4 rfl) ?_
  refine lx_thr S aM_RL_118 ⟨Nat.le_of_ble_eq_true rfl, Nat.le_of_ble_eq_true rfl⟩ (lc_room hnc hns (by decide) (by decide)) hL hC hl.1 (Nat.le_of_ble_eq_true rfl) dL_law_1239 ?_
  rw [ht]
  refine lv_iload hx hb dL_law_1242 (lv_at hl 1 rfl) ?_
  refine lv_icmp_eq (tgt := 1249) hx hb dL_law_1244 (by decide) (fun _ => ?_) (fun hc => absurd rfl hc)
  refine lv_iload hx hb dL_law_1249 (lv_at hl 1 rfl) ?_
  by_cases hz0 : k0 = 0
  · refine lv_if_ne (tgt := 1266) hx hb dL_law_1251 (by decide) (fun hc => absurd (hkc_0 hz0) hc) (fun _ => ?_)
    refine lv_aload_n hx hb dL_law_1254 rfl (lv_at hl 3 rfl) ?_
    refine lv_iconst (v := 0) hx hb dL_law_1255 (by decide) ?_
    refine lx_out hx hb hL hC dL_law_1256 ?_
    refine lv_iload hx hb dL_law_1257 (lv_at hl 0 rfl) ?_
    refine lv_i2l hx hb dL_law_1259 rfl ?_
    refine lx_lcmp hx hb dL_law_1260 (by rw [hf1 hz0, hr hz0]) ?_
    refine lv_if_eq (tgt := 1266) hx hb dL_law_1261 (by decide) (fun _ => ?_) (fun hc => absurd rfl hc)
    refine lv_goto (tgt := 2083) hx hb dL_law_1266 (by decide) ?_
    refine W.widen (k := nc + 8) (n := ns + 48) (by omega) (by omega) ?_
    exact kk u u0r φr ηr τr f1 ψr hv _ _ _ hRel hL (congrFun hsm.2.2.1 0) (lv_sub hl [2, 3, 4, 5, 6] rfl)
  · refine lv_if_ne (tgt := 1266) hx hb dL_law_1251 (by decide) (fun _ => ?_) (fun hc => absurd hc (hkc_ne hz0))
    refine lv_goto (tgt := 2083) hx hb dL_law_1266 (by decide) ?_
    refine W.widen (k := nc + 8) (n := ns + 48) (by omega) (by omega) ?_
    exact kk u u0r φr ηr τr f1 ψr hv _ _ _ hRel hL (congrFun hsm.2.2.1 0) (lv_sub hl [2, 3, 4, 5, 6] rfl)
set_option maxHeartbeats 4000000 in
set_option maxRecDepth 100000 in
theorem lc_19 (P : Pk19 N Rel) (hRel : Rel u0 φ η τ ψ hv) (hl0 : l.stackTraces = false) (hx : p.tables.exec = Jvm.exec) (hb : c.code = cL_law) (S : CallFix p m c cL_law 7 s args AW RL) (hC : lxC D A0 cI cF cL s) (hX : va_X sb L xs s s.heap) (hbl : sb < s.heap.size) (hbA : ¬ A0 sb) (hi1 : vp_in (v4 + 1) L) (hi2 : vp_in (v4 + 2) L) (hi3 : vp_in (v4 + 3) L) (hi4 : vp_in (v4 + 4) L) (hp1 : xs (v4 + 1).toNatClampNeg = p1) (hp2 : xs (v4 + 2).toNatClampNeg = p2) (hp3 : xs (v4 + 3).toNatClampNeg = p3) (hp4 : xs (v4 + 4).toNatClampNeg = p4) (hnc : nc + 8 ≤ 601024) (hns : ns + 48 ≤ 7293034) (hL : lxS D A0 s.heap cI cF cL b q u0 φ η τ f a ψ hv H locs) (hl : lv_has ls 7 [(4, .int v4), (3, .ref q), (2, .ref (a 0)), (1, .ref (b 6 0)), (0, .ref sb)]) (kk : ∀ (u : Bf) (u0r φr : M2) (ηr : HT) (τr : M2) (fr : Nat → Int64) (ψr : M2) (hvr : Int64) (H1 : Heap) (locs1 : List Loc) (ls1 : Array Slot), Rel u0r φr ηr τr ψr hvr → lxS D A0 s.heap cI cF cL u q u0r φr ηr τr fr a ψr hvr H1 locs1 → u 6 0 = b 6 0 → lv_has ls1 7 [(4, .int v4), (3, .ref q), (2, .ref (a 0)), (1, .ref (b 6 0)), (0, .ref sb)] → W p l e room_1 s m args below meth c H1 locs1 (nc + 8) (ns + 48) Q (F0 m 2083 ls1 [])) : W p l e room_1 s m args below meth c H locs nc ns Q (F0 m 1269 ls []) := by
  obtain ⟨k0, r0, u0r, φr, ηr, τr, r1, ψr, hG, hk, hM, ht, hr, hRel⟩ := P u0 φ η τ ψ hv p1 hRel
  refine lv_aload_n hx hb dL_law_1269 rfl (lv_at hl 3 rfl) ?_
  refine lv_aload_n hx hb dL_law_1270 rfl (lv_at hl 4 rfl) ?_
  refine lv_iload hx hb dL_law_1271 (lv_at hl 0 rfl) ?_
  refine lv_iconst (v := 1) hx hb dL_law_1273 (by decide) ?_
  refine lv_iadd hx hb dL_law_1274 ?_
  refine lx_sc hx hb hX hbl hbA hL hi1 dL_law_1275 ?_
  rw [hp1]
  refine lv_aload_n hx hb dL_law_1276 rfl (lv_at hl 1 rfl) ?_
  refine lx_help (n := 3) (As := [.ref (b 6 0), .int p1, .ref q]) (rest := []) (r1 := hkc 1 k0) S (c_L_walk l hl0 D cI cF cL b q f N u0 φ η τ p1 k0 r0 u0r φr ηr τr hG hk) aM_RL_182 aS_L_walk aN_RL aW_L_walk rfl rfl (by decide +kernel) rfl ⟨Nat.le_of_ble_eq_true rfl, Nat.le_of_ble_eq_true rfl⟩ (lc_room hnc hns (by decide) (by decide)) hL hC hl.1 (Nat.le_of_ble_eq_true rfl) dL_law_1277 (fun u f1 H locs hsm hf1 hL => ?_)
  refine lv_istore (lv' := [(5, .int (hkc 1 k0)), (4, .int v4), (3, .ref q), (2, .ref (a 0)), (1, .ref (b 6 0)), (0, .ref sb)]) hx hb dL_law_1280 hl (by decide) rfl (fun ls hl => ?_)
  refine lv_aload_n hx hb dL_law_1282 rfl (lv_at hl 3 rfl) ?_
  refine lv_aload_n hx hb dL_law_1283 rfl (lv_at hl 5 rfl) ?_
  refine lv_iload hx hb dL_law_1284 (lv_at hl 1 rfl) ?_
  refine lv_iconst (v := 1) hx hb dL_law_1286 (by decide) ?_
  refine lv_iadd hx hb dL_law_1287 ?_
  refine lx_sc hx hb hX hbl hbA hL hi1 dL_law_1288 ?_
  rw [hp1]
  refine lx_mod (n := 1) (As := [.int p1]) (rest := []) S (c_X9_walk l D cI a N ψ p1 hv r1 ψr hM) aM_RL_184 aI_X9_walk aV_X9_walk aC_X9_walk rfl rfl (by decide +kernel) rfl ⟨Nat.le_of_ble_eq_true rfl, Nat.le_of_ble_eq_true rfl⟩ (lc_room hnc hns (by decide) (by decide)) hL hC hl.1 (Nat.le_of_ble_eq_true rfl) dL_law_1289 (fun r H locs hr9 hL => ?_)
  rw [hr9]
  refine lv_istore (lv' := [(6, .int r1), (5, .int (hkc 1 k0)), (4, .int v4), (3, .ref q), (2, .ref (a 0)), (1, .ref (b 6 0)), (0, .ref sb)]) hx hb dL_law_1292 hl (by decide) rfl (fun ls hl => ?_)
  refine lv_aload_n hx hb dL_law_1294 rfl (lv_at hl 4 rfl) ?_
  refine lx_thr S aM_RL_118 ⟨Nat.le_of_ble_eq_true rfl, Nat.le_of_ble_eq_true rfl⟩ (lc_room hnc hns (by decide) (by decide)) hL hC hl.1 (Nat.le_of_ble_eq_true rfl) dL_law_1295 ?_
  rw [ht]
  refine lv_iload hx hb dL_law_1298 (lv_at hl 1 rfl) ?_
  refine lv_icmp_eq (tgt := 1305) hx hb dL_law_1300 (by decide) (fun _ => ?_) (fun hc => absurd rfl hc)
  refine lv_iload hx hb dL_law_1305 (lv_at hl 1 rfl) ?_
  by_cases hz0 : k0 = 0
  · refine lv_if_ne (tgt := 1322) hx hb dL_law_1307 (by decide) (fun hc => absurd (hkc_0 hz0) hc) (fun _ => ?_)
    refine lv_aload_n hx hb dL_law_1310 rfl (lv_at hl 3 rfl) ?_
    refine lv_iconst (v := 0) hx hb dL_law_1311 (by decide) ?_
    refine lx_out hx hb hL hC dL_law_1312 ?_
    refine lv_iload hx hb dL_law_1313 (lv_at hl 0 rfl) ?_
    refine lv_i2l hx hb dL_law_1315 rfl ?_
    refine lx_lcmp hx hb dL_law_1316 (by rw [hf1 hz0, hr hz0]) ?_
    refine lv_if_eq (tgt := 1322) hx hb dL_law_1317 (by decide) (fun _ => ?_) (fun hc => absurd rfl hc)
    refine lv_goto (tgt := 2083) hx hb dL_law_1322 (by decide) ?_
    refine W.widen (k := nc + 8) (n := ns + 48) (by omega) (by omega) ?_
    exact kk u u0r φr ηr τr f1 ψr hv _ _ _ hRel hL (congrFun hsm.2.2.1 0) (lv_sub hl [2, 3, 4, 5, 6] rfl)
  · refine lv_if_ne (tgt := 1322) hx hb dL_law_1307 (by decide) (fun _ => ?_) (fun hc => absurd hc (hkc_ne hz0))
    refine lv_goto (tgt := 2083) hx hb dL_law_1322 (by decide) ?_
    refine W.widen (k := nc + 8) (n := ns + 48) (by omega) (by omega) ?_
    exact kk u u0r φr ηr τr f1 ψr hv _ _ _ hRel hL (congrFun hsm.2.2.1 0) (lv_sub hl [2, 3, 4, 5, 6] rfl)
set_option maxHeartbeats 4000000 in
set_option maxRecDepth 100000 in
theorem lc_20 (P : Pk20 N Rel) (hRel : Rel u0 φ η τ ψ hv) (hl0 : l.stackTraces = false) (hx : p.tables.exec = Jvm.exec) (hb : c.code = cL_law) (S : CallFix p m c cL_law 7 s args AW RL) (hC : lxC D A0 cI cF cL s) (hX : va_X sb L xs s s.heap) (hbl : sb < s.heap.size) (hbA : ¬ A0 sb) (hi1 : vp_in (v4 + 1) L) (hi2 : vp_in (v4 + 2) L) (hi3 : vp_in (v4 + 3) L) (hi4 : vp_in (v4 + 4) L) (hp1 : xs (v4 + 1).toNatClampNeg = p1) (hp2 : xs (v4 + 2).toNatClampNeg = p2) (hp3 : xs (v4 + 3).toNatClampNeg = p3) (hp4 : xs (v4 + 4).toNatClampNeg = p4) (hnc : nc + 8 ≤ 601024) (hns : ns + 48 ≤ 7293034) (hL : lxS D A0 s.heap cI cF cL b q u0 φ η τ f a ψ hv H locs) (hl : lv_has ls 7 [(4, .int v4), (3, .ref q), (2, .ref (a 0)), (1, .ref (b 6 0)), (0, .ref sb)]) (kk : ∀ (u : Bf) (u0r φr : M2) (ηr : HT) (τr : M2) (fr : Nat → Int64) (ψr : M2) (hvr : Int64) (H1 : Heap) (locs1 : List Loc) (ls1 : Array Slot), Rel u0r φr ηr τr ψr hvr → lxS D A0 s.heap cI cF cL u q u0r φr ηr τr fr a ψr hvr H1 locs1 → u 6 0 = b 6 0 → lv_has ls1 7 [(4, .int v4), (3, .ref q), (2, .ref (a 0)), (1, .ref (b 6 0)), (0, .ref sb)] → W p l e room_1 s m args below meth c H1 locs1 (nc + 8) (ns + 48) Q (F0 m 2083 ls1 [])) : W p l e room_1 s m args below meth c H locs nc ns Q (F0 m 1325 ls []) := by
  by_cases hzp3 : p3 = 0
  · obtain ⟨k0, r0, u0r, φr, ηr, τr, r1, ψr, hG, hk, hM, ht, hr, hRel⟩ := P u0 φ η τ ψ hv p1 p2 0 hRel (by decide)
    refine lv_aload_n hx hb dL_law_1325 rfl (lv_at hl 3 rfl) ?_
    refine lv_aload_n hx hb dL_law_1326 rfl (lv_at hl 4 rfl) ?_
    refine lv_iload hx hb dL_law_1327 (lv_at hl 0 rfl) ?_
    refine lv_iconst (v := 1) hx hb dL_law_1329 (by decide) ?_
    refine lv_iadd hx hb dL_law_1330 ?_
    refine lx_sc hx hb hX hbl hbA hL hi1 dL_law_1331 ?_
    rw [hp1]
    refine lv_aload_n hx hb dL_law_1332 rfl (lv_at hl 4 rfl) ?_
    refine lv_iload hx hb dL_law_1333 (lv_at hl 0 rfl) ?_
    refine lv_iconst (v := 2) hx hb dL_law_1335 (by decide) ?_
    refine lv_iadd hx hb dL_law_1336 ?_
    refine lx_sc hx hb hX hbl hbA hL hi2 dL_law_1337 ?_
    rw [hp2]
    refine lv_aload_n hx hb dL_law_1338 rfl (lv_at hl 4 rfl) ?_
    refine lv_iload hx hb dL_law_1339 (lv_at hl 0 rfl) ?_
    refine lv_iconst (v := 3) hx hb dL_law_1341 (by decide) ?_
    refine lv_iadd hx hb dL_law_1342 ?_
    refine lx_sc hx hb hX hbl hbA hL hi3 dL_law_1343 ?_
    rw [hp3]
    refine lv_if_eq (tgt := 1351) hx hb dL_law_1344 (by decide) (fun _ => ?_) (fun hc => absurd hzp3 hc)
    refine lv_iconst (v := 0) hx hb dL_law_1351 (by decide) ?_
    refine lv_aload_n hx hb dL_law_1352 rfl (lv_at hl 1 rfl) ?_
    refine lx_help (n := 5) (As := [.ref (b 6 0), .int p1, .int p2, .int 0, .ref q]) (rest := []) (r1 := hkc 1 k0) S (c_L_walkStep l hl0 D cI cF cL b q f N u0 φ η τ p1 p2 0 k0 r0 u0r φr ηr τr hG hk) aM_RL_185 aS_L_walkStep aN_RL aW_L_walkStep rfl rfl (by decide +kernel) rfl ⟨Nat.le_of_ble_eq_true rfl, Nat.le_of_ble_eq_true rfl⟩ (lc_room hnc hns (by decide) (by decide)) hL hC hl.1 (Nat.le_of_ble_eq_true rfl) dL_law_1353 (fun u f1 H locs hsm hf1 hL => ?_)
    refine lv_istore (lv' := [(5, .int (hkc 1 k0)), (4, .int v4), (3, .ref q), (2, .ref (a 0)), (1, .ref (b 6 0)), (0, .ref sb)]) hx hb dL_law_1356 hl (by decide) rfl (fun ls hl => ?_)
    refine lv_aload_n hx hb dL_law_1358 rfl (lv_at hl 3 rfl) ?_
    refine lv_aload_n hx hb dL_law_1359 rfl (lv_at hl 5 rfl) ?_
    refine lv_iload hx hb dL_law_1360 (lv_at hl 1 rfl) ?_
    refine lv_iconst (v := 1) hx hb dL_law_1362 (by decide) ?_
    refine lv_iadd hx hb dL_law_1363 ?_
    refine lx_sc hx hb hX hbl hbA hL hi1 dL_law_1364 ?_
    rw [hp1]
    refine lv_aload_n hx hb dL_law_1365 rfl (lv_at hl 5 rfl) ?_
    refine lv_iload hx hb dL_law_1366 (lv_at hl 1 rfl) ?_
    refine lv_iconst (v := 2) hx hb dL_law_1368 (by decide) ?_
    refine lv_iadd hx hb dL_law_1369 ?_
    refine lx_sc hx hb hX hbl hbA hL hi2 dL_law_1370 ?_
    rw [hp2]
    refine lv_aload_n hx hb dL_law_1371 rfl (lv_at hl 5 rfl) ?_
    refine lv_iload hx hb dL_law_1372 (lv_at hl 1 rfl) ?_
    refine lv_iconst (v := 3) hx hb dL_law_1374 (by decide) ?_
    refine lv_iadd hx hb dL_law_1375 ?_
    refine lx_sc hx hb hX hbl hbA hL hi3 dL_law_1376 ?_
    rw [hp3]
    refine lv_if_eq (tgt := 1384) hx hb dL_law_1377 (by decide) (fun _ => ?_) (fun hc => absurd hzp3 hc)
    refine lv_iconst (v := 0) hx hb dL_law_1384 (by decide) ?_
    refine lx_mod (n := 3) (As := [.int p1, .int p2, .int 0]) (rest := []) S (c_X9_walkStep l D cI a N ψ p1 p2 0 hv r1 ψr hM) aM_RL_188 aI_X9_walkStep aV_X9_walkStep aC_X9_walkStep rfl rfl (by decide +kernel) rfl ⟨Nat.le_of_ble_eq_true rfl, Nat.le_of_ble_eq_true rfl⟩ (lc_room hnc hns (by decide) (by decide)) hL hC hl.1 (Nat.le_of_ble_eq_true rfl) dL_law_1385 (fun r H locs hr9 hL => ?_)
    rw [hr9]
    refine lv_istore (lv' := [(6, .int r1), (5, .int (hkc 1 k0)), (4, .int v4), (3, .ref q), (2, .ref (a 0)), (1, .ref (b 6 0)), (0, .ref sb)]) hx hb dL_law_1388 hl (by decide) rfl (fun ls hl => ?_)
    refine lv_aload_n hx hb dL_law_1390 rfl (lv_at hl 4 rfl) ?_
    refine lx_thr S aM_RL_118 ⟨Nat.le_of_ble_eq_true rfl, Nat.le_of_ble_eq_true rfl⟩ (lc_room hnc hns (by decide) (by decide)) hL hC hl.1 (Nat.le_of_ble_eq_true rfl) dL_law_1391 ?_
    rw [ht]
    refine lv_iload hx hb dL_law_1394 (lv_at hl 1 rfl) ?_
    refine lv_icmp_eq (tgt := 1401) hx hb dL_law_1396 (by decide) (fun _ => ?_) (fun hc => absurd rfl hc)
    refine lv_iload hx hb dL_law_1401 (lv_at hl 1 rfl) ?_
    by_cases hz0 : k0 = 0
    · refine lv_if_ne (tgt := 1418) hx hb dL_law_1403 (by decide) (fun hc => absurd (hkc_0 hz0) hc) (fun _ => ?_)
      refine lv_aload_n hx hb dL_law_1406 rfl (lv_at hl 3 rfl) ?_
      refine lv_iconst (v := 0) hx hb dL_law_1407 (by decide) ?_
      refine lx_out hx hb hL hC dL_law_1408 ?_
      refine lv_iload hx hb dL_law_1409 (lv_at hl 0 rfl) ?_
      refine lv_i2l hx hb dL_law_1411 rfl ?_
      refine lx_lcmp hx hb dL_law_1412 (by rw [hf1 hz0, hr hz0]) ?_
      refine lv_if_eq (tgt := 1418) hx hb dL_law_1413 (by decide) (fun _ => ?_) (fun hc => absurd rfl hc)
      refine lv_goto (tgt := 2083) hx hb dL_law_1418 (by decide) ?_
      refine W.widen (k := nc + 8) (n := ns + 48) (by omega) (by omega) ?_
      exact kk u u0r φr ηr τr f1 ψr hv _ _ _ hRel hL (congrFun hsm.2.2.1 0) (lv_sub hl [2, 3, 4, 5, 6] rfl)
    · refine lv_if_ne (tgt := 1418) hx hb dL_law_1403 (by decide) (fun _ => ?_) (fun hc => absurd hc (hkc_ne hz0))
      refine lv_goto (tgt := 2083) hx hb dL_law_1418 (by decide) ?_
      refine W.widen (k := nc + 8) (n := ns + 48) (by omega) (by omega) ?_
      exact kk u u0r φr ηr τr f1 ψr hv _ _ _ hRel hL (congrFun hsm.2.2.1 0) (lv_sub hl [2, 3, 4, 5, 6] rfl)
  · obtain ⟨k0, r0, u0r, φr, ηr, τr, r1, ψr, hG, hk, hM, ht, hr, hRel⟩ := P u0 φ η τ ψ hv p1 p2 1 hRel (by decide)
    refine lv_aload_n hx hb dL_law_1325 rfl (lv_at hl 3 rfl) ?_
    refine lv_aload_n hx hb dL_law_1326 rfl (lv_at hl 4 rfl) ?_
    refine lv_iload hx hb dL_law_1327 (lv_at hl 0 rfl) ?_
    refine lv_iconst (v := 1) hx hb dL_law_1329 (by decide) ?_
    refine lv_iadd hx hb dL_law_1330 ?_
    refine lx_sc hx hb hX hbl hbA hL hi1 dL_law_1331 ?_
    rw [hp1]
    refine lv_aload_n hx hb dL_law_1332 rfl (lv_at hl 4 rfl) ?_
    refine lv_iload hx hb dL_law_1333 (lv_at hl 0 rfl) ?_
    refine lv_iconst (v := 2) hx hb dL_law_1335 (by decide) ?_
    refine lv_iadd hx hb dL_law_1336 ?_
    refine lx_sc hx hb hX hbl hbA hL hi2 dL_law_1337 ?_
    rw [hp2]
    refine lv_aload_n hx hb dL_law_1338 rfl (lv_at hl 4 rfl) ?_
    refine lv_iload hx hb dL_law_1339 (lv_at hl 0 rfl) ?_
    refine lv_iconst (v := 3) hx hb dL_law_1341 (by decide) ?_
    refine lv_iadd hx hb dL_law_1342 ?_
    refine lx_sc hx hb hX hbl hbA hL hi3 dL_law_1343 ?_
    rw [hp3]
    refine lv_if_eq (tgt := 1351) hx hb dL_law_1344 (by decide) (fun hc => absurd hc hzp3) (fun _ => ?_)
    refine lv_iconst (v := 1) hx hb dL_law_1347 (by decide) ?_
    refine lv_goto (tgt := 1352) hx hb dL_law_1348 (by decide) ?_
    refine lv_aload_n hx hb dL_law_1352 rfl (lv_at hl 1 rfl) ?_
    refine lx_help (n := 5) (As := [.ref (b 6 0), .int p1, .int p2, .int 1, .ref q]) (rest := []) (r1 := hkc 1 k0) S (c_L_walkStep l hl0 D cI cF cL b q f N u0 φ η τ p1 p2 1 k0 r0 u0r φr ηr τr hG hk) aM_RL_185 aS_L_walkStep aN_RL aW_L_walkStep rfl rfl (by decide +kernel) rfl ⟨Nat.le_of_ble_eq_true rfl, Nat.le_of_ble_eq_true rfl⟩ (lc_room hnc hns (by decide) (by decide)) hL hC hl.1 (Nat.le_of_ble_eq_true rfl) dL_law_1353 (fun u f1 H locs hsm hf1 hL => ?_)
    refine lv_istore (lv' := [(5, .int (hkc 1 k0)), (4, .int v4), (3, .ref q), (2, .ref (a 0)), (1, .ref (b 6 0)), (0, .ref sb)]) hx hb dL_law_1356 hl (by decide) rfl (fun ls hl => ?_)
    refine lv_aload_n hx hb dL_law_1358 rfl (lv_at hl 3 rfl) ?_
    refine lv_aload_n hx hb dL_law_1359 rfl (lv_at hl 5 rfl) ?_
    refine lv_iload hx hb dL_law_1360 (lv_at hl 1 rfl) ?_
    refine lv_iconst (v := 1) hx hb dL_law_1362 (by decide) ?_
    refine lv_iadd hx hb dL_law_1363 ?_
    refine lx_sc hx hb hX hbl hbA hL hi1 dL_law_1364 ?_
    rw [hp1]
    refine lv_aload_n hx hb dL_law_1365 rfl (lv_at hl 5 rfl) ?_
    refine lv_iload hx hb dL_law_1366 (lv_at hl 1 rfl) ?_
    refine lv_iconst (v := 2) hx hb dL_law_1368 (by decide) ?_
    refine lv_iadd hx hb dL_law_1369 ?_
    refine lx_sc hx hb hX hbl hbA hL hi2 dL_law_1370 ?_
    rw [hp2]
    refine lv_aload_n hx hb dL_law_1371 rfl (lv_at hl 5 rfl) ?_
    refine lv_iload hx hb dL_law_1372 (lv_at hl 1 rfl) ?_
    refine lv_iconst (v := 3) hx hb dL_law_1374 (by decide) ?_
    refine lv_iadd hx hb dL_law_1375 ?_
    refine lx_sc hx hb hX hbl hbA hL hi3 dL_law_1376 ?_
    rw [hp3]
    refine lv_if_eq (tgt := 1384) hx hb dL_law_1377 (by decide) (fun hc => absurd hc hzp3) (fun _ => ?_)
    refine lv_iconst (v := 1) hx hb dL_law_1380 (by decide) ?_
    refine lv_goto (tgt := 1385) hx hb dL_law_1381 (by decide) ?_
    refine lx_mod (n := 3) (As := [.int p1, .int p2, .int 1]) (rest := []) S (c_X9_walkStep l D cI a N ψ p1 p2 1 hv r1 ψr hM) aM_RL_188 aI_X9_walkStep aV_X9_walkStep aC_X9_walkStep rfl rfl (by decide +kernel) rfl ⟨Nat.le_of_ble_eq_true rfl, Nat.le_of_ble_eq_true rfl⟩ (lc_room hnc hns (by decide) (by decide)) hL hC hl.1 (Nat.le_of_ble_eq_true rfl) dL_law_1385 (fun r H locs hr9 hL => ?_)
    rw [hr9]
    refine lv_istore (lv' := [(6, .int r1), (5, .int (hkc 1 k0)), (4, .int v4), (3, .ref q), (2, .ref (a 0)), (1, .ref (b 6 0)), (0, .ref sb)]) hx hb dL_law_1388 hl (by decide) rfl (fun ls hl => ?_)
    refine lv_aload_n hx hb dL_law_1390 rfl (lv_at hl 4 rfl) ?_
    refine lx_thr S aM_RL_118 ⟨Nat.le_of_ble_eq_true rfl, Nat.le_of_ble_eq_true rfl⟩ (lc_room hnc hns (by decide) (by decide)) hL hC hl.1 (Nat.le_of_ble_eq_true rfl) dL_law_1391 ?_
    rw [ht]
    refine lv_iload hx hb dL_law_1394 (lv_at hl 1 rfl) ?_
    refine lv_icmp_eq (tgt := 1401) hx hb dL_law_1396 (by decide) (fun _ => ?_) (fun hc => absurd rfl hc)
    refine lv_iload hx hb dL_law_1401 (lv_at hl 1 rfl) ?_
    by_cases hz0 : k0 = 0
    · refine lv_if_ne (tgt := 1418) hx hb dL_law_1403 (by decide) (fun hc => absurd (hkc_0 hz0) hc) (fun _ => ?_)
      refine lv_aload_n hx hb dL_law_1406 rfl (lv_at hl 3 rfl) ?_
      refine lv_iconst (v := 0) hx hb dL_law_1407 (by decide) ?_
      refine lx_out hx hb hL hC dL_law_1408 ?_
      refine lv_iload hx hb dL_law_1409 (lv_at hl 0 rfl) ?_
      refine lv_i2l hx hb dL_law_1411 rfl ?_
      refine lx_lcmp hx hb dL_law_1412 (by rw [hf1 hz0, hr hz0]) ?_
      refine lv_if_eq (tgt := 1418) hx hb dL_law_1413 (by decide) (fun _ => ?_) (fun hc => absurd rfl hc)
      refine lv_goto (tgt := 2083) hx hb dL_law_1418 (by decide) ?_
      refine W.widen (k := nc + 8) (n := ns + 48) (by omega) (by omega) ?_
      exact kk u u0r φr ηr τr f1 ψr hv _ _ _ hRel hL (congrFun hsm.2.2.1 0) (lv_sub hl [2, 3, 4, 5, 6] rfl)
    · refine lv_if_ne (tgt := 1418) hx hb dL_law_1403 (by decide) (fun _ => ?_) (fun hc => absurd hc (hkc_ne hz0))
      refine lv_goto (tgt := 2083) hx hb dL_law_1418 (by decide) ?_
      refine W.widen (k := nc + 8) (n := ns + 48) (by omega) (by omega) ?_
      exact kk u u0r φr ηr τr f1 ψr hv _ _ _ hRel hL (congrFun hsm.2.2.1 0) (lv_sub hl [2, 3, 4, 5, 6] rfl)
set_option maxHeartbeats 4000000 in
set_option maxRecDepth 100000 in
theorem lc_21 (P : Pk21 N Rel) (hRel : Rel u0 φ η τ ψ hv) (hl0 : l.stackTraces = false) (hx : p.tables.exec = Jvm.exec) (hb : c.code = cL_law) (S : CallFix p m c cL_law 7 s args AW RL) (hC : lxC D A0 cI cF cL s) (hX : va_X sb L xs s s.heap) (hbl : sb < s.heap.size) (hbA : ¬ A0 sb) (hi1 : vp_in (v4 + 1) L) (hi2 : vp_in (v4 + 2) L) (hi3 : vp_in (v4 + 3) L) (hi4 : vp_in (v4 + 4) L) (hp1 : xs (v4 + 1).toNatClampNeg = p1) (hp2 : xs (v4 + 2).toNatClampNeg = p2) (hp3 : xs (v4 + 3).toNatClampNeg = p3) (hp4 : xs (v4 + 4).toNatClampNeg = p4) (hnc : nc + 8 ≤ 601024) (hns : ns + 48 ≤ 7293034) (hL : lxS D A0 s.heap cI cF cL b q u0 φ η τ f a ψ hv H locs) (hl : lv_has ls 7 [(4, .int v4), (3, .ref q), (2, .ref (a 0)), (1, .ref (b 6 0)), (0, .ref sb)]) (kk : ∀ (u : Bf) (u0r φr : M2) (ηr : HT) (τr : M2) (fr : Nat → Int64) (ψr : M2) (hvr : Int64) (H1 : Heap) (locs1 : List Loc) (ls1 : Array Slot), Rel u0r φr ηr τr ψr hvr → lxS D A0 s.heap cI cF cL u q u0r φr ηr τr fr a ψr hvr H1 locs1 → u 6 0 = b 6 0 → lv_has ls1 7 [(4, .int v4), (3, .ref q), (2, .ref (a 0)), (1, .ref (b 6 0)), (0, .ref sb)] → W p l e room_1 s m args below meth c H1 locs1 (nc + 8) (ns + 48) Q (F0 m 2083 ls1 [])) : W p l e room_1 s m args below meth c H locs nc ns Q (F0 m 1421 ls []) := by
  obtain ⟨k0, r0, u0r, φr, ηr, τr, r1, ψr, hG, hk, hM, ht, hr, hRel⟩ := P u0 φ η τ ψ hv p1 hRel
  refine lv_aload_n hx hb dL_law_1421 rfl (lv_at hl 3 rfl) ?_
  refine lv_aload_n hx hb dL_law_1422 rfl (lv_at hl 4 rfl) ?_
  refine lv_iload hx hb dL_law_1423 (lv_at hl 0 rfl) ?_
  refine lv_iconst (v := 1) hx hb dL_law_1425 (by decide) ?_
  refine lv_iadd hx hb dL_law_1426 ?_
  refine lx_sc hx hb hX hbl hbA hL hi1 dL_law_1427 ?_
  rw [hp1]
  refine lv_aload_n hx hb dL_law_1428 rfl (lv_at hl 1 rfl) ?_
  refine lx_help (n := 3) (As := [.ref (b 6 0), .int p1, .ref q]) (rest := []) (r1 := hkc 1 k0) S (c_L_leastMoves l hl0 D cI cF cL b q f N u0 φ η τ p1 k0 r0 u0r φr ηr τr hG hk) aM_RL_189 aS_L_leastMoves aN_RL aW_L_leastMoves rfl rfl (by decide +kernel) rfl ⟨Nat.le_of_ble_eq_true rfl, Nat.le_of_ble_eq_true rfl⟩ (lc_room hnc hns (by decide) (by decide)) hL hC hl.1 (Nat.le_of_ble_eq_true rfl) dL_law_1429 (fun u f1 H locs hsm hf1 hL => ?_)
  refine lv_istore (lv' := [(5, .int (hkc 1 k0)), (4, .int v4), (3, .ref q), (2, .ref (a 0)), (1, .ref (b 6 0)), (0, .ref sb)]) hx hb dL_law_1432 hl (by decide) rfl (fun ls hl => ?_)
  refine lv_aload_n hx hb dL_law_1434 rfl (lv_at hl 3 rfl) ?_
  refine lv_aload_n hx hb dL_law_1435 rfl (lv_at hl 5 rfl) ?_
  refine lv_iload hx hb dL_law_1436 (lv_at hl 1 rfl) ?_
  refine lv_iconst (v := 1) hx hb dL_law_1438 (by decide) ?_
  refine lv_iadd hx hb dL_law_1439 ?_
  refine lx_sc hx hb hX hbl hbA hL hi1 dL_law_1440 ?_
  rw [hp1]
  refine lx_mod (n := 1) (As := [.int p1]) (rest := []) S (c_X9_leastMoves l D cI a N ψ p1 hv r1 ψr hM) aM_RL_191 aI_X9_leastMoves aV_X9_leastMoves aC_X9_leastMoves rfl rfl (by decide +kernel) rfl ⟨Nat.le_of_ble_eq_true rfl, Nat.le_of_ble_eq_true rfl⟩ (lc_room hnc hns (by decide) (by decide)) hL hC hl.1 (Nat.le_of_ble_eq_true rfl) dL_law_1441 (fun r H locs hr9 hL => ?_)
  rw [hr9]
  refine lv_istore (lv' := [(6, .int r1), (5, .int (hkc 1 k0)), (4, .int v4), (3, .ref q), (2, .ref (a 0)), (1, .ref (b 6 0)), (0, .ref sb)]) hx hb dL_law_1444 hl (by decide) rfl (fun ls hl => ?_)
  refine lv_aload_n hx hb dL_law_1446 rfl (lv_at hl 4 rfl) ?_
  refine lx_thr S aM_RL_118 ⟨Nat.le_of_ble_eq_true rfl, Nat.le_of_ble_eq_true rfl⟩ (lc_room hnc hns (by decide) (by decide)) hL hC hl.1 (Nat.le_of_ble_eq_true rfl) dL_law_1447 ?_
  rw [ht]
  refine lv_iload hx hb dL_law_1450 (lv_at hl 1 rfl) ?_
  refine lv_icmp_eq (tgt := 1457) hx hb dL_law_1452 (by decide) (fun _ => ?_) (fun hc => absurd rfl hc)
  refine lv_iload hx hb dL_law_1457 (lv_at hl 1 rfl) ?_
  by_cases hz0 : k0 = 0
  · refine lv_if_ne (tgt := 1474) hx hb dL_law_1459 (by decide) (fun hc => absurd (hkc_0 hz0) hc) (fun _ => ?_)
    refine lv_aload_n hx hb dL_law_1462 rfl (lv_at hl 3 rfl) ?_
    refine lv_iconst (v := 0) hx hb dL_law_1463 (by decide) ?_
    refine lx_out hx hb hL hC dL_law_1464 ?_
    refine lv_iload hx hb dL_law_1465 (lv_at hl 0 rfl) ?_
    refine lv_i2l hx hb dL_law_1467 rfl ?_
    refine lx_lcmp hx hb dL_law_1468 (by rw [hf1 hz0, hr hz0]) ?_
    refine lv_if_eq (tgt := 1474) hx hb dL_law_1469 (by decide) (fun _ => ?_) (fun hc => absurd rfl hc)
    refine lv_goto (tgt := 2083) hx hb dL_law_1474 (by decide) ?_
    refine W.widen (k := nc + 8) (n := ns + 48) (by omega) (by omega) ?_
    exact kk u u0r φr ηr τr f1 ψr hv _ _ _ hRel hL (congrFun hsm.2.2.1 0) (lv_sub hl [2, 3, 4, 5, 6] rfl)
  · refine lv_if_ne (tgt := 1474) hx hb dL_law_1459 (by decide) (fun _ => ?_) (fun hc => absurd hc (hkc_ne hz0))
    refine lv_goto (tgt := 2083) hx hb dL_law_1474 (by decide) ?_
    refine W.widen (k := nc + 8) (n := ns + 48) (by omega) (by omega) ?_
    exact kk u u0r φr ηr τr f1 ψr hv _ _ _ hRel hL (congrFun hsm.2.2.1 0) (lv_sub hl [2, 3, 4, 5, 6] rfl)
set_option maxHeartbeats 4000000 in
set_option maxRecDepth 100000 in
theorem lc_22 (P : Pk22 N Rel) (hRel : Rel u0 φ η τ ψ hv) (hl0 : l.stackTraces = false) (hx : p.tables.exec = Jvm.exec) (hb : c.code = cL_law) (S : CallFix p m c cL_law 7 s args AW RL) (hC : lxC D A0 cI cF cL s) (hX : va_X sb L xs s s.heap) (hbl : sb < s.heap.size) (hbA : ¬ A0 sb) (hi1 : vp_in (v4 + 1) L) (hi2 : vp_in (v4 + 2) L) (hi3 : vp_in (v4 + 3) L) (hi4 : vp_in (v4 + 4) L) (hp1 : xs (v4 + 1).toNatClampNeg = p1) (hp2 : xs (v4 + 2).toNatClampNeg = p2) (hp3 : xs (v4 + 3).toNatClampNeg = p3) (hp4 : xs (v4 + 4).toNatClampNeg = p4) (hnc : nc + 8 ≤ 601024) (hns : ns + 48 ≤ 7293034) (hL : lxS D A0 s.heap cI cF cL b q u0 φ η τ f a ψ hv H locs) (hl : lv_has ls 7 [(4, .int v4), (3, .ref q), (2, .ref (a 0)), (1, .ref (b 6 0)), (0, .ref sb)]) (kk : ∀ (u : Bf) (u0r φr : M2) (ηr : HT) (τr : M2) (fr : Nat → Int64) (ψr : M2) (hvr : Int64) (H1 : Heap) (locs1 : List Loc) (ls1 : Array Slot), Rel u0r φr ηr τr ψr hvr → lxS D A0 s.heap cI cF cL u q u0r φr ηr τr fr a ψr hvr H1 locs1 → u 6 0 = b 6 0 → lv_has ls1 7 [(4, .int v4), (3, .ref q), (2, .ref (a 0)), (1, .ref (b 6 0)), (0, .ref sb)] → W p l e room_1 s m args below meth c H1 locs1 (nc + 8) (ns + 48) Q (F0 m 2083 ls1 [])) : W p l e room_1 s m args below meth c H locs nc ns Q (F0 m 1477 ls []) := by
  obtain ⟨k0, r0, u0r, φr, ηr, τr, r1, ψr, hG, hk, hM, ht, hr, hRel⟩ := P u0 φ η τ ψ hv p1 p2 hRel
  refine lv_aload_n hx hb dL_law_1477 rfl (lv_at hl 3 rfl) ?_
  refine lv_aload_n hx hb dL_law_1478 rfl (lv_at hl 4 rfl) ?_
  refine lv_iload hx hb dL_law_1479 (lv_at hl 0 rfl) ?_
  refine lv_iconst (v := 1) hx hb dL_law_1481 (by decide) ?_
  refine lv_iadd hx hb dL_law_1482 ?_
  refine lx_sc hx hb hX hbl hbA hL hi1 dL_law_1483 ?_
  rw [hp1]
  refine lv_aload_n hx hb dL_law_1484 rfl (lv_at hl 4 rfl) ?_
  refine lv_iload hx hb dL_law_1485 (lv_at hl 0 rfl) ?_
  refine lv_iconst (v := 2) hx hb dL_law_1487 (by decide) ?_
  refine lv_iadd hx hb dL_law_1488 ?_
  refine lx_sc hx hb hX hbl hbA hL hi2 dL_law_1489 ?_
  rw [hp2]
  refine lv_aload_n hx hb dL_law_1490 rfl (lv_at hl 1 rfl) ?_
  refine lx_help (n := 4) (As := [.ref (b 6 0), .int p1, .int p2, .ref q]) (rest := []) (r1 := hkc 1 k0) S (c_L_roomFor l hl0 D cI cF cL b q f N u0 φ η τ p1 p2 k0 r0 u0r φr ηr τr hG hk) aM_RL_192 aS_L_roomFor aN_RL aW_L_roomFor rfl rfl (by decide +kernel) rfl ⟨Nat.le_of_ble_eq_true rfl, Nat.le_of_ble_eq_true rfl⟩ (lc_room hnc hns (by decide) (by decide)) hL hC hl.1 (Nat.le_of_ble_eq_true rfl) dL_law_1491 (fun u f1 H locs hsm hf1 hL => ?_)
  refine lv_istore (lv' := [(5, .int (hkc 1 k0)), (4, .int v4), (3, .ref q), (2, .ref (a 0)), (1, .ref (b 6 0)), (0, .ref sb)]) hx hb dL_law_1494 hl (by decide) rfl (fun ls hl => ?_)
  refine lv_aload_n hx hb dL_law_1496 rfl (lv_at hl 3 rfl) ?_
  refine lv_aload_n hx hb dL_law_1497 rfl (lv_at hl 5 rfl) ?_
  refine lv_iload hx hb dL_law_1498 (lv_at hl 1 rfl) ?_
  refine lv_iconst (v := 1) hx hb dL_law_1500 (by decide) ?_
  refine lv_iadd hx hb dL_law_1501 ?_
  refine lx_sc hx hb hX hbl hbA hL hi1 dL_law_1502 ?_
  rw [hp1]
  refine lv_aload_n hx hb dL_law_1503 rfl (lv_at hl 5 rfl) ?_
  refine lv_iload hx hb dL_law_1504 (lv_at hl 1 rfl) ?_
  refine lv_iconst (v := 2) hx hb dL_law_1506 (by decide) ?_
  refine lv_iadd hx hb dL_law_1507 ?_
  refine lx_sc hx hb hX hbl hbA hL hi2 dL_law_1508 ?_
  rw [hp2]
  refine lx_mod (n := 2) (As := [.int p1, .int p2]) (rest := []) S (c_X9_roomFor l D cI a N ψ p1 p2 hv r1 ψr hM) aM_RL_194 aI_X9_roomFor aV_X9_roomFor aC_X9_roomFor rfl rfl (by decide +kernel) rfl ⟨Nat.le_of_ble_eq_true rfl, Nat.le_of_ble_eq_true rfl⟩ (lc_room hnc hns (by decide) (by decide)) hL hC hl.1 (Nat.le_of_ble_eq_true rfl) dL_law_1509 (fun r H locs hr9 hL => ?_)
  rw [hr9]
  refine lv_istore (lv' := [(6, .int r1), (5, .int (hkc 1 k0)), (4, .int v4), (3, .ref q), (2, .ref (a 0)), (1, .ref (b 6 0)), (0, .ref sb)]) hx hb dL_law_1512 hl (by decide) rfl (fun ls hl => ?_)
  refine lv_aload_n hx hb dL_law_1514 rfl (lv_at hl 4 rfl) ?_
  refine lx_thr S aM_RL_118 ⟨Nat.le_of_ble_eq_true rfl, Nat.le_of_ble_eq_true rfl⟩ (lc_room hnc hns (by decide) (by decide)) hL hC hl.1 (Nat.le_of_ble_eq_true rfl) dL_law_1515 ?_
  rw [ht]
  refine lv_iload hx hb dL_law_1518 (lv_at hl 1 rfl) ?_
  refine lv_icmp_eq (tgt := 1525) hx hb dL_law_1520 (by decide) (fun _ => ?_) (fun hc => absurd rfl hc)
  refine lv_iload hx hb dL_law_1525 (lv_at hl 1 rfl) ?_
  by_cases hz0 : k0 = 0
  · refine lv_if_ne (tgt := 1542) hx hb dL_law_1527 (by decide) (fun hc => absurd (hkc_0 hz0) hc) (fun _ => ?_)
    refine lv_aload_n hx hb dL_law_1530 rfl (lv_at hl 3 rfl) ?_
    refine lv_iconst (v := 0) hx hb dL_law_1531 (by decide) ?_
    refine lx_out hx hb hL hC dL_law_1532 ?_
    refine lv_iload hx hb dL_law_1533 (lv_at hl 0 rfl) ?_
    refine lv_i2l hx hb dL_law_1535 rfl ?_
    refine lx_lcmp hx hb dL_law_1536 (by rw [hf1 hz0, hr hz0]) ?_
    refine lv_if_eq (tgt := 1542) hx hb dL_law_1537 (by decide) (fun _ => ?_) (fun hc => absurd rfl hc)
    refine lv_goto (tgt := 2083) hx hb dL_law_1542 (by decide) ?_
    refine W.widen (k := nc + 8) (n := ns + 48) (by omega) (by omega) ?_
    exact kk u u0r φr ηr τr f1 ψr hv _ _ _ hRel hL (congrFun hsm.2.2.1 0) (lv_sub hl [2, 3, 4, 5, 6] rfl)
  · refine lv_if_ne (tgt := 1542) hx hb dL_law_1527 (by decide) (fun _ => ?_) (fun hc => absurd hc (hkc_ne hz0))
    refine lv_goto (tgt := 2083) hx hb dL_law_1542 (by decide) ?_
    refine W.widen (k := nc + 8) (n := ns + 48) (by omega) (by omega) ?_
    exact kk u u0r φr ηr τr f1 ψr hv _ _ _ hRel hL (congrFun hsm.2.2.1 0) (lv_sub hl [2, 3, 4, 5, 6] rfl)
set_option maxHeartbeats 4000000 in
set_option maxRecDepth 100000 in
theorem lc_23 (P : Pk23 N Rel) (hRel : Rel u0 φ η τ ψ hv) (hl0 : l.stackTraces = false) (hx : p.tables.exec = Jvm.exec) (hb : c.code = cL_law) (S : CallFix p m c cL_law 7 s args AW RL) (hC : lxC D A0 cI cF cL s) (hX : va_X sb L xs s s.heap) (hbl : sb < s.heap.size) (hbA : ¬ A0 sb) (hi1 : vp_in (v4 + 1) L) (hi2 : vp_in (v4 + 2) L) (hi3 : vp_in (v4 + 3) L) (hi4 : vp_in (v4 + 4) L) (hp1 : xs (v4 + 1).toNatClampNeg = p1) (hp2 : xs (v4 + 2).toNatClampNeg = p2) (hp3 : xs (v4 + 3).toNatClampNeg = p3) (hp4 : xs (v4 + 4).toNatClampNeg = p4) (hnc : nc + 8 ≤ 601024) (hns : ns + 48 ≤ 7293034) (hL : lxS D A0 s.heap cI cF cL b q u0 φ η τ f a ψ hv H locs) (hl : lv_has ls 7 [(4, .int v4), (3, .ref q), (2, .ref (a 0)), (1, .ref (b 6 0)), (0, .ref sb)]) (kk : ∀ (u : Bf) (u0r φr : M2) (ηr : HT) (τr : M2) (fr : Nat → Int64) (ψr : M2) (hvr : Int64) (H1 : Heap) (locs1 : List Loc) (ls1 : Array Slot), Rel u0r φr ηr τr ψr hvr → lxS D A0 s.heap cI cF cL u q u0r φr ηr τr fr a ψr hvr H1 locs1 → u 6 0 = b 6 0 → lv_has ls1 7 [(4, .int v4), (3, .ref q), (2, .ref (a 0)), (1, .ref (b 6 0)), (0, .ref sb)] → W p l e room_1 s m args below meth c H1 locs1 (nc + 8) (ns + 48) Q (F0 m 2083 ls1 [])) : W p l e room_1 s m args below meth c H locs nc ns Q (F0 m 1545 ls []) := by
  obtain ⟨k0, r0, u0r, φr, ηr, τr, r1, ψr, hG, hk, hM, ht, hr, hRel⟩ := P u0 φ η τ ψ hv p1 p2 hRel
  refine lv_aload_n hx hb dL_law_1545 rfl (lv_at hl 3 rfl) ?_
  refine lv_aload_n hx hb dL_law_1546 rfl (lv_at hl 4 rfl) ?_
  refine lv_iload hx hb dL_law_1547 (lv_at hl 0 rfl) ?_
  refine lv_iconst (v := 1) hx hb dL_law_1549 (by decide) ?_
  refine lv_iadd hx hb dL_law_1550 ?_
  refine lx_sc hx hb hX hbl hbA hL hi1 dL_law_1551 ?_
  rw [hp1]
  refine lv_aload_n hx hb dL_law_1552 rfl (lv_at hl 4 rfl) ?_
  refine lv_iload hx hb dL_law_1553 (lv_at hl 0 rfl) ?_
  refine lv_iconst (v := 2) hx hb dL_law_1555 (by decide) ?_
  refine lv_iadd hx hb dL_law_1556 ?_
  refine lx_sc hx hb hX hbl hbA hL hi2 dL_law_1557 ?_
  rw [hp2]
  refine lv_aload_n hx hb dL_law_1558 rfl (lv_at hl 1 rfl) ?_
  refine lx_help (n := 4) (As := [.ref (b 6 0), .int p1, .int p2, .ref q]) (rest := []) (r1 := hkc 1 k0) S (c_L_falseKeys l hl0 D cI cF cL b q f N u0 φ η τ p1 p2 k0 r0 u0r φr ηr τr hG hk) aM_RL_195 aS_L_falseKeys aN_RL aW_L_falseKeys rfl rfl (by decide +kernel) rfl ⟨Nat.le_of_ble_eq_true rfl, Nat.le_of_ble_eq_true rfl⟩ (lc_room hnc hns (by decide) (by decide)) hL hC hl.1 (Nat.le_of_ble_eq_true rfl) dL_law_1559 (fun u f1 H locs hsm hf1 hL => ?_)
  refine lv_istore (lv' := [(5, .int (hkc 1 k0)), (4, .int v4), (3, .ref q), (2, .ref (a 0)), (1, .ref (b 6 0)), (0, .ref sb)]) hx hb dL_law_1562 hl (by decide) rfl (fun ls hl => ?_)
  refine lv_aload_n hx hb dL_law_1564 rfl (lv_at hl 3 rfl) ?_
  refine lv_aload_n hx hb dL_law_1565 rfl (lv_at hl 5 rfl) ?_
  refine lv_iload hx hb dL_law_1566 (lv_at hl 1 rfl) ?_
  refine lv_iconst (v := 1) hx hb dL_law_1568 (by decide) ?_
  refine lv_iadd hx hb dL_law_1569 ?_
  refine lx_sc hx hb hX hbl hbA hL hi1 dL_law_1570 ?_
  rw [hp1]
  refine lv_aload_n hx hb dL_law_1571 rfl (lv_at hl 5 rfl) ?_
  refine lv_iload hx hb dL_law_1572 (lv_at hl 1 rfl) ?_
  refine lv_iconst (v := 2) hx hb dL_law_1574 (by decide) ?_
  refine lv_iadd hx hb dL_law_1575 ?_
  refine lx_sc hx hb hX hbl hbA hL hi2 dL_law_1576 ?_
  rw [hp2]
  refine lx_mod (n := 2) (As := [.int p1, .int p2]) (rest := []) S (c_X9_falseKeys l D cI a N ψ p1 p2 hv r1 ψr hM) aM_RL_197 aI_X9_falseKeys aV_X9_falseKeys aC_X9_falseKeys rfl rfl (by decide +kernel) rfl ⟨Nat.le_of_ble_eq_true rfl, Nat.le_of_ble_eq_true rfl⟩ (lc_room hnc hns (by decide) (by decide)) hL hC hl.1 (Nat.le_of_ble_eq_true rfl) dL_law_1577 (fun r H locs hr9 hL => ?_)
  rw [hr9]
  refine lv_istore (lv' := [(6, .int r1), (5, .int (hkc 1 k0)), (4, .int v4), (3, .ref q), (2, .ref (a 0)), (1, .ref (b 6 0)), (0, .ref sb)]) hx hb dL_law_1580 hl (by decide) rfl (fun ls hl => ?_)
  refine lv_aload_n hx hb dL_law_1582 rfl (lv_at hl 4 rfl) ?_
  refine lx_thr S aM_RL_118 ⟨Nat.le_of_ble_eq_true rfl, Nat.le_of_ble_eq_true rfl⟩ (lc_room hnc hns (by decide) (by decide)) hL hC hl.1 (Nat.le_of_ble_eq_true rfl) dL_law_1583 ?_
  rw [ht]
  refine lv_iload hx hb dL_law_1586 (lv_at hl 1 rfl) ?_
  refine lv_icmp_eq (tgt := 1593) hx hb dL_law_1588 (by decide) (fun _ => ?_) (fun hc => absurd rfl hc)
  refine lv_iload hx hb dL_law_1593 (lv_at hl 1 rfl) ?_
  by_cases hz0 : k0 = 0
  · refine lv_if_ne (tgt := 1610) hx hb dL_law_1595 (by decide) (fun hc => absurd (hkc_0 hz0) hc) (fun _ => ?_)
    refine lv_aload_n hx hb dL_law_1598 rfl (lv_at hl 3 rfl) ?_
    refine lv_iconst (v := 0) hx hb dL_law_1599 (by decide) ?_
    refine lx_out hx hb hL hC dL_law_1600 ?_
    refine lv_iload hx hb dL_law_1601 (lv_at hl 0 rfl) ?_
    refine lv_i2l hx hb dL_law_1603 rfl ?_
    refine lx_lcmp hx hb dL_law_1604 (by rw [hf1 hz0, hr hz0]) ?_
    refine lv_if_eq (tgt := 1610) hx hb dL_law_1605 (by decide) (fun _ => ?_) (fun hc => absurd rfl hc)
    refine lv_goto (tgt := 2083) hx hb dL_law_1610 (by decide) ?_
    refine W.widen (k := nc + 8) (n := ns + 48) (by omega) (by omega) ?_
    exact kk u u0r φr ηr τr f1 ψr hv _ _ _ hRel hL (congrFun hsm.2.2.1 0) (lv_sub hl [2, 3, 4, 5, 6] rfl)
  · refine lv_if_ne (tgt := 1610) hx hb dL_law_1595 (by decide) (fun _ => ?_) (fun hc => absurd hc (hkc_ne hz0))
    refine lv_goto (tgt := 2083) hx hb dL_law_1610 (by decide) ?_
    refine W.widen (k := nc + 8) (n := ns + 48) (by omega) (by omega) ?_
    exact kk u u0r φr ηr τr f1 ψr hv _ _ _ hRel hL (congrFun hsm.2.2.1 0) (lv_sub hl [2, 3, 4, 5, 6] rfl)
set_option maxHeartbeats 4000000 in
set_option maxRecDepth 100000 in
theorem lc_24 (P : Pk24 N Rel) (hRel : Rel u0 φ η τ ψ hv) (hl0 : l.stackTraces = false) (hx : p.tables.exec = Jvm.exec) (hb : c.code = cL_law) (S : CallFix p m c cL_law 7 s args AW RL) (hC : lxC D A0 cI cF cL s) (hX : va_X sb L xs s s.heap) (hbl : sb < s.heap.size) (hbA : ¬ A0 sb) (hi1 : vp_in (v4 + 1) L) (hi2 : vp_in (v4 + 2) L) (hi3 : vp_in (v4 + 3) L) (hi4 : vp_in (v4 + 4) L) (hp1 : xs (v4 + 1).toNatClampNeg = p1) (hp2 : xs (v4 + 2).toNatClampNeg = p2) (hp3 : xs (v4 + 3).toNatClampNeg = p3) (hp4 : xs (v4 + 4).toNatClampNeg = p4) (hnc : nc + 8 ≤ 601024) (hns : ns + 48 ≤ 7293034) (hL : lxS D A0 s.heap cI cF cL b q u0 φ η τ f a ψ hv H locs) (hl : lv_has ls 7 [(4, .int v4), (3, .ref q), (2, .ref (a 0)), (1, .ref (b 6 0)), (0, .ref sb)]) (kk : ∀ (u : Bf) (u0r φr : M2) (ηr : HT) (τr : M2) (fr : Nat → Int64) (ψr : M2) (hvr : Int64) (H1 : Heap) (locs1 : List Loc) (ls1 : Array Slot), Rel u0r φr ηr τr ψr hvr → lxS D A0 s.heap cI cF cL u q u0r φr ηr τr fr a ψr hvr H1 locs1 → u 6 0 = b 6 0 → lv_has ls1 7 [(4, .int v4), (3, .ref q), (2, .ref (a 0)), (1, .ref (b 6 0)), (0, .ref sb)] → W p l e room_1 s m args below meth c H1 locs1 (nc + 8) (ns + 48) Q (F0 m 2083 ls1 [])) : W p l e room_1 s m args below meth c H locs nc ns Q (F0 m 1613 ls []) := by
  obtain ⟨k0, r0, u0r, φr, ηr, τr, r1, ψr, hG, h00, hM, hr, hRel⟩ := P u0 φ η τ ψ hv p1 hRel
  refine lv_aload_n hx hb dL_law_1613 rfl (lv_at hl 3 rfl) ?_
  refine lv_aload_n hx hb dL_law_1614 rfl (lv_at hl 4 rfl) ?_
  refine lv_iload hx hb dL_law_1615 (lv_at hl 0 rfl) ?_
  refine lv_iconst (v := 1) hx hb dL_law_1617 (by decide) ?_
  refine lv_iadd hx hb dL_law_1618 ?_
  refine lx_sc hx hb hX hbl hbA hL hi1 dL_law_1619 ?_
  rw [hp1]
  refine lx_x (n := 1) (As := [.int p1]) (rest := []) S (c_X8_falseKey l hl0 D cI cF b N u0 φ η τ p1 k0 r0 u0r φr ηr τr hG) (fun r u h => ⟨h.2.1, h.2.2⟩) h00 aM_RL_198 aI_X8_falseKey aV_X8_falseKey aC_X8_falseKey rfl rfl (by decide +kernel) rfl ⟨Nat.le_of_ble_eq_true rfl, Nat.le_of_ble_eq_true rfl⟩ (lc_room hnc hns (by decide) (by decide)) hL hC hl.1 (Nat.le_of_ble_eq_true rfl) dL_law_1620 (fun u H locs hsm hL => ?_)
  refine lv_aload_n hx hb dL_law_1623 rfl (lv_at hl 2 rfl) ?_
  refine lv_aload_n hx hb dL_law_1624 rfl (lv_at hl 4 rfl) ?_
  refine lv_iload hx hb dL_law_1625 (lv_at hl 0 rfl) ?_
  refine lv_iconst (v := 1) hx hb dL_law_1627 (by decide) ?_
  refine lv_iadd hx hb dL_law_1628 ?_
  refine lx_sc hx hb hX hbl hbA hL hi1 dL_law_1629 ?_
  rw [hp1]
  refine lx_mod (n := 1) (As := [.int p1]) (rest := [.int r0]) S (c_X9_falseKey l D cI a N ψ p1 hv r1 ψr hM) aM_RL_201 aI_X9_falseKey aV_X9_falseKey aC_X9_falseKey rfl rfl (by decide +kernel) rfl ⟨Nat.le_of_ble_eq_true rfl, Nat.le_of_ble_eq_true rfl⟩ (lc_room hnc hns (by decide) (by decide)) hL hC hl.1 (Nat.le_of_ble_eq_true rfl) dL_law_1630 (fun r H locs hr9 hL => ?_)
  rw [hr9]
  refine lv_icmp_eq (tgt := 2083) hx hb dL_law_1633 (by decide) (fun _ => ?_) (fun hc => absurd hr hc)
  refine W.widen (k := nc + 8) (n := ns + 48) (by omega) (by omega) ?_
  exact kk u u0r φr ηr τr f ψr hv _ _ _ hRel hL (congrFun hsm.2.2.1 0) (lv_sub hl [0, 1, 2, 3, 4] rfl)
set_option maxHeartbeats 4000000 in
set_option maxRecDepth 100000 in
theorem lc_25 (P : Pk25 N Rel) (hRel : Rel u0 φ η τ ψ hv) (hl0 : l.stackTraces = false) (hx : p.tables.exec = Jvm.exec) (hb : c.code = cL_law) (S : CallFix p m c cL_law 7 s args AW RL) (hC : lxC D A0 cI cF cL s) (hX : va_X sb L xs s s.heap) (hbl : sb < s.heap.size) (hbA : ¬ A0 sb) (hi1 : vp_in (v4 + 1) L) (hi2 : vp_in (v4 + 2) L) (hi3 : vp_in (v4 + 3) L) (hi4 : vp_in (v4 + 4) L) (hp1 : xs (v4 + 1).toNatClampNeg = p1) (hp2 : xs (v4 + 2).toNatClampNeg = p2) (hp3 : xs (v4 + 3).toNatClampNeg = p3) (hp4 : xs (v4 + 4).toNatClampNeg = p4) (hnc : nc + 8 ≤ 601024) (hns : ns + 48 ≤ 7293034) (hL : lxS D A0 s.heap cI cF cL b q u0 φ η τ f a ψ hv H locs) (hl : lv_has ls 7 [(4, .int v4), (3, .ref q), (2, .ref (a 0)), (1, .ref (b 6 0)), (0, .ref sb)]) (kk : ∀ (u : Bf) (u0r φr : M2) (ηr : HT) (τr : M2) (fr : Nat → Int64) (ψr : M2) (hvr : Int64) (H1 : Heap) (locs1 : List Loc) (ls1 : Array Slot), Rel u0r φr ηr τr ψr hvr → lxS D A0 s.heap cI cF cL u q u0r φr ηr τr fr a ψr hvr H1 locs1 → u 6 0 = b 6 0 → lv_has ls1 7 [(4, .int v4), (3, .ref q), (2, .ref (a 0)), (1, .ref (b 6 0)), (0, .ref sb)] → W p l e room_1 s m args below meth c H1 locs1 (nc + 8) (ns + 48) Q (F0 m 2083 ls1 [])) : W p l e room_1 s m args below meth c H locs nc ns Q (F0 m 1638 ls []) := by
  obtain ⟨k0, r0, u0r, φr, ηr, τr, r1, ψr, hG, hk, hM, ht, hr, hRel⟩ := P u0 φ η τ ψ hv p1 p2 hRel
  refine lv_aload_n hx hb dL_law_1638 rfl (lv_at hl 3 rfl) ?_
  refine lv_aload_n hx hb dL_law_1639 rfl (lv_at hl 4 rfl) ?_
  refine lv_iload hx hb dL_law_1640 (lv_at hl 0 rfl) ?_
  refine lv_iconst (v := 1) hx hb dL_law_1642 (by decide) ?_
  refine lv_iadd hx hb dL_law_1643 ?_
  refine lx_sc hx hb hX hbl hbA hL hi1 dL_law_1644 ?_
  rw [hp1]
  refine lv_aload_n hx hb dL_law_1645 rfl (lv_at hl 4 rfl) ?_
  refine lv_iload hx hb dL_law_1646 (lv_at hl 0 rfl) ?_
  refine lv_iconst (v := 2) hx hb dL_law_1648 (by decide) ?_
  refine lv_iadd hx hb dL_law_1649 ?_
  refine lx_sc hx hb hX hbl hbA hL hi2 dL_law_1650 ?_
  rw [hp2]
  refine lv_aload_n hx hb dL_law_1651 rfl (lv_at hl 1 rfl) ?_
  refine lx_help (n := 4) (As := [.ref (b 6 0), .int p1, .int p2, .ref q]) (rest := []) (r1 := hkc 3 k0) S (c_L_blamed l hl0 D cI cF cL b q f N u0 φ η τ p1 p2 k0 r0 u0r φr ηr τr hG hk) aM_RL_202 aS_L_blamed aN_RL aW_L_blamed rfl rfl (by decide +kernel) rfl ⟨Nat.le_of_ble_eq_true rfl, Nat.le_of_ble_eq_true rfl⟩ (lc_room hnc hns (by decide) (by decide)) hL hC hl.1 (Nat.le_of_ble_eq_true rfl) dL_law_1652 (fun u f1 H locs hsm hf1 hL => ?_)
  refine lv_istore (lv' := [(5, .int (hkc 3 k0)), (4, .int v4), (3, .ref q), (2, .ref (a 0)), (1, .ref (b 6 0)), (0, .ref sb)]) hx hb dL_law_1655 hl (by decide) rfl (fun ls hl => ?_)
  refine lv_aload_n hx hb dL_law_1657 rfl (lv_at hl 3 rfl) ?_
  refine lv_aload_n hx hb dL_law_1658 rfl (lv_at hl 5 rfl) ?_
  refine lv_iload hx hb dL_law_1659 (lv_at hl 1 rfl) ?_
  refine lv_iconst (v := 1) hx hb dL_law_1661 (by decide) ?_
  refine lv_iadd hx hb dL_law_1662 ?_
  refine lx_sc hx hb hX hbl hbA hL hi1 dL_law_1663 ?_
  rw [hp1]
  refine lv_aload_n hx hb dL_law_1664 rfl (lv_at hl 5 rfl) ?_
  refine lv_iload hx hb dL_law_1665 (lv_at hl 1 rfl) ?_
  refine lv_iconst (v := 2) hx hb dL_law_1667 (by decide) ?_
  refine lv_iadd hx hb dL_law_1668 ?_
  refine lx_sc hx hb hX hbl hbA hL hi2 dL_law_1669 ?_
  rw [hp2]
  refine lx_mod (n := 2) (As := [.int p1, .int p2]) (rest := []) S (c_X9_blamed l D cI a N ψ p1 p2 hv r1 ψr hM) aM_RL_204 aI_X9_blamed aV_X9_blamed aC_X9_blamed rfl rfl (by decide +kernel) rfl ⟨Nat.le_of_ble_eq_true rfl, Nat.le_of_ble_eq_true rfl⟩ (lc_room hnc hns (by decide) (by decide)) hL hC hl.1 (Nat.le_of_ble_eq_true rfl) dL_law_1670 (fun r H locs hr9 hL => ?_)
  rw [hr9]
  refine lv_istore (lv' := [(6, .int r1), (5, .int (hkc 3 k0)), (4, .int v4), (3, .ref q), (2, .ref (a 0)), (1, .ref (b 6 0)), (0, .ref sb)]) hx hb dL_law_1673 hl (by decide) rfl (fun ls hl => ?_)
  refine lv_aload_n hx hb dL_law_1675 rfl (lv_at hl 4 rfl) ?_
  refine lx_thr S aM_RL_118 ⟨Nat.le_of_ble_eq_true rfl, Nat.le_of_ble_eq_true rfl⟩ (lc_room hnc hns (by decide) (by decide)) hL hC hl.1 (Nat.le_of_ble_eq_true rfl) dL_law_1676 ?_
  rw [ht]
  refine lv_iload hx hb dL_law_1679 (lv_at hl 1 rfl) ?_
  refine lv_icmp_eq (tgt := 1686) hx hb dL_law_1681 (by decide) (fun _ => ?_) (fun hc => absurd rfl hc)
  refine lv_iload hx hb dL_law_1686 (lv_at hl 1 rfl) ?_
  by_cases hz0 : k0 = 0
  · refine lv_if_ne (tgt := 1703) hx hb dL_law_1688 (by decide) (fun hc => absurd (hkc_0 hz0) hc) (fun _ => ?_)
    refine lv_aload_n hx hb dL_law_1691 rfl (lv_at hl 3 rfl) ?_
    refine lv_iconst (v := 0) hx hb dL_law_1692 (by decide) ?_
    refine lx_out hx hb hL hC dL_law_1693 ?_
    refine lv_iload hx hb dL_law_1694 (lv_at hl 0 rfl) ?_
    refine lv_i2l hx hb dL_law_1696 rfl ?_
    refine lx_lcmp hx hb dL_law_1697 (by rw [hf1 hz0, hr hz0]) ?_
    refine lv_if_eq (tgt := 1703) hx hb dL_law_1698 (by decide) (fun _ => ?_) (fun hc => absurd rfl hc)
    refine lv_goto (tgt := 2083) hx hb dL_law_1703 (by decide) ?_
    refine W.widen (k := nc + 8) (n := ns + 48) (by omega) (by omega) ?_
    exact kk u u0r φr ηr τr f1 ψr hv _ _ _ hRel hL (congrFun hsm.2.2.1 0) (lv_sub hl [2, 3, 4, 5, 6] rfl)
  · refine lv_if_ne (tgt := 1703) hx hb dL_law_1688 (by decide) (fun _ => ?_) (fun hc => absurd hc (hkc_ne hz0))
    refine lv_goto (tgt := 2083) hx hb dL_law_1703 (by decide) ?_
    refine W.widen (k := nc + 8) (n := ns + 48) (by omega) (by omega) ?_
    exact kk u u0r φr ηr τr f1 ψr hv _ _ _ hRel hL (congrFun hsm.2.2.1 0) (lv_sub hl [2, 3, 4, 5, 6] rfl)
set_option maxHeartbeats 4000000 in
set_option maxRecDepth 100000 in
theorem lc_26 (P : Pk26 N Rel) (hRel : Rel u0 φ η τ ψ hv) (hl0 : l.stackTraces = false) (hx : p.tables.exec = Jvm.exec) (hb : c.code = cL_law) (S : CallFix p m c cL_law 7 s args AW RL) (hC : lxC D A0 cI cF cL s) (hX : va_X sb L xs s s.heap) (hbl : sb < s.heap.size) (hbA : ¬ A0 sb) (hi1 : vp_in (v4 + 1) L) (hi2 : vp_in (v4 + 2) L) (hi3 : vp_in (v4 + 3) L) (hi4 : vp_in (v4 + 4) L) (hp1 : xs (v4 + 1).toNatClampNeg = p1) (hp2 : xs (v4 + 2).toNatClampNeg = p2) (hp3 : xs (v4 + 3).toNatClampNeg = p3) (hp4 : xs (v4 + 4).toNatClampNeg = p4) (hnc : nc + 8 ≤ 601024) (hns : ns + 48 ≤ 7293034) (hL : lxS D A0 s.heap cI cF cL b q u0 φ η τ f a ψ hv H locs) (hl : lv_has ls 7 [(4, .int v4), (3, .ref q), (2, .ref (a 0)), (1, .ref (b 6 0)), (0, .ref sb)]) (kk : ∀ (u : Bf) (u0r φr : M2) (ηr : HT) (τr : M2) (fr : Nat → Int64) (ψr : M2) (hvr : Int64) (H1 : Heap) (locs1 : List Loc) (ls1 : Array Slot), Rel u0r φr ηr τr ψr hvr → lxS D A0 s.heap cI cF cL u q u0r φr ηr τr fr a ψr hvr H1 locs1 → u 6 0 = b 6 0 → lv_has ls1 7 [(4, .int v4), (3, .ref q), (2, .ref (a 0)), (1, .ref (b 6 0)), (0, .ref sb)] → W p l e room_1 s m args below meth c H1 locs1 (nc + 8) (ns + 48) Q (F0 m 2083 ls1 [])) : W p l e room_1 s m args below meth c H locs nc ns Q (F0 m 1706 ls []) := by
  obtain ⟨k0, r0, u0r, φr, ηr, τr, r1, ψr, hG, h00, hM, hr, hRel⟩ := P u0 φ η τ ψ hv hRel
  refine lv_aload_n hx hb dL_law_1706 rfl (lv_at hl 3 rfl) ?_
  refine lx_x (n := 0) (As := []) (rest := []) S (c_X8_twins l hl0 D cI cF b N u0 φ η τ k0 r0 u0r φr ηr τr hG) (fun r u h => ⟨h.2.1, h.2.2⟩) h00 aM_RL_205 aI_X8_twins aV_X8_twins aC_X8_twins rfl rfl (by decide +kernel) rfl ⟨Nat.le_of_ble_eq_true rfl, Nat.le_of_ble_eq_true rfl⟩ (lc_room hnc hns (by decide) (by decide)) hL hC hl.1 (Nat.le_of_ble_eq_true rfl) dL_law_1707 (fun u H locs hsm hL => ?_)
  refine lv_aload_n hx hb dL_law_1710 rfl (lv_at hl 2 rfl) ?_
  refine lx_mod (n := 0) (As := []) (rest := [.int r0]) S (c_X9_twins l D cI a N ψ hv r1 ψr hM) aM_RL_208 aI_X9_twins aV_X9_twins aC_X9_twins rfl rfl (by decide +kernel) rfl ⟨Nat.le_of_ble_eq_true rfl, Nat.le_of_ble_eq_true rfl⟩ (lc_room hnc hns (by decide) (by decide)) hL hC hl.1 (Nat.le_of_ble_eq_true rfl) dL_law_1711 (fun r H locs hr9 hL => ?_)
  rw [hr9]
  refine lv_icmp_eq (tgt := 2083) hx hb dL_law_1714 (by decide) (fun _ => ?_) (fun hc => absurd hr hc)
  refine W.widen (k := nc + 8) (n := ns + 48) (by omega) (by omega) ?_
  exact kk u u0r φr ηr τr f ψr hv _ _ _ hRel hL (congrFun hsm.2.2.1 0) (lv_sub hl [0, 1, 2, 3, 4] rfl)
set_option maxHeartbeats 4000000 in
set_option maxRecDepth 100000 in
theorem lc_27 (P : Pk27 N Rel) (hRel : Rel u0 φ η τ ψ hv) (hl0 : l.stackTraces = false) (hx : p.tables.exec = Jvm.exec) (hb : c.code = cL_law) (S : CallFix p m c cL_law 7 s args AW RL) (hC : lxC D A0 cI cF cL s) (hX : va_X sb L xs s s.heap) (hbl : sb < s.heap.size) (hbA : ¬ A0 sb) (hi1 : vp_in (v4 + 1) L) (hi2 : vp_in (v4 + 2) L) (hi3 : vp_in (v4 + 3) L) (hi4 : vp_in (v4 + 4) L) (hp1 : xs (v4 + 1).toNatClampNeg = p1) (hp2 : xs (v4 + 2).toNatClampNeg = p2) (hp3 : xs (v4 + 3).toNatClampNeg = p3) (hp4 : xs (v4 + 4).toNatClampNeg = p4) (hnc : nc + 8 ≤ 601024) (hns : ns + 48 ≤ 7293034) (hL : lxS D A0 s.heap cI cF cL b q u0 φ η τ f a ψ hv H locs) (hl : lv_has ls 7 [(4, .int v4), (3, .ref q), (2, .ref (a 0)), (1, .ref (b 6 0)), (0, .ref sb)]) (kk : ∀ (u : Bf) (u0r φr : M2) (ηr : HT) (τr : M2) (fr : Nat → Int64) (ψr : M2) (hvr : Int64) (H1 : Heap) (locs1 : List Loc) (ls1 : Array Slot), Rel u0r φr ηr τr ψr hvr → lxS D A0 s.heap cI cF cL u q u0r φr ηr τr fr a ψr hvr H1 locs1 → u 6 0 = b 6 0 → lv_has ls1 7 [(4, .int v4), (3, .ref q), (2, .ref (a 0)), (1, .ref (b 6 0)), (0, .ref sb)] → W p l e room_1 s m args below meth c H1 locs1 (nc + 8) (ns + 48) Q (F0 m 2083 ls1 [])) : W p l e room_1 s m args below meth c H locs nc ns Q (F0 m 1719 ls []) := by
  obtain ⟨k0, r0, u0r, φr, ηr, τr, r1, ψr, hG, hk, hM, ht, hr, hRel⟩ := P u0 φ η τ ψ hv p1 hRel
  refine lv_aload_n hx hb dL_law_1719 rfl (lv_at hl 3 rfl) ?_
  refine lv_aload_n hx hb dL_law_1720 rfl (lv_at hl 4 rfl) ?_
  refine lv_iload hx hb dL_law_1721 (lv_at hl 0 rfl) ?_
  refine lv_iconst (v := 1) hx hb dL_law_1723 (by decide) ?_
  refine lv_iadd hx hb dL_law_1724 ?_
  refine lx_sc hx hb hX hbl hbA hL hi1 dL_law_1725 ?_
  rw [hp1]
  refine lv_aload_n hx hb dL_law_1726 rfl (lv_at hl 1 rfl) ?_
  refine lx_help (n := 3) (As := [.ref (b 6 0), .int p1, .ref q]) (rest := []) (r1 := hkc 1 k0) S (c_L_bestSeed l hl0 D cI cF cL b q f N u0 φ η τ p1 k0 r0 u0r φr ηr τr hG hk) aM_RL_209 aS_L_bestSeed aN_RL aW_L_bestSeed rfl rfl (by decide +kernel) rfl ⟨Nat.le_of_ble_eq_true rfl, Nat.le_of_ble_eq_true rfl⟩ (lc_room hnc hns (by decide) (by decide)) hL hC hl.1 (Nat.le_of_ble_eq_true rfl) dL_law_1727 (fun u f1 H locs hsm hf1 hL => ?_)
  refine lv_istore (lv' := [(5, .int (hkc 1 k0)), (4, .int v4), (3, .ref q), (2, .ref (a 0)), (1, .ref (b 6 0)), (0, .ref sb)]) hx hb dL_law_1730 hl (by decide) rfl (fun ls hl => ?_)
  refine lv_aload_n hx hb dL_law_1732 rfl (lv_at hl 3 rfl) ?_
  refine lv_aload_n hx hb dL_law_1733 rfl (lv_at hl 5 rfl) ?_
  refine lv_iload hx hb dL_law_1734 (lv_at hl 1 rfl) ?_
  refine lv_iconst (v := 1) hx hb dL_law_1736 (by decide) ?_
  refine lv_iadd hx hb dL_law_1737 ?_
  refine lx_sc hx hb hX hbl hbA hL hi1 dL_law_1738 ?_
  rw [hp1]
  refine lx_mod (n := 1) (As := [.int p1]) (rest := []) S (c_X9_bestSeed l D cI a N ψ p1 hv r1 ψr hM) aM_RL_211 aI_X9_bestSeed aV_X9_bestSeed aC_X9_bestSeed rfl rfl (by decide +kernel) rfl ⟨Nat.le_of_ble_eq_true rfl, Nat.le_of_ble_eq_true rfl⟩ (lc_room hnc hns (by decide) (by decide)) hL hC hl.1 (Nat.le_of_ble_eq_true rfl) dL_law_1739 (fun r H locs hr9 hL => ?_)
  rw [hr9]
  refine lv_istore (lv' := [(6, .int r1), (5, .int (hkc 1 k0)), (4, .int v4), (3, .ref q), (2, .ref (a 0)), (1, .ref (b 6 0)), (0, .ref sb)]) hx hb dL_law_1742 hl (by decide) rfl (fun ls hl => ?_)
  refine lv_aload_n hx hb dL_law_1744 rfl (lv_at hl 4 rfl) ?_
  refine lx_thr S aM_RL_118 ⟨Nat.le_of_ble_eq_true rfl, Nat.le_of_ble_eq_true rfl⟩ (lc_room hnc hns (by decide) (by decide)) hL hC hl.1 (Nat.le_of_ble_eq_true rfl) dL_law_1745 ?_
  rw [ht]
  refine lv_iload hx hb dL_law_1748 (lv_at hl 1 rfl) ?_
  refine lv_icmp_eq (tgt := 1755) hx hb dL_law_1750 (by decide) (fun _ => ?_) (fun hc => absurd rfl hc)
  refine lv_iload hx hb dL_law_1755 (lv_at hl 1 rfl) ?_
  by_cases hz0 : k0 = 0
  · refine lv_if_ne (tgt := 1772) hx hb dL_law_1757 (by decide) (fun hc => absurd (hkc_0 hz0) hc) (fun _ => ?_)
    refine lv_aload_n hx hb dL_law_1760 rfl (lv_at hl 3 rfl) ?_
    refine lv_iconst (v := 0) hx hb dL_law_1761 (by decide) ?_
    refine lx_out hx hb hL hC dL_law_1762 ?_
    refine lv_iload hx hb dL_law_1763 (lv_at hl 0 rfl) ?_
    refine lv_i2l hx hb dL_law_1765 rfl ?_
    refine lx_lcmp hx hb dL_law_1766 (by rw [hf1 hz0, hr hz0]) ?_
    refine lv_if_eq (tgt := 1772) hx hb dL_law_1767 (by decide) (fun _ => ?_) (fun hc => absurd rfl hc)
    refine lv_goto (tgt := 2083) hx hb dL_law_1772 (by decide) ?_
    refine W.widen (k := nc + 8) (n := ns + 48) (by omega) (by omega) ?_
    exact kk u u0r φr ηr τr f1 ψr hv _ _ _ hRel hL (congrFun hsm.2.2.1 0) (lv_sub hl [2, 3, 4, 5, 6] rfl)
  · refine lv_if_ne (tgt := 1772) hx hb dL_law_1757 (by decide) (fun _ => ?_) (fun hc => absurd hc (hkc_ne hz0))
    refine lv_goto (tgt := 2083) hx hb dL_law_1772 (by decide) ?_
    refine W.widen (k := nc + 8) (n := ns + 48) (by omega) (by omega) ?_
    exact kk u u0r φr ηr τr f1 ψr hv _ _ _ hRel hL (congrFun hsm.2.2.1 0) (lv_sub hl [2, 3, 4, 5, 6] rfl)
set_option maxHeartbeats 4000000 in
set_option maxRecDepth 100000 in
theorem lc_28 (P : Pk28 N Rel) (hRel : Rel u0 φ η τ ψ hv) (hl0 : l.stackTraces = false) (hx : p.tables.exec = Jvm.exec) (hb : c.code = cL_law) (S : CallFix p m c cL_law 7 s args AW RL) (hC : lxC D A0 cI cF cL s) (hX : va_X sb L xs s s.heap) (hbl : sb < s.heap.size) (hbA : ¬ A0 sb) (hi1 : vp_in (v4 + 1) L) (hi2 : vp_in (v4 + 2) L) (hi3 : vp_in (v4 + 3) L) (hi4 : vp_in (v4 + 4) L) (hp1 : xs (v4 + 1).toNatClampNeg = p1) (hp2 : xs (v4 + 2).toNatClampNeg = p2) (hp3 : xs (v4 + 3).toNatClampNeg = p3) (hp4 : xs (v4 + 4).toNatClampNeg = p4) (hnc : nc + 8 ≤ 601024) (hns : ns + 48 ≤ 7293034) (hL : lxS D A0 s.heap cI cF cL b q u0 φ η τ f a ψ hv H locs) (hl : lv_has ls 7 [(4, .int v4), (3, .ref q), (2, .ref (a 0)), (1, .ref (b 6 0)), (0, .ref sb)]) (kk : ∀ (u : Bf) (u0r φr : M2) (ηr : HT) (τr : M2) (fr : Nat → Int64) (ψr : M2) (hvr : Int64) (H1 : Heap) (locs1 : List Loc) (ls1 : Array Slot), Rel u0r φr ηr τr ψr hvr → lxS D A0 s.heap cI cF cL u q u0r φr ηr τr fr a ψr hvr H1 locs1 → u 6 0 = b 6 0 → lv_has ls1 7 [(4, .int v4), (3, .ref q), (2, .ref (a 0)), (1, .ref (b 6 0)), (0, .ref sb)] → W p l e room_1 s m args below meth c H1 locs1 (nc + 8) (ns + 48) Q (F0 m 2083 ls1 [])) : W p l e room_1 s m args below meth c H locs nc ns Q (F0 m 1775 ls []) := by
  obtain ⟨k0, r0, u0r, φr, ηr, τr, r1, ψr, hG, hk, hM, ht, hr, hRel⟩ := P u0 φ η τ ψ hv p1 p2 hRel
  refine lv_aload_n hx hb dL_law_1775 rfl (lv_at hl 3 rfl) ?_
  refine lv_aload_n hx hb dL_law_1776 rfl (lv_at hl 4 rfl) ?_
  refine lv_iload hx hb dL_law_1777 (lv_at hl 0 rfl) ?_
  refine lv_iconst (v := 1) hx hb dL_law_1779 (by decide) ?_
  refine lv_iadd hx hb dL_law_1780 ?_
  refine lx_sc hx hb hX hbl hbA hL hi1 dL_law_1781 ?_
  rw [hp1]
  refine lv_aload_n hx hb dL_law_1782 rfl (lv_at hl 4 rfl) ?_
  refine lv_iload hx hb dL_law_1783 (lv_at hl 0 rfl) ?_
  refine lv_iconst (v := 2) hx hb dL_law_1785 (by decide) ?_
  refine lv_iadd hx hb dL_law_1786 ?_
  refine lx_sc hx hb hX hbl hbA hL hi2 dL_law_1787 ?_
  rw [hp2]
  refine lv_aload_n hx hb dL_law_1788 rfl (lv_at hl 1 rfl) ?_
  refine lx_help (n := 4) (As := [.ref (b 6 0), .int p1, .int p2, .ref q]) (rest := []) (r1 := hkc 1 k0) S (c_L_leastBits l hl0 D cI cF cL b q f N u0 φ η τ p1 p2 k0 r0 u0r φr ηr τr hG hk) aM_RL_212 aS_L_leastBits aN_RL aW_L_leastBits rfl rfl (by decide +kernel) rfl ⟨Nat.le_of_ble_eq_true rfl, Nat.le_of_ble_eq_true rfl⟩ (lc_room hnc hns (by decide) (by decide)) hL hC hl.1 (Nat.le_of_ble_eq_true rfl) dL_law_1789 (fun u f1 H locs hsm hf1 hL => ?_)
  refine lv_istore (lv' := [(5, .int (hkc 1 k0)), (4, .int v4), (3, .ref q), (2, .ref (a 0)), (1, .ref (b 6 0)), (0, .ref sb)]) hx hb dL_law_1792 hl (by decide) rfl (fun ls hl => ?_)
  refine lv_aload_n hx hb dL_law_1794 rfl (lv_at hl 3 rfl) ?_
  refine lv_aload_n hx hb dL_law_1795 rfl (lv_at hl 5 rfl) ?_
  refine lv_iload hx hb dL_law_1796 (lv_at hl 1 rfl) ?_
  refine lv_iconst (v := 1) hx hb dL_law_1798 (by decide) ?_
  refine lv_iadd hx hb dL_law_1799 ?_
  refine lx_sc hx hb hX hbl hbA hL hi1 dL_law_1800 ?_
  rw [hp1]
  refine lv_aload_n hx hb dL_law_1801 rfl (lv_at hl 5 rfl) ?_
  refine lv_iload hx hb dL_law_1802 (lv_at hl 1 rfl) ?_
  refine lv_iconst (v := 2) hx hb dL_law_1804 (by decide) ?_
  refine lv_iadd hx hb dL_law_1805 ?_
  refine lx_sc hx hb hX hbl hbA hL hi2 dL_law_1806 ?_
  rw [hp2]
  refine lx_mod (n := 2) (As := [.int p1, .int p2]) (rest := []) S (c_X9_leastBits l D cI a N ψ p1 p2 hv r1 ψr hM) aM_RL_214 aI_X9_leastBits aV_X9_leastBits aC_X9_leastBits rfl rfl (by decide +kernel) rfl ⟨Nat.le_of_ble_eq_true rfl, Nat.le_of_ble_eq_true rfl⟩ (lc_room hnc hns (by decide) (by decide)) hL hC hl.1 (Nat.le_of_ble_eq_true rfl) dL_law_1807 (fun r H locs hr9 hL => ?_)
  rw [hr9]
  refine lv_istore (lv' := [(6, .int r1), (5, .int (hkc 1 k0)), (4, .int v4), (3, .ref q), (2, .ref (a 0)), (1, .ref (b 6 0)), (0, .ref sb)]) hx hb dL_law_1810 hl (by decide) rfl (fun ls hl => ?_)
  refine lv_aload_n hx hb dL_law_1812 rfl (lv_at hl 4 rfl) ?_
  refine lx_thr S aM_RL_118 ⟨Nat.le_of_ble_eq_true rfl, Nat.le_of_ble_eq_true rfl⟩ (lc_room hnc hns (by decide) (by decide)) hL hC hl.1 (Nat.le_of_ble_eq_true rfl) dL_law_1813 ?_
  rw [ht]
  refine lv_iload hx hb dL_law_1816 (lv_at hl 1 rfl) ?_
  refine lv_icmp_eq (tgt := 1823) hx hb dL_law_1818 (by decide) (fun _ => ?_) (fun hc => absurd rfl hc)
  refine lv_iload hx hb dL_law_1823 (lv_at hl 1 rfl) ?_
  by_cases hz0 : k0 = 0
  · refine lv_if_ne (tgt := 1840) hx hb dL_law_1825 (by decide) (fun hc => absurd (hkc_0 hz0) hc) (fun _ => ?_)
    refine lv_aload_n hx hb dL_law_1828 rfl (lv_at hl 3 rfl) ?_
    refine lv_iconst (v := 0) hx hb dL_law_1829 (by decide) ?_
    refine lx_out hx hb hL hC dL_law_1830 ?_
    refine lv_iload hx hb dL_law_1831 (lv_at hl 0 rfl) ?_
    refine lv_i2l hx hb dL_law_1833 rfl ?_
    refine lx_lcmp hx hb dL_law_1834 (by rw [hf1 hz0, hr hz0]) ?_
    refine lv_if_eq (tgt := 1840) hx hb dL_law_1835 (by decide) (fun _ => ?_) (fun hc => absurd rfl hc)
    refine lv_goto (tgt := 2083) hx hb dL_law_1840 (by decide) ?_
    refine W.widen (k := nc + 8) (n := ns + 48) (by omega) (by omega) ?_
    exact kk u u0r φr ηr τr f1 ψr hv _ _ _ hRel hL (congrFun hsm.2.2.1 0) (lv_sub hl [2, 3, 4, 5, 6] rfl)
  · refine lv_if_ne (tgt := 1840) hx hb dL_law_1825 (by decide) (fun _ => ?_) (fun hc => absurd hc (hkc_ne hz0))
    refine lv_goto (tgt := 2083) hx hb dL_law_1840 (by decide) ?_
    refine W.widen (k := nc + 8) (n := ns + 48) (by omega) (by omega) ?_
    exact kk u u0r φr ηr τr f1 ψr hv _ _ _ hRel hL (congrFun hsm.2.2.1 0) (lv_sub hl [2, 3, 4, 5, 6] rfl)
set_option maxHeartbeats 4000000 in
set_option maxRecDepth 100000 in
theorem lc_29 (P : Pk29 N Rel) (hRel : Rel u0 φ η τ ψ hv) (hl0 : l.stackTraces = false) (hx : p.tables.exec = Jvm.exec) (hb : c.code = cL_law) (S : CallFix p m c cL_law 7 s args AW RL) (hC : lxC D A0 cI cF cL s) (hX : va_X sb L xs s s.heap) (hbl : sb < s.heap.size) (hbA : ¬ A0 sb) (hi1 : vp_in (v4 + 1) L) (hi2 : vp_in (v4 + 2) L) (hi3 : vp_in (v4 + 3) L) (hi4 : vp_in (v4 + 4) L) (hp1 : xs (v4 + 1).toNatClampNeg = p1) (hp2 : xs (v4 + 2).toNatClampNeg = p2) (hp3 : xs (v4 + 3).toNatClampNeg = p3) (hp4 : xs (v4 + 4).toNatClampNeg = p4) (hnc : nc + 8 ≤ 601024) (hns : ns + 48 ≤ 7293034) (hL : lxS D A0 s.heap cI cF cL b q u0 φ η τ f a ψ hv H locs) (hl : lv_has ls 7 [(4, .int v4), (3, .ref q), (2, .ref (a 0)), (1, .ref (b 6 0)), (0, .ref sb)]) (kk : ∀ (u : Bf) (u0r φr : M2) (ηr : HT) (τr : M2) (fr : Nat → Int64) (ψr : M2) (hvr : Int64) (H1 : Heap) (locs1 : List Loc) (ls1 : Array Slot), Rel u0r φr ηr τr ψr hvr → lxS D A0 s.heap cI cF cL u q u0r φr ηr τr fr a ψr hvr H1 locs1 → u 6 0 = b 6 0 → lv_has ls1 7 [(4, .int v4), (3, .ref q), (2, .ref (a 0)), (1, .ref (b 6 0)), (0, .ref sb)] → W p l e room_1 s m args below meth c H1 locs1 (nc + 8) (ns + 48) Q (F0 m 2083 ls1 [])) : W p l e room_1 s m args below meth c H locs nc ns Q (F0 m 1843 ls []) := by
  obtain ⟨k0, r0, u0r, φr, ηr, τr, r1, ψr, hG, hk, hM, ht, hr, hRel⟩ := P u0 φ η τ ψ hv p1 p2 p3 hRel
  refine lv_aload_n hx hb dL_law_1843 rfl (lv_at hl 3 rfl) ?_
  refine lv_aload_n hx hb dL_law_1844 rfl (lv_at hl 4 rfl) ?_
  refine lv_iload hx hb dL_law_1845 (lv_at hl 0 rfl) ?_
  refine lv_iconst (v := 1) hx hb dL_law_1847 (by decide) ?_
  refine lv_iadd hx hb dL_law_1848 ?_
  refine lx_sc hx hb hX hbl hbA hL hi1 dL_law_1849 ?_
  rw [hp1]
  refine lv_aload_n hx hb dL_law_1850 rfl (lv_at hl 4 rfl) ?_
  refine lv_iload hx hb dL_law_1851 (lv_at hl 0 rfl) ?_
  refine lv_iconst (v := 2) hx hb dL_law_1853 (by decide) ?_
  refine lv_iadd hx hb dL_law_1854 ?_
  refine lx_sc hx hb hX hbl hbA hL hi2 dL_law_1855 ?_
  rw [hp2]
  refine lv_aload_n hx hb dL_law_1856 rfl (lv_at hl 4 rfl) ?_
  refine lv_iload hx hb dL_law_1857 (lv_at hl 0 rfl) ?_
  refine lv_iconst (v := 3) hx hb dL_law_1859 (by decide) ?_
  refine lv_iadd hx hb dL_law_1860 ?_
  refine lx_sc hx hb hX hbl hbA hL hi3 dL_law_1861 ?_
  rw [hp3]
  refine lv_aload_n hx hb dL_law_1862 rfl (lv_at hl 1 rfl) ?_
  refine lx_help (n := 5) (As := [.ref (b 6 0), .int p1, .int p2, .int p3, .ref q]) (rest := []) (r1 := hkc 1 k0) S (c_L_couldFit l hl0 D cI cF cL b q f N u0 φ η τ p1 p2 p3 k0 r0 u0r φr ηr τr hG hk) aM_RL_215 aS_L_couldFit aN_RL aW_L_couldFit rfl rfl (by decide +kernel) rfl ⟨Nat.le_of_ble_eq_true rfl, Nat.le_of_ble_eq_true rfl⟩ (lc_room hnc hns (by decide) (by decide)) hL hC hl.1 (Nat.le_of_ble_eq_true rfl) dL_law_1863 (fun u f1 H locs hsm hf1 hL => ?_)
  refine lv_istore (lv' := [(5, .int (hkc 1 k0)), (4, .int v4), (3, .ref q), (2, .ref (a 0)), (1, .ref (b 6 0)), (0, .ref sb)]) hx hb dL_law_1866 hl (by decide) rfl (fun ls hl => ?_)
  refine lv_aload_n hx hb dL_law_1868 rfl (lv_at hl 3 rfl) ?_
  refine lv_aload_n hx hb dL_law_1869 rfl (lv_at hl 5 rfl) ?_
  refine lv_iload hx hb dL_law_1870 (lv_at hl 1 rfl) ?_
  refine lv_iconst (v := 1) hx hb dL_law_1872 (by decide) ?_
  refine lv_iadd hx hb dL_law_1873 ?_
  refine lx_sc hx hb hX hbl hbA hL hi1 dL_law_1874 ?_
  rw [hp1]
  refine lv_aload_n hx hb dL_law_1875 rfl (lv_at hl 5 rfl) ?_
  refine lv_iload hx hb dL_law_1876 (lv_at hl 1 rfl) ?_
  refine lv_iconst (v := 2) hx hb dL_law_1878 (by decide) ?_
  refine lv_iadd hx hb dL_law_1879 ?_
  refine lx_sc hx hb hX hbl hbA hL hi2 dL_law_1880 ?_
  rw [hp2]
  refine lv_aload_n hx hb dL_law_1881 rfl (lv_at hl 5 rfl) ?_
  refine lv_iload hx hb dL_law_1882 (lv_at hl 1 rfl) ?_
  refine lv_iconst (v := 3) hx hb dL_law_1884 (by decide) ?_
  refine lv_iadd hx hb dL_law_1885 ?_
  refine lx_sc hx hb hX hbl hbA hL hi3 dL_law_1886 ?_
  rw [hp3]
  refine lx_mod (n := 3) (As := [.int p1, .int p2, .int p3]) (rest := []) S (c_X9_couldFit l D cI a N ψ p1 p2 p3 hv r1 ψr hM) aM_RL_217 aI_X9_couldFit aV_X9_couldFit aC_X9_couldFit rfl rfl (by decide +kernel) rfl ⟨Nat.le_of_ble_eq_true rfl, Nat.le_of_ble_eq_true rfl⟩ (lc_room hnc hns (by decide) (by decide)) hL hC hl.1 (Nat.le_of_ble_eq_true rfl) dL_law_1887 (fun r H locs hr9 hL => ?_)
  rw [hr9.1]
  refine lv_istore (lv' := [(6, .int r1), (5, .int (hkc 1 k0)), (4, .int v4), (3, .ref q), (2, .ref (a 0)), (1, .ref (b 6 0)), (0, .ref sb)]) hx hb dL_law_1890 hl (by decide) rfl (fun ls hl => ?_)
  refine lv_aload_n hx hb dL_law_1892 rfl (lv_at hl 4 rfl) ?_
  refine lx_thr S aM_RL_118 ⟨Nat.le_of_ble_eq_true rfl, Nat.le_of_ble_eq_true rfl⟩ (lc_room hnc hns (by decide) (by decide)) hL hC hl.1 (Nat.le_of_ble_eq_true rfl) dL_law_1893 ?_
  rw [ht]
  refine lv_iload hx hb dL_law_1896 (lv_at hl 1 rfl) ?_
  refine lv_icmp_eq (tgt := 1903) hx hb dL_law_1898 (by decide) (fun _ => ?_) (fun hc => absurd rfl hc)
  refine lv_iload hx hb dL_law_1903 (lv_at hl 1 rfl) ?_
  by_cases hz0 : k0 = 0
  · refine lv_if_ne (tgt := 1927) hx hb dL_law_1905 (by decide) (fun hc => absurd (hkc_0 hz0) hc) (fun _ => ?_)
    refine lv_aload_n hx hb dL_law_1908 rfl (lv_at hl 3 rfl) ?_
    refine lv_iconst (v := 0) hx hb dL_law_1909 (by decide) ?_
    refine lx_out hx hb hL hC dL_law_1910 ?_
    refine lv_iload hx hb dL_law_1911 (lv_at hl 0 rfl) ?_
    refine lv_if_eq (tgt := 1920) hx hb dL_law_1913 (by decide) (fun hc => ?_) (fun hc => ?_)
    · refine lv_lconst (v := 0) hx hb dL_law_1920 (by decide) ?_
      refine lx_lcmp hx hb dL_law_1921 (by rw [hf1 hz0, (hr hz0).1, hc]; rfl) ?_
      refine lv_if_eq (tgt := 1927) hx hb dL_law_1922 (by decide) (fun _ => ?_) (fun hc => absurd rfl hc)
      refine lv_goto (tgt := 2083) hx hb dL_law_1927 (by decide) ?_
      refine W.widen (k := nc + 8) (n := ns + 48) (by omega) (by omega) ?_
      exact kk u u0r φr ηr τr f1 ψr hv _ _ _ hRel hL (congrFun hsm.2.2.1 0) (lv_sub hl [2, 3, 4, 5, 6] rfl)
    · refine lv_lconst (v := 1) hx hb dL_law_1916 (by decide) ?_
      refine lv_goto (tgt := 1921) hx hb dL_law_1917 (by decide) ?_
      refine lx_lcmp hx hb dL_law_1921 (by rw [hf1 hz0, (hr hz0).1, (hr hz0).2.resolve_left hc]; rfl) ?_
      refine lv_if_eq (tgt := 1927) hx hb dL_law_1922 (by decide) (fun _ => ?_) (fun hc => absurd rfl hc)
      refine lv_goto (tgt := 2083) hx hb dL_law_1927 (by decide) ?_
      refine W.widen (k := nc + 8) (n := ns + 48) (by omega) (by omega) ?_
      exact kk u u0r φr ηr τr f1 ψr hv _ _ _ hRel hL (congrFun hsm.2.2.1 0) (lv_sub hl [2, 3, 4, 5, 6] rfl)
  · refine lv_if_ne (tgt := 1927) hx hb dL_law_1905 (by decide) (fun _ => ?_) (fun hc => absurd hc (hkc_ne hz0))
    refine lv_goto (tgt := 2083) hx hb dL_law_1927 (by decide) ?_
    refine W.widen (k := nc + 8) (n := ns + 48) (by omega) (by omega) ?_
    exact kk u u0r φr ηr τr f1 ψr hv _ _ _ hRel hL (congrFun hsm.2.2.1 0) (lv_sub hl [2, 3, 4, 5, 6] rfl)
set_option maxHeartbeats 4000000 in
set_option maxRecDepth 100000 in
theorem lc_30 (P : Pk30 N Rel) (hRel : Rel u0 φ η τ ψ hv) (hl0 : l.stackTraces = false) (hx : p.tables.exec = Jvm.exec) (hb : c.code = cL_law) (S : CallFix p m c cL_law 7 s args AW RL) (hC : lxC D A0 cI cF cL s) (hX : va_X sb L xs s s.heap) (hbl : sb < s.heap.size) (hbA : ¬ A0 sb) (hi1 : vp_in (v4 + 1) L) (hi2 : vp_in (v4 + 2) L) (hi3 : vp_in (v4 + 3) L) (hi4 : vp_in (v4 + 4) L) (hp1 : xs (v4 + 1).toNatClampNeg = p1) (hp2 : xs (v4 + 2).toNatClampNeg = p2) (hp3 : xs (v4 + 3).toNatClampNeg = p3) (hp4 : xs (v4 + 4).toNatClampNeg = p4) (hnc : nc + 8 ≤ 601024) (hns : ns + 48 ≤ 7293034) (hL : lxS D A0 s.heap cI cF cL b q u0 φ η τ f a ψ hv H locs) (hl : lv_has ls 7 [(4, .int v4), (3, .ref q), (2, .ref (a 0)), (1, .ref (b 6 0)), (0, .ref sb)]) (kk : ∀ (u : Bf) (u0r φr : M2) (ηr : HT) (τr : M2) (fr : Nat → Int64) (ψr : M2) (hvr : Int64) (H1 : Heap) (locs1 : List Loc) (ls1 : Array Slot), Rel u0r φr ηr τr ψr hvr → lxS D A0 s.heap cI cF cL u q u0r φr ηr τr fr a ψr hvr H1 locs1 → u 6 0 = b 6 0 → lv_has ls1 7 [(4, .int v4), (3, .ref q), (2, .ref (a 0)), (1, .ref (b 6 0)), (0, .ref sb)] → W p l e room_1 s m args below meth c H1 locs1 (nc + 8) (ns + 48) Q (F0 m 2083 ls1 [])) : W p l e room_1 s m args below meth c H locs nc ns Q (F0 m 1930 ls []) := by
  obtain ⟨k0, r0, u0r, φr, ηr, τr, r1, ψr, hG, h00, hM, hr, hRel⟩ := P u0 φ η τ ψ hv hRel
  refine lv_aload_n hx hb dL_law_1930 rfl (lv_at hl 3 rfl) ?_
  refine lx_x (n := 0) (As := []) (rest := []) S (c_X8_rateBits l hl0 D cI cF b N u0 φ η τ k0 r0 u0r φr ηr τr hG) (fun r u h => ⟨h.2.1, h.2.2⟩) h00 aM_RL_218 aI_X8_rateBits aV_X8_rateBits aC_X8_rateBits rfl rfl (by decide +kernel) rfl ⟨Nat.le_of_ble_eq_true rfl, Nat.le_of_ble_eq_true rfl⟩ (lc_room hnc hns (by decide) (by decide)) hL hC hl.1 (Nat.le_of_ble_eq_true rfl) dL_law_1931 (fun u H locs hsm hL => ?_)
  refine lv_aload_n hx hb dL_law_1934 rfl (lv_at hl 2 rfl) ?_
  refine lx_mod (n := 0) (As := []) (rest := [.int r0]) S (c_X9_rateBits l D cI a N ψ hv r1 ψr hM) aM_RL_221 aI_X9_rateBits aV_X9_rateBits aC_X9_rateBits rfl rfl (by decide +kernel) rfl ⟨Nat.le_of_ble_eq_true rfl, Nat.le_of_ble_eq_true rfl⟩ (lc_room hnc hns (by decide) (by decide)) hL hC hl.1 (Nat.le_of_ble_eq_true rfl) dL_law_1935 (fun r H locs hr9 hL => ?_)
  rw [hr9]
  refine lv_icmp_eq (tgt := 2083) hx hb dL_law_1938 (by decide) (fun _ => ?_) (fun hc => absurd hr hc)
  refine W.widen (k := nc + 8) (n := ns + 48) (by omega) (by omega) ?_
  exact kk u u0r φr ηr τr f ψr hv _ _ _ hRel hL (congrFun hsm.2.2.1 0) (lv_sub hl [0, 1, 2, 3, 4] rfl)
set_option maxHeartbeats 4000000 in
set_option maxRecDepth 100000 in
theorem lc_31 (P : Pk31 N Rel) (hRel : Rel u0 φ η τ ψ hv) (hl0 : l.stackTraces = false) (hx : p.tables.exec = Jvm.exec) (hb : c.code = cL_law) (S : CallFix p m c cL_law 7 s args AW RL) (hC : lxC D A0 cI cF cL s) (hX : va_X sb L xs s s.heap) (hbl : sb < s.heap.size) (hbA : ¬ A0 sb) (hi1 : vp_in (v4 + 1) L) (hi2 : vp_in (v4 + 2) L) (hi3 : vp_in (v4 + 3) L) (hi4 : vp_in (v4 + 4) L) (hp1 : xs (v4 + 1).toNatClampNeg = p1) (hp2 : xs (v4 + 2).toNatClampNeg = p2) (hp3 : xs (v4 + 3).toNatClampNeg = p3) (hp4 : xs (v4 + 4).toNatClampNeg = p4) (hnc : nc + 8 ≤ 601024) (hns : ns + 48 ≤ 7293034) (hL : lxS D A0 s.heap cI cF cL b q u0 φ η τ f a ψ hv H locs) (hl : lv_has ls 7 [(4, .int v4), (3, .ref q), (2, .ref (a 0)), (1, .ref (b 6 0)), (0, .ref sb)]) (kk : ∀ (u : Bf) (u0r φr : M2) (ηr : HT) (τr : M2) (fr : Nat → Int64) (ψr : M2) (hvr : Int64) (H1 : Heap) (locs1 : List Loc) (ls1 : Array Slot), Rel u0r φr ηr τr ψr hvr → lxS D A0 s.heap cI cF cL u q u0r φr ηr τr fr a ψr hvr H1 locs1 → u 6 0 = b 6 0 → lv_has ls1 7 [(4, .int v4), (3, .ref q), (2, .ref (a 0)), (1, .ref (b 6 0)), (0, .ref sb)] → W p l e room_1 s m args below meth c H1 locs1 (nc + 8) (ns + 48) Q (F0 m 2083 ls1 [])) : W p l e room_1 s m args below meth c H locs nc ns Q (F0 m 1943 ls []) := by
  obtain ⟨k0, r0, u0r, φr, ηr, τr, r1, ψr, hG, hk, hM, ht, hr, hRel⟩ := P u0 φ η τ ψ hv p1 hRel
  refine lv_aload_n hx hb dL_law_1943 rfl (lv_at hl 3 rfl) ?_
  refine lv_aload_n hx hb dL_law_1944 rfl (lv_at hl 4 rfl) ?_
  refine lv_iload hx hb dL_law_1945 (lv_at hl 0 rfl) ?_
  refine lv_iconst (v := 1) hx hb dL_law_1947 (by decide) ?_
  refine lv_iadd hx hb dL_law_1948 ?_
  refine lx_sc hx hb hX hbl hbA hL hi1 dL_law_1949 ?_
  rw [hp1]
  refine lv_aload_n hx hb dL_law_1950 rfl (lv_at hl 1 rfl) ?_
  refine lx_help (n := 3) (As := [.ref (b 6 0), .int p1, .ref q]) (rest := []) (r1 := hkc 1 k0) S (c_L_append l hl0 D cI cF cL b q f N u0 φ η τ p1 k0 r0 u0r φr ηr τr hG hk) aM_RL_222 aS_L_append aN_RL aW_L_append rfl rfl (by decide +kernel) rfl ⟨Nat.le_of_ble_eq_true rfl, Nat.le_of_ble_eq_true rfl⟩ (lc_room hnc hns (by decide) (by decide)) hL hC hl.1 (Nat.le_of_ble_eq_true rfl) dL_law_1951 (fun u f1 H locs hsm hf1 hL => ?_)
  refine lv_istore (lv' := [(5, .int (hkc 1 k0)), (4, .int v4), (3, .ref q), (2, .ref (a 0)), (1, .ref (b 6 0)), (0, .ref sb)]) hx hb dL_law_1954 hl (by decide) rfl (fun ls hl => ?_)
  refine lv_aload_n hx hb dL_law_1956 rfl (lv_at hl 3 rfl) ?_
  refine lv_aload_n hx hb dL_law_1957 rfl (lv_at hl 5 rfl) ?_
  refine lv_iload hx hb dL_law_1958 (lv_at hl 1 rfl) ?_
  refine lv_iconst (v := 1) hx hb dL_law_1960 (by decide) ?_
  refine lv_iadd hx hb dL_law_1961 ?_
  refine lx_sc hx hb hX hbl hbA hL hi1 dL_law_1962 ?_
  rw [hp1]
  refine lx_mod (n := 1) (As := [.int p1]) (rest := []) S (c_X9_append l D cI a ψ p1 hv r1 ψr hM) aM_RL_224 aI_X9_append aV_X9_append aC_X9_append rfl rfl (by decide +kernel) rfl ⟨Nat.le_of_ble_eq_true rfl, Nat.le_of_ble_eq_true rfl⟩ (lc_room hnc hns (by decide) (by decide)) hL hC hl.1 (Nat.le_of_ble_eq_true rfl) dL_law_1963 (fun r H locs hr9 hL => ?_)
  rw [hr9]
  refine lv_istore (lv' := [(6, .int r1), (5, .int (hkc 1 k0)), (4, .int v4), (3, .ref q), (2, .ref (a 0)), (1, .ref (b 6 0)), (0, .ref sb)]) hx hb dL_law_1966 hl (by decide) rfl (fun ls hl => ?_)
  refine lv_aload_n hx hb dL_law_1968 rfl (lv_at hl 4 rfl) ?_
  refine lx_thr S aM_RL_118 ⟨Nat.le_of_ble_eq_true rfl, Nat.le_of_ble_eq_true rfl⟩ (lc_room hnc hns (by decide) (by decide)) hL hC hl.1 (Nat.le_of_ble_eq_true rfl) dL_law_1969 ?_
  rw [ht]
  refine lv_iload hx hb dL_law_1972 (lv_at hl 1 rfl) ?_
  refine lv_icmp_eq (tgt := 1979) hx hb dL_law_1974 (by decide) (fun _ => ?_) (fun hc => absurd rfl hc)
  refine lv_iload hx hb dL_law_1979 (lv_at hl 1 rfl) ?_
  by_cases hz0 : k0 = 0
  · refine lv_if_ne (tgt := 1996) hx hb dL_law_1981 (by decide) (fun hc => absurd (hkc_0 hz0) hc) (fun _ => ?_)
    refine lv_aload_n hx hb dL_law_1984 rfl (lv_at hl 3 rfl) ?_
    refine lv_iconst (v := 0) hx hb dL_law_1985 (by decide) ?_
    refine lx_out hx hb hL hC dL_law_1986 ?_
    refine lv_iload hx hb dL_law_1987 (lv_at hl 0 rfl) ?_
    refine lv_i2l hx hb dL_law_1989 rfl ?_
    refine lx_lcmp hx hb dL_law_1990 (by rw [hf1 hz0, hr hz0]) ?_
    refine lv_if_eq (tgt := 1996) hx hb dL_law_1991 (by decide) (fun _ => ?_) (fun hc => absurd rfl hc)
    refine lv_goto (tgt := 2083) hx hb dL_law_1996 (by decide) ?_
    refine W.widen (k := nc + 8) (n := ns + 48) (by omega) (by omega) ?_
    exact kk u u0r φr ηr τr f1 ψr hv _ _ _ hRel hL (congrFun hsm.2.2.1 0) (lv_sub hl [2, 3, 4, 5, 6] rfl)
  · refine lv_if_ne (tgt := 1996) hx hb dL_law_1981 (by decide) (fun _ => ?_) (fun hc => absurd hc (hkc_ne hz0))
    refine lv_goto (tgt := 2083) hx hb dL_law_1996 (by decide) ?_
    refine W.widen (k := nc + 8) (n := ns + 48) (by omega) (by omega) ?_
    exact kk u u0r φr ηr τr f1 ψr hv _ _ _ hRel hL (congrFun hsm.2.2.1 0) (lv_sub hl [2, 3, 4, 5, 6] rfl)
set_option maxHeartbeats 4000000 in
set_option maxRecDepth 100000 in
theorem lc_32 (P : Pk32 N Rel) (hRel : Rel u0 φ η τ ψ hv) (hl0 : l.stackTraces = false) (hx : p.tables.exec = Jvm.exec) (hb : c.code = cL_law) (S : CallFix p m c cL_law 7 s args AW RL) (hC : lxC D A0 cI cF cL s) (hX : va_X sb L xs s s.heap) (hbl : sb < s.heap.size) (hbA : ¬ A0 sb) (hi1 : vp_in (v4 + 1) L) (hi2 : vp_in (v4 + 2) L) (hi3 : vp_in (v4 + 3) L) (hi4 : vp_in (v4 + 4) L) (hp1 : xs (v4 + 1).toNatClampNeg = p1) (hp2 : xs (v4 + 2).toNatClampNeg = p2) (hp3 : xs (v4 + 3).toNatClampNeg = p3) (hp4 : xs (v4 + 4).toNatClampNeg = p4) (hnc : nc + 8 ≤ 601024) (hns : ns + 48 ≤ 7293034) (hL : lxS D A0 s.heap cI cF cL b q u0 φ η τ f a ψ hv H locs) (hl : lv_has ls 7 [(4, .int v4), (3, .ref q), (2, .ref (a 0)), (1, .ref (b 6 0)), (0, .ref sb)]) (kk : ∀ (u : Bf) (u0r φr : M2) (ηr : HT) (τr : M2) (fr : Nat → Int64) (ψr : M2) (hvr : Int64) (H1 : Heap) (locs1 : List Loc) (ls1 : Array Slot), Rel u0r φr ηr τr ψr hvr → lxS D A0 s.heap cI cF cL u q u0r φr ηr τr fr a ψr hvr H1 locs1 → u 6 0 = b 6 0 → lv_has ls1 7 [(4, .int v4), (3, .ref q), (2, .ref (a 0)), (1, .ref (b 6 0)), (0, .ref sb)] → W p l e room_1 s m args below meth c H1 locs1 (nc + 8) (ns + 48) Q (F0 m 2083 ls1 [])) : W p l e room_1 s m args below meth c H locs nc ns Q (F0 m 1999 ls []) := by
  obtain ⟨k0, r0, u0r, φr, ηr, τr, r1, ψr, hG, h00, hM, hr, hRel⟩ := P u0 φ η τ ψ hv hRel
  refine lv_aload_n hx hb dL_law_1999 rfl (lv_at hl 3 rfl) ?_
  refine lx_x (n := 0) (As := []) (rest := []) S (c_X8_clearText l hl0 D cI cF b N u0 φ η τ k0 r0 u0r φr ηr τr hG) (fun r u h => ⟨h.2.1, h.2.2⟩) h00 aM_RL_225 aI_X8_clearText aV_X8_clearText aC_X8_clearText rfl rfl (by decide +kernel) rfl ⟨Nat.le_of_ble_eq_true rfl, Nat.le_of_ble_eq_true rfl⟩ (lc_room hnc hns (by decide) (by decide)) hL hC hl.1 (Nat.le_of_ble_eq_true rfl) dL_law_2000 (fun u H locs hsm hL => ?_)
  refine lv_aload_n hx hb dL_law_2003 rfl (lv_at hl 2 rfl) ?_
  refine lx_mod (n := 0) (As := []) (rest := [.int r0]) S (c_X9_clearText l D cI a ψ hv r1 ψr hM) aM_RL_228 aI_X9_clearText aV_X9_clearText aC_X9_clearText rfl rfl (by decide +kernel) rfl ⟨Nat.le_of_ble_eq_true rfl, Nat.le_of_ble_eq_true rfl⟩ (lc_room hnc hns (by decide) (by decide)) hL hC hl.1 (Nat.le_of_ble_eq_true rfl) dL_law_2004 (fun r H locs hr9 hL => ?_)
  rw [hr9]
  refine lv_icmp_eq (tgt := 2083) hx hb dL_law_2007 (by decide) (fun _ => ?_) (fun hc => absurd hr hc)
  refine W.widen (k := nc + 8) (n := ns + 48) (by omega) (by omega) ?_
  exact kk u u0r φr ηr τr f ψr hv _ _ _ hRel hL (congrFun hsm.2.2.1 0) (lv_sub hl [0, 1, 2, 3, 4] rfl)
set_option maxHeartbeats 4000000 in
set_option maxRecDepth 100000 in
theorem lc_33 (P : Pk33 N Rel) (hRel : Rel u0 φ η τ ψ hv) (hl0 : l.stackTraces = false) (hx : p.tables.exec = Jvm.exec) (hb : c.code = cL_law) (S : CallFix p m c cL_law 7 s args AW RL) (hC : lxC D A0 cI cF cL s) (hX : va_X sb L xs s s.heap) (hbl : sb < s.heap.size) (hbA : ¬ A0 sb) (hi1 : vp_in (v4 + 1) L) (hi2 : vp_in (v4 + 2) L) (hi3 : vp_in (v4 + 3) L) (hi4 : vp_in (v4 + 4) L) (hp1 : xs (v4 + 1).toNatClampNeg = p1) (hp2 : xs (v4 + 2).toNatClampNeg = p2) (hp3 : xs (v4 + 3).toNatClampNeg = p3) (hp4 : xs (v4 + 4).toNatClampNeg = p4) (hnc : nc + 8 ≤ 601024) (hns : ns + 48 ≤ 7293034) (hL : lxS D A0 s.heap cI cF cL b q u0 φ η τ f a ψ hv H locs) (hl : lv_has ls 7 [(4, .int v4), (3, .ref q), (2, .ref (a 0)), (1, .ref (b 6 0)), (0, .ref sb)]) (kk : ∀ (u : Bf) (u0r φr : M2) (ηr : HT) (τr : M2) (fr : Nat → Int64) (ψr : M2) (hvr : Int64) (H1 : Heap) (locs1 : List Loc) (ls1 : Array Slot), Rel u0r φr ηr τr ψr hvr → lxS D A0 s.heap cI cF cL u q u0r φr ηr τr fr a ψr hvr H1 locs1 → u 6 0 = b 6 0 → lv_has ls1 7 [(4, .int v4), (3, .ref q), (2, .ref (a 0)), (1, .ref (b 6 0)), (0, .ref sb)] → W p l e room_1 s m args below meth c H1 locs1 (nc + 8) (ns + 48) Q (F0 m 2083 ls1 [])) : W p l e room_1 s m args below meth c H locs nc ns Q (F0 m 2012 ls []) := by
  obtain ⟨k0, r0, u0r, φr, ηr, τr, r1, ψr, hG, h00, hM, hr, hRel⟩ := P u0 φ η τ ψ hv hRel
  refine lv_aload_n hx hb dL_law_2012 rfl (lv_at hl 3 rfl) ?_
  refine lx_x (n := 0) (As := []) (rest := []) S (c_X8_execute l hl0 D cI cF b N u0 φ η τ k0 r0 u0r φr ηr τr hG) (fun r u h => ⟨h.2.1, h.2.2⟩) h00 aM_RL_229 aI_X8_execute aV_X8_execute aC_X8_execute rfl rfl (by decide +kernel) rfl ⟨Nat.le_of_ble_eq_true rfl, Nat.le_of_ble_eq_true rfl⟩ (lc_room hnc hns (by decide) (by decide)) hL hC hl.1 (Nat.le_of_ble_eq_true rfl) dL_law_2013 (fun u H locs hsm hL => ?_)
  refine lv_aload_n hx hb dL_law_2016 rfl (lv_at hl 2 rfl) ?_
  refine lx_mod (n := 0) (As := []) (rest := [.int r0]) S (c_X9_execute l D cI a N ψ hv r1 ψr hM) aM_RL_232 aI_X9_execute aV_X9_execute aC_X9_execute rfl rfl (by decide +kernel) rfl ⟨Nat.le_of_ble_eq_true rfl, Nat.le_of_ble_eq_true rfl⟩ (lc_room hnc hns (by decide) (by decide)) hL hC hl.1 (Nat.le_of_ble_eq_true rfl) dL_law_2017 (fun r H locs hr9 hL => ?_)
  rw [hr9]
  refine lv_icmp_eq (tgt := 2083) hx hb dL_law_2020 (by decide) (fun _ => ?_) (fun hc => absurd hr hc)
  refine W.widen (k := nc + 8) (n := ns + 48) (by omega) (by omega) ?_
  exact kk u u0r φr ηr τr f ψr hv _ _ _ hRel hL (congrFun hsm.2.2.1 0) (lv_sub hl [0, 1, 2, 3, 4] rfl)
set_option maxHeartbeats 4000000 in
set_option maxRecDepth 100000 in
theorem lc_34 (P : Pk34 N Rel) (hRel : Rel u0 φ η τ ψ hv) (hl0 : l.stackTraces = false) (hx : p.tables.exec = Jvm.exec) (hb : c.code = cL_law) (S : CallFix p m c cL_law 7 s args AW RL) (hC : lxC D A0 cI cF cL s) (hX : va_X sb L xs s s.heap) (hbl : sb < s.heap.size) (hbA : ¬ A0 sb) (hi1 : vp_in (v4 + 1) L) (hi2 : vp_in (v4 + 2) L) (hi3 : vp_in (v4 + 3) L) (hi4 : vp_in (v4 + 4) L) (hp1 : xs (v4 + 1).toNatClampNeg = p1) (hp2 : xs (v4 + 2).toNatClampNeg = p2) (hp3 : xs (v4 + 3).toNatClampNeg = p3) (hp4 : xs (v4 + 4).toNatClampNeg = p4) (hnc : nc + 8 ≤ 601024) (hns : ns + 48 ≤ 7293034) (hL : lxS D A0 s.heap cI cF cL b q u0 φ η τ f a ψ hv H locs) (hl : lv_has ls 7 [(4, .int v4), (3, .ref q), (2, .ref (a 0)), (1, .ref (b 6 0)), (0, .ref sb)]) (kk : ∀ (u : Bf) (u0r φr : M2) (ηr : HT) (τr : M2) (fr : Nat → Int64) (ψr : M2) (hvr : Int64) (H1 : Heap) (locs1 : List Loc) (ls1 : Array Slot), Rel u0r φr ηr τr ψr hvr → lxS D A0 s.heap cI cF cL u q u0r φr ηr τr fr a ψr hvr H1 locs1 → u 6 0 = b 6 0 → lv_has ls1 7 [(4, .int v4), (3, .ref q), (2, .ref (a 0)), (1, .ref (b 6 0)), (0, .ref sb)] → W p l e room_1 s m args below meth c H1 locs1 (nc + 8) (ns + 48) Q (F0 m 2083 ls1 [])) : W p l e room_1 s m args below meth c H locs nc ns Q (F0 m 2025 ls []) := by
  obtain ⟨k0, r0, u0r, φr, ηr, τr, r1, ψr, hG, hk, hM, ht, hr, hRel⟩ := P u0 φ η τ ψ hv hRel
  refine lv_aload_n hx hb dL_law_2025 rfl (lv_at hl 3 rfl) ?_
  refine lv_aload_n hx hb dL_law_2026 rfl (lv_at hl 1 rfl) ?_
  refine lx_help (n := 2) (As := [.ref (b 6 0), .ref q]) (rest := []) (r1 := hkc 2 k0) S (c_L_undo l hl0 D cI cF cL b q f N u0 φ η τ k0 r0 u0r φr ηr τr hG hk) aM_RL_233 aS_L_undo aN_RL aW_L_undo rfl rfl (by decide +kernel) rfl ⟨Nat.le_of_ble_eq_true rfl, Nat.le_of_ble_eq_true rfl⟩ (lc_room hnc hns (by decide) (by decide)) hL hC hl.1 (Nat.le_of_ble_eq_true rfl) dL_law_2027 (fun u f1 H locs hsm hf1 hL => ?_)
  refine lv_istore (lv' := [(5, .int (hkc 2 k0)), (4, .int v4), (3, .ref q), (2, .ref (a 0)), (1, .ref (b 6 0)), (0, .ref sb)]) hx hb dL_law_2030 hl (by decide) rfl (fun ls hl => ?_)
  refine lv_aload_n hx hb dL_law_2032 rfl (lv_at hl 3 rfl) ?_
  refine lx_mod (n := 0) (As := []) (rest := []) S (c_X9_undo l D cI a N ψ hv r1 ψr hM) aM_RL_235 aI_X9_undo aV_X9_undo aC_X9_undo rfl rfl (by decide +kernel) rfl ⟨Nat.le_of_ble_eq_true rfl, Nat.le_of_ble_eq_true rfl⟩ (lc_room hnc hns (by decide) (by decide)) hL hC hl.1 (Nat.le_of_ble_eq_true rfl) dL_law_2033 (fun r H locs hr9 hL => ?_)
  rw [hr9]
  refine lv_istore (lv' := [(6, .int r1), (5, .int (hkc 2 k0)), (4, .int v4), (3, .ref q), (2, .ref (a 0)), (1, .ref (b 6 0)), (0, .ref sb)]) hx hb dL_law_2036 hl (by decide) rfl (fun ls hl => ?_)
  refine lv_aload_n hx hb dL_law_2038 rfl (lv_at hl 4 rfl) ?_
  refine lx_thr S aM_RL_118 ⟨Nat.le_of_ble_eq_true rfl, Nat.le_of_ble_eq_true rfl⟩ (lc_room hnc hns (by decide) (by decide)) hL hC hl.1 (Nat.le_of_ble_eq_true rfl) dL_law_2039 ?_
  rw [ht]
  refine lv_iload hx hb dL_law_2042 (lv_at hl 1 rfl) ?_
  refine lv_icmp_eq (tgt := 2049) hx hb dL_law_2044 (by decide) (fun _ => ?_) (fun hc => absurd rfl hc)
  refine lv_iload hx hb dL_law_2049 (lv_at hl 1 rfl) ?_
  by_cases hz0 : k0 = 0
  · refine lv_if_ne (tgt := 2066) hx hb dL_law_2051 (by decide) (fun hc => absurd (hkc_0 hz0) hc) (fun _ => ?_)
    refine lv_aload_n hx hb dL_law_2054 rfl (lv_at hl 3 rfl) ?_
    refine lv_iconst (v := 0) hx hb dL_law_2055 (by decide) ?_
    refine lx_out hx hb hL hC dL_law_2056 ?_
    refine lv_iload hx hb dL_law_2057 (lv_at hl 0 rfl) ?_
    refine lv_i2l hx hb dL_law_2059 rfl ?_
    refine lx_lcmp hx hb dL_law_2060 (by rw [hf1 hz0, hr hz0]) ?_
    refine lv_if_eq (tgt := 2066) hx hb dL_law_2061 (by decide) (fun _ => ?_) (fun hc => absurd rfl hc)
    refine lv_goto (tgt := 2083) hx hb dL_law_2066 (by decide) ?_
    refine W.widen (k := nc + 8) (n := ns + 48) (by omega) (by omega) ?_
    exact kk u u0r φr ηr τr f1 ψr hv _ _ _ hRel hL (congrFun hsm.2.2.1 0) (lv_sub hl [2, 3, 4, 5, 6] rfl)
  · refine lv_if_ne (tgt := 2066) hx hb dL_law_2051 (by decide) (fun _ => ?_) (fun hc => absurd hc (hkc_ne hz0))
    refine lv_goto (tgt := 2083) hx hb dL_law_2066 (by decide) ?_
    refine W.widen (k := nc + 8) (n := ns + 48) (by omega) (by omega) ?_
    exact kk u u0r φr ηr τr f1 ψr hv _ _ _ hRel hL (congrFun hsm.2.2.1 0) (lv_sub hl [2, 3, 4, 5, 6] rfl)
set_option maxHeartbeats 4000000 in
set_option maxRecDepth 100000 in
theorem lc_35 (P : Pk35 N Rel) (hRel : Rel u0 φ η τ ψ hv) (hl0 : l.stackTraces = false) (hx : p.tables.exec = Jvm.exec) (hb : c.code = cL_law) (S : CallFix p m c cL_law 7 s args AW RL) (hC : lxC D A0 cI cF cL s) (hX : va_X sb L xs s s.heap) (hbl : sb < s.heap.size) (hbA : ¬ A0 sb) (hi1 : vp_in (v4 + 1) L) (hi2 : vp_in (v4 + 2) L) (hi3 : vp_in (v4 + 3) L) (hi4 : vp_in (v4 + 4) L) (hp1 : xs (v4 + 1).toNatClampNeg = p1) (hp2 : xs (v4 + 2).toNatClampNeg = p2) (hp3 : xs (v4 + 3).toNatClampNeg = p3) (hp4 : xs (v4 + 4).toNatClampNeg = p4) (hnc : nc + 8 ≤ 601024) (hns : ns + 48 ≤ 7293034) (hL : lxS D A0 s.heap cI cF cL b q u0 φ η τ f a ψ hv H locs) (hl : lv_has ls 7 [(4, .int v4), (3, .ref q), (2, .ref (a 0)), (1, .ref (b 6 0)), (0, .ref sb)]) (kk : ∀ (u : Bf) (u0r φr : M2) (ηr : HT) (τr : M2) (fr : Nat → Int64) (ψr : M2) (hvr : Int64) (H1 : Heap) (locs1 : List Loc) (ls1 : Array Slot), Rel u0r φr ηr τr ψr hvr → lxS D A0 s.heap cI cF cL u q u0r φr ηr τr fr a ψr hvr H1 locs1 → u 6 0 = b 6 0 → lv_has ls1 7 [(4, .int v4), (3, .ref q), (2, .ref (a 0)), (1, .ref (b 6 0)), (0, .ref sb)] → W p l e room_1 s m args below meth c H1 locs1 (nc + 8) (ns + 48) Q (F0 m 2083 ls1 [])) : W p l e room_1 s m args below meth c H locs nc ns Q (F0 m 2069 ls []) := by
  obtain ⟨k0, r0, u0r, φr, ηr, τr, r1, ψr, hvr, hG, h00, hM, hr, hRel⟩ := P u0 φ η τ ψ hv hRel
  refine lv_aload_n hx hb dL_law_2069 rfl (lv_at hl 3 rfl) ?_
  refine lx_xl (n := 0) (As := []) (rest := []) S (c_X8_digest l hl0 D cI cF b N u0 φ η τ k0 r0 u0r φr ηr τr hG) (fun r u h => ⟨h.2.1, h.2.2⟩) h00 aM_RL_236 aI_X8_digest aV_X8_digest aC_X8_digest rfl rfl (by decide +kernel) rfl ⟨Nat.le_of_ble_eq_true rfl, Nat.le_of_ble_eq_true rfl⟩ (lc_room hnc hns (by decide) (by decide)) hL hC hl.1 (Nat.le_of_ble_eq_true rfl) dL_law_2070 (fun u H locs hsm hL => ?_)
  refine lv_aload_n hx hb dL_law_2073 rfl (lv_at hl 2 rfl) ?_
  refine lx_modl (n := 0) (As := []) (rest := [.long r0]) S (c_X9_digest l D cI a N ψ hv r1 ψr hvr hM) aM_RL_240 aI_X9_digest aV_X9_digest aC_X9_digest rfl rfl (by decide +kernel) rfl ⟨Nat.le_of_ble_eq_true rfl, Nat.le_of_ble_eq_true rfl⟩ (lc_room hnc hns (by decide) (by decide)) hL hC hl.1 (Nat.le_of_ble_eq_true rfl) dL_law_2074 (fun r H locs hr9 hL => ?_)
  rw [hr9]
  refine lx_lcmp hx hb dL_law_2077 hr ?_
  refine lv_if_eq (tgt := 2083) hx hb dL_law_2078 (by decide) (fun _ => ?_) (fun hc => absurd rfl hc)
  refine W.widen (k := nc + 8) (n := ns + 48) (by omega) (by omega) ?_
  exact kk u u0r φr ηr τr f ψr hvr _ _ _ hRel hL (congrFun hsm.2.2.1 0) (lv_sub hl [0, 1, 2, 3, 4] rfl)
end LCS
