/-! words -/
def tS (tm : Nat) (ft : Nat → Int32) : Nat → Int32 := fun k => if k < tm then ft k else 0
theorem tS_t {tm k : Nat} {ft : Nat → Int32} (h : k < tm) : tS tm ft k = ft k := by unfold tS; rw [if_pos h]
theorem tS_f {tm k : Nat} {ft : Nat → Int32} (h : tm ≤ k) : tS tm ft k = 0 := by unfold tS; rw [if_neg (by omega)]
/-- a number out of the first k digits -/
def vD (B : Nat) (d : Nat → Nat) : Nat → Nat
  | 0 => 0
  | k + 1 => vD B d k * B + d k
theorem vD_eq {B : Nat} {d e : Nat → Nat} : ∀ {n : Nat}, (∀ i, i < n → d i = e i) → vD B d n = vD B e n
  | 0, _ => rfl
  | n + 1, h => by
    show vD B d n * B + d n = vD B e n * B + e n
    rw [vD_eq (fun i hi => h i (by omega)), h n (by omega)]
theorem vD_lt {B : Nat} {d e : Nat → Nat} {k : Nat} (hB : ∀ i, d i < B) (h1 : ∀ i, i < k → d i = e i) (h2 : d k < e k) : ∀ n, k < n → vD B d n < vD B e n
  | 0, h => absurd h (Nat.not_lt_zero _)
  | n + 1, h => by
    show vD B d n * B + d n < vD B e n * B + e n
    rcases Nat.lt_or_ge k n with q | q
    · have ih := vD_lt hB h1 h2 n q
      have hb := hB n
      have : (vD B d n + 1) * B ≤ vD B e n * B := Nat.mul_le_mul_right B ih
      rw [Nat.add_mul, Nat.one_mul] at this
      omega
    · have hk : k = n := by omega
      subst hk
      rw [vD_eq h1]
      omega
theorem vD_inj {B : Nat} {d e : Nat → Nat} (hd : ∀ i, d i < B) (he : ∀ i, e i < B) {n : Nat} (h : vD B d n = vD B e n) : ∀ i, i < n → d i = e i := by
  intro i
  induction i using Nat.strongRecOn with
  | ind i ih =>
    intro hi
    rcases Nat.lt_trichotomy (d i) (e i) with q | q | q
    · have := vD_lt hd (fun j hj => ih j hj (by omega)) q n hi
      omega
    · exact q
    · have := vD_lt he (fun j hj => (ih j hj (by omega)).symm) q n hi
      omega
def dz (x : Int32) : Nat := (x.toInt + 2147483648).toNat
theorem dz_lt (x : Int32) : dz x < 4294967296 := by
  have := i32_rng x
  unfold dz
  omega
theorem dz_mono {x y : Int32} : dz x < dz y ↔ x < y := by
  have := i32_rng x
  have := i32_rng y
  rw [Int32.lt_iff_toInt_lt]
  unfold dz
  omega
theorem dz_inj {x y : Int32} (h : dz x = dz y) : x = y := by
  have := i32_rng x
  have := i32_rng y
  apply Int32.toInt_inj.mp
  unfold dz at h
  omega
def vW (f : Nat → Int32) : Nat := vD 4294967296 (fun i => dz (f i)) 12
theorem vW_eq {f g : Nat → Int32} : vW f = vW g ↔ ∀ k, k < 12 → f k = g k :=
  ⟨fun h k hk => dz_inj (vD_inj (fun i => dz_lt _) (fun i => dz_lt _) h k hk), fun h => vD_eq (fun i hi => by rw [h i hi])⟩
theorem vW_lt {f g : Nat → Int32} {k : Nat} (hk : k < 12) (h1 : ∀ i, i < k → f i = g i) (h2 : f k < g k) : vW f < vW g :=
  vD_lt (fun i => dz_lt _) (fun i hi => by rw [h1 i hi]) (dz_mono.mpr h2) 12 hk
/-- the word w -/
def wF (fw : Nat → Int32) (w : Nat) : Nat → Int32 := fun k => fw (12 * w + k)
def AgR (x y : Nat) (r : Int32) : Prop := (x < y ∧ r = (-1)) ∨ (y < x ∧ r = nI 1) ∨ (x = y ∧ r = nI 0)
/-- the word of the tape, or -1 -/
def WtR (wm : Nat) (fw : Nat → Int32) (t : Nat) (r : Int32) : Prop := (∃ w, w < wm ∧ vW (wF fw w) = t ∧ r = nI w) ∨ ((∀ w, w < wm → vW (wF fw w) ≠ t) ∧ r = (-1))
noncomputable def nmF (n : Nat) (fa : Nat → Int32) (w : Nat) : Nat := cntF (fun j => pB (fa j = nI w)) n
/-- the least word above the tape with a line -/
def NxI (wm : Nat) (fw : Nat → Int32) (ok : Nat → Prop) (o : Option Nat) : Prop := match o with
  | none => ∀ w, w < wm → ¬ ok w
  | some b => b < wm ∧ ok b ∧ ∀ w, w < wm → ok w → vW (wF fw b) ≤ vW (wF fw w)
theorem NxI.skip {i : Nat} {fw : Nat → Int32} {ok : Nat → Prop} {o : Option Nat} (h : NxI i fw ok o) (hk : ¬ ok i) : NxI (i + 1) fw ok o := by
  cases o with
  | none => exact fun j hj => (Nat.lt_succ_iff_lt_or_eq.mp hj).elim (h j) (fun q => q ▸ hk)
  | some b => exact ⟨Nat.lt_succ_of_lt h.1, h.2.1, fun j hj q => (Nat.lt_succ_iff_lt_or_eq.mp hj).elim (fun z => h.2.2 j z q) (fun z => absurd q (z ▸ hk))⟩
theorem NxI.first {i : Nat} {fw : Nat → Int32} {ok : Nat → Prop} (h : NxI i fw ok none) (hk : ok i) : NxI (i + 1) fw ok (some i) :=
  ⟨Nat.lt_succ_self i, hk, fun j hj q => (Nat.lt_succ_iff_lt_or_eq.mp hj).elim (fun z => absurd q (h j z)) (fun z => z ▸ Nat.le_refl _)⟩
theorem NxI.take {i b : Nat} {fw : Nat → Int32} {ok : Nat → Prop} (h : NxI i fw ok (some b)) (hk : ok i) (hb : vW (wF fw i) < vW (wF fw b)) : NxI (i + 1) fw ok (some i) :=
  ⟨Nat.lt_succ_self i, hk, fun j hj q => (Nat.lt_succ_iff_lt_or_eq.mp hj).elim (fun z => Nat.le_trans (Nat.le_of_lt hb) (h.2.2 j z q)) (fun z => z ▸ Nat.le_refl _)⟩
theorem NxI.stay {i b : Nat} {fw : Nat → Int32} {ok : Nat → Prop} (h : NxI i fw ok (some b)) (hb : ¬ vW (wF fw i) < vW (wF fw b)) : NxI (i + 1) fw ok (some b) :=
  ⟨Nat.lt_succ_of_lt h.1, h.2.1, fun j hj q => (Nat.lt_succ_iff_lt_or_eq.mp hj).elim (fun z => h.2.2 j z q) (fun z => z ▸ Nat.not_lt.mp hb)⟩
theorem lt_s1 {p : Nat → Prop} {i : Nat} (h : ∀ j, j < i → p j) (hi : p i) : ∀ j, j < i + 1 → p j := fun j hj => (Nat.lt_succ_iff_lt_or_eq.mp hj).elim (h j) (fun q => q ▸ hi)
theorem upd_lo {f : Nat → Int32} {k j : Nat} {x : Int32} (h : j < k) : upd f k x j = f j := pk_un (by omega)
/-- the k-th number of a line -/
def RdR (n : Nat) (fa : Nat → Int32) (fv : Nat → Int64) (w : Nat) (k : Int32) (r : Int64) : Prop := (∃ i, i < n ∧ fa i = nI w ∧ k = nI (nmF i fa w) ∧ r = fv i) ∨ ((k < 0 ∨ ∃ kk, kk < 2 ^ 31 ∧ k = nI kk ∧ nmF n fa w ≤ kk) ∧ r = NO)
theorem nm_1 {c kk : Nat} (h : c < kk) : nI (kk - c) + Int32.ofInt (-1) = nI (kk - (c + 1)) := by
  rw [show kk - c = (kk - (c + 1)) + 1 by omega]
  exact pk_m1 _
