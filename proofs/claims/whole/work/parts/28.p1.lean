/-! kinds and goods -/
def gk (k : Nat) (r h c : Int32) : Int32 := match k with
  | 0 => r
  | 1 => if c < 5 then r else (r + 1) / 2
  | 2 => r
  | 3 => r + irm h 4
  | 4 => (if c < 5 then r else (r + 1) / 2) + 1
  | _ => 0
def fp (p s : Int32) : Int32 := if p - s / 5 ≤ 0 then 0 else p - s / 5
def fk (k : Nat) (p s : Int32) : Int32 := match k with
  | 2 => 0
  | 4 => fp p s / 2
  | 5 => 1
  | _ => fp p s
def sm32 (f : Nat → Int32) : Nat → Int32
  | 0 => 0
  | n + 1 => sm32 f n + f n
theorem six {k : Nat} (h : k < 6) : k = 0 ∨ k = 1 ∨ k = 2 ∨ k = 3 ∨ k = 4 ∨ k = 5 := by omega
section PH
variable {w : Wd} {h : Nat}
theorem isO_v (H : HS w h) {a t t' n : Nat} (ha : a < 107) (hs : wS w a = (t, n)) : isO w a t' = (t == t') := by
  unfold isO
  rw [H.1, hs, decide_eq_true ha, Bool.true_and]
theorem u_ground_eq (H : HS w h) {k : Nat} (hk : k < 6) (r hh c : Int32) : u_ground (2 + k) r hh c w = some (gk k r hh c, w) := by
  obtain ⟨-, -, k2, k3, k4, k5, k6, k7⟩ := H.k
  rcases six hk with rfl | rfl | rfl | rfl | rfl | rfl
  · simp [u_ground, isO_v H (by decide) k2, f_X6_ground, gk]
  · have h9 : (3 : Nat) < wN w := by rw [H.1]; decide
    simp only [u_ground, isO_v H (a := 2 + 1) (by decide) k3, f_X9_ground, f_X6_ground, gk, f_X9_ground_25]
    rw [calO_t (a := 2 + 1) h9 (by rw [k3]; decide), cal_t]
    simp
    split <;> rfl
  · simp [u_ground, isO_v H (by decide) k4, f_X6_ground, gk]
  · have h9 : (5 : Nat) < wN w := by rw [H.1]; decide
    simp only [u_ground, isO_v H (a := 2 + 3) (by decide) k5, f_X3_ground, f_X6_ground, gk]
    rw [calO_t (a := 2 + 3) h9 (by rw [k5]; decide), cal_t]
    simp
  · have h9 : (6 : Nat) < wN w := by rw [H.1]; decide
    simp only [u_ground, isO_v H (a := 2 + 4) (by decide) k6, f_X8_ground, f_X9_ground, f_X6_ground, gk, f_X9_ground_25]
    rw [calO_t (a := 2 + 4) h9 (by rw [k6]; decide), calO_t (a := 2 + 4) h9 (by rw [k6]; decide), cal_t]
    simp
    split <;> simp [cal_t]
  · simp [u_ground, isO_v H (by decide) k7, f_X4_ground, gk]
theorem f_X6_fetches_eq (a : Nat) (p s : Int32) (w : Wd) : f_X6_fetches a p s w = some (fp p s, w) := by
  unfold f_X6_fetches fp
  simp only [nm_t, f_X6_fetches_15]
  split <;> rfl
theorem u_fetches_eq (H : HS w h) {k : Nat} (hk : k < 6) (p s : Int32) : u_fetches (2 + k) p s w = some (fk k p s, w) := by
  obtain ⟨-, -, k2, k3, k4, k5, k6, k7⟩ := H.k
  rcases six hk with rfl | rfl | rfl | rfl | rfl | rfl
  · simp [u_fetches, isO_v H (by decide) k2, f_X6_fetches_eq, fk]
  · simp [u_fetches, isO_v H (by decide) k3, f_X6_fetches_eq, fk]
  · simp [u_fetches, isO_v H (by decide) k4, f_X5_fetches, fk]
  · simp [u_fetches, isO_v H (by decide) k5, f_X6_fetches_eq, fk]
  · have h9 : (6 : Nat) < wN w := by rw [H.1]; decide
    simp only [u_fetches, isO_v H (a := 2 + 4) (by decide) k6, f_X8_fetches, f_X6_fetches_eq, fk]
    rw [calO_t (a := 2 + 4) h9 (by rw [k6]; decide), cal_t]
    simp
  · have h9 : (7 : Nat) < wN w := by rw [H.1]; decide
    simp only [u_fetches, isO_v H (a := 2 + 5) (by decide) k7, f_X4_fetches, f_X5_fetches, fk]
    rw [calO_t (a := 2 + 5) h9 (by rw [k7]; decide), cal_t]
    simp
theorem groundIn_eq (H : HS w h) {g k : Nat} (hg : g < 6) (hk : k < 6) (hm : wI w (h + 9 + g) 1 = nI k) (hh c : Int32) : f_X1_groundIn (h + 9 + g) hh c w = some (gk k (wI w (h + 9 + g) 2) hh c, w) := by
  unfold f_X1_groundIn
  rw [gR_t (H.og hg), H.rk hg, Option.bind_some, gI_t (H.og hg), hm, lR_t H.ok (inb_of H.nk hk (by decide)), nI_clamp (by omega), H.rk1 hk, Option.bind_some, gI_t (H.og hg), u_ground_eq H hk, cal_t]
theorem fetchesWhen_eq (H : HS w h) {g k : Nat} (hg : g < 6) (hk : k < 6) (hm : wI w (h + 9 + g) 1 = nI k) (s : Int32) : f_X1_fetchesWhen (h + 9 + g) s w = some (fk k (wI w (h + 9 + g) 3) s, w) := by
  unfold f_X1_fetchesWhen
  rw [gR_t (H.og hg), H.rk hg, Option.bind_some, gI_t (H.og hg), hm, lR_t H.ok (inb_of H.nk hk (by decide)), nI_clamp (by omega), H.rk1 hk, Option.bind_some, gI_t (H.og hg), u_fetches_eq H hk, cal_t]
theorem fetchedBy_lp (H : HS w h) {g k : Nat} (hg : g < 6) (hk : k < 6) (hm : wI w (h + 9 + g) 1 = nI k) (n : Nat) (hn : n < 2 ^ 31) (s : Int32) : ∀ (d i fuel : Nat) (acc : Int32), i + d = n → d < fuel → acc = sm32 (fun j => fk k (wI w (h + 9 + g) 3) (s + nI j)) i → f_X1_fetchedBy_5 fuel (h + 9 + g) (nI n) s acc (nI i) w = some (sm32 (fun j => fk k (wI w (h + 9 + g) 3) (s + nI j)) n, w) := by
  intro d
  induction d with
  | zero =>
    intro i fuel acc hi hf ha
    obtain ⟨f, rfl⟩ : ∃ f, fuel = f + 1 := ⟨fuel - 1, by omega⟩
    rw [f_X1_fetchedBy_5, if_pos (nI_le (by omega) (by omega)), ha, show i = n by omega]
  | succ d ih =>
    intro i fuel acc hi hf ha
    obtain ⟨f, rfl⟩ : ∃ f, fuel = f + 1 := ⟨fuel - 1, by omega⟩
    rw [f_X1_fetchedBy_5, if_neg (nI_ge (by omega) (by omega)), calV_t (H.og hg), fetchesWhen_eq H hg hk hm, cal_t, nm_t, nI_1]
    exact ih (i + 1) f _ (by omega) (by omega) (by rw [ha]; rfl)
theorem fetchedBy_eq (H : HS w h) {g k : Nat} (hg : g < 6) (hk : k < 6) (hm : wI w (h + 9 + g) 1 = nI k) {n : Nat} (hn : n < 4096) (s : Int32) : f_X1_fetchedBy (h + 9 + g) (nI n) s w = some (sm32 (fun j => fk k (wI w (h + 9 + g) 3) (s + nI j)) n, w) := by
  unfold f_X1_fetchedBy
  exact fetchedBy_lp H hg hk hm n (by omega) s n 0 4096 0 (by omega) hn rfl
theorem allB_lp (H : HS w h) {n : Nat} (hn : n ≤ 6) (hm : wI w h 4 = nI n) : ∀ (d i fuel : Nat) (acc : Int32), i + d = n → d < fuel → acc = sm32 (fun g => wI w (h + 9 + g) 4) i → f_X2_allBushels_4 fuel h acc (nI i) w = some (sm32 (fun g => wI w (h + 9 + g) 4) n, w) := by
  intro d
  induction d with
  | zero =>
    intro i fuel acc hi hf ha
    obtain ⟨f, rfl⟩ : ∃ f, fuel = f + 1 := ⟨fuel - 1, by omega⟩
    rw [f_X2_allBushels_4, gI_t H.o, hm, if_pos (nI_le (by omega) (by omega)), ha, show i = n by omega]
  | succ d ih =>
    intro i fuel acc hi hf ha
    obtain ⟨f, rfl⟩ : ∃ f, fuel = f + 1 := ⟨fuel - 1, by omega⟩
    rw [f_X2_allBushels_4, gI_t H.o, hm, if_neg (nI_ge (by omega) (by omega)), gR_t H.o, H.r0, Option.bind_some, lR_t H.o1 (inb_of H.n1 (by omega) (by decide)), nI_clamp (by omega), H.rg (by omega), Option.bind_some, gI_t (H.og (by omega)), nm_t, nI_1]
    exact ih (i + 1) f _ (by omega) (by omega) (by rw [ha]; rfl)
theorem allB_eq (H : HS w h) {n : Nat} (hn : n ≤ 6) (hm : wI w h 4 = nI n) : f_X2_allBushels h w = some (sm32 (fun g => wI w (h + 9 + g) 4) n, w) := by
  unfold f_X2_allBushels
  exact allB_lp H hn hm n 0 4096 0 (by omega) (by omega) rfl
/-- GOODS that are there -/
def hasg (n : Nat) (x : Int32) : Prop := ∃ g, g < n ∧ x = nI g
theorem has_yes (H : HS w h) {n g : Nat} (hn : n ≤ 6) (hm : wI w h 4 = nI n) (hg : g < n) : f_X2_has h (nI g) w = some (1, w) := by
  unfold f_X2_has
  rw [if_neg (nI_pos (by omega)), gI_t H.o, hm, if_neg (nI_ge hg (by omega)), f_X2_has_17, rZ1]
theorem has_no (H : HS w h) {n : Nat} {x : Int32} (hn : n ≤ 6) (hm : wI w h 4 = nI n) (hg : ¬ hasg n x) : f_X2_has h x w = some (0, w) := by
  unfold f_X2_has
  by_cases h0 : x < 0
  · rw [if_pos h0, f_X2_has_16, f_X2_has_17, rZ0]
  · rw [if_neg h0, gI_t H.o, hm]
    obtain ⟨j, hj, rfl⟩ := nI_of h0
    have h1 : ¬ j < n := fun q => hg ⟨j, q, rfl⟩
    rw [if_pos (nI_le (by omega) hj), f_X2_has_16, f_X2_has_17, rZ0]
theorem groundBy_yes (H : HS w h) {n g k : Nat} (hn : n ≤ 6) (hm : wI w h 4 = nI n) (hg : g < n) (hk : k < 6) (hmk : wI w (h + 9 + g) 1 = nI k) (hh : Int32) : f_X2_groundBy h (nI g) hh w = some (gk k (wI w (h + 9 + g) 2) hh (wI w h 8), w) := by
  unfold f_X2_groundBy
  rw [calV_t H.o, has_yes H hn hm hg, cal_t, if_neg (by decide), gR_t H.o, H.r0, Option.bind_some, lR_t H.o1 (inb_of H.n1 (by omega) (by decide)), nI_clamp (by omega), H.rg (by omega), Option.bind_some, gI_t H.o, calV_t (H.og (by omega)), groundIn_eq H (by omega) hk hmk, cal_t, f_X2_groundBy_26]
theorem groundBy_no (H : HS w h) {n : Nat} {x : Int32} (hn : n ≤ 6) (hm : wI w h 4 = nI n) (hg : ¬ hasg n x) (hh : Int32) : f_X2_groundBy h x hh w = some (0, w) := by
  unfold f_X2_groundBy
  rw [calV_t H.o, has_no H hn hm hg, cal_t, if_pos rfl, f_X2_groundBy_26]
end PH
