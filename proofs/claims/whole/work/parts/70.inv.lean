/-! frames, the abstract state, what class and reference hold of it -/
/-- all is as it was but these int fields, int rows and long rows -/
def zfr (F : List (Nat × Nat)) (A L : List Nat) (s t : zq_S) : Prop :=
  (∀ k j, (k, j) ∉ F → zgf t k j = zgf s k j) ∧ (∀ i, zgb t i = zgb s i) ∧ (∀ k, k ∉ A → zA t k = zA s k) ∧ (∀ k, k ∉ L → zL t k = zL s k)
section zfrs
variable {F F' : List (Nat × Nat)} {A L A' L' : List Nat} {s t u : zq_S}
theorem zfr.f (h : zfr F A L s t) (k j : Nat) (hk : (k, j) ∉ F) : zgf t k j = zgf s k j := h.1 k j hk
theorem zfr.b (h : zfr F A L s t) (i : Nat) : zgb t i = zgb s i := h.2.1 i
theorem zfr.a (h : zfr F A L s t) (k : Nat) (hk : k ∉ A) : zA t k = zA s k := h.2.2.1 k hk
theorem zfr.l (h : zfr F A L s t) (k : Nat) (hk : k ∉ L) : zL t k = zL s k := h.2.2.2 k hk
theorem zfr_rfl : zfr F A L s s := ⟨fun _ _ _ => rfl, fun _ => rfl, fun _ _ => rfl, fun _ _ => rfl⟩
theorem zfr.tr (h : zfr F A L s t) (h2 : zfr F A L t u) : zfr F A L s u :=
  ⟨fun k j q => (h2.1 k j q).trans (h.1 k j q), fun i => (h2.2.1 i).trans (h.2.1 i), fun k q => (h2.2.2.1 k q).trans (h.2.2.1 k q), fun k q => (h2.2.2.2 k q).trans (h.2.2.2 k q)⟩
theorem zfr.mo (h : zfr F A L s t) (h1 : ∀ x, x ∈ F → x ∈ F') (h2 : ∀ x, x ∈ A → x ∈ A') (h3 : ∀ x, x ∈ L → x ∈ L') : zfr F' A' L' s t :=
  ⟨fun k j q => h.1 k j (fun z => q (h1 _ z)), h.2.1, fun k q => h.2.2.1 k (fun z => q (h2 _ z)), fun k q => h.2.2.2 k (fun z => q (h3 _ z))⟩
theorem zfr_pf (k j : Nat) (v : Int32) (hk : (k, j) ∈ F) : zfr F A L s (zpf s k j v) := by
  refine ⟨fun a b q => ?_, fun _ => rfl, fun _ _ => rfl, fun _ _ => rfl⟩
  rw [zgf_pf, if_neg]
  rintro ⟨rfl, rfl⟩
  exact q hk
theorem zfr_sA (k : Nat) (f : Nat → Int32) (hk : k ∈ A) : zfr F A L s (zsA s k f) := by
  refine ⟨fun _ _ _ => rfl, fun _ => rfl, fun a q => ?_, fun _ _ => rfl⟩
  rw [zA_ne]
  rintro rfl
  exact q hk
theorem zfr_sL (k : Nat) (f : Nat → Int64) (hk : k ∈ L) : zfr F A L s (zsL s k f) := by
  refine ⟨fun _ _ _ => rfl, fun _ => rfl, fun _ _ => rfl, fun a q => ?_⟩
  rw [zL_ne]
  rintro rfl
  exact q hk
end zfrs
/-- a loop that counts up to e: at count j the state keeps P j -/
theorem zw_cnt {α β : Type} {b : (α → Option β) → α → Option β} {Q : β → Prop} (e : Nat) (P : Nat → α → Prop) (hx : ∀ self v, P e v → zw (b self v) Q) (hs : ∀ (self : α → Option β) (j : Nat) (v : α), j < e → P j v → (∀ v', P (j + 1) v' → zw (self v') Q) → zw (b self v) Q) : ∀ (n j : Nat) (v : α), j ≤ e → e - j < n → P j v → zw (zq_loop b n v) Q := by
  intro n
  induction n with
  | zero => intro j v _ h; omega
  | succ n ih =>
    intro j v hj hn hp
    rw [zq_loop_s]
    by_cases h : j = e
    · subst h; exact hx _ _ hp
    · exact hs _ j v (by omega) hp (fun v' hv' => ih (j + 1) v' (by omega) (by omega) hv')
/-- a call -/
theorem zw_call {α β : Type} {o : Option (α × zq_S)} {P : α × zq_S → Prop} {f : α → zq_S → Option β} {Q : β → Prop} (h : zw o P) (k : ∀ r t, P (r, t) → zw (f r t) Q) : zw (zq_b2 o f) Q := by
  rw [zw_b2]
  exact zw_mono h (fun v hv => k v.1 v.2 hv)
theorem zw_ret {α : Type} {v : α} {c : Option α} {Q : α → Prop} (h : c = some v) (q : Q v) : zw c Q := ⟨v, h, q⟩
-- sessions: least sessions and, among these, least sum of breaks
def zlx (a c : Nat × Nat) : Nat × Nat := if c.1 < a.1 ∨ (c.1 = a.1 ∧ c.2 < a.2) then c else a
/-- the candidate by mark m -/
def zcd (ik br : Nat → Nat) (P : Nat → Nat → Nat × Nat) (S i m : Nat) : Nat × Nat :=
  ((P (S ||| 2 ^ m) (ik m)).1 + (if S ≠ 0 ∧ ik m = i then 0 else 1), (P (S ||| 2 ^ m) (ik m)).2 + (if (S ≠ 0 ∧ ik m = i) ∨ S = 0 then 0 else br S))
def zbst (E : Nat → Bool) (c : Nat → Nat × Nat) : Nat → Nat × Nat
  | 0 => (1000000, 0)
  | m + 1 => if E m then zlx (zbst E c m) (c m) else zbst E c m
def zPF (n : Nat) (mu ik br : Nat → Nat) : Nat → Nat → Nat → Nat × Nat
  | 0, _, _ => (0, 0)
  | d + 1, S, i => if S = 2 ^ n - 1 then (0, if n = 0 then 0 else br S) else zbst (zed n mu S) (zcd ik br (zPF n mu ik br d) S i) n
def zP (n : Nat) (mu ik br : Nat → Nat) (S i : Nat) : Nat × Nat := zPF n mu ik br (2 ^ n - S) S i
/-- the first order with the fewest sessions: set, last ink behind k marks; the mark taken there -/
def zfmk (n : Nat) (mu ik : Nat → Nat) (S i : Nat) : Nat → Nat
  | 0 => n
  | k + 1 => if zed n mu S (n - 1 - k) ∧ (zcd ik (fun _ => 0) (zP n mu ik (fun _ => 0)) S i (n - 1 - k)).1 = (zP n mu ik (fun _ => 0) S i).1 then n - 1 - k else zfmk n mu ik S i k
def zfst (n : Nat) (mu ik : Nat → Nat) : Nat → Nat × Nat
  | 0 => (0, 0)
  | k + 1 => ((zfst n mu ik k).1 ||| 2 ^ (zfmk n mu ik (zfst n mu ik k).1 (zfst n mu ik k).2 n), ik (zfmk n mu ik (zfst n mu ik k).1 (zfst n mu ik k).2 n))
def zfsm (n : Nat) (mu ik : Nat → Nat) (k : Nat) : Nat := zfmk n mu ik (zfst n mu ik k).1 (zfst n mu ik k).2 n
-- views
def zvS (T : zSh) (acc : List Nat) (S : Nat) : List Nat := if acc.any (fun R => ztx T R == ztx T S) then acc else acc ++ [S]
def zvL (T : zSh) (mu : Nat → Nat) (n : Nat) : List Nat := (zgL mu n (2 ^ n)).foldl (zvS T) []
-- the abstract state
def zGs : Type := zSh × Nat × Nat × (Nat → Nat) × (Nat → Nat) × (Nat → Nat) × (Nat → Nat) × List Nat
def zGs.T (a : zGs) : zSh := a.1
def zGs.n (a : zGs) : Nat := a.2.1
def zGs.wn (a : zGs) : Nat := a.2.2.1
def zGs.ba (a : zGs) : Nat → Nat := a.2.2.2.1
def zGs.kd (a : zGs) : Nat → Nat := a.2.2.2.2.1
def zGs.ns (a : zGs) : Nat → Nat := a.2.2.2.2.2.1
def zGs.dp (a : zGs) : Nat → Nat := a.2.2.2.2.2.2.1
def zGs.pr (a : zGs) : List Nat := a.2.2.2.2.2.2.2
def zG : Type := zGs × ((Nat → Nat) × (Nat → Nat → Bool)) × (List Nat × List (List Nat)) × ((Nat → Nat → Bool) × Nat) × (List Nat × Int32) × (Nat × Bool)
def zG.S (g : zG) : zGs := g.1
def zG.ik (g : zG) : Nat → Nat := g.2.1.1
def zG.er (g : zG) : Nat → Nat → Bool := g.2.1.2
def zG.dr (g : zG) : List Nat := g.2.2.1.1
def zG.cp (g : zG) : List (List Nat) := g.2.2.1.2
def zG.bs (g : zG) : Nat → Nat → Bool := g.2.2.2.1.1
def zG.nb (g : zG) : Nat := g.2.2.2.1.2
def zG.hd (g : zG) : List Nat := g.2.2.2.2.1.1
def zG.fp (g : zG) : Int32 := g.2.2.2.2.1.2
def zG.vc (g : zG) : Nat := g.2.2.2.2.2.1
/-- in the middle of a cache's filling -/
def zG.md (g : zG) : Bool := g.2.2.2.2.2.2
def zG.mid (g : zG) : zG := (g.1, g.2.1, g.2.2.1, g.2.2.2.1, g.2.2.2.2.1, (g.vc, true))
def zG.n (g : zG) : Nat := g.S.n
def zG.T (g : zG) : zSh := g.S.T
def zG.mu (g : zG) : Nat → Nat := zmu g.n g.S.ba g.ik g.er
/-- the bytes of item p as printed -/
def zdg (v : Nat) : List Nat := if v < 10 then [48 + v] else [48 + v / 10, 48 + v % 10]
def zpn (l : List Nat) (v : Nat) : List Nat := (if 48 ≤ l.getLastD 0 ∧ l.getLastD 0 ≤ 57 then l ++ [32] else l) ++ zdg v
def zpi (T : zSh) (l : List Nat) (p : Nat) : List Nat :=
  if T.sg p = 0 then zpn l (T.wd p)
  else if T.sg p = 1 then zpn (l ++ [123]) (T.mk p) ++ [58]
  else if T.sg p = 2 then (match T.sd (T.mk p) with
    | none => zpn (l ++ [91]) (T.mk p)
    | some d => zpn (zpn (l ++ [91]) (T.mk p) ++ [33]) d) ++ [58]
  else if T.sg p = 3 then zpn (l ++ [60]) (T.mk p) ++ [58]
  else if T.sg p = 4 then l ++ [125]
  else if T.sg p = 5 then l ++ [93]
  else if T.sg p = 6 then l ++ [62]
  else if T.sg p = 7 then zpn (l ++ [42]) (T.mk p)
  else if T.sg p = 8 then zpn (l ++ [40]) (T.wd p)
  else if T.sg p = 9 then zpn (zpn (l ++ [47]) (T.mk p)) (T.wd p)
  else l ++ [41]
def zpl' (T : zSh) : Nat → List Nat
  | 0 => []
  | k + 1 => zpi T (zpl' T k) k
/-- facts of the sheet -/
def zSW (a : zGs) : Prop :=
  a.n ≤ 10 ∧ zShW a.T ∧ zShR a.T ∧ zSh40 a.T ∧ (∀ m, m < a.n → a.ba m < 2 ^ a.n) ∧ a.pr = zpl' a.T a.T.n ∧ a.pr.length ≤ 400
/-- facts of the state -/
def zGW (g : zG) : Prop :=
  zSW g.S ∧ (∀ m, m < g.n → g.ik m < 4) ∧ zcy g.mu g.n = false ∧
  (g.dr.length ≤ 40 ∧ ∀ x, x ∈ g.dr → x < 100) ∧ (g.cp.length ≤ 4 ∧ ∀ c, c ∈ g.cp → c.length ≤ 40 ∧ ∀ x, x ∈ c → x < 100) ∧
  (g.nb ≤ 20 ∧ zcn (fun q => g.bs (q / 100) (q % 100)) 10000 = g.nb) ∧ (g.hd.length ≤ 400 ∧ ∀ x, x ∈ g.hd → x < 256) ∧ g.vc ≤ 1000
section zGWs
variable {g : zG} (h : zGW g)
theorem zGW.n (h : zGW g) : g.n ≤ 10 := h.1.1
theorem zGW.W (h : zGW g) : zShW g.T := h.1.2.1
theorem zGW.R (h : zGW g) : zShR g.T := h.1.2.2.1
theorem zGW.w40 (h : zGW g) : zSh40 g.T := h.1.2.2.2.1
theorem zGW.ba (h : zGW g) : ∀ m, m < g.n → g.S.ba m < 2 ^ g.n := h.1.2.2.2.2.1
theorem zGW.mu (h : zGW g) : ∀ m, m < g.n → g.mu m < 2 ^ g.n := zmu_lt h.ba
theorem zGW.ik (h : zGW g) : ∀ m, m < g.n → g.ik m < 4 := h.2.1
theorem zGW.cy (h : zGW g) : zcy g.mu g.n = false := h.2.2.1
theorem zGW.dr (h : zGW g) : g.dr.length ≤ 40 ∧ ∀ x, x ∈ g.dr → x < 100 := h.2.2.2.1
theorem zGW.cp (h : zGW g) : g.cp.length ≤ 4 ∧ ∀ c, c ∈ g.cp → c.length ≤ 40 ∧ ∀ x, x ∈ c → x < 100 := h.2.2.2.2.1
theorem zGW.nb (h : zGW g) : g.nb ≤ 20 ∧ zcn (fun q => g.bs (q / 100) (q % 100)) 10000 = g.nb := h.2.2.2.2.2.1
theorem zGW.hd (h : zGW g) : g.hd.length ≤ 400 ∧ ∀ x, x ∈ g.hd → x < 256 := h.2.2.2.2.2.2.1
theorem zGW.vc (h : zGW g) : g.vc ≤ 1000 := h.2.2.2.2.2.2.2
end zGWs
-- the class
def zX1 (a : zGs) (s : zq_S) : Prop :=
  zgb s 3 = zgb s 0 ∧ zgb s 4 = zgb s 0 ∧ zgb s 1 = !zgb s 0 ∧ zgf s (zs (zgb s 0)) 7 = nI a.n ∧ zgf s (zs (zgb s 0)) 8 = nI a.wn ∧ zXS (zgb s 0) s a.T ∧
  (∀ m, m < a.n → zA s (zs (zgb s 0) + 6) m = nI (a.ba m)) ∧ (∀ m, m < a.n → zA s (zs (zgb s 0) + 5) m = nI (a.kd m)) ∧ (∀ m, m < a.n → zA s (zs (zgb s 0) + 7) m = nI (a.ns m)) ∧ (∀ m, m < a.n → zA s (zs (zgb s 0) + 8) m = nI (a.dp m)) ∧
  zgf s (zs (zgb s 0)) 1 = nI a.pr.length ∧ (∀ i, i < a.pr.length → zA s (zs (zgb s 0) + 1) i = nI (zgt a.pr i)) ∧ zgf s 39 0 = nI 1024
def zX2 (g : zG) (s : zq_S) : Prop :=
  (∀ m, m < g.n → zA s 32 m = nI (g.ik m)) ∧ (∃ em, (∀ a, a < 4 → zA s 33 a = nI (em a)) ∧ zer em g.er) ∧ (∀ m, m < g.n → zA s 34 m = nI (g.mu m)) ∧ (∀ m, m < g.n → zA s 35 m = nI (zbh g.mu m g.n))
def zX3 (dr : List Nat) (cp : List (List Nat)) (s : zq_S) : Prop :=
  zgf s 51 0 = nI 5 ∧ zRow true s 4 dr.length (zgt dr) ∧ zgf s 56 5 = nI cp.length ∧ ∀ c l, cp[c]? = some l → zRow true s c l.length (zgt l)
def zX4 (bs : Nat → Nat → Bool) (nb : Nat) (s : zq_S) : Prop :=
  zgf s 42 1 = nI nb ∧ ∀ x y, x < 100 → y < 100 → zbt (zL s 43 (2 * x + y / 64)) (y % 64) = bs x y
def zX5 (hd : List Nat) (fp : Int32) (s : zq_S) : Prop :=
  zgf s 26 1 = nI hd.length ∧ (∀ i, i < hd.length → zA s 27 i &&& 255 = nI (zgt hd i)) ∧ zgf s 0 12 = fp
def zvo (v : Nat) (x : Int32) : Prop := x = -1 ∨ ∃ w, w ≤ v ∧ x = nI w
def zSV (g : zG) (s : zq_S) : Prop := zgf s 46 6 = nI (zP g.n g.mu g.ik (fun _ => 0) 0 0).1 ∧ ∀ j, j < g.n → zA s 47 j = nI (zfsm g.n g.mu g.ik j)
def zVV (g : zG) (s : zq_S) : Prop := zgf s 49 4 = nI (zvL g.T g.mu g.n).length ∧ ∃ o, zA s 50 = zli (zvL g.T g.mu g.n) o
def zCa (g : zG) (s : zq_S) : Prop :=
  (∃ v, v ≤ g.vc ∧ zgf s 31 8 = nI v ∧ zvo v (zgf s 31 9) ∧ zvo v (zgf s 44 5) ∧ zvo v (zgf s 46 7) ∧ zvo v (zgf s 49 5)) ∧
  (zgf s 31 9 = zgf s 31 8 → zGD s g.n g.mu) ∧ (zgf s 44 5 = zgf s 31 8 → zWV s g.n g.mu) ∧ zTc s g.T ∧ (g.md = false → zgf s 46 7 = zgf s 31 8 → zSV g s) ∧ (g.md = false → zgf s 49 5 = zgf s 31 8 → zVV g s)
def zXI (g : zG) (s : zq_S) : Prop := zGW g ∧ zX1 g.S s ∧ zX2 g s ∧ zX3 g.dr g.cp s ∧ zX4 g.bs g.nb s ∧ zX5 g.hd g.fp s ∧ zCa g s
-- the reference
def zkd2 (k : Nat) : Int32 := match k with
  | 9 => 7
  | 10 => 8
  | k => zkd k
def zM1 (a : zGs) (s : zq_S) : Prop :=
  zgf s 57 6 = nI a.n ∧ zgf s 57 5 = nI a.wn ∧ zMS s a.T ∧ (∀ m, m < a.n → zA s 64 m = nI (a.ba m)) ∧ (∀ m, m < a.n → zA s 62 m = nI (a.kd m)) ∧ (∀ m, m < a.n → zA s 66 m = nI (a.ns m)) ∧ (∀ m, m < a.n → zA s 67 m = nI (a.dp m)) ∧
  (∀ p, p < a.T.n → zA s 58 p = zkd2 (a.T.sg p) ∧ ((a.T.sg p = 4 ∨ a.T.sg p = 5 ∨ a.T.sg p = 6) → zA s 59 p = nI (a.T.sg p - 3)) ∧ ((a.T.sg p = 1 ∨ a.T.sg p = 3) → zA s 60 p = -1))
def zM2 (g : zG) (s : zq_S) : Prop :=
  (∀ m, m < g.n → zA s 63 m = nI (g.ik m)) ∧ (∀ a b, a < 4 → b < 4 → zA s 69 (4 * a + b) = if g.er a b then 1 else 0) ∧ (∀ m, m < g.n → zA s 65 m = nI (g.mu m))
def zM3 (dr : List Nat) (cp : List (List Nat)) (s : zq_S) : Prop :=
  zgf s 57 52 = nI dr.length ∧ (∀ i, i < dr.length → zA s 91 i = nI (zgt dr i)) ∧ zgf s 57 54 = nI cp.length ∧ ∀ c l, cp[c]? = some l → zA s 92 c = nI l.length ∧ ∀ i, i < l.length → zA s 93 (40 * c + i) = nI (zgt l i)
def zM4' (bs : Nat → Nat → Bool) (nb : Nat) (s : zq_S) : Prop :=
  zgf s 57 59 = nI nb ∧ ∀ x y, x < 100 → y < 100 → zA s 96 (100 * x + y) = if bs x y then 1 else 0
def zM5 (hd : List Nat) (fp : Int32) (s : zq_S) : Prop :=
  zgf s 57 16 = nI hd.length ∧ (∀ i, i < hd.length → zA s 70 i = nI (zgt hd i)) ∧ zgf s 57 17 = fp
def zCm (g : zG) (s : zq_S) : Prop :=
  (zgf s 57 37 = 0 ∨ (zgf s 57 37 = 1 ∧ zFD s g.n g.mu)) ∧ (zgf s 57 44 = 0 ∨ (zgf s 57 44 = 1 ∧ zMx s g.T (2 ^ g.n)))
def zMI (g : zG) (s : zq_S) : Prop := zGW g ∧ zM1 g.S s ∧ zM2 g s ∧ zM3 g.dr g.cp s ∧ zM4' g.bs g.nb s ∧ zM5 g.hd g.fp s ∧ zCm g s
-- what queries change
abbrev zXQ (s t : zq_S) : Prop := zfr [(31, 7), (31, 9), (44, 5), (46, 6), (46, 7), (49, 4), (49, 5)] [36, 37, 41, 47, 50] [1, 40, 45, 48, 55] s t
abbrev zMQ (s t : zq_S) : Prop := zfr [(57, 36), (57, 37), (57, 44)] [77, 78, 79, 82, 83, 84, 85, 87, 88, 89, 90] [80, 81, 86, 94, 95, 97] s t
/-- the class's cells are as they were -/
def zSX (s t : zq_S) : Prop := (∀ k j, k < 57 → zgf t k j = zgf s k j) ∧ (∀ i, zgb t i = zgb s i) ∧ (∀ k, k < 57 → zA t k = zA s k) ∧ (∀ k, k < 57 → zL t k = zL s k)
/-- the reference's cells are as they were -/
def zSM (s t : zq_S) : Prop := (∀ k j, 57 ≤ k → zgf t k j = zgf s k j) ∧ (∀ k, 57 ≤ k → zA t k = zA s k) ∧ (∀ k, 57 ≤ k → zL t k = zL s k)
theorem zXQ_SM {s t : zq_S} (h : zXQ s t) : zSM s t := by
  refine ⟨fun k j hk => h.f k j ?_, fun k hk => h.a k ?_, fun k hk => h.l k ?_⟩
  · intro q; simp only [List.mem_cons, Prod.mk.injEq, List.not_mem_nil, or_false] at q; omega
  · intro q; simp only [List.mem_cons, List.not_mem_nil, or_false] at q; omega
  · intro q; simp only [List.mem_cons, List.not_mem_nil, or_false] at q; omega
theorem zMQ_SX {s t : zq_S} (h : zMQ s t) : zSX s t := by
  refine ⟨fun k j hk => h.f k j ?_, h.b, fun k hk => h.a k ?_, fun k hk => h.l k ?_⟩
  · intro q; simp only [List.mem_cons, Prod.mk.injEq, List.not_mem_nil, or_false] at q; omega
  · intro q; simp only [List.mem_cons, List.not_mem_nil, or_false] at q; omega
  · intro q; simp only [List.mem_cons, List.not_mem_nil, or_false] at q; omega
