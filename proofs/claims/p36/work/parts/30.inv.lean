/-! THE PICTURE: the model's state is the net's state in numbers; what is true of it (gd_), and how the class's tables lie beside it (ev_) -/
def rg (x : Int32) (n : Nat) : Prop := ∃ u : Nat, u < n ∧ x = nI u
def qS (st : Nat → Int32) (i q : Nat) : Int32 := st (8 + 7 * i + q)
def qL (st : Nat → Int32) (j q : Nat) : Int32 := st (64 + 8 * j + q)
def qM (st : Nat → Int32) (k q : Nat) : Int32 := st (192 + 8 * k + q)
def qC (st : Nat → Int32) (k s q : Nat) : Int32 := st (384 + 12 * (8 * k + s) + q)
def qE (st : Nat → Int32) (e q : Nat) : Int32 := st (2688 + 5 * e + q)
def sC (q : Nat) : Nat := if q < 3 then q else q + 2
def lC (q : Nat) : Nat := if q < 5 then q else q + 1
def mC (q : Nat) : Nat := if q < 4 then q else if q < 6 then q + 3 else q + 4
def isum (f : Nat → Int32) : Nat → Int32
  | 0 => 0
  | n + 1 => isum f n + f n
/-- the numbers -/
def gd_n (t a b m e tt : Nat) (st : Nat → Int32) : Prop :=
  (a ≤ 8 ∧ b ≤ 16 ∧ m ≤ 24 ∧ e ≤ 40 ∧ tt ≤ t) ∧ st 0 = nI a ∧ st 1 = nI b ∧ st 2 = nI m ∧ st 3 = nI tt ∧ st 7 = nI e ∧ rg (st 6) 1000003
def gd_S (a : Nat) (st : Nat → Int32) : Prop := ∀ i, i < 8 → (i < a → rg (qS st i 0) 24 ∧ rg (qS st i 1) 24 ∧ rg (qS st i 2) 10) ∧ (a ≤ i → ∀ q, q < 7 → qS st i q = 0)
def gd_L (a b : Nat) (st : Nat → Int32) : Prop := ∀ j, j < 16 → (j < b → rg (qL st j 0) a ∧ rg (qL st j 1) a ∧ qL st j 0 ≠ qL st j 1 ∧ rg (qL st j 2) 24 ∧ rg (qL st j 3) 24 ∧ rg (qL st j 4) 101) ∧ (b ≤ j → ∀ q, q < 8 → qL st j q = 0)
def gd_U (b : Nat) (st : Nat → Int32) : Prop := ∀ i j, i < b → j < b → ((qL st i 0 = qL st j 0 ∧ qL st i 1 = qL st j 1) ∨ (qL st i 0 = qL st j 1 ∧ qL st i 1 = qL st j 0)) → i = j
def gd_M (a m : Nat) (st : Nat → Int32) : Prop := ∀ k, k < m → rg (qM st k 0) a ∧ rg (qM st k 1) a ∧ qM st k 0 ≠ qM st k 1 ∧ rg (qM st k 2) 4
/-- a path: different stations, the last its own -/
def gd_p (s L : Nat) (f : Nat → Int32) : Prop := 1 ≤ L ∧ (∀ i, i < L → rg (f i) 8) ∧ (∀ i j, i < L → j < L → f i = f j → i = j) ∧ f (L - 1) = nI s
/-- a copy that is there: τ bounds its time -/
def gd_c (τ : Nat) (st : Nat → Int32) (k s : Nat) : Prop :=
  (∃ v, 1 ≤ v ∧ v ≤ 5 ∧ qC st k s 0 = nI v) ∧ (qC st k s 0 = 5 ↔ qM st k 1 = nI s) ∧ rg (qC st k s 2) τ ∧ ∃ L, qC st k s 3 = nI L ∧ L ≤ 8 ∧ gd_p s L (fun i => qC st k s (4 + i))
def gd_C (a m τ : Nat) (st : Nat → Int32) : Prop := ∀ k s, k < 24 → s < 8 → (qC st k s 0 = 0 ∧ qC st k s 1 = 0) ∨ (k < m ∧ s < a ∧ gd_c τ st k s)
def gd_E (e : Nat) (T : Nat) (st : Nat → Int32) : Prop := ∀ j, j < e → rg (qE st j 0) T ∧ rg (qE st j 1) 9 ∧ rg (qE st j 2) 24 ∧ rg (qE st j 3) 8 ∧ (qE st j 4 = -1 ∨ rg (qE st j 4) 8)
/-- a message is delivered -/
def q_dl (st : Nat → Int32) (k : Nat) : Bool := (List.range 8).any (fun s => qC st k s 0 == 5)
def gd_Z (st : Nat → Int32) : Prop := isum (fun i => qS st i 3) 8 = isum (fun j => qL st j 5) 16 ∧ isum (fun i => qS st i 6) 8 = isum (fun k => if q_dl st k = true then 1 else 0) 24
def gd (t a b m e tt τ : Nat) (st : Nat → Int32) : Prop := gd_n t a b m e tt st ∧ gd_S a st ∧ gd_L a b st ∧ gd_U b st ∧ gd_M a m st ∧ gd_C a m τ st ∧ gd_E e 1000000 st ∧ gd_Z st
/-- the class's tables beside the model's state -/
def ev_S (stations st : Nat → Int32) : Prop := ∀ i q, i < 8 → q < 7 → stations (10 * i + sC q) = qS st i q
def ev_L (links st : Nat → Int32) : Prop := ∀ j q, j < 16 → q < 8 → links (9 * j + lC q) = qL st j q
def ev_M (messages st : Nat → Int32) : Prop := ∀ k q, k < 24 → q < 8 → messages (12 * k + mC q) = qM st k q
def ev_C (copies st : Nat → Int32) : Prop := ∀ k s q, k < 24 → s < 8 → q < 4 → copies (5 * (8 * k + s) + q) = qC st k s q
/-- a path in one number, three bits a station -/
def q_pk (f : Nat → Nat) : Nat → Nat
  | 0 => 0
  | n + 1 => q_pk f n + f n * 8 ^ n
def ev_P (copies st : Nat → Int32) : Prop := ∀ k s, k < 24 → s < 8 → qC st k s 0 ≠ 0 → ∃ (L : Nat) (f : Nat → Nat), L ≤ 8 ∧ qC st k s 3 = nI L ∧ (∀ i, i < L → f i < 8 ∧ qC st k s (4 + i) = nI (f i)) ∧ copies (5 * (8 * k + s) + 4) = nI (q_pk f L)
/-- the hour and the links of the delivery, told by the message's row in the class, by the goal's copy in the model -/
def ev_D (m : Nat) (messages st : Nat → Int32) : Prop := ∀ k g, k < m → g < 8 → qM st k 1 = nI g → (qC st k g 0 = 5 → messages (12 * k + 5) = qC st k g 2 ∧ messages (12 * k + 6) = qC st k g 3 - 1) ∧ (qC st k g 0 ≠ 5 → messages (12 * k + 5) = -1 ∧ messages (12 * k + 6) = -1)
def ev_E (e : Nat) (first : Int32) (events st : Nat → Int32) : Prop := ∃ f, f < 40 ∧ first = nI f ∧ ∀ j q, j < e → q < 5 → events (5 * ((f + j) % 40) + q) = qE st j q
/-- an hour of the day within a window -/
def q_in (u v h : Nat) : Bool := if u ≤ v then decide (u ≤ h ∧ h ≤ v) else decide (u ≤ h ∨ h ≤ v)
def q_on (st : Nat → Int32) (i h : Nat) : Bool := q_in (qS st i 0).toNatClampNeg (qS st i 1).toNatClampNeg h
def q_op (st : Nat → Int32) (j h : Nat) : Bool := q_in (qL st j 2).toNatClampNeg (qL st j 3).toNatClampNeg h && q_on st (qL st j 0).toNatClampNeg h && q_on st (qL st j 1).toNatClampNeg h
/-- between i and j a link is open in the hour h -/
def q_hr (b : Nat) (st : Nat → Int32) (h i j : Nat) : Prop := ∃ l, l < b ∧ q_op st l h = true ∧ ((qL st l 0 = nI i ∧ qL st l 1 = nI j) ∨ (qL st l 0 = nI j ∧ qL st l 1 = nI i))
def ev_H (b : Nat) (heard : Nat → Int64) (st : Nat → Int32) : Prop := ∀ h i j, h < 24 → i < 8 → j < 8 → ((heard h).toBitVec.getLsbD (8 * i + j) = true ↔ q_hr b st h i j)
def ev_n (sc lc mc tm life tries x size : Int32) (st : Nat → Int32) : Prop := sc = st 0 ∧ lc = st 1 ∧ mc = st 2 ∧ tm = st 3 ∧ life = st 4 ∧ tries = st 5 ∧ x = st 6 ∧ size = st 7
/-- a net of the class beside a state of the model, all but what the class keeps of open links; τ: copies may bear so late an hour -/
def rl0 (t a b m e tt τ : Nat) (sc lc mc tm life tries x : Int32) (stations links messages copies : Nat → Int32) (first size : Int32) (events st : Nat → Int32) : Prop :=
  gd t a b m e tt τ st ∧ ev_n sc lc mc tm life tries x size st ∧ ev_S stations st ∧ ev_L links st ∧ ev_M messages st ∧ ev_C copies st ∧ ev_P copies st ∧ ev_D m messages st ∧ ev_E e first events st
def rl_net (t : Nat) (sc lc mc tm life tries x : Int32) (stations links messages copies : Nat → Int32) (first size : Int32) (events : Nat → Int32) (heard : Nat → Int64) (st : Nat → Int32) : Prop :=
  ∃ a b m e tt, rl0 t a b m e tt (tt + 1) sc lc mc tm life tries x stations links messages copies first size events st ∧ ev_H b heard st
def rl_text (len : Int32) (text : Nat → Int32) (tl : Int32) (mt : Nat → Int32) : Prop := ∃ n, n ≤ 700 ∧ len = nI n ∧ tl = nI n ∧ ∀ i, i < n → ∃ v, v < 256 ∧ mt i = nI v ∧ text i = (nI v).toInt8.toInt32
def rl_out (len : Int32) (bytes : Nat → Int32) (ol : Int32) (out : Nat → Int32) : Prop := ∃ n, n ≤ 60 ∧ len = nI n ∧ ol = nI n ∧ ∀ i, i < n → ∃ v, v < 128 ∧ out i = nI v ∧ bytes i = nI v
/-- the whole: the class beside the model; the saved nets apart -/
def qInv (t : Nat) (err errp len : Int32) (text : Nat → Int32) (sc lc mc tm life tries x : Int32) (stations links messages copies : Nat → Int32) (first size : Int32) (events : Nat → Int32) (heard : Nat → Int64) (llen : Int32) (bytes : Nat → Int32) (merr merrp tl : Int32) (mt : Nat → Int32) (ol : Int32) (out st : Nat → Int32) : Prop :=
  t ≤ 100000 ∧ err = merr ∧ errp = merrp ∧ rl_text len text tl mt ∧ rl_out llen bytes ol out ∧ rl_net t sc lc mc tm life tries x stations links messages copies first size events heard st
