section ZInv
def tz (f : Nat → Int32) (L : Nat) : Prop := ∀ j, L ≤ j → f j = 0
def sIn (lo hi x : Int32) : Prop := ¬ x < lo ∧ ¬ hi < x
/-- what holds of every town, whole -/
def wF (n m k : Nat) (law : Int32) (A : zM) : Prop := (sWF n m A) ∧ (k ≤ 30) ∧ (law = 0 ∨ law = 1) ∧ (∀ t i, t < n → i < sK A t → sIn 0 99 (A 1 (3 * t + i))) ∧ (∀ t i, t < n → i + 1 < sK A t → A 1 (3 * t + i) < A 1 (3 * t + (i + 1))) ∧ (∀ j, sIn 0 99 (A 2 j)) ∧ (∀ j, sIn 0 3 (A 3 j)) ∧ (∀ j, sIn 0 15 (A 5 j)) ∧ (∀ j, sIn 0 99 (A 6 j)) ∧ (∀ j, sIn 0 99 (A 7 j)) ∧ (∀ j, sIn 0 2 (A 8 j)) ∧ (∀ j, sIn 0 6 (A 9 j)) ∧ (∀ j, sIn 0 3 (A 10 j)) ∧ (∀ j, A 10 j ≠ 0 → sIn 0 99 (A 11 j)) ∧ (∀ j, A 10 j ≠ 0 → A 12 j = -6 ∨ sIn 0 99 (A 12 j)) ∧ (∀ j, sIn 0 15 (A 13 j))
theorem wF.wf {n m k : Nat} {law : Int32} {A : zM} (h : wF n m k law A) : sWF n m A := h.1
theorem wF.k30 {n m k : Nat} {law : Int32} {A : zM} (h : wF n m k law A) : k ≤ 30 := h.2.1
theorem wF.law01 {n m k : Nat} {law : Int32} {A : zM} (h : wF n m k law A) : law = 0 ∨ law = 1 := h.2.2.1
theorem wF.pr {n m k : Nat} {law : Int32} {A : zM} (h : wF n m k law A) : ∀ t i, t < n → i < sK A t → sIn 0 99 (A 1 (3 * t + i)) := h.2.2.2.1
theorem wF.up {n m k : Nat} {law : Int32} {A : zM} (h : wF n m k law A) : ∀ t i, t < n → i + 1 < sK A t → A 1 (3 * t + i) < A 1 (3 * t + (i + 1)) := h.2.2.2.2.1
theorem wF.co {n m k : Nat} {law : Int32} {A : zM} (h : wF n m k law A) : ∀ j, sIn 0 99 (A 2 j) := h.2.2.2.2.2.1
theorem wF.he {n m k : Nat} {law : Int32} {A : zM} (h : wF n m k law A) : ∀ j, sIn 0 3 (A 3 j) := h.2.2.2.2.2.2.1
theorem wF.wi {n m k : Nat} {law : Int32} {A : zM} (h : wF n m k law A) : ∀ j, sIn 0 15 (A 5 j) := h.2.2.2.2.2.2.2.1
theorem wF.ma {n m k : Nat} {law : Int32} {A : zM} (h : wF n m k law A) : ∀ j, sIn 0 99 (A 6 j) := h.2.2.2.2.2.2.2.2.1
theorem wF.fa {n m k : Nat} {law : Int32} {A : zM} (h : wF n m k law A) : ∀ j, sIn 0 99 (A 7 j) := h.2.2.2.2.2.2.2.2.2.1
theorem wF.wa {n m k : Nat} {law : Int32} {A : zM} (h : wF n m k law A) : ∀ j, sIn 0 2 (A 8 j) := h.2.2.2.2.2.2.2.2.2.2.1
theorem wF.sh {n m k : Nat} {law : Int32} {A : zM} (h : wF n m k law A) : ∀ j, sIn 0 6 (A 9 j) := h.2.2.2.2.2.2.2.2.2.2.2.1
theorem wF.wn {n m k : Nat} {law : Int32} {A : zM} (h : wF n m k law A) : ∀ j, sIn 0 3 (A 10 j) := h.2.2.2.2.2.2.2.2.2.2.2.2.1
theorem wF.wo {n m k : Nat} {law : Int32} {A : zM} (h : wF n m k law A) : ∀ j, A 10 j ≠ 0 → sIn 0 99 (A 11 j) := h.2.2.2.2.2.2.2.2.2.2.2.2.2.1
theorem wF.gu {n m k : Nat} {law : Int32} {A : zM} (h : wF n m k law A) : ∀ j, A 10 j ≠ 0 → A 12 j = -6 ∨ sIn 0 99 (A 12 j) := h.2.2.2.2.2.2.2.2.2.2.2.2.2.2.1
theorem wF.sl {n m k : Nat} {law : Int32} {A : zM} (h : wF n m k law A) : ∀ j, sIn 0 15 (A 13 j) := h.2.2.2.2.2.2.2.2.2.2.2.2.2.2.2
/-- the class's town at cell o -/
def tO (M : zM) (o n m k : Nat) (law : Int32) (A : zM) : Prop := (M o 3 = law) ∧ (M (o + 1) 0 = nI n) ∧ (M (o + 2) = A 0) ∧ (M (o + 3) = A 1) ∧ (M (o + 4) = A 2) ∧ (M (o + 5) = A 3) ∧ (M (o + 6) = A 4) ∧ (M (o + 7) = A 5) ∧ (M (o + 8) 0 = nI m) ∧ (M (o + 9) = A 6) ∧ (M (o + 10) = A 7) ∧ (M (o + 11) = A 8) ∧ (M (o + 12) = A 9) ∧ (M (o + 13) = A 10) ∧ (M (o + 14) = A 11) ∧ (M (o + 15) = A 12) ∧ (M (o + 16) 0 = nI k) ∧ (M (o + 17) = A 13)
theorem tO.l {M : zM} {o n m k : Nat} {law : Int32} {A : zM} (h : tO M o n m k law A) : M o 3 = law := h.1
theorem tO.n {M : zM} {o n m k : Nat} {law : Int32} {A : zM} (h : tO M o n m k law A) : M (o + 1) 0 = nI n := h.2.1
theorem tO.c0 {M : zM} {o n m k : Nat} {law : Int32} {A : zM} (h : tO M o n m k law A) : M (o + 2) = A 0 := h.2.2.1
theorem tO.c1 {M : zM} {o n m k : Nat} {law : Int32} {A : zM} (h : tO M o n m k law A) : M (o + 3) = A 1 := h.2.2.2.1
theorem tO.c2 {M : zM} {o n m k : Nat} {law : Int32} {A : zM} (h : tO M o n m k law A) : M (o + 4) = A 2 := h.2.2.2.2.1
theorem tO.c3 {M : zM} {o n m k : Nat} {law : Int32} {A : zM} (h : tO M o n m k law A) : M (o + 5) = A 3 := h.2.2.2.2.2.1
theorem tO.c4 {M : zM} {o n m k : Nat} {law : Int32} {A : zM} (h : tO M o n m k law A) : M (o + 6) = A 4 := h.2.2.2.2.2.2.1
theorem tO.c5 {M : zM} {o n m k : Nat} {law : Int32} {A : zM} (h : tO M o n m k law A) : M (o + 7) = A 5 := h.2.2.2.2.2.2.2.1
theorem tO.m {M : zM} {o n m k : Nat} {law : Int32} {A : zM} (h : tO M o n m k law A) : M (o + 8) 0 = nI m := h.2.2.2.2.2.2.2.2.1
theorem tO.c6 {M : zM} {o n m k : Nat} {law : Int32} {A : zM} (h : tO M o n m k law A) : M (o + 9) = A 6 := h.2.2.2.2.2.2.2.2.2.1
theorem tO.c7 {M : zM} {o n m k : Nat} {law : Int32} {A : zM} (h : tO M o n m k law A) : M (o + 10) = A 7 := h.2.2.2.2.2.2.2.2.2.2.1
theorem tO.c8 {M : zM} {o n m k : Nat} {law : Int32} {A : zM} (h : tO M o n m k law A) : M (o + 11) = A 8 := h.2.2.2.2.2.2.2.2.2.2.2.1
theorem tO.c9 {M : zM} {o n m k : Nat} {law : Int32} {A : zM} (h : tO M o n m k law A) : M (o + 12) = A 9 := h.2.2.2.2.2.2.2.2.2.2.2.2.1
theorem tO.c10 {M : zM} {o n m k : Nat} {law : Int32} {A : zM} (h : tO M o n m k law A) : M (o + 13) = A 10 := h.2.2.2.2.2.2.2.2.2.2.2.2.2.1
theorem tO.c11 {M : zM} {o n m k : Nat} {law : Int32} {A : zM} (h : tO M o n m k law A) : M (o + 14) = A 11 := h.2.2.2.2.2.2.2.2.2.2.2.2.2.2.1
theorem tO.c12 {M : zM} {o n m k : Nat} {law : Int32} {A : zM} (h : tO M o n m k law A) : M (o + 15) = A 12 := h.2.2.2.2.2.2.2.2.2.2.2.2.2.2.2.1
theorem tO.k {M : zM} {o n m k : Nat} {law : Int32} {A : zM} (h : tO M o n m k law A) : M (o + 16) 0 = nI k := h.2.2.2.2.2.2.2.2.2.2.2.2.2.2.2.2.1
theorem tO.c13 {M : zM} {o n m k : Nat} {law : Int32} {A : zM} (h : tO M o n m k law A) : M (o + 17) = A 13 := h.2.2.2.2.2.2.2.2.2.2.2.2.2.2.2.2.2
/-- the model's town -/
def mO (M : zM) (n m k : Nat) (law : Int32) (A : zM) : Prop := (mT M n m A) ∧ (M 86 18 = law) ∧ (M 86 29 = nI k) ∧ (M 105 = A 13)
theorem mO.t {M : zM} {n m k : Nat} {law : Int32} {A : zM} (h : mO M n m k law A) : mT M n m A := h.1
theorem mO.l {M : zM} {n m k : Nat} {law : Int32} {A : zM} (h : mO M n m k law A) : M 86 18 = law := h.2.1
theorem mO.k {M : zM} {n m k : Nat} {law : Int32} {A : zM} (h : mO M n m k law A) : M 86 29 = nI k := h.2.2.1
theorem mO.c13 {M : zM} {n m k : Nat} {law : Int32} {A : zM} (h : mO M n m k law A) : M 105 = A 13 := h.2.2.2
/-- the cells whose ends are 0 -/
def zTc : List (Nat × Nat) := [(4, 4), (5, 12), (6, 8), (7, 8), (8, 8), (9, 2), (11, 5), (12, 10), (13, 5), (14, 5), (15, 20), (16, 20), (17, 20), (19, 30), (23, 4), (24, 12), (25, 8), (26, 8), (27, 8), (28, 2), (30, 5), (31, 10), (32, 5), (33, 5), (34, 20), (35, 20), (36, 20), (38, 30), (41, 4), (42, 12), (43, 8), (44, 8), (45, 8), (46, 2), (48, 5), (49, 10), (50, 5), (51, 5), (52, 20), (53, 20), (54, 20), (56, 30), (64, 4), (65, 12), (66, 8), (67, 8), (68, 8), (69, 2)]
def tT (M : zM) : Prop := ∀ p, p ∈ zTc → tz (M p.1) p.2
/-- the pad -/
def pD (M : zM) : Prop := (∃ w, w ≤ 40 ∧ M 58 0 = nI w ∧ M 86 16 = nI w ∧ ∀ j, j < w → sIn 33 126 (M 59 j)) ∧ (M 100 = M 59)
theorem pD.c {M : zM} (h : pD M) : ∃ w, w ≤ 40 ∧ M 58 0 = nI w ∧ M 86 16 = nI w ∧ ∀ j, j < w → sIn 33 126 (M 59 j) := h.1
theorem pD.s {M : zM} (h : pD M) : M 100 = M 59 := h.2
/-- an image of the model: from b on -/
def kO (M : zM) (b n m k : Nat) (law : Int32) (A : zM) : Prop := (M 106 b = nI n) ∧ (M 106 (b + 1) = nI m) ∧ (M 106 (b + 2) = nI k) ∧ (M 106 (b + 3) = law) ∧ (∀ j, j < 8 → M 106 (b + 4 + 3 * j) = A 2 j ∧ M 106 (b + 4 + 3 * j + 1) = A 3 j ∧ M 106 (b + 4 + 3 * j + 2) = A 4 j) ∧ (∀ j, j < 2 → M 106 (b + 28 + j) = A 5 j) ∧ (∀ j, j < 12 → M 106 (b + 30 + j) = A 1 j) ∧ (∀ j, j < 4 → M 106 (b + 42 + j) = A 0 j) ∧ (∀ j, j < 5 → M 106 (b + 46 + 5 * j) = A 6 j ∧ M 106 (b + 46 + 5 * j + 1) = A 7 (2 * j) ∧ M 106 (b + 46 + 5 * j + 2) = A 7 (2 * j + 1) ∧ M 106 (b + 46 + 5 * j + 3) = A 8 j ∧ M 106 (b + 46 + 5 * j + 4) = A 9 j) ∧ (∀ j, j < 20 → M 106 (b + 71 + 3 * j) = A 10 j ∧ (A 10 j ≠ 0 → M 106 (b + 71 + 3 * j + 1) = A 11 j) ∧ (A 10 j ≠ 0 → M 106 (b + 71 + 3 * j + 2) = A 12 j)) ∧ (∀ j, j < 30 → M 106 (b + 131 + j) = A 13 j)
theorem kO.n {M : zM} {b n m k : Nat} {law : Int32} {A : zM} (h : kO M b n m k law A) : M 106 b = nI n := h.1
theorem kO.m {M : zM} {b n m k : Nat} {law : Int32} {A : zM} (h : kO M b n m k law A) : M 106 (b + 1) = nI m := h.2.1
theorem kO.k {M : zM} {b n m k : Nat} {law : Int32} {A : zM} (h : kO M b n m k law A) : M 106 (b + 2) = nI k := h.2.2.1
theorem kO.l {M : zM} {b n m k : Nat} {law : Int32} {A : zM} (h : kO M b n m k law A) : M 106 (b + 3) = law := h.2.2.2.1
theorem kO.g {M : zM} {b n m k : Nat} {law : Int32} {A : zM} (h : kO M b n m k law A) : ∀ j, j < 8 → M 106 (b + 4 + 3 * j) = A 2 j ∧ M 106 (b + 4 + 3 * j + 1) = A 3 j ∧ M 106 (b + 4 + 3 * j + 2) = A 4 j := h.2.2.2.2.1
theorem kO.w {M : zM} {b n m k : Nat} {law : Int32} {A : zM} (h : kO M b n m k law A) : ∀ j, j < 2 → M 106 (b + 28 + j) = A 5 j := h.2.2.2.2.2.1
theorem kO.p {M : zM} {b n m k : Nat} {law : Int32} {A : zM} (h : kO M b n m k law A) : ∀ j, j < 12 → M 106 (b + 30 + j) = A 1 j := h.2.2.2.2.2.2.1
theorem kO.s {M : zM} {b n m k : Nat} {law : Int32} {A : zM} (h : kO M b n m k law A) : ∀ j, j < 4 → M 106 (b + 42 + j) = A 0 j := h.2.2.2.2.2.2.2.1
theorem kO.q {M : zM} {b n m k : Nat} {law : Int32} {A : zM} (h : kO M b n m k law A) : ∀ j, j < 5 → M 106 (b + 46 + 5 * j) = A 6 j ∧ M 106 (b + 46 + 5 * j + 1) = A 7 (2 * j) ∧ M 106 (b + 46 + 5 * j + 2) = A 7 (2 * j + 1) ∧ M 106 (b + 46 + 5 * j + 3) = A 8 j ∧ M 106 (b + 46 + 5 * j + 4) = A 9 j := h.2.2.2.2.2.2.2.2.1
theorem kO.i {M : zM} {b n m k : Nat} {law : Int32} {A : zM} (h : kO M b n m k law A) : ∀ j, j < 20 → M 106 (b + 71 + 3 * j) = A 10 j ∧ (A 10 j ≠ 0 → M 106 (b + 71 + 3 * j + 1) = A 11 j) ∧ (A 10 j ≠ 0 → M 106 (b + 71 + 3 * j + 2) = A 12 j) := h.2.2.2.2.2.2.2.2.2.1
theorem kO.t {M : zM} {b n m k : Nat} {law : Int32} {A : zM} (h : kO M b n m k law A) : ∀ j, j < 30 → M 106 (b + 131 + j) = A 13 j := h.2.2.2.2.2.2.2.2.2.2
/-- image i of both -/
def iM (M : zM) (i o : Nat) : Prop := (M 57 i = 0 ∧ M 107 i = 0) ∨ (M 57 i = 1 ∧ M 107 i = 1 ∧ ∃ n m k law A, wF n m k law A ∧ tO M o n m k law A ∧ kO M (200 * i) n m k law A)
/-- both rows laid -/
def sTwo (A : zM) (n a b : Nat) : zM := zA (zA A 4 (sLay A n 0 a)) 4 (sLay (zA A 4 (sLay A n 0 a)) n 1 b)
/-- the duel's tables -/
def dT (M : zM) (n m : Nat) (A : zM) : Prop := ∀ a b, a < sRc (sK A) n → b < sRc (sK A) n → M 80 (81 * a + b) = sLf (sTwo A n a b) n m 0 ∧ M 81 (81 * a + b) = sLf (sTwo A n a b) n m 1
def zIn (M : zM) (n m k : Nat) (law : Int32) (A : zM) : Prop := (wF n m k law A) ∧ (tO M 2 n m k law A) ∧ (mO M n m k law A) ∧ (tT M) ∧ (pD M) ∧ (iM M 0 21) ∧ (iM M 1 39) ∧ (M 78 6 = 0 ∨ (M 78 6 = 1 ∧ dT M n m A))
theorem zIn.w {M : zM} {n m k : Nat} {law : Int32} {A : zM} (h : zIn M n m k law A) : wF n m k law A := h.1
theorem zIn.c {M : zM} {n m k : Nat} {law : Int32} {A : zM} (h : zIn M n m k law A) : tO M 2 n m k law A := h.2.1
theorem zIn.m {M : zM} {n m k : Nat} {law : Int32} {A : zM} (h : zIn M n m k law A) : mO M n m k law A := h.2.2.1
theorem zIn.t {M : zM} {n m k : Nat} {law : Int32} {A : zM} (h : zIn M n m k law A) : tT M := h.2.2.2.1
theorem zIn.p {M : zM} {n m k : Nat} {law : Int32} {A : zM} (h : zIn M n m k law A) : pD M := h.2.2.2.2.1
theorem zIn.i0 {M : zM} {n m k : Nat} {law : Int32} {A : zM} (h : zIn M n m k law A) : iM M 0 21 := h.2.2.2.2.2.1
theorem zIn.i1 {M : zM} {n m k : Nat} {law : Int32} {A : zM} (h : zIn M n m k law A) : iM M 1 39 := h.2.2.2.2.2.2.1
theorem zIn.d {M : zM} {n m k : Nat} {law : Int32} {A : zM} (h : zIn M n m k law A) : M 78 6 = 0 ∨ (M 78 6 = 1 ∧ dT M n m A) := h.2.2.2.2.2.2.2
def zI (M : zM) : Prop := ∃ n m k law A, zIn M n m k law A
/-- what computing keeps -/
def kc (c : Nat) : Prop := c ≤ 57 ∨ c = 59 ∨ (87 ≤ c ∧ c ≤ 100) ∨ (105 ≤ c ∧ c ≤ 107)
def kp (M M' : zM) : Prop := (∀ c, kc c → M' c = M c) ∧ (M' 58 0 = M 58 0) ∧ (∀ j, j = 6 ∨ j = 14 ∨ j = 16 ∨ j = 18 ∨ j = 29 → M' 86 j = M 86 j) ∧ (∀ c L, (c, L) ∈ zTc → tz (M c) L → tz (M' c) L)
theorem kp.c {M M' : zM} (h : kp M M') : ∀ c, kc c → M' c = M c := h.1
theorem kp.p {M M' : zM} (h : kp M M') : M' 58 0 = M 58 0 := h.2.1
theorem kp.m {M M' : zM} (h : kp M M') : ∀ j, j = 6 ∨ j = 14 ∨ j = 16 ∨ j = 18 ∨ j = 29 → M' 86 j = M 86 j := h.2.2.1
theorem kp.t {M M' : zM} (h : kp M M') : ∀ c L, (c, L) ∈ zTc → tz (M c) L → tz (M' c) L := h.2.2.2
theorem kp.rf (M : zM) : kp M M := ⟨fun _ _ => rfl, rfl, fun _ _ => rfl, fun _ _ _ h => h⟩
theorem kp.tr {M1 M2 M3 : zM} (h1 : kp M1 M2) (h2 : kp M2 M3) : kp M1 M3 := ⟨fun c h => (h2.c c h).trans (h1.c c h), h2.p.trans h1.p, fun j h => (h2.m j h).trans (h1.m j h), fun c L h g => h2.t c L h (h1.t c L h g)⟩
theorem tO_eq {M M' : zM} {o n m k : Nat} {law : Int32} {A : zM} (h : ∀ c, o ≤ c → c ≤ o + 17 → M' c = M c) (hT : tO M o n m k law A) : tO M' o n m k law A := by
  obtain ⟨a1, a2, a3, a4, a5, a6, a7, a8, a9, b1, b2, b3, b4, b5, b6, b7, b8, b9⟩ := hT
  refine ⟨?_, ?_, ?_, ?_, ?_, ?_, ?_, ?_, ?_, ?_, ?_, ?_, ?_, ?_, ?_, ?_, ?_, ?_⟩
  all_goals rw [h _ (by omega) (by omega)]; assumption
theorem kO_eq {M M' : zM} {b n m k : Nat} {law : Int32} {A : zM} (h : M' 106 = M 106) (hT : kO M b n m k law A) : kO M' b n m k law A := by
  obtain ⟨a1, a2, a3, a4, a5, a6, a7, a8, a9, b1, b2⟩ := hT
  refine ⟨?_, ?_, ?_, ?_, ?_, ?_, ?_, ?_, ?_, ?_, ?_⟩
  all_goals rw [h]; assumption
theorem iM_eq {M M' : zM} {i o : Nat} (h57 : M' 57 i = M 57 i) (h107 : M' 107 i = M 107 i) (h106 : M' 106 = M 106) (h : ∀ c, o ≤ c → c ≤ o + 17 → M' c = M c) (hI : iM M i o) : iM M' i o := by
  rcases hI with ⟨h1, h2⟩ | ⟨h1, h2, n, m, k, law, A, h3, h4, h5⟩
  · exact Or.inl ⟨h57.trans h1, h107.trans h2⟩
  · exact Or.inr ⟨h57.trans h1, h107.trans h2, n, m, k, law, A, h3, tO_eq h h4, kO_eq h106 h5⟩
theorem mT_eq {M M' : zM} {n m : Nat} {A : zM} (h6 : M' 86 6 = M 86 6) (h14 : M' 86 14 = M 86 14) (h : ∀ c, 87 ≤ c → c ≤ 99 → M' c = M c) (hM : mT M n m A) : mT M' n m A := by
  unfold mT at *
  rw [h6, h14, h 92 (by omega) (by omega), h 91 (by omega) (by omega), h 87 (by omega) (by omega), h 88 (by omega) (by omega), h 89 (by omega) (by omega), h 90 (by omega) (by omega), h 93 (by omega) (by omega), h 94 (by omega) (by omega), h 95 (by omega) (by omega), h 96 (by omega) (by omega), h 97 (by omega) (by omega), h 98 (by omega) (by omega), h 99 (by omega) (by omega)]
  exact hM
/-- the invariant outlives computing -/
theorem zIn_kp {M M' : zM} {n m k : Nat} {law : Int32} {A : zM} (h : kp M M') (hd : M' 78 6 = 0 ∨ (M' 78 6 = 1 ∧ dT M' n m A)) (hI : zIn M n m k law A) : zIn M' n m k law A := by
  obtain ⟨w, c, mm, t, p, i0, i1, d⟩ := hI
  refine ⟨w, tO_eq (fun c a b => h.c c (by unfold kc; omega)) c, ⟨mT_eq (h.m 6 (by omega)) (h.m 14 (by omega)) (fun c a b => h.c c (by unfold kc; omega)) mm.t, (h.m 18 (by omega)).trans mm.l, (h.m 29 (by omega)).trans mm.k, (h.c 105 (by unfold kc; omega)).trans mm.c13⟩, fun p hp => h.t p.1 p.2 hp (t p hp), ?_, ?_, ?_, hd⟩
  · obtain ⟨⟨x, y1, y2, y3, y4⟩, y5⟩ := p
    refine ⟨⟨x, y1, h.p.trans y2, (h.m 16 (by omega)).trans y3, ?_⟩, ?_⟩
    · rw [h.c 59 (by unfold kc; omega)]; exact y4
    · rw [h.c 59 (by unfold kc; omega), h.c 100 (by unfold kc; omega)]; exact y5
  · exact iM_eq (by rw [h.c 57 (by unfold kc; omega)]) (by rw [h.c 107 (by unfold kc; omega)]) (h.c 106 (by unfold kc; omega)) (fun c a b => h.c c (by unfold kc; omega)) i0
  · exact iM_eq (by rw [h.c 57 (by unfold kc; omega)]) (by rw [h.c 107 (by unfold kc; omega)]) (h.c 106 (by unfold kc; omega)) (fun c a b => h.c c (by unfold kc; omega)) i1
/-- what is within -/
theorem c_out {v lo hi : Int32} : qS_isOut v lo hi = some (@ite _ (sIn lo hi v) (Classical.propDecidable _) 0 1) := by
  unfold qS_isOut
  by_cases h1 : v < lo
  · rw [if_pos h1, if_neg (fun h => h.1 h1)]
  · rw [if_neg h1]
    by_cases h2 : hi < v
    · rw [if_pos h2, if_neg (fun h => h.2 h2)]
    · rw [if_neg h2, if_pos ⟨h1, h2⟩]
theorem l_lt (a b : Int32) : (a.toInt64 < b.toInt64) ↔ a < b := by
  rw [Int64.lt_iff_toInt_lt, Int32.lt_iff_toInt_lt, Int32.toInt_toInt64, Int32.toInt_toInt64]
theorem m_in {v lo hi : Int32} {L H : Int64} (hL : lo.toInt64 = L) (hH : hi.toInt64 = H) : qM_in v.toInt64 L H = some (@ite _ (sIn lo hi v) (Classical.propDecidable _) 1 0) := by
  subst hL hH
  unfold qM_in
  simp only [lg_cmp_lt, lg_cmp_gt, l_lt]
  by_cases h1 : v < lo
  · rw [if_pos h1, if_neg (fun h => h.1 h1)]
  · rw [if_neg h1]
    by_cases h2 : hi < v
    · rw [if_pos h2, if_neg (fun h => h.2 h2)]
    · rw [if_neg h2, if_pos ⟨h1, h2⟩]
end ZInv
