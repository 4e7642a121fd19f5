/-! THE RELATION of the two states -/
def inN (x : Int32) (a b : Nat) : Prop := ∃ k : Nat, x = nI k ∧ a ≤ k ∧ k ≤ b
def nmv (ls : List Nat) : Nat := ls.foldl (fun a d => 32 * a + d) 0
def nameOk (x : Int64) : Prop := ∃ ls : List Nat, ls ≠ [] ∧ ls.length ≤ 7 ∧ (∀ d ∈ ls, 1 ≤ d ∧ d ≤ 26) ∧ x = lN (nmv ls)
def PRel (v : HallV) (w : Nat → Int32) (nm : Nat → Int64) (o no p : Nat) : Prop :=
  v.2.1 0 (p * 7 + 0) = nm (no + p) ∧ nameOk (nm (no + p)) ∧
  (v.2.1 0 (p * 7 + 1) = (w (o + 1 + p)).toInt64 ∧ inN (w (o + 1 + p)) 1 5) ∧
  (v.2.1 0 (p * 7 + 2) = (w (o + 13 + p)).toInt64 ∧ inN (w (o + 13 + p)) 0 5) ∧
  (v.2.1 0 (p * 7 + 3) = (w (o + 25 + p)).toInt64 ∧ inN (w (o + 25 + p)) 0 5) ∧
  (v.2.1 0 (p * 7 + 4) = (w (o + 37 + p)).toInt64 ∧ inN (w (o + 37 + p)) 0 20) ∧
  (v.2.1 0 (p * 7 + 5) = (w (o + 49 + p)).toInt64 ∧ inN (w (o + 49 + p)) 1 9) ∧
  (v.2.1 0 (p * 7 + 6) = (w (o + 61 + p)).toInt64 ∧ inN (w (o + 61 + p)) 0 999 ∧ w (o + 61 + p) ≤ w (o + 115))
def TRel (v : HallV) (w : Nat → Int32) (o t : Nat) : Prop :=
  (v.2.1 1 (t * 3 + 0) = (w (o + 74 + t)).toInt64 ∧ inN (w (o + 74 + t)) 0 5) ∧ (v.2.1 1 (t * 3 + 1) = (w (o + 79 + t)).toInt64 ∧ inN (w (o + 79 + t)) 1 20) ∧ (v.2.1 1 (t * 3 + 2) = (w (o + 84 + t)).toInt64 ∧ inN (w (o + 84 + t)) 1 20)
def QRel (v : HallV) (w : Nat → Int32) (o q : Nat) : Prop :=
  (v.2.1 2 (q * 2 + 0) = (w (o + 90 + q)).toInt64 ∧ inN (w (o + 90 + q)) 0 4) ∧ (v.2.1 2 (q * 2 + 1) = (w (o + 96 + q)).toInt64 ∧ inN (w (o + 96 + q)) 0 9)
def sLo (c : Nat) : Nat := if c = 1 then 1 else 0
def sHi (c : Nat) : Nat := if c = 0 then 5 else if c = 1 then 99 else if c = 2 then 60 else 20
def kLo (c : Nat) : Nat := if c = 1 ∨ c = 2 then 1 else 0
def kHi (c : Nat) : Nat := if c = 0 then 25 else if c = 1 then 7 else 5
def HRel (v : HallV) (w : Nat → Int32) (nm : Nat → Int64) (o no : Nat) : Prop :=
  ∃ M T K : Nat, (M ≤ 12 ∧ T ≤ 5 ∧ K ≤ 6) ∧ (v.1 0 = nI M ∧ w o = nI M) ∧ (v.1 1 = nI T ∧ w (o + 73) = nI T) ∧ (v.1 2 = nI K ∧ w (o + 89) = nI K) ∧ (v.1 3 = 1 ∧ v.1 4 = 1) ∧
  (∀ p, p < M → PRel v w nm o no p) ∧ (∀ t, t < T → TRel v w o t) ∧ (∀ q, q < K → QRel v w o q) ∧
  (∀ c, c < 8 → v.2.1 3 c = (w (o + 102 + c)).toInt64 ∧ inN (w (o + 102 + c)) (sLo c) (sHi c)) ∧
  (∀ c, c < 5 → v.2.1 4 c = (w (o + 110 + c)).toInt64 ∧ (w (o + 110 + c) = -1 ∨ inN (w (o + 110 + c)) (kLo c) (kHi c))) ∧
  v.2.2 = w (o + 115) ∧ inN (w (o + 115)) 0 999
def allL : List Nat := [0, 1, 2, 3, 4, 5, 12, 13, 14, 15, 21, 23, 24, 25, 31, 32, 34, 35, 41, 42, 43, 45, 51, 52, 53, 54, 123, 124, 125, 132, 134, 135, 142, 143, 145, 152, 153, 154, 213, 214, 215, 231, 234, 235, 241, 243, 245, 251, 253, 254, 312, 314, 315, 321, 324, 325, 341, 342, 345, 351, 352, 354, 412, 413, 415, 421, 423, 425, 431, 432, 435, 451, 452, 453, 512, 513, 514, 521, 523, 524, 531, 532, 534, 541, 542, 543, 1234, 1235, 1243, 1245, 1253, 1254, 1324, 1325, 1342, 1345, 1352, 1354, 1423, 1425, 1432, 1435, 1452, 1453, 1523, 1524, 1532, 1534, 1542, 1543, 2134, 2135, 2143, 2145, 2153, 2154, 2314, 2315, 2341, 2345, 2351, 2354, 2413, 2415, 2431, 2435, 2451, 2453, 2513, 2514, 2531, 2534, 2541, 2543, 3124, 3125, 3142, 3145, 3152, 3154, 3214, 3215, 3241, 3245, 3251, 3254, 3412, 3415, 3421, 3425, 3451, 3452, 3512, 3514, 3521, 3524, 3541, 3542, 4123, 4125, 4132, 4135, 4152, 4153, 4213, 4215, 4231, 4235, 4251, 4253, 4312, 4315, 4321, 4325, 4351, 4352, 4512, 4513, 4521, 4523, 4531, 4532, 5123, 5124, 5132, 5134, 5142, 5143, 5213, 5214, 5231, 5234, 5241, 5243, 5312, 5314, 5321, 5324, 5341, 5342, 5412, 5413, 5421, 5423, 5431, 5432, 12345, 12354, 12435, 12453, 12534, 12543, 13245, 13254, 13425, 13452, 13524, 13542, 14235, 14253, 14325, 14352, 14523, 14532, 15234, 15243, 15324, 15342, 15423, 15432, 21345, 21354, 21435, 21453, 21534, 21543, 23145, 23154, 23415, 23451, 23514, 23541, 24135, 24153, 24315, 24351, 24513, 24531, 25134, 25143, 25314, 25341, 25413, 25431, 31245, 31254, 31425, 31452, 31524, 31542, 32145, 32154, 32415, 32451, 32514, 32541, 34125, 34152, 34215, 34251, 34512, 34521, 35124, 35142, 35214, 35241, 35412, 35421, 41235, 41253, 41325, 41352, 41523, 41532, 42135, 42153, 42315, 42351, 42513, 42531, 43125, 43152, 43215, 43251, 43512, 43521, 45123, 45132, 45213, 45231, 45312, 45321, 51234, 51243, 51324, 51342, 51423, 51432, 52134, 52143, 52314, 52341, 52413, 52431, 53124, 53142, 53214, 53241, 53412, 53421, 54123, 54132, 54213, 54231, 54312, 54321]
def RPast (bl kp : Int32) (ring : Nat → HallV) (mw : Nat → Int32) (mnames : Nat → Int64) (mundo : Int32) : Prop :=
  ∃ B K : Nat, B < 4 ∧ K ≤ 4 ∧ bl = nI B ∧ kp = nI K ∧ mundo = nI K ∧ ∀ j, j < K → HRel (ring ((B + 4 - K + j) % 4)) mw mnames (480 + 120 * j) (48 + 12 * j)
def RImg (keptImages : Int32) (imgs : Nat → HallV) (mw : Nat → Int32) (mnames : Nat → Int64) (mkept : Nat → Int32) : Prop :=
  ∃ b : Nat → Bool, keptImages = nI ((if b 0 then 1 else 0) + (if b 1 then 2 else 0)) ∧ ∀ i, i < 2 → mkept i = (if b i then 1 else 0) ∧ (b i = true → HRel (imgs i) mw mnames (120 * (1 + i)) (12 * (1 + i)))
def RText (tlen : Int32) (tby : Nat → Int32) (mtext : Nat → Int32) (mtexted : Int32) : Prop :=
  ∃ n : Nat, n ≤ 300 ∧ tlen = nI n ∧ mtexted = nI n ∧ ∀ j, j < n → tby j &&& 255 = mtext j ∧ inN (mtext j) 0 255
def Rel (now : HallV) (bl kp : Int32) (ring imgs : Nat → HallV) (tlen : Int32) (tby : Nat → Int32) (draft : HallV) (rall nmost : Nat → Int32) (keptImages : Int32) (fab fbe : Int64) (bads noes fulls : Int32) (mw : Nat → Int32) (mnames : Nat → Int64) (mkept mtext : Nat → Int32) (mtexted mundo : Int32) (mabove mbelow : Int64) (mrefused : Nat → Int32) : Prop :=
  HRel now mw mnames 0 0 ∧ RPast bl kp ring mw mnames mundo ∧ RImg keptImages imgs mw mnames mkept ∧ RText tlen tby mtext mtexted ∧ (draft.1 3 = 1 ∧ draft.1 4 = 1) ∧ (∀ j, j < 326 → rall j = nI (allL.getD j 0)) ∧ (∀ m, m < 100 → nmost (1200 + m) = 0) ∧ (fab = mabove ∧ fbe = mbelow) ∧ (bads = mrefused 0 ∧ noes = mrefused 1 ∧ fulls = mrefused 2)
