section IMAGES
variable {g : GS}
theorem im_Tell {z : Int32} : (spTell g z).2.images = g.images := by
  unfold spTell
  (repeat' split) <;> rfl
theorem im_Feed {x : Int64} {y : Int} : (spFeed g x y).2.images = g.images := by
  unfold spFeed
  (repeat' split) <;> rfl
theorem im_Count {z : Int} : (spCount g z).2.images = g.images := by
  unfold spCount
  (repeat' split) <;> rfl
theorem im_As {x y : Int} : (spAs g x y).2.images = g.images := by
  unfold spAs
  (repeat' split) <;> rfl
theorem im_Out {x y : Int} : (spOut g x y).2.images = g.images := by
  unfold spOut
  (repeat' split) <;> rfl
theorem im_Way {x y : Int} : (spWay g x y).2.images = g.images := by
  unfold spWay
  (repeat' split) <;> rfl
theorem im_Undo {x : Int} : (spUndo g x).2.images = g.images := by
  unfold spUndo
  (repeat' split) <;> rfl
theorem im_Rest  : (spRest g ).2.images = g.images := by
  unfold spRest
  (repeat' split) <;> rfl
theorem im_Sheet {x y z : Int} : (spSheet g x y z).2.images = g.images := by
  unfold spSheet
  (repeat' split) <;> rfl
theorem im_Put {x y : Int} {v : Int32} : (spPut g x y v).2.images = g.images := by
  unfold spPut
  (repeat' split) <;> rfl
theorem im_Judge {x : Int} : (spJudge g x).2.images = g.images := by
  unfold spJudge
  (repeat' split) <;> rfl
theorem im_Move {x y z t n : Int} : (spMove g x y z t n).2.images = g.images := by
  unfold spMove
  (repeat' split) <;> rfl
theorem im_Law {x : Int} {a b c : Int32} : (spLaw g x a b c).2.images = g.images := by
  unfold spLaw
  (repeat' split) <;> rfl
theorem im_OfSq {x y : Int} : (spOfSq g x y).2.images = g.images := by
  unfold spOfSq
  (repeat' split) <;> rfl
theorem im_Hand {x : Int} : (spHand g x).2.images = g.images := by
  unfold spHand
  (repeat' split) <;> rfl
theorem im_Let {x : Int} : (spLet g x).2.images = g.images := by
  unfold spLet
  (repeat' split) <;> rfl
theorem im_Days {x : Int} : (spDays g x).2.images = g.images := by
  unfold spDays
  (repeat' split) <;> rfl
theorem im_Lets {x : Int} : (spLets g x).2.images = g.images := by
  unfold spLets
  (repeat' split) <;> rfl
theorem im_Text {x : Int} : (spText g x).2.images = g.images := by
  unfold spText
  (repeat' split) <;> rfl
theorem im_Check  : (spCheck g ).2.images = g.images := by
  rfl
theorem im_Round {x : Int} : (spRound g x).2.images = g.images := by
  unfold spRound
  (repeat' split) <;> rfl
theorem im_Long {x : Int} : (spLong g x).2.images = g.images := by
  unfold spLong
  (repeat' split) <;> rfl
theorem im_Back {x : Int} : (spBack g x).2.images = g.images := by
  unfold spBack
  (repeat' split) <;> rfl
theorem im_Had  : (spHad g ).2.images = g.images := by
  unfold spHad
  (repeat' split) <;> rfl
theorem im_Odds {x w z y : Int} : (spOdds g x w z y).2.images = g.images := by
  unfold spOdds
  (repeat' split) <;> rfl
theorem im_Fits {x y : Int} : (spFits g x y).2.images = g.images := by
  unfold spFits
  (repeat' split) <;> rfl
theorem im_Tells {x y z : Int} : (spTells g x y z).2.images = g.images := by
  unfold spTells
  (repeat' split) <;> rfl
theorem im_Throne {x y z : Int} : (spThrone g x y z).2.images = g.images := by
  unfold spThrone
  (repeat' split) <;> rfl
theorem im_Voice {x m : Int} {v : Int32} : (spVoice g x m v).2.images = g.images := by
  unfold spVoice
  (repeat' split) <;> rfl
end IMAGES
