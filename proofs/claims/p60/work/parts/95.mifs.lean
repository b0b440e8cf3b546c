/-! IFDROPPED, IFTOLD, IFTURNED, IFPINNED: the reference -/
theorem z_nowb.fr {w w' : z_Mm} {n : Int} {d : Int → Int → Int} (h : z_nowb w n d) (e : w' 175 = w 175) : z_nowb w' n d := fun a b ha hb => by rw [e]; exact h a b ha hb
