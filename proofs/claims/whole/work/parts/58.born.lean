section
/-! how all is made: the first text -/
def zT0 (i : Nat) : Int := zgt 32 [107, 101, 101, 112, 115, 32, 109, 101, 109, 111, 114, 121, 32, 59, 32, 116, 105, 114, 101, 115, 32, 48, 32, 59, 32, 108, 101, 97, 114, 110, 115, 32, 48, 32, 59] i
theorem zT0_35 : mtext (mkd zT0 35) (mvl zT0 35) = (true, 9, [-2], [0], [0]) := by decide +kernel
theorem zT0_40 : mtext (mkd zT0 40) (mvl zT0 40) = (true, 9, [-2], [0], [0]) := by decide +kernel
end
