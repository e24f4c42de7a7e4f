section LST
theorem ls_t : True := trivial
end LST
