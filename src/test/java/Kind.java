/** What an argument of a call is, with the last number of its range; every range begins at 0. */
enum Kind {
    RESULT(15), REGISTER(15), SET(15), VARIABLE(7), LEVEL(7), UPPER_LEVEL(6),
    OPERATION(15), MASK(255), ASSIGNMENT(255), FORMULA(7), FLAG(1);

    final int last;

    Kind(int last) {
        this.last = last;
    }

    boolean isRegister() {
        return this == RESULT || this == REGISTER || this == SET;
    }

    /** Whether a number out of the range is a register, variable or level that is none. */
    boolean isIndex() {
        return isRegister() || this == VARIABLE || this == LEVEL || this == UPPER_LEVEL;
    }

    boolean has(int argument) {
        return argument >= 0 && argument <= last;
    }
}
