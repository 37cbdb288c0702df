// The methods of the face, each on the class and on the plain words beside it.
// A method without w, or without a second argument, leaves it out.
enum Member {
    ADD("add", 2, RowInsertion::add, PlainWords::add),
    DROP("drop", 1, (x, w, a) -> x.drop(w), (p, w, a) -> p.drop(w)),
    EXCHANGE("exchange", 2, RowInsertion::exchange, PlainWords::exchange),
    MOVE("move", 2, RowInsertion::move, PlainWords::move),
    TURN("turn", 1, (x, w, a) -> x.turn(w), (p, w, a) -> p.turn(w)),
    LETTER("letter", 2, RowInsertion::letter, PlainWords::letter),
    CODE("code", 1, (x, w, a) -> x.code(w), (p, w, a) -> p.code(w)),
    KIN("kin", 1, (x, w, a) -> x.kin(w), (p, w, a) -> p.kin(w)),
    KIN_AT("kinAt", 2, RowInsertion::kinAt, PlainWords::kinAt),
    RELATED("related", 0, (x, w, a) -> x.related(), (p, w, a) -> p.related()),
    RISING("rising", 2, RowInsertion::rising, PlainWords::rising),
    FALLING("falling", 2, RowInsertion::falling, PlainWords::falling),
    RISING_OF("risingOf", 2, RowInsertion::risingOf, PlainWords::risingOf),
    DESCENTS("descents", 1, (x, w, a) -> x.descents(w), (p, w, a) -> p.descents(w));

    private interface On<T> {
        int answer(T object, int w, int a);
    }

    private final String named;
    private final int arguments;
    private final On<RowInsertion> onClass;
    private final On<PlainWords> onPlain;

    Member(String named, int arguments, On<RowInsertion> onClass, On<PlainWords> onPlain) {
        this.named = named;
        this.arguments = arguments;
        this.onClass = onClass;
        this.onPlain = onPlain;
    }

    int on(RowInsertion x, int w, int a) {
        return onClass.answer(x, w, a);
    }

    /** What is due; the plain words change as the object must. */
    int due(PlainWords p, int w, int a) {
        return onPlain.answer(p, w, a);
    }

    boolean takesWord() {
        return arguments >= 1;
    }

    boolean takesSecond() {
        return arguments == 2;
    }

    String told(int w, int a) {
        return named + "(" + (takesWord() ? "" + w : "") + (takesSecond() ? ", " + a : "") + ")";
    }
}
