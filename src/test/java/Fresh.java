import java.util.function.Supplier;

/** An object that is only asked; made anew when the one in use comes near its 512 calls. */
final class Fresh {
    private static final int ENOUGH = 400;

    private final Supplier<SecondHas> made;
    private SecondHas now;
    private int calls;

    Fresh(Supplier<SecondHas> made) {
        this.made = made;
    }

    SecondHas x() {
        if (now == null || calls == ENOUGH) {
            now = made.get();
            calls = 0;
        }
        calls++;
        return now;
    }
}
