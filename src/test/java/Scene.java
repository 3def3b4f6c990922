import java.util.function.Consumer;

/** A machine that can be made again and again, always the same. */
interface Scene {
    Gaitwright make();

    /** The same, and this done with it as well. */
    default Scene with(Consumer<Gaitwright> more) {
        return () -> {
            Gaitwright g = make();
            more.accept(g);
            return g;
        };
    }
}
