import java.util.function.ToIntFunction;

/** A call under its name, to be made on any object. */
record Call(String name, ToIntFunction<Calls> made) {
    int on(Calls x) {
        return made.applyAsInt(x);
    }
}
