import java.util.List;

/**
 * A call of the document's face, on the program and on the model. The kinds have a letter for each
 * argument: a variable, a character, a number of characters or the place i of one.
 */
record Call(String name, String kinds, OnProgram program, OnModel model) {
    interface OnProgram {
        int answer(BasicStrings x, int a, int b);
    }

    interface OnModel {
        int answer(Model m, int a, int b);
    }

    static final List<Call> ALL = List.of(
            new Call("key", "c", (x, a, b) -> x.key(a), (m, a, b) -> m.key(a)),
            new Call("newLine", "", (x, a, b) -> none(x::newLine), (m, a, b) -> none(m::newLine)),
            new Call("literal", "", (x, a, b) -> x.literal(), (m, a, b) -> m.literal()),
            new Call("push", "v", (x, a, b) -> x.push(a), (m, a, b) -> m.push(a)),
            new Call("let", "v", (x, a, b) -> x.let(a), (m, a, b) -> m.let(a)),
            new Call("drop", "", (x, a, b) -> x.drop(), (m, a, b) -> m.drop()),
            new Call("join", "", (x, a, b) -> x.join(), (m, a, b) -> m.join()),
            new Call("left", "n", (x, a, b) -> x.left(a), (m, a, b) -> m.left(a)),
            new Call("right", "n", (x, a, b) -> x.right(a), (m, a, b) -> m.right(a)),
            new Call("mid", "in", (x, a, b) -> x.mid(a, b), (m, a, b) -> m.mid(a, b)),
            new Call("repeat", "nc", (x, a, b) -> x.repeat(a, b), (m, a, b) -> m.repeat(a, b)),
            new Call("compare", "", (x, a, b) -> x.compare(), (m, a, b) -> m.compare()),
            new Call("find", "vv", (x, a, b) -> x.find(a, b), (m, a, b) -> m.find(a, b)),
            new Call("setMid", "vi", (x, a, b) -> x.setMid(a, b), (m, a, b) -> m.setMid(a, b)),
            new Call("swap", "vv", (x, a, b) -> x.swap(a, b), (m, a, b) -> m.swap(a, b)),
            new Call("length", "v", (x, a, b) -> x.length(a), (m, a, b) -> m.length(a)),
            new Call("at", "vi", (x, a, b) -> x.at(a, b), (m, a, b) -> m.at(a, b)),
            new Call("pile", "", (x, a, b) -> x.pile(), (m, a, b) -> m.pile()),
            new Call("topLength", "", (x, a, b) -> x.topLength(), (m, a, b) -> m.topLength()),
            new Call("topAt", "i", (x, a, b) -> x.topAt(a), (m, a, b) -> m.topAt(a)),
            new Call("used", "", (x, a, b) -> x.used(), (m, a, b) -> m.used()));

    static Call of(String name) {
        return ALL.stream().filter(call -> call.name.equals(name)).findFirst().orElseThrow();
    }

    /** The call as it is written, with as many of the arguments as it takes. */
    String with(int a, int b) {
        return name + "(" + List.of("", a, a + ", " + b).get(kinds.length()) + ")";
    }

    private static int none(Runnable call) {
        call.run();
        return 0;
    }
}
