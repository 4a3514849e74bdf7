import java.util.function.ToLongFunction;

/** A call of the face with its numbers, to be made on any object; it bears the text by which a wrong answer is told. */
record Call(String name, ToLongFunction<NoWhen> to) {
    long on(NoWhen x) {
        return to.applyAsLong(x);
    }

    private static Call make(String name, ToLongFunction<NoWhen> to, long... numbers) {
        StringBuilder s = new StringBuilder(name + "(");
        for (int k = 0; k < numbers.length; k++) {
            s.append(k == 0 ? "" : ", ").append(numbers[k]);
        }
        return new Call(s.append(")").toString(), to);
    }

    static Call thing() {
        return make("thing", x -> x.thing());
    }

    static Call of(int thing, int person) {
        return make("of", x -> x.of(thing, person), thing, person);
    }

    static Call story(int thing, int v) {
        return make("story", x -> x.story(thing, v), thing, v);
    }

    static Call say(int a, int kind, int b, int by) {
        return make("say", x -> x.say(a, kind, b, by), a, kind, b, by);
    }

    static Call unsay() {
        return make("unsay", x -> x.unsay());
    }

    static Call type(long v, int n) {
        return make("type", x -> x.type(v, n), v, n);
    }

    static Call clear() {
        return make("clear", x -> x.clear());
    }

    static Call read() {
        return make("read", x -> x.read());
    }

    static Call fits() {
        return make("fits", x -> x.fits());
    }

    static Call first(int end) {
        return make("first", x -> x.first(end), end);
    }

    static Call moments() {
        return make("moments", x -> x.moments());
    }

    static Call last(int moment) {
        return make("last", x -> x.last(moment), moment);
    }

    static Call clash() {
        return make("clash", x -> x.clash());
    }

    static Call drop() {
        return make("drop", x -> x.drop());
    }

    static Call between(int x, int y) {
        return make("between", z -> z.between(x, y), x, y);
    }

    static Call sure() {
        return make("sure", x -> x.sure());
    }

    static Call together(int a, int b) {
        return make("together", x -> x.together(a, b), a, b);
    }

    static Call ask(int what) {
        return make("ask", x -> x.ask(what), what);
    }

    static Call one(int i) {
        return make("one", x -> x.one(i), i);
    }

    static Call word(int person) {
        return make("word", x -> x.word(person), person);
    }

    static Call against() {
        return make("against", x -> x.against());
    }

    static Call watch(int end, int minute) {
        return make("watch", x -> x.watch(end, minute), end, minute);
    }

    static Call minute(int end, int what) {
        return make("minute", x -> x.minute(end, what), end, what);
    }

    static Call image(int i) {
        return make("image", x -> x.image(i), i);
    }

    static Call from(int i) {
        return make("from", x -> x.from(i), i);
    }

    static Call status(int what) {
        return make("status", x -> x.status(what), what);
    }

    static Call count(int what) {
        return make("count", x -> x.count(what), what);
    }

    static Call digest() {
        return make("digest", x -> x.digest());
    }
}
