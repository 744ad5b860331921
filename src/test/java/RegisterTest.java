/** Promises 1 to 4: a new object, put, coefficient, degree. */
public final class RegisterTest {
    public static void main(String[] args) {
        newObject();
        put();
        putWrongly();
        coefficientAndDegree();
        objectsAreApart();
        Expect.end();
    }

    private static void newObject() {
        IntegerSplitter x = new IntegerSplitter();
        for (int r = 0; r < 4; r++) {
            int at = r;
            Expect.answer("new: register " + r, "[]", () -> Expect.register(x, at));
            Expect.answer("new: degree " + r, -1, () -> x.degree(at));
            Expect.answer("new: content " + r, 0, () -> x.content(at));
        }
        Expect.answer("new: unit", 0, x::unit);
        Expect.answer("new: multiplicity(0)", Expect.ELEMENT, () -> x.multiplicity(0));
        Expect.answer("new: factorAt(0, -1)", Expect.ELEMENT, () -> x.factorAt(0, -1));
        Expect.refusal("new: take(0, 0)", x, Expect.ELEMENT, () -> x.take(0, 0));
    }

    private static void put() {
        IntegerSplitter x = new IntegerSplitter();
        Expect.answer("put(3, 7, 99999)", 7, () -> x.put(3, 7, 99999));
        Expect.answer("put(3, 0, -99999)", 7, () -> x.put(3, 0, -99999));
        Expect.answer("put(3, 2, 5)", 7, () -> x.put(3, 2, 5));
        Expect.answer("register 3", Expect.row(-99999, 0, 5, 0, 0, 0, 0, 99999), () -> Expect.register(x, 3));
        Expect.answer("put(3, 7, 0)", 2, () -> x.put(3, 7, 0));
        Expect.answer("put(3, 2, 0)", 0, () -> x.put(3, 2, 0));
        Expect.answer("put(3, 0, 0)", -1, () -> x.put(3, 0, 0));
        Expect.answer("put(3, 0, 1)", 0, () -> x.put(3, 0, 1));
        Expect.answer("register 2", "[]", () -> Expect.register(x, 2));
    }

    private static void putWrongly() {
        int[] places = {-1, 8, Integer.MIN_VALUE, Integer.MAX_VALUE};
        int[] registers = {-1, 4, Integer.MIN_VALUE, Integer.MAX_VALUE};
        for (int r : registers) {
            IntegerSplitter x = Expect.loaded(1);
            Expect.refusal("put(" + r + ", 0, 1)", x, Expect.INDEX, () -> x.put(r, 0, 1));
            Expect.refusal("put(" + r + ", 0, 100000)", x, Expect.INDEX, () -> x.put(r, 0, 100000));
        }
        for (int k : places) {
            IntegerSplitter x = Expect.loaded(1);
            Expect.refusal("put(0, " + k + ", 1)", x, Expect.INDEX, () -> x.put(0, k, 1));
            Expect.refusal("put(0, " + k + ", 100000)", x, Expect.INDEX, () -> x.put(0, k, 100000));
        }
        int[] numbers = {100000, -100000, Integer.MIN_VALUE, Integer.MAX_VALUE};
        for (int c : numbers) {
            IntegerSplitter x = Expect.loaded(1);
            Expect.refusal("put(0, 0, " + c + ")", x, Expect.ARGUMENT, () -> x.put(0, 0, c));
        }
    }

    private static void coefficientAndDegree() {
        IntegerSplitter x = Expect.loaded(4, 0, -7, 0, 0, 2);
        Expect.answer("coefficient(0, 0)", 4, () -> x.coefficient(0, 0));
        Expect.answer("coefficient(0, 1)", 0, () -> x.coefficient(0, 1));
        Expect.answer("coefficient(0, 2)", -7, () -> x.coefficient(0, 2));
        Expect.answer("coefficient(0, 5)", 2, () -> x.coefficient(0, 5));
        Expect.answer("coefficient(0, 7)", 0, () -> x.coefficient(0, 7));
        Expect.answer("degree(0)", 5, () -> x.degree(0));
        Expect.answer("degree(1)", -1, () -> x.degree(1));
        Expect.answer("coefficient(-1, 0)", Expect.INDEX, () -> x.coefficient(-1, 0));
        Expect.answer("coefficient(4, 0)", Expect.INDEX, () -> x.coefficient(4, 0));
        Expect.answer("coefficient(0, -1)", Expect.INDEX, () -> x.coefficient(0, -1));
        Expect.answer("coefficient(0, 8)", Expect.INDEX, () -> x.coefficient(0, 8));
        Expect.answer("degree(-1)", Expect.INDEX, () -> x.degree(-1));
        Expect.answer("degree(4)", Expect.INDEX, () -> x.degree(4));
    }

    private static void objectsAreApart() {
        IntegerSplitter x = Expect.loaded(-1, 0, 1);
        x.factor(0);
        IntegerSplitter y = Expect.loaded(2);
        y.factor(0);
        Expect.answer("two objects: the first", "1 1*[-1, 1] 1*[1, 1]", () -> Expect.told(x));
        Expect.answer("two objects: the second", "2", () -> Expect.told(y));
        Expect.answer("two objects: register 0", "[-1, 0, 1]", () -> Expect.register(x, 0));
    }
}
