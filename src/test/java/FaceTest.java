/** A new object, and the constant (promise 1). */
final class FaceTest {
    public static void main(String[] args) {
        Due due = new Due("FaceTest");
        due.is("NONE", OneVerb.NONE, -1);
        OneVerb x = new OneVerb();
        int[] counts = {2, 0, 0, 0, 0, 0, 0, 0, 0, 0, 0, 0, 1, 0, -1};
        for (int what = 0; what < counts.length; what++) {
            due.is("count(" + what + ") of a new object", x.count(what), counts[what]);
        }
        due.is("worlds(0) of a new object", x.worlds(0), 1);
        due.end();
    }
}
