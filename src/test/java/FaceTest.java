/** A first look at the face. */
public final class FaceTest {
    public static void main(String[] args) {
        Check c = new Check("FaceTest");
        BackVillage v = new BackVillage();
        c.due("NONE", BackVillage.NONE, -1);
        c.due("count(0)", v.count(0), 0);
        c.finish();
    }
}
