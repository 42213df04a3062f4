public final class NewObjectTest {
    public static void main(String[] args) {
        if (new ThrusterSelector().thrusters() != 0) {
            System.out.println("a new object has thrusters");
            System.exit(1);
        }
    }
}
